/-! ===== pure: counts by what was seen, ranks, bases ===== -/
section OR
variable {n : Nat} {kd : Nat → Nat} {T : Tr}
theorem pre_int {dp : Nat → Nat} (hd : ∀ p c, c ∈ t_k T p → dp c = dp p + 1) : ∀ (f x A : Nat), A ∈ pre T f x → ∃ P Q g, pre T f x = P ++ (A :: (t_k T A).flatMap (pre T g)) ++ Q ∧ dp A + (g + 1) = dp x + f := by
  intro f
  induction f with
  | zero => intro x A h; cases h
  | succ f ih =>
    intro x A h
    rw [pre] at h
    rcases List.mem_cons.mp h with rfl | h
    · exact ⟨[], [], f, by rw [List.nil_append, List.append_nil]; rfl, rfl⟩
    · obtain ⟨c, hc, hA⟩ := List.mem_flatMap.mp h
      obtain ⟨P, Q, g, e1, e2⟩ := ih c A hA
      obtain ⟨a, b, hab⟩ := List.append_of_mem hc
      have := hd x c hc
      refine ⟨x :: a.flatMap (pre T f) ++ P, Q ++ b.flatMap (pre T f), g, ?_, by omega⟩
      show x :: (t_k T x).flatMap (pre T f) = _
      rw [hab, List.flatMap_append, List.flatMap_cons, e1]
      simp only [List.cons_append, List.append_assoc]
theorem ord_int (hW : Wf n kd T) {A : Nat} (hA : t_h T A = true) : ∃ P Q g, ordT T = P ++ (A :: (t_k T A).flatMap (pre T g)) ++ Q ∧ ∀ z, t_h T z = true → A ∈ upl T 200 z → z ∈ A :: (t_k T A).flatMap (pre T g) := by
  obtain ⟨dp, hd⟩ := hW.2.2.2.2.1
  have hn := hW.1
  have hm : A ∈ pre T 121 120 := by rw [ord_pre]; exact List.mem_cons_of_mem _ ((ord_mem hW).mpr hA)
  obtain ⟨P, Q, g, e1, e2⟩ := pre_int hd 121 120 A hm
  have hne : A ≠ 120 := by have := hW.h_lt hA; omega
  rw [ord_pre] at e1
  cases P with
  | nil => exact absurd (List.cons.inj e1).1.symm hne
  | cons h P =>
    rw [List.cons_append, List.cons_append] at e1
    refine ⟨P, Q, g, (List.cons.inj e1).2, fun z hz hu => ?_⟩
    have h1 := upl_dp hd _ _ _ (liv_up hW hz)
    have hzn := hW.h_lt hz
    have h2 := upl_len hW (f := 200) (x := z) (by omega)
    have h3 := upl_dp hd _ _ _ hu
    exact pre_le (f := dp z - dp A + 1) (g := g + 1) (by omega) (up_pre hd _ _ _ hu)
theorem cnt_take {f : Nat → Bool} {L : List Nat} : ∀ i, i ≤ L.length → cntB (fun q => f (L.getD q 0)) i = ((L.take i).filter f).length := by
  intro i
  induction i with
  | zero => intro _; rfl
  | succ i ih =>
    intro hi
    have hl : i < L.length := by omega
    rw [List.take_succ_eq_append_getElem hl, List.filter_append, List.length_append, ← ih (by omega)]
    have e : L.getD i 0 = L[i] := by rw [List.getD_eq_getElem?_getD, List.getElem?_eq_getElem hl]; rfl
    show cntB _ i + (f (L.getD i 0)).toNat = _
    rw [e, List.filter_cons]
    cases f L[i] with
    | true => rfl
    | false => rfl
theorem cnt_gt {p : Nat → Bool} {a : Nat} : ∀ i, a < i → cntB (fun q => p q && decide (a < q)) i + cntB p (a + 1) = cntB p i := by
  intro i
  induction i with
  | zero => intro h; omega
  | succ i ih =>
    intro h
    by_cases e : i = a
    · subst e
      rw [cntB_no (fun y hy => by rw [decide_eq_false (by omega), Bool.and_false])]
      omega
    · have := ih (by omega)
      show cntB _ i + (p i && decide (a < i)).toNat + _ = cntB p i + (p i).toNat
      rw [decide_eq_true (show a < i by omega), Bool.and_true]
      omega
/-- where x stands in a list without doubles -/
theorem at_split {L U R : List Nat} {x i : Nat} (hn : L.Nodup) (h : L = U ++ x :: R) (hi : L[i]? = some x) : i = U.length ∧ L.take i = U := by
  have h2 : L[U.length]? = some x := by rw [h, List.getElem?_append_right (Nat.le_refl _), Nat.sub_self]; rfl
  have e : i = U.length := by rw [← idx_of hn hi, idx_of hn h2]
  refine ⟨e, ?_⟩
  rw [e, h, List.take_left]
/-- the kids that stand ahead of x in the ORDER -/
theorem ord_kids (hW : Wf n kd T) {p x j i : Nat} (lp : liv T p) (hj : (t_k T p)[j]? = some x) (hi : (ordT T)[i]? = some x) : ∃ P0 g, (ordT T).take i = P0 ++ ((t_k T p).take j).flatMap (pre T (g + 1)) ∧ ∀ z ∈ P0, z ∉ t_k T p := by
  have hn := hW.1
  have sp := split_at hj
  have hxm := List.mem_of_getElem? hj
  rcases lp with rfl | hp
  · refine ⟨[], 119, ?_, fun z hz => by cases hz⟩
    refine (at_split (R := (t_k T x).flatMap (pre T 119) ++ ((t_k T 120).drop (j + 1)).flatMap (pre T 120)) (ord_nd hW) ?_ hi).2
    show (t_k T 120).flatMap (pre T 120) = _
    conv => lhs; rw [sp]
    rw [List.flatMap_append, List.flatMap_cons, List.nil_append]
    show _ ++ ((x :: (t_k T x).flatMap (pre T 119)) ++ _) = _
    rw [List.cons_append]
  · obtain ⟨P, Q, g, e1, e2⟩ := ord_int hW hp
    obtain ⟨dp, hd⟩ := hW.2.2.2.2.1
    have kid : ∀ z, z ∈ t_k T p → t_h T z = true ∧ p ∈ upl T 200 z ∧ z ≠ p := fun z hz => ⟨hW.kid (Or.inr hp) hz, by rw [upl_step hW hz]; exact List.mem_cons_of_mem _ upl_self, fun e => by have := hd _ _ hz; rw [e] at this; omega⟩
    have hx2 : x ∈ (t_k T p).flatMap (pre T g) := by
      obtain ⟨k1, k2, k3⟩ := kid x hxm
      rcases List.mem_cons.mp (e2 x k1 k2) with w | w
      · exact absurd w k3
      · exact w
    cases g with
    | zero =>
      obtain ⟨d, -, hd2⟩ := List.mem_flatMap.mp hx2
      cases hd2
    | succ g =>
      refine ⟨P ++ [p], g, ?_, fun z hz hk => ?_⟩
      · refine (at_split (R := (t_k T x).flatMap (pre T g) ++ ((t_k T p).drop (j + 1)).flatMap (pre T (g + 1)) ++ Q) (ord_nd hW) ?_ hi).2
        rw [e1]
        conv => lhs; rw [sp]
        rw [List.flatMap_append, List.flatMap_cons]
        show P ++ p :: (_ ++ ((x :: (t_k T x).flatMap (pre T g)) ++ _)) ++ Q = _
        simp only [List.cons_append, List.append_assoc, List.nil_append]
      · obtain ⟨k1, k2, k3⟩ := kid z hk
        rcases List.mem_append.mp hz with w | w
        · have nd := ord_nd hW
          rw [e1, List.append_assoc] at nd
          obtain ⟨-, -, n3⟩ := List.nodup_append.mp nd
          exact n3 z w z (List.mem_append_left _ (e2 z k1 k2)) rfl
        · exact k3 (List.mem_singleton.mp w)
end OR
