/-! ===== pure: counts by what was seen, ranks, bases ===== -/
section OR
variable {n : Nat} {kd : Nat → Nat} {T : Tr}
theorem pre_int {dp : Nat → Nat} (hd : ∀ p c, c ∈ t_k T p → dp c = dp p + 1) : ∀ (f x A : Nat), A ∈ pre T f x → ∃ P Q g, pre T f x = P ++ (A :: (t_k T A).flatMap (pre T g)) ++ Q ∧ dp A + (g + 1) = dp x + f := by
  intro f
  induction f with
  | zero => intro x A h; cases h
  | succ f ih =>
    intro x A h
    rw [pre] at h
    rcases List.mem_cons.mp h with rfl | h
    · exact ⟨[], [], f, by rw [List.nil_append, List.append_nil]; rfl, rfl⟩
    · obtain ⟨c, hc, hA⟩ := List.mem_flatMap.mp h
      obtain ⟨P, Q, g, e1, e2⟩ := ih c A hA
      obtain ⟨a, b, hab⟩ := List.append_of_mem hc
      have := hd x c hc
      refine ⟨x :: a.flatMap (pre T f) ++ P, Q ++ b.flatMap (pre T f), g, ?_, by omega⟩
      show x :: (t_k T x).flatMap (pre T f) = _
      rw [hab, List.flatMap_append, List.flatMap_cons, e1]
      simp only [List.cons_append, List.append_assoc]
theorem ord_int (hW : Wf n kd T) {A : Nat} (hA : t_h T A = true) : ∃ P Q g, ordT T = P ++ (A :: (t_k T A).flatMap (pre T g)) ++ Q ∧ ∀ z, t_h T z = true → A ∈ upl T 200 z → z ∈ A :: (t_k T A).flatMap (pre T g) := by
  obtain ⟨dp, hd⟩ := hW.2.2.2.2.1
  have hn := hW.1
  have hm : A ∈ pre T 121 120 := by rw [ord_pre]; exact List.mem_cons_of_mem _ ((ord_mem hW).mpr hA)
  obtain ⟨P, Q, g, e1, e2⟩ := pre_int hd 121 120 A hm
  have hne : A ≠ 120 := by have := hW.h_lt hA; omega
  rw [ord_pre] at e1
  cases P with
  | nil => exact absurd (List.cons.inj e1).1.symm hne
  | cons h P =>
    rw [List.cons_append, List.cons_append] at e1
    refine ⟨P, Q, g, (List.cons.inj e1).2, fun z hz hu => ?_⟩
    have h1 := upl_dp hd _ _ _ (liv_up hW hz)
    have hzn := hW.h_lt hz
    have h2 := upl_len hW (f := 200) (x := z) (by omega)
    have h3 := upl_dp hd _ _ _ hu
    exact pre_le (f := dp z - dp A + 1) (g := g + 1) (by omega) (up_pre hd _ _ _ hu)
theorem cnt_take {f : Nat → Bool} {L : List Nat} : ∀ i, i ≤ L.length → cntB (fun q => f (L.getD q 0)) i = ((L.take i).filter f).length := by
  intro i
  induction i with
  | zero => intro _; rfl
  | succ i ih =>
    intro hi
    have hl : i < L.length := by omega
    rw [List.take_succ_eq_append_getElem hl, List.filter_append, List.length_append, ← ih (by omega)]
    have e : L.getD i 0 = L[i] := by rw [List.getD_eq_getElem?_getD, List.getElem?_eq_getElem hl]; rfl
    show cntB _ i + (f (L.getD i 0)).toNat = _
    rw [e, List.filter_cons]
    cases f L[i] with
    | true => rfl
    | false => rfl
theorem cnt_gt {p : Nat → Bool} {a : Nat} : ∀ i, a < i → cntB (fun q => p q && decide (a < q)) i + cntB p (a + 1) = cntB p i := by
  intro i
  induction i with
  | zero => intro h; omega
  | succ i ih =>
    intro h
    by_cases e : i = a
    · subst e
      rw [cntB_no (fun y hy => by rw [decide_eq_false (by omega), Bool.and_false])]
      omega
    · have := ih (by omega)
      show cntB _ i + (p i && decide (a < i)).toNat + _ = cntB p i + (p i).toNat
      rw [decide_eq_true (show a < i by omega), Bool.and_true]
      omega
/-- where x stands in a list without doubles -/
theorem at_split {L U R : List Nat} {x i : Nat} (hn : L.Nodup) (h : L = U ++ x :: R) (hi : L[i]? = some x) : i = U.length ∧ L.take i = U := by
  have h2 : L[U.length]? = some x := by rw [h, List.getElem?_append_right (Nat.le_refl _), Nat.sub_self]; rfl
  have e : i = U.length := by rw [← idx_of hn hi, idx_of hn h2]
  refine ⟨e, ?_⟩
  rw [e, h, List.take_left]
/-- the kids that stand ahead of x in the ORDER -/
theorem ord_kids (hW : Wf n kd T) {p x j i : Nat} (lp : liv T p) (hj : (t_k T p)[j]? = some x) (hi : (ordT T)[i]? = some x) : ∃ P0 g, (ordT T).take i = P0 ++ ((t_k T p).take j).flatMap (pre T (g + 1)) ∧ ∀ z ∈ P0, z ∉ t_k T p := by
  have hn := hW.1
  have sp := split_at hj
  have hxm := List.mem_of_getElem? hj
  rcases lp with rfl | hp
  · refine ⟨[], 119, ?_, fun z hz => by cases hz⟩
    refine (at_split (R := (t_k T x).flatMap (pre T 119) ++ ((t_k T 120).drop (j + 1)).flatMap (pre T 120)) (ord_nd hW) ?_ hi).2
    show (t_k T 120).flatMap (pre T 120) = _
    conv => lhs; rw [sp]
    rw [List.flatMap_append, List.flatMap_cons, List.nil_append]
    show _ ++ ((x :: (t_k T x).flatMap (pre T 119)) ++ _) = _
    rw [List.cons_append]
  · obtain ⟨P, Q, g, e1, e2⟩ := ord_int hW hp
    obtain ⟨dp, hd⟩ := hW.2.2.2.2.1
    have kid : ∀ z, z ∈ t_k T p → t_h T z = true ∧ p ∈ upl T 200 z ∧ z ≠ p := fun z hz => ⟨hW.kid (Or.inr hp) hz, by rw [upl_step hW hz]; exact List.mem_cons_of_mem _ upl_self, fun e => by have := hd _ _ hz; rw [e] at this; omega⟩
    have hx2 : x ∈ (t_k T p).flatMap (pre T g) := by
      obtain ⟨k1, k2, k3⟩ := kid x hxm
      rcases List.mem_cons.mp (e2 x k1 k2) with w | w
      · exact absurd w k3
      · exact w
    cases g with
    | zero =>
      obtain ⟨d, -, hd2⟩ := List.mem_flatMap.mp hx2
      cases hd2
    | succ g =>
      refine ⟨P ++ [p], g, ?_, fun z hz hk => ?_⟩
      · refine (at_split (R := (t_k T x).flatMap (pre T g) ++ ((t_k T p).drop (j + 1)).flatMap (pre T (g + 1)) ++ Q) (ord_nd hW) ?_ hi).2
        rw [e1]
        conv => lhs; rw [sp]
        rw [List.flatMap_append, List.flatMap_cons]
        show P ++ p :: (_ ++ ((x :: (t_k T x).flatMap (pre T g)) ++ _)) ++ Q = _
        simp only [List.cons_append, List.append_assoc, List.nil_append]
      · obtain ⟨k1, k2, k3⟩ := kid z hk
        rcases List.mem_append.mp hz with w | w
        · have nd := ord_nd hW
          rw [e1, List.append_assoc] at nd
          obtain ⟨-, -, n3⟩ := List.nodup_append.mp nd
          exact n3 z w z (List.mem_append_left _ (e2 z k1 k2)) rfl
        · exact k3 (List.mem_singleton.mp w)
end OR
section NC
variable {S : Sp}
/-- how many of kind k are among the first m of the ORDER -/
def cK (S : Sp) (k m : Nat) : Nat := cntB (fun q => decide (s_k S ((ordT (s_T S)).getD q 0) = k)) m
def scX (S : Sp) (x : Nat) : Nat := f_c (s_f S) (s_k S x)
theorem ord_at (hS : SOk S) {i x : Nat} (hx : (ordT (s_T S))[i]? = some x) : i < (ordT (s_T S)).length ∧ (ordT (s_T S)).getD i 0 = x ∧ t_h (s_T S) x = true ∧ x < s_n S ∧ (ordT (s_T S)).length ≤ 120 := by
  have hW := hS.wf
  have h1 := getE_lt hx
  have h2 := (ord_mem hW).mp (List.mem_of_getElem? hx)
  have h3 := ord_len hW
  have h4 := hS.1
  exact ⟨h1, by rw [List.getD_eq_getElem?_getD, hx]; rfl, h2, hW.h_lt h2, by omega⟩
theorem nc_eq (hS : SOk S) {i x : Nat} (hx : (ordT (s_T S))[i]? = some x) : n_c S i = 1 + cntB (fun q => decide (s_k S ((ordT (s_T S)).getD q 0) = s_k S x) && ssB (onT (s_n S) (s_T S)) (fun x => nI (s_k S x)) (scX S x) x ((ordT (s_T S)).getD q 0)) i := by
  obtain ⟨hi, ex, hxt, hxn, -⟩ := ord_at hS hx
  have hk6 := hS.2.1 x hxn
  unfold n_c ctO
  rw [ex]
  have e0 : (nI (s_k S x)).toNatClampNeg = s_k S x := nI_clamp (by omega)
  congr 1
  refine cntB_congr (fun q hq => ?_)
  have hqm := getD_mem (L := ordT (s_T S)) (i := q) (by omega)
  have hqn := hS.wf.h_lt ((ord_mem hS.wf).mp hqm)
  have hq6 := hS.2.1 _ hqn
  show (decide (nI (s_k S ((ordT (s_T S)).getD q 0)) = nI (s_k S x)) && ssB _ _ (f_c (s_f S) (nI (s_k S x)).toNatClampNeg) _ _) = _
  rw [e0]
  congr 1
  exact decide_eq_decide.mpr (nI_eq (by omega) (by omega))
/-- scope 0: the rank among those that hang on the same thing -/
theorem nc_rank (hS : SOk S) {i x p j : Nat} (hx : (ordT (s_T S))[i]? = some x) (lp : liv (s_T S) p) (hj : (t_k (s_T S) p)[j]? = some x) (hs : scX S x = 0) : n_c S i = (((t_k (s_T S) p).take (j + 1)).filter (fun z => decide (s_k S z = s_k S x))).length := by
  have hW := hS.wf
  have hn := hW.1
  obtain ⟨hi, ex, hxt, hxn, -⟩ := ord_at hS hx
  have hjl := getE_lt hj
  have hxm := List.mem_of_getElem? hj
  have onx := onT_on hW lp hxm
  rw [nc_eq hS hx, hs, cnt_take (f := fun y => decide (s_k S y = s_k S x) && ssB (onT (s_n S) (s_T S)) (fun x => nI (s_k S x)) 0 x y) i (by omega)]
  have ej : (t_k (s_T S) p)[j] = x := by rw [List.getElem?_eq_getElem hjl] at hj; exact Option.some.inj hj
  rw [List.take_succ_eq_append_getElem hjl, List.filter_append, List.length_append, ej, List.filter_cons, if_pos (decide_eq_true rfl)]
  have e1 : (List.filter (fun z => decide (s_k S z = s_k S x)) ([] : List Nat)) = [] := rfl
  rw [e1, List.length_singleton, Nat.add_comm]
  congr 1
  obtain ⟨P0, g, e2, e3⟩ := ord_kids hW lp hj hx
  rw [e2, List.filter_append, List.length_append]
  have hz : ∀ z ∈ (ordT (s_T S)).take i, z < s_n S := fun z hz => hW.h_lt ((ord_mem hW).mp (List.mem_of_mem_take hz))
  rw [e2] at hz
  have ss : ∀ z, z < s_n S → ssB (onT (s_n S) (s_T S)) (fun x => nI (s_k S x)) 0 x z = decide (z ∈ t_k (s_T S) p) := by
    intro z hz
    unfold ssB
    rw [if_pos rfl, onx]
    exact decide_eq_decide.mpr ⟨fun w => (onT_iff hW hz lp).mp w.symm, fun w => ((onT_iff hW hz lp).mpr w).symm⟩
  have f0 : (P0.filter (fun y => decide (s_k S y = s_k S x) && ssB (onT (s_n S) (s_T S)) (fun x => nI (s_k S x)) 0 x y)).length = 0 := by
    rw [List.length_eq_zero_iff, List.filter_eq_nil_iff]
    intro z hzm
    rw [ss z (hz z (List.mem_append_left _ hzm)), decide_eq_false (e3 z hzm), Bool.and_false]
    decide
  rw [f0, Nat.zero_add]
  have hz2 : ∀ z ∈ ((t_k (s_T S) p).take j).flatMap (pre (s_T S) (g + 1)), z < s_n S := fun z hzm => hz z (List.mem_append_right _ hzm)
  have hK : ∀ c ∈ (t_k (s_T S) p).take j, c ∈ t_k (s_T S) p := fun c hc => List.mem_of_mem_take hc
  obtain ⟨dp, hd⟩ := hW.2.2.2.2.1
  generalize (t_k (s_T S) p).take j = K at hz2 hK
  induction K with
  | nil => rfl
  | cons c K ih =>
    rw [List.flatMap_cons, List.filter_append, List.length_append, ih (fun z hzm => hz2 z (by rw [List.flatMap_cons]; exact List.mem_append_right _ hzm)) (fun d hd => hK d (List.mem_cons_of_mem _ hd))]
    have hcp := hK c List.mem_cons_self
    have hcn := hW.k_lt hcp
    have nd := pre_nd hW (g + 1) c (by omega)
    have e4 : pre (s_T S) (g + 1) c = c :: (t_k (s_T S) c).flatMap (pre (s_T S) g) := rfl
    have f1 : ((t_k (s_T S) c).flatMap (pre (s_T S) g)).filter (fun y => decide (s_k S y = s_k S x) && ssB (onT (s_n S) (s_T S)) (fun x => nI (s_k S x)) 0 x y) = [] := by
      rw [List.filter_eq_nil_iff]
      intro z hzm
      have hzp : z ∈ pre (s_T S) (g + 1) c := by rw [e4]; exact List.mem_cons_of_mem _ hzm
      have hzn := hz2 z (by rw [List.flatMap_cons]; exact List.mem_append_left _ hzp)
      have hne : z ≠ c := by
        rw [e4] at nd
        exact fun e => (List.nodup_cons.mp nd).1 (e ▸ hzm)
      have hno : z ∉ t_k (s_T S) p := by
        intro hzk
        have d1 := hd _ _ hzk
        have d2 := hd _ _ hcp
        have h4 := upl_dp hd _ _ _ (pre_up hW _ _ _ hzp (by omega)).2
        exact hne (h4.2.1 (by omega)).symm
      rw [ss z hzn, decide_eq_false hno, Bool.and_false]
      decide
    rw [e4, List.filter_cons, f1, ss c hcn, decide_eq_true hcp, Bool.and_true, List.filter_cons]
    cases decide (s_k S c = s_k S x) with
    | true => rw [if_pos rfl, if_pos rfl, List.length_cons, List.length_cons]; show 0 + 1 + _ = _; omega
    | false => rw [if_neg (by decide), if_neg (by decide)]; show 0 + _ = _; omega
theorem cK_s (hS : SOk S) {i x : Nat} (hx : (ordT (s_T S))[i]? = some x) (k : Nat) : cK S k (i + 1) = cK S k i + (decide (s_k S x = k)).toNat := by
  obtain ⟨-, ex, -⟩ := ord_at hS hx
  show cK S k i + (decide (s_k S ((ordT (s_T S)).getD i 0) = k)).toNat = _
  rw [ex]
/-- all of the kind so far -/
theorem nc_all (hS : SOk S) {i x : Nat} (hx : (ordT (s_T S))[i]? = some x) (hs : scX S x = 1 ∨ 1 < scX S x ∧ abT (s_T S) (s_k S) (scX S x - 2) x = none) : n_c S i = cK S (s_k S x) (i + 1) := by
  have hW := hS.wf
  obtain ⟨hi, ex, hxt, hxn, -⟩ := ord_at hS hx
  have hsc := (hS.2.2.2.2.2.1 _ (hS.2.1 x hxn)).1
  have k31 : ∀ x, x < s_n S → s_k S x < 2 ^ 31 := fun x hx => by have := hS.2.1 x hx; omega
  rw [nc_eq hS hx, cK_s hS hx, decide_eq_true rfl, Nat.add_comm]
  show _ = _ + 1
  congr 1
  refine cntB_congr (fun q hq => ?_)
  have e : ssB (onT (s_n S) (s_T S)) (fun x => nI (s_k S x)) (scX S x) x ((ordT (s_T S)).getD q 0) = true := by
    unfold ssB
    rcases hs with h1 | ⟨h1, h2⟩
    · rw [h1, if_neg (by decide), if_pos rfl]
    · rw [if_neg (by omega), if_neg (by omega), abv_T hW (by unfold scX; omega) k31 hxt, h2]
      rfl
  rw [e, Bool.and_true]
/-- those of the kind since A -/
theorem nc_above (hS : SOk S) {i x a A : Nat} (hx : (ordT (s_T S))[i]? = some x) (hs : 1 < scX S x) (hab : abT (s_T S) (s_k S) (scX S x - 2) x = some A) (ha : (ordT (s_T S))[a]? = some A) : a < i ∧ n_c S i + cK S (s_k S x) (a + 1) = cK S (s_k S x) (i + 1) := by
  have hW := hS.wf
  have hn := hW.1
  obtain ⟨hi, ex, hxt, hxn, -⟩ := ord_at hS hx
  obtain ⟨hal, ea, hAt, hAn, -⟩ := ord_at hS ha
  have hsc := (hS.2.2.2.2.2.1 _ (hS.2.1 x hxn)).1
  have k31 : ∀ x, x < s_n S → s_k S x < 2 ^ 31 := fun x hx => by have := hS.2.1 x hx; omega
  obtain ⟨q1, -, q3, -⟩ := abT_le hW hxt hab
  obtain ⟨P, Q, g, e1, e2⟩ := ord_int hW hAt
  have nd := ord_nd hW
  have e0 : ordT (s_T S) = P ++ A :: ((t_k (s_T S) A).flatMap (pre (s_T S) g) ++ Q) := by rw [e1, List.append_assoc, List.cons_append]
  obtain ⟨hP, -⟩ := at_split nd e0 ha
  have hxm := e2 x hxt (List.mem_of_mem_tail q1)
  have hMid : ∀ q, q < (ordT (s_T S)).length → (ordT (s_T S)).getD q 0 ∈ A :: (t_k (s_T S) A).flatMap (pre (s_T S) g) → a ≤ q ∧ q < a + (A :: (t_k (s_T S) A).flatMap (pre (s_T S) g)).length := by
    intro q hq hm
    obtain ⟨r, hr⟩ := List.getElem?_of_mem hm
    have hrl := List.getElem?_eq_some_iff.mp hr
    have h3 : (ordT (s_T S))[q]? = some ((ordT (s_T S)).getD q 0) := by rw [List.getD_eq_getElem?_getD, List.getElem?_eq_getElem hq]; rfl
    generalize (ordT (s_T S)).getD q 0 = w at hr h3
    have h2 : (ordT (s_T S))[a + r]? = some w := by
      rw [e1, List.append_assoc, List.getElem?_append_right (by omega), List.getElem?_append_left (by have := hrl.1; omega), show a + r - P.length = r by omega]
      exact hr
    have e : q = a + r := by rw [← idx_of nd h3, ← idx_of nd h2]
    have := hrl.1
    omega
  have hMid2 : ∀ q, a ≤ q → q < a + (A :: (t_k (s_T S) A).flatMap (pre (s_T S) g)).length → (ordT (s_T S)).getD q 0 ∈ A :: (t_k (s_T S) A).flatMap (pre (s_T S) g) := by
    intro q h1 h2
    rw [List.getD_eq_getElem?_getD, e1, List.append_assoc, List.getElem?_append_right (by omega), List.getElem?_append_left (by omega), List.getElem?_eq_getElem (by omega)]
    exact List.getElem_mem _
  have hxi := hMid i hi (by rw [ex]; exact hxm)
  have hai : a < i := by
    rcases Nat.lt_or_ge a i with w | w
    · exact w
    · have : a = i := by omega
      rw [this, hx] at ha
      exact absurd (Option.some.inj ha).symm q3
  refine ⟨hai, ?_⟩
  rw [nc_eq hS hx, cK_s hS hx, decide_eq_true rfl]
  have key : cntB (fun q => decide (s_k S ((ordT (s_T S)).getD q 0) = s_k S x) && ssB (onT (s_n S) (s_T S)) (fun x => nI (s_k S x)) (scX S x) x ((ordT (s_T S)).getD q 0)) i = cntB (fun q => decide (s_k S ((ordT (s_T S)).getD q 0) = s_k S x) && decide (a < q)) i := by
    refine cntB_congr (fun q hq => ?_)
    congr 1
    have hql : q < (ordT (s_T S)).length := by omega
    have hym := getD_mem hql
    have hyt := (ord_mem hW).mp hym
    have hyn := hW.h_lt hyt
    unfold ssB
    rw [if_neg (by omega), if_neg (by omega), abv_T hW (by unfold scX; omega) k31 hxt, hab]
    show (decide (nI A = -1) || (decide (nI ((ordT (s_T S)).getD q 0) ≠ nI A) && decide (upE (onT (s_n S) (s_T S)) (nI A) 200 (nI ((ordT (s_T S)).getD q 0)) = nI A))) = decide (a < q)
    have b1 := below_T hW (x := A) (z := (ordT (s_T S)).getD q 0) (by omega) (Or.inr hyt)
    rw [cd_n (show A ≠ 120 by omega), cd_n (show (ordT (s_T S)).getD q 0 ≠ 120 by omega)] at b1
    have hneg : nI A ≠ -1 := fun e => by
      have := nI_pos (show A < 2 ^ 31 by omega)
      rw [e] at this
      exact this (by decide)
    rw [b1, decide_eq_false hneg, Bool.false_or]
    unfold bel
    by_cases hlt : a < q
    · have hm := hMid2 q (by omega) (by omega)
      have hne : (ordT (s_T S)).getD q 0 ≠ A := fun e => by
        have := getD_inj nd hql hal (e.trans ea.symm)
        omega
      have hup : A ∈ upl (s_T S) 200 ((ordT (s_T S)).getD q 0) := (pre_up hW (g + 1) A _ hm (by omega)).2
      rw [decide_eq_true (show nI ((ordT (s_T S)).getD q 0) ≠ nI A from fun e => hne ((nI_eq (by omega) (by omega)).mp e)), decide_eq_true hup, decide_eq_true hlt]
      rfl
    · rw [decide_eq_false hlt]
      by_cases e : q = a
      · subst e
        rw [ea, decide_eq_false (fun w => w rfl), Bool.false_and]
      · have hno : A ∉ upl (s_T S) 200 ((ordT (s_T S)).getD q 0) := fun hu => by
          have := hMid q hql (e2 _ hyt hu)
          omega
        rw [decide_eq_false hno, Bool.and_false]
  rw [key]
  have := cnt_gt (p := fun q => decide (s_k S ((ordT (s_T S)).getD q 0) = s_k S x)) i hai
  unfold cK
  show 1 + _ + _ = _ + 1
  omega
end NC
