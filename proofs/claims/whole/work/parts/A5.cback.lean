/-! ===== the class: a change taken back, pure; frames of the chains ===== -/
theorem tr_ext {T T' : Tr} (h1 : t_k T = t_k T') (h2 : t_h T = t_h T') (h3 : t_i T = t_i T') : T = T' := Prod.ext h1 (Prod.ext h2 h3)
theorem rmv_rmv (l : List Nat) (x : Nat) : rmv (rmv l x) x = rmv l x := rmv_no (fun h => (mem_rmv.mp h).2 rfl)
section TR
variable {n : Nat} {kd : Nat → Nat} {T : Tr}
theorem backA {x p i : Nat} (hv : VA n T x p i) : t_k (lvT x (apA x p i T)) = t_k T := by
  obtain ⟨-, -, -, -, v5, -, -⟩ := hv
  funext q
  show rmv (u_1 (t_k T) p (insA (t_k T p) i x) q) x = t_k T q
  by_cases e : q = p
  · rw [e, u1_s, rmv_ins (v5 p)]
  · rw [u1_n _ _ e, rmv_no (v5 q)]
theorem backM {x p i : Nat} : t_k (lvT x (apM x p i T)) = t_k (lvT x T) := by
  funext q
  show rmv (u_1 (fun q => rmv (t_k T q) x) p (insA (rmv (t_k T p) x) i x) q) x = rmv (t_k T q) x
  by_cases e : q = p
  · rw [e, u1_s, rmv_ins (fun h => (mem_rmv.mp h).2 rfl)]
  · rw [u1_n _ _ e, rmv_rmv]
theorem backH (hW : Wf n kd T) {x p k : Nat} {T1 : Tr} (h1 : t_k T1 = t_k (lvT x T)) (hk : (t_k T p)[k]? = some x) : t_k (hgT x p k T1) = t_k T := by
  have hxm := List.mem_of_getElem? hk
  funext q
  show u_1 (t_k T1) p (insA (t_k T1 p) k x) q = t_k T q
  rw [h1]
  show u_1 (fun q => rmv (t_k T q) x) p (insA (rmv (t_k T p) x) k x) q = t_k T q
  by_cases e : q = p
  · rw [e, u1_s, ins_rmv (hW.2.2.1 p) hk]
  · rw [u1_n _ _ e, rmv_no (fun hm => e (hW.2.2.2.1 q p x hm hxm))]
theorem backJ (hW : Wf n kd T) {x y p k : Nat} (hv : VJ kd T x y) (hk : (t_k T p)[k]? = some y) : t_k (gvT x y (t_k T x).length (apJ x y T)) = t_k (lvT y T) := by
  obtain ⟨hxy, p0, i0, l0, k1, k2, hx0, hy0, hpx, hpy⟩ := VJ.ne hW hv
  funext q
  show (if q = x then (if x = x then t_k T x ++ t_k T y else _).take (t_k T x).length else if q = y then (if x = x then t_k T x ++ t_k T y else _).drop (t_k T x).length else if q = x then t_k T x ++ t_k T y else if q = y then [] else rmv (t_k T q) y) = rmv (t_k T q) y
  rw [if_pos rfl, List.take_left, List.drop_left]
  by_cases e : q = x
  · rw [if_pos e, e, rmv_no (fun hm => hpx (hW.2.2.2.1 p0 x y hy0 hm))]
  · rw [if_neg e]
    by_cases e2 : q = y
    · rw [if_pos e2, e2, rmv_no (fun hm => hpy (hW.2.2.2.1 p0 y y hy0 hm))]
    · rw [if_neg e2, if_neg e, if_neg e2]
/-- below a thing that was cut, all is as it was -/
theorem pre_cut (hW : Wf n kd T) {x : Nat} : ∀ (f : Nat), pre (apC x T) f x = pre T f x := by
  obtain ⟨dp, hd⟩ := hW.2.2.2.2.1
  have key : ∀ (f q : Nat), dp x ≤ dp q → pre (apC x T) f q = pre T f q := by
    intro f
    induction f with
    | zero => intro q _; rfl
    | succ f ih =>
      intro q hq
      rw [pre, pre]
      have e : t_k (apC x T) q = t_k T q := rmv_no (fun hm => by have := hd q x hm; omega)
      rw [e]
      congr 1
      have : ∀ ks : List Nat, (∀ c ∈ ks, c ∈ t_k T q) → ks.flatMap (pre (apC x T) f) = ks.flatMap (pre T f) := by
        intro ks
        induction ks with
        | nil => intro _; rfl
        | cons c ks ih2 =>
          intro hks
          rw [List.flatMap_cons, List.flatMap_cons, ih2 (fun d hd => hks d (List.mem_cons_of_mem _ hd)), ih c (by have := hd q c (hks c List.mem_cons_self); omega)]
      exact this _ (fun c hc => hc)
  intro f
  exact key f x (Nat.le_refl _)
end TR
section CT
variable {ow : Nat → Nat} {σ τ : Hp} {n : Nat} {T T' : Tr} {ad : Nat → Nat}
theorem CT.to (h : CT σ n T ad) (hk : t_k T' = t_k T) (hi : t_i T' = t_i T) (hK : h_K τ = h_K σ) (hP : h_P τ = h_P σ) (hth : ∀ x, x < n → h_I τ 519 (ad x) = nI (t_h T' x).toNat) : CT τ n T' ad := by
  obtain ⟨h1, h2, h3, h4, h5, h6, h7⟩ := h
  refine ⟨fun x hx => by rw [hK]; exact h1 x hx, h2, fun x hx => ?_, fun x c hx hc => ?_, by rw [hP]; exact h5, fun x hx => by rw [hP, hi]; exact h6 x hx, hth⟩
  · rw [hk, hP]
    exact Ch.ext (σ := σ) (fun b _ => ⟨by rw [hK], by rw [hP]⟩) (h3 x hx)
  · rw [hk] at hc
    rw [hP]
    exact h4 x c hx hc
abbrev chP : List Nat := [515, 516, 517, 518]
theorem Fm.hg (a p j : Nat) (L : List Nat) : Fm ow [519] chP [] σ (hgS σ a p j L) := by
  unfold hgS
  split
  · exact ((Fm.P _ _ _ (by decide)).tr (Fm.P _ _ _ (by decide))).tr (Fm.P _ _ _ (by decide))
  · exact ((Fm.P _ _ _ (by decide)).tr (Fm.P _ _ _ (by decide))).tr (Fm.P _ _ _ (by decide))
theorem Fm.lv (a p j : Nat) (L : List Nat) : Fm ow [519] chP [] σ (lvS σ a p j L) := by
  unfold lvS
  split
  · exact (Fm.P _ _ _ (by decide)).tr (Fm.P _ _ _ (by decide))
  · exact (Fm.P _ _ _ (by decide)).tr (Fm.P _ _ _ (by decide))
theorem Fm.ups : ∀ (L : List Nat) (σ : Hp) (a : Nat), Fm ow [519] chP [] σ (upsA σ L a)
  | [], σ, a => Fm.rf _ _ _ _ _
  | b :: L, σ, a => (Fm.P σ b (some a) (by decide)).tr (Fm.ups L _ a)
theorem Fm.tk (a b : Nat) (LA LB : List Nat) : Fm ow [519] chP [] σ (tkS σ a b LA LB) := by
  unfold tkS
  refine Fm.tr (Fm.tr ?_ (Fm.ups LB _ a)) (Fm.P _ _ _ (by decide))
  split
  · exact Fm.P _ _ _ (by decide)
  · exact Fm.P _ _ _ (by decide)
theorem Fm.gv (a b kid j : Nat) (L : List Nat) : Fm ow [519] chP [] σ (gvS σ a b kid j L) := by
  unfold gvS
  refine Fm.tr (Fm.tr ?_ (Fm.P _ _ _ (by decide))) (Fm.ups _ _ b)
  split
  · exact Fm.P _ _ _ (by decide)
  · exact Fm.P _ _ _ (by decide)
theorem Fm.th (L : List Nat) (v : Int32) : Fm ow [519] chP [] σ (thS σ L v) := by
  obtain ⟨g1, g2, g3, g4, g5, g6, g7, g8⟩ := thS_f L σ v
  exact ⟨by rw [g1]; exact Nat.le_refl _, fun a _ => ⟨by rw [g2], by rw [g4], fun f q _ => g7 f a (fun e => q (by rw [e]; decide)), fun f _ => by rw [g3], fun _ => ⟨by rw [g5], by rw [g6]⟩⟩⟩
/-- first places in a chain -/
theorem CT.fst (h : CT σ n T ad) (hW : W0 n T) {x p k : Nat} (hk : (t_k T p)[k]? = some x) : ((t_k T p).map ad)[k]? = some (ad x) ∧ (∀ q, q < k → ((t_k T p).map ad)[q]? ≠ some (ad x)) ∧ ((t_k T p).map ad).length < 2 ^ 30 ∧ x < n := by
  have hkl := getE_lt hk
  have hxn := hW.2.1 p x (List.mem_of_getElem? hk)
  refine ⟨by rw [List.getElem?_map, hk]; rfl, fun q hq e => ?_, ?_, hxn⟩
  · rw [List.getElem?_map, List.getElem?_eq_getElem (show q < (t_k T p).length by omega)] at e
    have e := Option.some.inj e
    have hm := List.getElem_mem (show q < (t_k T p).length by omega)
    have e2 := h.2.1 _ x (Or.inl (hW.2.1 p _ hm)) (Or.inl hxn) e
    have hq2 : (t_k T p)[q]? = some x := by rw [List.getElem?_eq_getElem (show q < (t_k T p).length by omega), e2]
    have := (List.getElem?_inj (show q < (t_k T p).length by omega) (hW.2.2.1 p)).mp (hq2.trans hk.symm)
    omega
  · rw [List.length_map]
    have := nodup_len (hW.2.2.1 p) (m := n) (fun z hz => hW.2.1 p z hz)
    have := hW.1
    omega
end CT
section CK
variable {l : Launch} {D : DD} {σ : Hp} {n : Nat} {T : Tr} {ad : Nat → Nat}
theorem c_leaveC {x p k : Nat} (h : CT σ n T ad) (hW : W0 n T) (hp : TN n p) (hk : (t_k T p)[k]? = some x) : Cn l D m_Thing_leave 0 0 [va_rf (some (ad x))] σ (fun r τ => r = none ∧ CT τ n (lvT x T) ad ∧ τ = lvS σ (ad x) (ad p) k ((t_k T p).map ad)) := by
  obtain ⟨f1, f2, f3, f4⟩ := h.fst hW hk
  refine Cn.mono (c_leave (h.1 x (Or.inl f4)) (h.2.2.2.1 p x hp (List.mem_of_getElem? hk)) (h.1 p hp) (h.2.2.1 p hp) f3 f1 f2) ?_
  rintro r τ ⟨rfl, rfl⟩
  exact ⟨rfl, h.leave hW hp hk, rfl⟩
theorem c_hangC {x p j : Nat} (h : CT σ n T ad) (hW : W0 n T) (hx : x < n) (hp : TN n p) (hxp : x ≠ p) (hno : ∀ q, x ∉ t_k T q) (hj : j ≤ (t_k T p).length) : Cn l D m_Thing_hangOn 0 0 [va_rf (some (ad x)), va_rf (some (ad p)), .int (nI j)] σ (fun r τ => r = none ∧ CT τ n (hgT x p j T) ad ∧ τ = hgS σ (ad x) (ad p) j ((t_k T p).map ad)) := by
  have hlen : ((t_k T p).map ad).length < 2 ^ 30 := by
    rw [List.length_map]
    have := nodup_len (hW.2.2.1 p) (m := n) (fun z hz => hW.2.1 p z hz)
    have := hW.1
    omega
  refine Cn.mono (c_hangOn (h.1 x (Or.inl hx)) (h.1 p hp) (h.2.2.1 p hp) hlen (by rw [List.length_map]; exact hj)) ?_
  rintro r τ ⟨rfl, rfl⟩
  exact ⟨rfl, h.hang hW hx hp hxp hno hj, rfl⟩
end CK
