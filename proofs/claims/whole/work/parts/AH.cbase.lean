/-! ===== pure: bases and names, as the class finds them ===== -/
theorem pfS_none (j : Nat) (zs : List Int32) : pfS j none zs = [] := by
  unfold pfS
  rw [if_neg (show ¬ (0 < j ∧ (none : Option Nat) ≠ none) from fun q => q.2 rfl)]
theorem pfS_0 {j : Nat} (b : Option Nat) (zs : List Int32) (h : ¬ 0 < j) : pfS j b zs = [] := by
  unfold pfS
  rw [if_neg (show ¬ (0 < j ∧ b ≠ none) from fun q => h q.1)]
theorem pfS_some {j : Nat} (b : Nat) (zs : List Int32) (h : 0 < j) : pfS j (some b) zs = zs ++ (if j = 1 then [b8 (nI 46)] else []) := by
  unfold pfS
  rw [if_pos (show 0 < j ∧ some b ≠ none from ⟨h, fun w => by cases w⟩)]
section NC
variable {S : Sp}
theorem ord_before (hS : SOk S) {i x a A : Nat} (hx : (ordT (s_T S))[i]? = some x) (ha : (ordT (s_T S))[a]? = some A) (hu : A ∈ upl (s_T S) 200 x) (hne : A ≠ x) : a < i := by
  have hW := hS.wf
  obtain ⟨hi, ex, hxt, hxn, -⟩ := ord_at hS hx
  obtain ⟨hal, ea, hAt, hAn, -⟩ := ord_at hS ha
  obtain ⟨P, Q, g, e1, e2⟩ := ord_int hW hAt
  have nd := ord_nd hW
  have e0 : ordT (s_T S) = P ++ A :: ((t_k (s_T S) A).flatMap (pre (s_T S) g) ++ Q) := by rw [e1, List.append_assoc, List.cons_append]
  obtain ⟨hP, -⟩ := at_split nd e0 ha
  have hxm := e2 x hxt hu
  obtain ⟨r, hr⟩ := List.getElem?_of_mem hxm
  have hrl := (List.getElem?_eq_some_iff.mp hr).1
  have h2 : (ordT (s_T S))[a + r]? = some x := by
    rw [e1, List.append_assoc, List.getElem?_append_right (by omega), List.getElem?_append_left (by omega), show a + r - P.length = r by omega]
    exact hr
  have e : i = a + r := by rw [← idx_of nd hx, ← idx_of nd h2]
  rcases Nat.lt_or_ge a i with w | w
  · exact w
  · have : a = i := by omega
    rw [this, hx] at ha
    exact absurd (Option.some.inj ha).symm hne
/-- the one that would be the base -/
def candO (S : Sp) (x : Nat) : Option Nat := if scX S x < 2 then (match par (s_T S) x with
  | some p => if p = 120 then none else some p
  | none => none) else abT (s_T S) (s_k S) (scX S x - 2) x
theorem cand_up (hS : SOk S) {x b : Nat} (hxt : t_h (s_T S) x = true) (h : candO S x = some b) : t_h (s_T S) b = true ∧ b ∈ upl (s_T S) 200 x ∧ b ≠ x := by
  have hW := hS.wf
  unfold candO at h
  by_cases e : scX S x < 2
  · rw [if_pos e] at h
    obtain ⟨p, lp, hp, hpar⟩ := hW.h_par hxt
    rw [hpar] at h
    have h : (if p = 120 then none else some p) = some b := h
    by_cases e2 : p = 120
    · rw [if_pos e2] at h; cases h
    · rw [if_neg e2] at h
      cases h
      rcases lp with w | w
      · exact absurd w e2
      · obtain ⟨dp, hd⟩ := hW.2.2.2.2.1
        exact ⟨w, by rw [upl_step hW hp]; exact List.mem_cons_of_mem _ upl_self, fun e => by have := hd _ _ hp; rw [e] at this; omega⟩
  · rw [if_neg e] at h
    obtain ⟨q1, q2, q3, -⟩ := abT_le hW hxt h
    exact ⟨q2, List.mem_of_mem_tail q1, q3⟩
theorem b0_eq (hS : SOk S) {x : Nat} (hxt : t_h (s_T S) x = true) : b0O (onT (s_n S) (s_T S)) (fun x => nI (s_k S x)) (f_c (s_f S)) x = oI (candO S x) := by
  have hW := hS.wf
  have hxn := hW.h_lt hxt
  have hkx := hS.2.1 x hxn
  have hsc := (hS.2.2.2.2.2.1 _ hkx).1
  have k31 : ∀ x, x < s_n S → s_k S x < 2 ^ 31 := fun x hx => by have := hS.2.1 x hx; omega
  unfold b0O candO
  rw [nI_clamp (by omega)]
  show (if 1 < scX S x then abE _ _ (nI (scX S x - 2)) 200 _ else _) = _
  by_cases e : scX S x < 2
  · rw [if_neg (by omega), if_pos e]
    obtain ⟨p, lp, hp, hpar⟩ := hW.h_par hxt
    rw [onT_on hW lp hp, hpar]
    show _ = oI (if p = 120 then none else some p)
    by_cases e2 : p = 120
    · rw [if_pos e2, e2]; rfl
    · rw [if_neg e2, cd_n e2]; rfl
  · rw [if_pos (by omega), if_neg e, abv_T hW (by unfold scX; omega) k31 hxt]
def nbC (S : Sp) (x : Nat) : Option Nat := match candO S x with
  | some b => if (n_n S b).length ≤ 30 then some b else none
  | none => none
theorem mk_S (hS : SOk S) {i x : Nat} (hx : (ordT (s_T S))[i]? = some x) : nbO S x = nbC S x ∧ n_n S x = pfS (f_j (s_f S) (s_k S x)) (nbC S x) ((nbC S x).elim [] (n_n S)) ++ mkS (f_j (s_f S) (s_k S x)) (f_y (s_f S) (s_k S x)) (n_c S i) ∧ mkX S x = mkS (f_j (s_f S) (s_k S x)) (f_y (s_f S) (s_k S x)) (n_c S i) := by
  have hW := hS.wf
  have hn9 := hW.1
  obtain ⟨hi, ex, hxt, hxn, -⟩ := ord_at hS hx
  have nd := ord_nd hW
  have hkx := hS.2.1 x hxn
  have eix : (ordT (s_T S)).idxOf x = i := idx_of nd hx
  have h0 := mkO_at (on := onT (s_n S) (s_T S)) (kI := fun x => nI (s_k S x)) (sc := f_c (s_f S)) (sy := f_y (s_f S)) (jo := f_j (s_f S)) nd (ordT (s_T S)).length hi (Nat.le_refl _)
  rw [ex, b0_eq hS hxt] at h0
  have ek : (nI (s_k S x)).toNatClampNeg = s_k S x := nI_clamp (by omega)
  obtain ⟨h1, h2⟩ := h0
  have h1 : n_b S x = _ := h1
  have h2 : n_n S x = nmV (f_j (s_f S) (nI (s_k S x)).toNatClampNeg) _ _ (sgn (f_y (s_f S) (nI (s_k S x)).toNatClampNeg) (n_c S i)) := h2
  rw [ek] at h2
  have h3 : mkX S x = mkS (f_j (s_f S) (s_k S x)) (f_y (s_f S) (s_k S x)) (n_c S i) := by
    unfold mkX mkS ctX
    rw [eix]
  have noN : n_b S x < 0 → nbC S x = none → nbO S x = nbC S x ∧ n_n S x = pfS (f_j (s_f S) (s_k S x)) (nbC S x) ((nbC S x).elim [] (n_n S)) ++ mkS (f_j (s_f S) (s_k S x)) (f_y (s_f S) (s_k S x)) (n_c S i) ∧ mkX S x = mkS (f_j (s_f S) (s_k S x)) (f_y (s_f S) (s_k S x)) (n_c S i) := by
    intro w1 w2
    rw [w2]
    refine ⟨by unfold nbO; rw [if_pos w1], ?_, h3⟩
    rw [h2, nmV_no (fun q => q.2 (by rw [← h1]; exact w1))]
    rw [pfS_none, List.nil_append]
    rfl
  cases hc : candO S x with
  | none =>
    refine noN ?_ (by unfold nbC; rw [hc])
    rw [h1, hc]
    unfold bsV
    rw [if_neg (fun q => q.1 (by decide))]
    decide
  | some b =>
    obtain ⟨b1, b2, b3⟩ := cand_up hS hxt hc
    have hbn := hW.h_lt b1
    obtain ⟨a1, a2, a3⟩ := idx_at ((ord_mem hW).mpr b1)
    have hlt := ord_before hS hx a3 b2 b3
    have eb : (oI (some b)).toNatClampNeg = b := nI_clamp (by omega)
    have hst := mkO_st (on := onT (s_n S) (s_T S)) (kI := fun x => nI (s_k S x)) (sc := f_c (s_f S)) (sy := f_y (s_f S)) (jo := f_j (s_f S)) nd hlt (ordT (s_T S)).length (by omega) (Nat.le_refl _)
    rw [a2] at hst
    rw [hc, eb, ← hst] at h1 h2
    have h1 : n_b S x = bsV (nI b) (n_n S b) := h1
    have h2 : n_n S x = nmV (f_j (s_f S) (s_k S x)) (bsV (nI b) (n_n S b)) (n_n S b) (sgn (f_y (s_f S) (s_k S x)) (n_c S i)) := h2
    have hpos := nI_pos (show b < 2 ^ 31 by omega)
    by_cases hl : (n_n S b).length ≤ 30
    · have e1 : bsV (nI b) (n_n S b) = nI b := by unfold bsV; rw [if_neg (fun q => by omega)]
      rw [e1] at h1 h2
      have e2 : nbC S x = some b := by unfold nbC; rw [hc]; show (if _ then _ else _) = _; rw [if_pos hl]
      rw [e2]
      refine ⟨?_, ?_, h3⟩
      · unfold nbO
        rw [h1, if_neg hpos, nI_clamp (by omega)]
      · rw [h2]
        show _ = pfS _ (some b) (n_n S b) ++ _
        by_cases hj : 0 < f_j (s_f S) (s_k S x)
        · rw [pfS_some _ _ hj]
          unfold nmV mkS
          rw [if_pos (show 0 < f_j (s_f S) (s_k S x) ∧ ¬ nI b < 0 from ⟨hj, hpos⟩)]
          simp only [List.append_assoc]
        · rw [pfS_0 _ _ hj, nmV_no (fun q => hj q.1), List.nil_append]
          rfl
    · have e1 : bsV (nI b) (n_n S b) = -1 := by unfold bsV; rw [if_pos ⟨hpos, by omega⟩]
      refine noN (by rw [h1, e1]; decide) ?_
      unfold nbC
      rw [hc]
      show (if _ then _ else _) = _
      rw [if_neg hl]
end NC
