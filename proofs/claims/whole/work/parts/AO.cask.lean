/-! ===== the class: thing, at, told ===== -/
theorem sgn_asc : ∀ s, s < 5 → ∀ c, c < 121 → (sgn s c).all (fun v => decide (v &&& 255 = v)) = true := by decide +kernel
theorem isL_asc {v : Int32} (h : isL v = true) : v &&& 255 = v := by
  obtain ⟨j, h1, h2, rfl⟩ := isL_nI h
  exact nI255 j (by omega)
section AS
variable {S : Sp}
theorem mkS_asc {j s n : Nat} (hs : s < 5) (hn : n ≤ 120) : ∀ v ∈ mkS j s n, v &&& 255 = v := by
  intro v hv
  unfold mkS at hv
  rcases List.mem_append.mp hv with h | h
  · rcases List.mem_append.mp h with h | h
    · by_cases e : j = 2
      · rw [if_pos e] at h
        rw [List.mem_singleton.mp h]
        decide
      · rw [if_neg e] at h; cases h
    · exact of_decide_eq_true (List.all_eq_true.mp (sgn_asc s hs n (by omega)) v h)
  · by_cases e : j = 2
    · rw [if_pos e] at h
      rw [List.mem_singleton.mp h]
      decide
    · rw [if_neg e] at h; cases h
theorem nbC_before (hS : SOk S) {i x b : Nat} (hx : (ordT (s_T S))[i]? = some x) (h : nbC S x = some b) : ∃ q, q < i ∧ (ordT (s_T S))[q]? = some b := by
  have hW := hS.wf
  obtain ⟨-, -, hxt, -, -⟩ := ord_at hS hx
  have hcd : candO S x = some b := by
    unfold nbC at h
    cases hc : candO S x with
    | none => rw [hc] at h; cases h
    | some w =>
      rw [hc] at h
      have h : (if (n_n S w).length ≤ 30 then some w else none) = some b := h
      by_cases q : (n_n S w).length ≤ 30
      · rw [if_pos q] at h; exact h
      · rw [if_neg q] at h; cases h
  obtain ⟨q1, q2, q3⟩ := cand_up hS hxt hcd
  obtain ⟨-, -, q4⟩ := idx_at ((ord_mem hW).mpr q1)
  exact ⟨_, ord_before hS hx q4 q2 q3, q4⟩
theorem nn_asc (hS : SOk S) : ∀ (m i x : Nat), i < m → (ordT (s_T S))[i]? = some x → ∀ v ∈ n_n S x, v &&& 255 = v := by
  intro m
  induction m with
  | zero => intro i x hi; omega
  | succ m ih =>
    intro i x hi hx v hv
    obtain ⟨-, -, -, hxn, hl⟩ := ord_at hS hx
    have hlt := getE_lt hx
    have hk6 := hS.2.1 x hxn
    have hfb := hS.2.2.2.2.2.1 _ hk6
    rw [(mk_S hS hx).2.1] at hv
    rcases List.mem_append.mp hv with h | h
    · cases hnb : nbC S x with
      | none => rw [hnb, pfS_none] at h; cases h
      | some b =>
        rw [hnb] at h
        have h : v ∈ pfS (f_j (s_f S) (s_k S x)) (some b) (n_n S b) := h
        by_cases hj : 0 < f_j (s_f S) (s_k S x)
        · rw [pfS_some _ _ hj] at h
          rcases List.mem_append.mp h with h | h
          · obtain ⟨q, q1, q2⟩ := nbC_before hS hx hnb
            exact ih q b (by omega) q2 v h
          · by_cases e : f_j (s_f S) (s_k S x) = 1
            · rw [if_pos e] at h
              rw [List.mem_singleton.mp h]
              decide
            · rw [if_neg e] at h; cases h
        · rw [pfS_0 _ _ hj] at h; cases h
    · have : n_c S i ≤ i + 1 := (ctO_le i).2
      exact mkS_asc hfb.2.1 (by omega) v h
theorem n_asc (hS : SOk S) (x : Nat) : ∀ v ∈ n_n S x, v &&& 255 = v := by
  intro v hv
  cases hx : t_h (s_T S) x with
  | false => rw [(n_out hS hx).2] at hv; cases hv
  | true =>
    obtain ⟨-, -, q⟩ := idx_at ((ord_mem hS.wf).mpr hx)
    exact nn_asc hS _ _ x (Nat.lt_succ_self _) q v hv
theorem told_asc (hS : SOk S) {x : Nat} (hx : x < s_n S) : ∀ v ∈ tdT S x, v &&& 255 = v := by
  intro v hv
  have hw := (hS.2.2.2.2.1 _ (hS.2.1 x hx)).2
  unfold tdT toldL at hv
  rcases List.mem_append.mp hv with h | h
  · by_cases e : (s_w S (s_k S x)).length = 0
    · rw [if_pos e] at h; cases h
    · rw [if_neg e] at h
      rcases List.mem_append.mp h with h | h
      · exact isL_asc (List.all_eq_true.mp hw v h)
      · rw [List.mem_singleton.mp h]; decide
  · exact n_asc hS x v h
theorem by_at {xs : List Int32} (h : ∀ v ∈ xs, v &&& 255 = v) (hl : xs.length < 2 ^ 31) (i : Int32) : ln_at xs i = byI xs i := by
  unfold ln_at byI
  by_cases h0 : i < 0
  · rw [if_pos (Or.inl h0), if_pos h0]
  · obtain ⟨j, hj, rfl⟩ := nI_of h0
    rw [if_neg h0, nI_clamp hj]
    by_cases h1 : j < xs.length
    · rw [if_neg]
      · have e1 : xs.getD j 0 = xs[j] := getD_at h1
        have e2 : xs.getD j (-1) = xs[j] := by simp [List.getD_eq_getElem?_getD, h1]
        rw [e1, e2]
        exact h _ (List.getElem_mem h1)
      · rintro (w | w)
        · exact h0 w
        · exact absurd (nI_lt h1 hl) (Int32.not_lt.mpr w)
    · rw [if_pos (Or.inr (nI_le (by omega) hj))]
      simp [List.getD_eq_getElem?_getD, h1]
theorem oI_nb (hS : SOk S) {x : Nat} (hx : t_h (s_T S) x = true) : oI (nbO S x) = n_b S x := by
  have hW := hS.wf
  have hn9 := hW.1
  obtain ⟨i1, i2, i3⟩ := idx_at ((ord_mem hW).mpr hx)
  have h1 := (mkO_at (on := onT (s_n S) (s_T S)) (kI := fun x => nI (s_k S x)) (sc := f_c (s_f S)) (sy := f_y (s_f S)) (jo := f_j (s_f S)) (ord_nd hW) (ordT (s_T S)).length i1 (Nat.le_refl _)).1
  rw [i2, b0_eq hS hx] at h1
  have h1 : n_b S x = _ := h1
  unfold nbO
  rw [h1]
  unfold bsV
  by_cases e : ¬ oI (candO S x) < 0 ∧ 30 < ((mkO (onT (s_n S) (s_T S)) (fun x => nI (s_k S x)) (f_c (s_f S)) (f_y (s_f S)) (f_j (s_f S)) (ordT (s_T S)) ((ordT (s_T S)).idxOf x)).2 (oI (candO S x)).toNatClampNeg).length
  · rw [if_pos e, if_pos (by decide)]; rfl
  · rw [if_neg e]
    cases hc : candO S x with
    | none => rw [if_pos (by decide)]
    | some b =>
      obtain ⟨b1, -, -⟩ := cand_up hS hx hc
      have hbn := hW.h_lt b1
      show oI (if nI b < 0 then none else some (nI b).toNatClampNeg) = nI b
      rw [if_neg (nI_pos (by omega)), nI_clamp (by omega)]
      rfl
end AS
section NK
variable {l : Launch} {D : DD} {σ : Hp} {c B : Nat} {ow ad : Nat → Nat} {S : Sp}
theorem RC.fin {τ : Hp} (g : RC ow τ c ad B S) (h : Fm ow nuI2 nuP2 [4, 5] σ τ) : ∃ ow' ad', RC ow' τ c ad' (B + 200) S ∧ CFm ow ow' σ τ := ⟨ow, ad, g.more (by omega), h.wide (by decide) (by decide) (by decide), fun _ _ => rfl⟩
theorem c_placedAt {v : Int32} (g : RCd ow σ c ad B S) : Cn l D m_Tree_placedAt 0 0 [va_rf (some (c + 3)), .int v] σ (fun r τ => r = some (va_rf ((if v < 0 then none else (ordT (s_T S))[v.toNatClampNeg]?).map ad)) ∧ τ = σ) := by
  obtain ⟨hS, gF, -⟩ := id g.1
  have hll := ord_len hS.wf
  have hn := hS.1
  have k3 : h_K σ (c + 3) = 10 := gF.2.1 (3, 10) (by decide)
  have k4 : h_K σ (c + 4) = 9 := gF.2.1 (4, 9) (by decide)
  have p576 : h_P σ 576 (c + 3) = some (c + 4) := gF.2.2.1 (576, 3, 4) (by decide)
  have p520 := g.nx.1
  generalize hQ : (fun (r : Option Value) (τ : Hp) => r = some (va_rf ((if v < 0 then none else (ordT (s_T S))[v.toNatClampNeg]?).map ad)) ∧ τ = σ) = Q
  refine Cn.of (by decide) (by repeat (first | exact ca_0 | refine ca_i ?_ | refine ca_r ?_)) (Nat.le_of_ble_eq_true rfl) ?_
  have loop : ∀ (d m : Nat), m + d = (ordT (s_T S)).length → (v < 0 ∨ m ≤ v.toNatClampNeg) → Gm l D m_Tree_placedAt 0 0 Q 8 [some (va_rf (some (c + 3))), some (.int v), some (va_rf (((ordT (s_T S))[m]?).map ad))] [] σ 0 0 := by
    intro d
    induction d with
    | zero =>
      intro m hm hv
      rw [List.getElem?_eq_none (by omega)]
      refine r_aload_n rfl rfl ?_
      refine r_ifnull rfl (fun _ => ?_) (fun _ hq => by cases hq)
      refine r_null rfl ?_
      refine r_aret rfl rfl ?_
      rw [← hQ]
      refine ⟨?_, rfl⟩
      by_cases h0 : v < 0
      · rw [if_pos h0]; rfl
      · have := hv.resolve_left h0
        rw [if_neg h0, List.getElem?_eq_none (by omega)]; rfl
    | succ d ih =>
      intro m hm hv
      obtain ⟨x, hx⟩ : ∃ x, (ordT (s_T S))[m]? = some x := ⟨_, List.getElem?_eq_getElem (by omega)⟩
      obtain ⟨hml, ex, -, hxn, -⟩ := ord_at hS hx
      have kx := g.1.2.2.2.1.1 x (Or.inl hxn)
      have i521 := (g.2.2.2 m x hx).1
      have nx' := g.nx.2 m x hx
      rw [hx]
      refine r_aload_n rfl rfl ?_
      refine r_ifnull rfl (fun hq => by cases hq) (fun _ _ => ?_)
      show Gm l D m_Tree_placedAt 0 0 Q 12 [some (va_rf (some (c + 3))), some (.int v), some (va_rf (some (ad x)))] [] σ 0 0
      refine r_aload_n rfl rfl ?_
      (first | refine r_getIv rfl (by first | assumption | rfl) rfl (by assumption) ?_ | refine r_getI rfl (by first | assumption | rfl) rfl ?_)
      refine r_iload_n rfl rfl ?_
      refine r_icmp_ne rfl (fun q => ?_) (fun q => ?_)
      · refine r_aload_n rfl rfl ?_
        (first | refine r_getPv rfl (by first | assumption | rfl) rfl (by assumption) ?_ | refine r_getP rfl (by first | assumption | rfl) rfl ?_)
        refine r_astore_n rfl (by decide) ?_
        refine r_goto rfl ?_
        refine ih (m + 1) (by omega) ?_
        rcases hv with h0 | h0
        · exact Or.inl h0
        · by_cases hv0 : v < 0
          · exact Or.inl hv0
          · obtain ⟨j, hj, rfl⟩ := nI_of hv0
            rw [nI_clamp hj] at h0 ⊢
            have : m ≠ j := fun e => q (by rw [e])
            exact Or.inr (by omega)
      · refine r_aload_n rfl rfl ?_
        refine r_aret rfl rfl ?_
        rw [← hQ]
        refine ⟨?_, rfl⟩
        rw [← q, if_neg (nI_pos (by omega)), nI_clamp (by omega), hx]
        rfl
  refine r_aload_n rfl rfl ?_
  (first | refine r_getPv rfl (by first | assumption | rfl) rfl (by assumption) ?_ | refine r_getP rfl (by first | assumption | rfl) rfl ?_)
  (first | refine r_getPv rfl (by first | assumption | rfl) rfl (by assumption) ?_ | refine r_getP rfl (by first | assumption | rfl) rfl ?_)
  refine r_astore_n rfl (by decide) ?_
  exact loop (ordT (s_T S)).length 0 (by omega) (Or.inr (Nat.zero_le _))
theorem c_NK_at {v : Int32} (g : RC ow σ c ad B S) : Cn l D m_NK_at 0 0 [va_rf (some c), .int v] σ (fun r τ => r = some (.int (a_at S v)) ∧ ∃ ow' ad', RC ow' τ c ad' (B + 200) S ∧ CFm ow ow' σ τ) := by
  have k0 : h_K σ c = 11 := g.2.1.2.1 (0, 11) (by decide)
  have k35 : h_K σ (c + 35) = 6 := g.2.1.2.1 (35, 6) (by decide)
  have p642 : h_P σ 642 c = some (c + 35) := g.2.1.2.2.1 (642, 0, 35) (by decide)
  refine Cn.of (by decide) (by repeat (first | exact ca_0 | refine ca_i ?_ | refine ca_r ?_)) (Nat.le_of_ble_eq_true rfl) ?_
  refine r_aload_n rfl rfl ?_
  (first | refine r_getPv rfl (by first | assumption | rfl) rfl (by assumption) ?_ | refine r_getP rfl (by first | assumption | rfl) rfl ?_)
  refine r_callV (As := []) rfl (by decide) rfl k35 rfl rfl (Nat.le_of_ble_eq_true rfl) ⟨Nat.le_of_ble_eq_true rfl, Nat.le_of_ble_eq_true rfl⟩ (c_renew g) (kc' := 0) (ks' := 0) (by omega) (by omega) (by decide) ?_
  rintro r σ1 ⟨rfl, g1, f1, -⟩
  have k01 : h_K σ1 c = 11 := g1.1.2.1.2.1 (0, 11) (by decide)
  have k31 : h_K σ1 (c + 3) = 10 := g1.1.2.1.2.1 (3, 10) (by decide)
  have p6411 : h_P σ1 641 c = some (c + 3) := g1.1.2.1.2.2.1 (641, 0, 3) (by decide)
  refine r_aload_n rfl rfl ?_
  (first | refine r_getPv rfl (by first | assumption | rfl) rfl (by assumption) ?_ | refine r_getP rfl (by first | assumption | rfl) rfl ?_)
  refine r_iload_n rfl rfl ?_
  refine r_callV (As := [_]) rfl (by decide) rfl k31 rfl rfl (Nat.le_of_ble_eq_true rfl) ⟨Nat.le_of_ble_eq_true rfl, Nat.le_of_ble_eq_true rfl⟩ (c_placedAt g1) (kc' := 0) (ks' := 0) (by omega) (by omega) (by decide) ?_
  rintro r σ ⟨rfl, rfl⟩
  have hz : ∀ z, (if v < 0 then none else (ordT (s_T S))[v.toNatClampNeg]?) = some z → z < s_n S := by
    intro z hz
    by_cases h0 : v < 0
    · rw [if_pos h0] at hz; cases hz
    · rw [if_neg h0] at hz; exact (ord_at g.1 hz).2.2.2.1
  refine r_callS (As := [_]) rfl (by decide) rfl rfl rfl (Nat.le_of_ble_eq_true rfl) ⟨Nat.le_of_ble_eq_true rfl, Nat.le_of_ble_eq_true rfl⟩ (c_numberOf g1.1 hz) (kc' := 0) (ks' := 0) (by omega) (by omega) ?_
  rintro r σ ⟨rfl, rfl⟩
  refine r_iret rfl rfl ⟨?_, g1.1.fin f1⟩
  unfold a_at
  by_cases h0 : v < 0
  · rw [if_pos h0, if_pos h0]; rfl
  · rw [if_neg h0, if_neg h0]
theorem c_thN {x : Nat} {w : Int32} {Q : Option Value → Hp → Prop} {v : Option Value} (g : RCd ow σ c ad B S) (hx : x < s_n S) (hQ : Q (some (.int (if w < 0 then -10 else a_thN S x w.toNatClampNeg))) σ) : Gm l D m_NK_thing 0 0 Q 23 [some (va_rf (some c)), v, some (.int w), some (va_rf (some (ad x)))] [] σ 0 0 := by
  obtain ⟨hS, gF, gT, gC, -⟩ := id g.1
  have hW := hS.wf
  have hn := hS.1
  have kx := gC.1 x (Or.inl hx)
  have i519 := gC.2.2.2.2.2.2 x hx
  have p518 := gC.2.2.2.2.2.1 x hx
  obtain ⟨-, -, -, t4, t5, -⟩ := gT.2.2.2 x hx
  have hlenx := hW.len x
  have out : (w < 0 ∨ ∃ j, 8 < j ∧ j < 2 ^ 31 ∧ w = nI j) → (if w < 0 then -10 else a_thN S x w.toNatClampNeg) = -10 := by
    rintro (h0 | ⟨j, j1, j2, rfl⟩)
    · rw [if_pos h0]
    · rw [if_neg (nI_pos j2), nI_clamp j2]
      match j, j1 with
      | k + 9, _ => rfl
  refine r_iload_n rfl rfl ?_
  rcases sw_in (w := w) 8 (by decide) with ⟨w1, w2⟩ | ⟨j, j1, rfl⟩
  · rw [out w2] at hQ
    refine r_tswOut rfl w1 (tgt := 213) (by decide) ?_
    refine r_bipush (v := -10) rfl (by decide) ?_
    exact r_iret rfl rfl hQ
  · rw [if_neg (nI_pos (by omega)), nI_clamp (by omega)] at hQ
    match j, j1 with
    | 0, _ =>
      refine r_tswIn rfl (by decide) (by decide) (off := 52) (by decide) (tgt := 76) (by decide) ?_
      refine r_aload_n rfl rfl ?_
      (first | refine r_getIv rfl (by first | assumption | rfl) rfl (by assumption) ?_ | refine r_getI rfl (by first | assumption | rfl) rfl ?_)
      exact r_iret rfl rfl hQ
    | 1, _ =>
      refine r_tswIn rfl (by decide) (by decide) (off := 57) (by decide) (tgt := 81) (by decide) ?_
      refine r_aload_n rfl rfl ?_
      (first | refine r_getIv rfl (by first | assumption | rfl) rfl (by assumption) ?_ | refine r_getI rfl (by first | assumption | rfl) rfl ?_)
      have hQ : Q (some (.int (onT (s_n S) (s_T S) x))) σ := hQ
      refine r_ifeqB rfl (fun q => ?_) (fun q => ?_)
      · rw [onT_off hx q] at hQ
        refine r_bipush (v := -9) rfl (by decide) ?_
        exact r_iret rfl rfl hQ
      · obtain ⟨p, lp, hp, -⟩ := hW.h_par q
        have ux := gC.2.2.2.1 p x (hW.tn lp) hp
        have kp := gC.1 p (hW.tn lp)
        have i512 : h_I σ 512 (ad p) = cd p := by
          rcases lp with rfl | hpt
          · rw [gT.2.1]; exact gF.2.2.2.2.2.2.1
          · have hpn := hW.h_lt hpt
            rw [cd_n (by omega)]
            exact (gT.2.2.2 p hpn).2.2.2.1
        rw [onT_on hW lp hp] at hQ
        refine r_aload_n rfl rfl ?_
        (first | refine r_getPv rfl (by first | assumption | rfl) rfl (by assumption) ?_ | refine r_getP rfl (by first | assumption | rfl) rfl ?_)
        refine r_ifnull rfl (fun hq => by cases hq) (fun _ _ => ?_)
        refine r_aload_n rfl rfl ?_
        (first | refine r_getPv rfl (by first | assumption | rfl) rfl (by assumption) ?_ | refine r_getP rfl (by first | assumption | rfl) rfl ?_)
        (first | refine r_getIv rfl (by first | assumption | rfl) rfl (by assumption) ?_ | refine r_getI rfl (by first | assumption | rfl) rfl ?_)
        refine r_goto rfl ?_
        exact r_iret rfl rfl hQ
    | 2, _ =>
      refine r_tswIn rfl (by decide) (by decide) (off := 84) (by decide) (tgt := 108) (by decide) ?_
      refine r_aload_n rfl rfl ?_
      (first | refine r_getIv rfl (by first | assumption | rfl) rfl (by assumption) ?_ | refine r_getI rfl (by first | assumption | rfl) rfl ?_)
      have hQ : Q (some (.int (if t_h (s_T S) x = true then nI (ixT (s_T S) x) else -9))) σ := hQ
      refine r_ifeqB rfl (fun q => ?_) (fun q => ?_)
      · rw [q, if_neg (by decide)] at hQ
        refine r_bipush (v := -9) rfl (by decide) ?_
        exact r_iret rfl rfl hQ
      · rw [if_pos q] at hQ
        obtain ⟨p, lp, hp, hpar⟩ := hW.h_par q
        obtain ⟨k, hk⟩ := List.getElem?_of_mem hp
        have tnp := hW.tn lp
        obtain ⟨e1, e2, e3, -⟩ := gC.fst hW.w0 hk
        have ux := gC.2.2.2.1 p x tnp hp
        have eix : ixT (s_T S) x = k := by
          unfold ixT
          rw [hpar]
          exact idx_of (hW.2.2.1 p) hk
        rw [eix] at hQ
        refine r_aload_n rfl rfl ?_
        refine r_callV (As := []) rfl (by decide) rfl kx rfl rfl (Nat.le_of_ble_eq_true rfl) ⟨Nat.le_of_ble_eq_true rfl, Nat.le_of_ble_eq_true rfl⟩ (c_index kx ux (gC.1 p tnp) (gC.2.2.1 p tnp) (by omega) e1 e2) (kc' := 0) (ks' := 0) (by omega) (by omega) (by decide) ?_
        rintro r σ ⟨rfl, rfl⟩
        refine r_goto rfl ?_
        exact r_iret rfl rfl hQ
    | 3, _ =>
      refine r_tswIn rfl (by decide) (by decide) (off := 101) (by decide) (tgt := 125) (by decide) ?_
      refine r_aload_n rfl rfl ?_
      (first | refine r_getIv rfl (by first | assumption | rfl) rfl (by assumption) ?_ | refine r_getI rfl (by first | assumption | rfl) rfl ?_)
      have hQ : Q (some (.int (if t_h (s_T S) x = true then nI (t_k (s_T S) x).length else 0))) σ := hQ
      refine r_ifeqB rfl (fun q => ?_) (fun q => ?_)
      · rw [q, if_neg (by decide)] at hQ
        refine r_iconst (v := nI 0) rfl (by decide) ?_
        exact r_iret rfl rfl hQ
      · rw [if_pos q] at hQ
        refine r_aload_n rfl rfl ?_
        refine r_callV (As := []) rfl (by decide) rfl kx rfl rfl (Nat.le_of_ble_eq_true rfl) ⟨Nat.le_of_ble_eq_true rfl, Nat.le_of_ble_eq_true rfl⟩ (c_kidCount kx (gC.2.2.1 x (Or.inl hx)) (by rw [List.length_map]; omega)) (kc' := 0) (ks' := 0) (by omega) (by omega) (by decide) ?_
        rintro r σ ⟨rfl, rfl⟩
        rw [List.length_map]
        refine r_goto rfl ?_
        exact r_iret rfl rfl hQ
    | 4, _ =>
      refine r_tswIn rfl (by decide) (by decide) (off := 117) (by decide) (tgt := 141) (by decide) ?_
      refine r_aload_n rfl rfl ?_
      (first | refine r_getIv rfl (by first | assumption | rfl) rfl (by assumption) ?_ | refine r_getI rfl (by first | assumption | rfl) rfl ?_)
      have hQ : Q (some (.int (if t_h (s_T S) x = true then nI (n_c S ((ordT (s_T S)).idxOf x)) else 0))) σ := hQ
      refine r_ifeqB rfl (fun q => ?_) (fun q => ?_)
      · rw [q, if_neg (by decide)] at hQ
        refine r_iconst (v := nI 0) rfl (by decide) ?_
        exact r_iret rfl rfl hQ
      · rw [if_pos q] at hQ
        obtain ⟨-, -, a3⟩ := idx_at ((ord_mem hW).mpr q)
        have i523 := (g.2.2.2 _ x a3).2.1
        refine r_aload_n rfl rfl ?_
        (first | refine r_getIv rfl (by first | assumption | rfl) rfl (by assumption) ?_ | refine r_getI rfl (by first | assumption | rfl) rfl ?_)
        refine r_goto rfl ?_
        exact r_iret rfl rfl hQ
    | 5, _ =>
      refine r_tswIn rfl (by decide) (by decide) (off := 133) (by decide) (tgt := 157) (by decide) ?_
      refine r_aload_n rfl rfl ?_
      (first | refine r_getIv rfl (by first | assumption | rfl) rfl (by assumption) ?_ | refine r_getI rfl (by first | assumption | rfl) rfl ?_)
      have hQ : Q (some (.int (if t_h (s_T S) x = true then nI ((ordT (s_T S)).idxOf x) else -1))) σ := hQ
      refine r_ifeqB rfl (fun q => ?_) (fun q => ?_)
      · rw [q, if_neg (by decide)] at hQ
        refine r_iconst (v := -1) rfl (by decide) ?_
        exact r_iret rfl rfl hQ
      · rw [if_pos q] at hQ
        obtain ⟨-, -, a3⟩ := idx_at ((ord_mem hW).mpr q)
        have i521 := (g.2.2.2 _ x a3).1
        refine r_aload_n rfl rfl ?_
        (first | refine r_getIv rfl (by first | assumption | rfl) rfl (by assumption) ?_ | refine r_getI rfl (by first | assumption | rfl) rfl ?_)
        refine r_goto rfl ?_
        exact r_iret rfl rfl hQ
    | 6, _ =>
      refine r_tswIn rfl (by decide) (by decide) (off := 149) (by decide) (tgt := 173) (by decide) ?_
      refine r_aload_n rfl rfl ?_
      (first | refine r_getIv rfl (by first | assumption | rfl) rfl (by assumption) ?_ | refine r_getI rfl (by first | assumption | rfl) rfl ?_)
      have hQ : Q (some (.int (nI (t_h (s_T S) x).toNat))) σ := hQ
      refine r_ifeqB rfl (fun q => ?_) (fun q => ?_)
      · rw [q] at hQ
        refine r_iconst (v := nI 0) rfl (by decide) ?_
        exact r_iret rfl rfl hQ
      · rw [q] at hQ
        refine r_iconst (v := nI 1) rfl (by decide) ?_
        refine r_goto rfl ?_
        exact r_iret rfl rfl hQ
    | 7, _ =>
      refine r_tswIn rfl (by decide) (by decide) (off := 162) (by decide) (tgt := 186) (by decide) ?_
      refine r_aload_n rfl rfl ?_
      (first | refine r_getPv rfl (by first | assumption | rfl) rfl (by assumption) ?_ | refine r_getP rfl (by first | assumption | rfl) rfl ?_)
      refine r_callS (As := [_]) rfl (by decide) rfl rfl rfl (Nat.le_of_ble_eq_true rfl) ⟨Nat.le_of_ble_eq_true rfl, Nat.le_of_ble_eq_true rfl⟩ (c_numberOf g.1 (fun z hz => (hW.2.2.2.2.2.2.2.1 _ _ hz).2.2.1)) (kc' := 0) (ks' := 0) (by omega) (by omega) ?_
      rintro r σ ⟨rfl, rfl⟩
      exact r_iret rfl rfl hQ
    | 8, _ =>
      refine r_tswIn rfl (by decide) (by decide) (off := 170) (by decide) (tgt := 194) (by decide) ?_
      refine r_aload_n rfl rfl ?_
      (first | refine r_getIv rfl (by first | assumption | rfl) rfl (by assumption) ?_ | refine r_getI rfl (by first | assumption | rfl) rfl ?_)
      have hQ : Q (some (.int (n_b S x))) σ := hQ
      refine r_ifeqB rfl (fun q => ?_) (fun q => ?_)
      · rw [(n_out hS q).1] at hQ
        refine r_iconst (v := -1) rfl (by decide) ?_
        exact r_iret rfl rfl hQ
      · obtain ⟨-, -, a3⟩ := idx_at ((ord_mem hW).mpr q)
        have p524 := (g.2.2.2 _ x a3).2.2.1
        rw [← oI_nb hS q] at hQ
        have hz : ∀ z, nbO S x = some z → z < s_n S := by
          intro z hz
          rw [(mk_S hS a3).1] at hz
          obtain ⟨q1, -, q2⟩ := nbC_before hS a3 hz
          exact (ord_at hS q2).2.2.2.1
        refine r_aload_n rfl rfl ?_
        (first | refine r_getPv rfl (by first | assumption | rfl) rfl (by assumption) ?_ | refine r_getP rfl (by first | assumption | rfl) rfl ?_)
        refine r_callS (As := [_]) rfl (by decide) rfl rfl rfl (Nat.le_of_ble_eq_true rfl) ⟨Nat.le_of_ble_eq_true rfl, Nat.le_of_ble_eq_true rfl⟩ (c_numberOf g.1 hz) (kc' := 0) (ks' := 0) (by omega) (by omega) ?_
        rintro r σ ⟨rfl, rfl⟩
        refine r_goto rfl ?_
        exact r_iret rfl rfl hQ
    | j + 9, h9 => omega
theorem c_NK_thing {v w : Int32} (g : RC ow σ c ad B S) : Cn l D m_NK_thing 0 0 [va_rf (some c), .int v, .int w] σ (fun r τ => r = some (.int (a_thing S v w)) ∧ ∃ ow' ad', RC ow' τ c ad' (B + 200) S ∧ CFm ow ow' σ τ) := by
  have hS := g.1
  have k0 : h_K σ c = 11 := g.2.1.2.1 (0, 11) (by decide)
  have k3 : h_K σ (c + 3) = 10 := g.2.1.2.1 (3, 10) (by decide)
  have k35 : h_K σ (c + 35) = 6 := g.2.1.2.1 (35, 6) (by decide)
  have p641 : h_P σ 641 c = some (c + 3) := g.2.1.2.2.1 (641, 0, 3) (by decide)
  have p642 : h_P σ 642 c = some (c + 35) := g.2.1.2.2.1 (642, 0, 35) (by decide)
  generalize hQ : (fun (r : Option Value) (τ : Hp) => r = some (.int (a_thing S v w)) ∧ ∃ ow' ad', RC ow' τ c ad' (B + 200) S ∧ CFm ow ow' σ τ) = Q
  refine Cn.of (by decide) (by repeat (first | exact ca_0 | refine ca_i ?_ | refine ca_r ?_)) (Nat.le_of_ble_eq_true rfl) ?_
  refine r_aload_n rfl rfl ?_
  (first | refine r_getPv rfl (by first | assumption | rfl) rfl (by assumption) ?_ | refine r_getP rfl (by first | assumption | rfl) rfl ?_)
  refine r_iload_n rfl rfl ?_
  refine r_callV (As := [_]) rfl (by decide) rfl k3 rfl rfl (Nat.le_of_ble_eq_true rfl) ⟨Nat.le_of_ble_eq_true rfl, Nat.le_of_ble_eq_true rfl⟩ (c_numbered g.2.1 g.2.2.1 hS.1) (kc' := 0) (ks' := 0) (by omega) (by omega) (by decide) ?_
  rintro r σ ⟨rfl, rfl⟩
  refine r_astore_n rfl (by decide) ?_
  refine r_aload_n rfl rfl ?_
  cases hnu : nuI S v with
  | none =>
    refine r_ifnonnull rfl (fun _ hq => by cases hq) (fun _ => ?_)
    refine r_bipush (v := -10) rfl (by decide) ?_
    refine r_iret rfl rfl ?_
    rw [← hQ]
    refine ⟨?_, ow, ad, g.more (by omega), CFm.rf _ _⟩
    unfold a_thing
    rw [hnu]
  | some x =>
    have hx : x < s_n S := by
      unfold nuI at hnu
      by_cases e : (decide (0 ≤ v) && decide (v < nI (s_n S))) = true
      · obtain ⟨y, y1, y2, y3⟩ := nuI_some hS.1 e
        unfold nuI at y3
        rw [y3] at hnu
        have := Option.some.inj hnu
        omega
      · rw [if_neg e] at hnu; cases hnu
    refine r_ifnonnull rfl (fun _ _ => ?_) (fun hq => by cases hq)
    show Gm l D m_NK_thing 0 0 Q 16 [some (va_rf (some c)), some (.int v), some (.int w), some (va_rf (some (ad x)))] [] σ 0 0
    refine r_aload_n rfl rfl ?_
    (first | refine r_getPv rfl (by first | assumption | rfl) rfl (by assumption) ?_ | refine r_getP rfl (by first | assumption | rfl) rfl ?_)
    refine r_callV (As := []) rfl (by decide) rfl k35 rfl rfl (Nat.le_of_ble_eq_true rfl) ⟨Nat.le_of_ble_eq_true rfl, Nat.le_of_ble_eq_true rfl⟩ (c_renew g) (kc' := 0) (ks' := 0) (by omega) (by omega) (by decide) ?_
    rintro r σ1 ⟨rfl, g1, f1, -⟩
    refine c_thN g1 hx ?_
    rw [← hQ]
    refine ⟨?_, g1.1.fin f1⟩
    unfold a_thing
    rw [hnu]
/-- the scratch Line may be anything -/
theorem RC.scr {τ : Hp} {xs : List Int32} (g : RC ow σ c ad B S) (h : LF σ τ (c + 43)) (hl : Ln τ (c + 43) 539 xs) : RC ow τ c ad B S ∧ Fm ow ([] : List Nat) [] [2] σ τ := by
  have z0 := g.2.1.1
  have o43 : ow (c + 43) = 2 := g.2.1.tag (q := (43, 2)) (by decide)
  have o44 : ow (c + 44) = 2 := g.2.1.tag (q := (44, 2)) (by decide)
  have fm : Fm ow ([] : List Nat) [] [2] σ τ := Fm.L h (by rw [o43]; decide) (by rw [show c + 43 + 1 = c + 44 by omega, o44]; decide)
  have := RC.kp12 (FI := []) (t := s_t S) g (fm.wide (fun f q => by cases q) (fun f q => by cases q) (by decide)) (fun f q => by cases q) (h.keep (by omega) g.2.2.2.2.1) ⟨xs, hl⟩ g.1.2.2.2.2.2.2.1
  exact ⟨this, fm⟩
theorem RCd.scr {τ : Hp} {xs : List Int32} (g : RCd ow σ c ad B S) (h : LF σ τ (c + 43)) (hl : Ln τ (c + 43) 539 xs) : RCd ow τ c ad B S ∧ Fm ow ([] : List Nat) [] [2] σ τ := by
  obtain ⟨g1, g2⟩ := g.1.scr h hl
  obtain ⟨hS, gF, gT, gC, -⟩ := id g.1
  refine ⟨⟨g1, ?_, g.2.2.kp g2 gF hS gT (fun x hx => gC.1 x (Or.inl hx)) (fun f _ q => by cases q) (fun f _ q => by cases q) (by decide)⟩, g2⟩
  rw [h.2.2.2.2.2.1 320 _ (fun e => by cases e.1)]
  exact g.2.1
/-- a thing is told into the scratch Line, behind what stands there -/
theorem c_tellC {x : Nat} {zs : List Int32} (g : RCd ow σ c ad B S) (hx : t_h (s_T S) x = true) (hz : Ln σ (c + 43) 539 zs) (hl : zs.length + 60 ≤ 539) : Cn l D m_Thing_tellTo 0 0 [va_rf (some (ad x)), va_rf (some (c + 43))] σ (fun r τ => r = none ∧ Ln τ (c + 43) 539 (zs ++ tdT S x) ∧ LF σ τ (c + 43)) := by
  obtain ⟨hS, gF, gT, gC, -, -, gW, -⟩ := id g.1
  have hW := hS.wf
  have hxn := hW.h_lt hx
  have hk6 := hS.2.1 x hxn
  obtain ⟨-, t2, -, -, -, -, t7, -, -, t10, -⟩ := gT.2.2.2 x hxn
  obtain ⟨f1, f2, -⟩ := gF.form hk6
  obtain ⟨-, -, a3⟩ := idx_at ((ord_mem hW).mpr hx)
  have hnm := (g.2.2.2 _ x a3).2.2.2.2
  have h10 := (hS.2.2.2.2.1 _ hk6).1
  have h40 := (n_ok hS x).1
  exact c_tellTo (gC.1 x (Or.inl hxn)) t7 f1 f2 t10 (gW _ hk6).1 hnm hz (by omega) (by omega) (by omega)
theorem c_NK_told {v i : Int32} (g : RC ow σ c ad B S) : Cn l D m_NK_told 0 0 [va_rf (some c), .int v, .int i] σ (fun r τ => r = some (.int (a_told S v i)) ∧ ∃ ow' ad', RC ow' τ c ad' (B + 200) S ∧ CFm ow ow' σ τ) := by
  have hS := g.1
  have k0 : h_K σ c = 11 := g.2.1.2.1 (0, 11) (by decide)
  have k3 : h_K σ (c + 3) = 10 := g.2.1.2.1 (3, 10) (by decide)
  have k35 : h_K σ (c + 35) = 6 := g.2.1.2.1 (35, 6) (by decide)
  have p641 : h_P σ 641 c = some (c + 3) := g.2.1.2.2.1 (641, 0, 3) (by decide)
  have p642 : h_P σ 642 c = some (c + 35) := g.2.1.2.2.1 (642, 0, 35) (by decide)
  generalize hQ : (fun (r : Option Value) (τ : Hp) => r = some (.int (a_told S v i)) ∧ ∃ ow' ad', RC ow' τ c ad' (B + 200) S ∧ CFm ow ow' σ τ) = Q
  refine Cn.of (by decide) (by repeat (first | exact ca_0 | refine ca_i ?_ | refine ca_r ?_)) (Nat.le_of_ble_eq_true rfl) ?_
  refine r_aload_n rfl rfl ?_
  (first | refine r_getPv rfl (by first | assumption | rfl) rfl (by assumption) ?_ | refine r_getP rfl (by first | assumption | rfl) rfl ?_)
  refine r_iload_n rfl rfl ?_
  refine r_callV (As := [_]) rfl (by decide) rfl k3 rfl rfl (Nat.le_of_ble_eq_true rfl) ⟨Nat.le_of_ble_eq_true rfl, Nat.le_of_ble_eq_true rfl⟩ (c_thereAs g.2.1 g.2.2.1 g.2.2.2.1 hS) (kc' := 0) (ks' := 0) (by omega) (by omega) (by decide) ?_
  rintro r σ ⟨rfl, rfl⟩
  refine r_astore_n rfl (by decide) ?_
  refine r_aload_n rfl rfl ?_
  cases hth : thI S v with
  | none =>
    refine r_ifnonnull rfl (fun _ hq => by cases hq) (fun _ => ?_)
    refine r_iconst (v := -1) rfl (by decide) ?_
    refine r_iret rfl rfl ?_
    rw [← hQ]
    refine ⟨?_, ow, ad, g.more (by omega), CFm.rf _ _⟩
    unfold a_told
    rw [hth]
  | some x =>
    obtain ⟨hxn, hxt, rfl⟩ := thI_some hS hth
    refine r_ifnonnull rfl (fun _ _ => ?_) (fun hq => by cases hq)
    show Gm l D m_NK_told 0 0 Q 15 [some (va_rf (some c)), some (.int (nI x)), some (.int i), some (va_rf (some (ad x)))] [] σ 0 0
    refine r_aload_n rfl rfl ?_
    (first | refine r_getPv rfl (by first | assumption | rfl) rfl (by assumption) ?_ | refine r_getP rfl (by first | assumption | rfl) rfl ?_)
    refine r_callV (As := []) rfl (by decide) rfl k35 rfl rfl (Nat.le_of_ble_eq_true rfl) ⟨Nat.le_of_ble_eq_true rfl, Nat.le_of_ble_eq_true rfl⟩ (c_renew g) (kc' := 0) (ks' := 0) (by omega) (by omega) (by decide) ?_
    rintro r σ1 ⟨rfl, g1, f1, -⟩
    have k01 : h_K σ1 c = 11 := g1.1.2.1.2.1 (0, 11) (by decide)
    have k431 : h_K σ1 (c + 43) = 4 := g1.1.2.1.2.1 (43, 4) (by decide)
    have p6511 : h_P σ1 651 c = some (c + 43) := g1.1.2.1.2.2.1 (651, 0, 43) (by decide)
    obtain ⟨xs, hxs⟩ := g1.1.2.2.2.2.2.1
    refine r_aload_n rfl rfl ?_
    (first | refine r_getPv rfl (by first | assumption | rfl) rfl (by assumption) ?_ | refine r_getP rfl (by first | assumption | rfl) rfl ?_)
    refine r_iconst (v := nI 0) rfl (by decide) ?_
    refine r_putI rfl (by first | assumption | rfl) rfl (by first | exact Or.inl rfl | exact Or.inr ⟨rfl, rfl⟩) (by first | rfl | decide | assumption) (by first | rfl | decide) ?_
    obtain ⟨c1, c2⟩ := hxs.cut 0 (Nat.zero_le _)
    rw [List.take_zero] at c1
    generalize hσ2 : w_I σ1 193 (c + 43) (nI 0) = σ2 at c1 c2 ⊢
    obtain ⟨g2, f2⟩ := g1.scr c2 c1
    have k02 : h_K σ2 c = 11 := g2.1.2.1.2.1 (0, 11) (by decide)
    have p6512 : h_P σ2 651 c = some (c + 43) := g2.1.2.1.2.2.1 (651, 0, 43) (by decide)
    have kx2 := g2.1.2.2.2.1.1 x (Or.inl hxn)
    refine r_aload_n rfl rfl ?_
    refine r_aload_n rfl rfl ?_
    (first | refine r_getPv rfl (by first | assumption | rfl) rfl (by assumption) ?_ | refine r_getP rfl (by first | assumption | rfl) rfl ?_)
    refine r_callV (As := [_]) rfl (by decide) rfl kx2 rfl rfl (Nat.le_of_ble_eq_true rfl) ⟨Nat.le_of_ble_eq_true rfl, Nat.le_of_ble_eq_true rfl⟩ (c_tellC g2 hxt c1 (by show 0 + 60 ≤ 539; omega)) (kc' := 0) (ks' := 0) (by omega) (by omega) (by decide) ?_
    rintro r σ3 ⟨rfl, d1, d2⟩
    rw [List.nil_append] at d1
    obtain ⟨g3, f3⟩ := g2.scr d2 d1
    have k03 : h_K σ3 c = 11 := g3.1.2.1.2.1 (0, 11) (by decide)
    have p6513 : h_P σ3 651 c = some (c + 43) := g3.1.2.1.2.2.1 (651, 0, 43) (by decide)
    refine r_aload_n rfl rfl ?_
    (first | refine r_getPv rfl (by first | assumption | rfl) rfl (by assumption) ?_ | refine r_getP rfl (by first | assumption | rfl) rfl ?_)
    refine r_iload_n rfl rfl ?_
    refine r_callV (As := [_]) rfl (by decide) rfl d1.1 rfl rfl (Nat.le_of_ble_eq_true rfl) ⟨Nat.le_of_ble_eq_true rfl, Nat.le_of_ble_eq_true rfl⟩ (c_byteAt d1) (kc' := 0) (ks' := 0) (by omega) (by omega) (by decide) ?_
    rintro r σ ⟨rfl, rfl⟩
    refine r_iret rfl rfl ?_
    rw [← hQ]
    refine ⟨?_, ow, ad, g3.1.more (by omega), ?_, fun _ _ => rfl⟩
    · unfold a_told
      rw [hth, by_at (told_asc hS hxn) (by have := (td_ok hS hxn).1; omega)]
    · exact ((f1.wide (by decide) (by decide) (by decide)).tr (f2.wide (fun f q => by cases q) (fun f q => by cases q) (by decide))).tr (f3.wide (fun f q => by cases q) (fun f q => by cases q) (by decide))
end NK
