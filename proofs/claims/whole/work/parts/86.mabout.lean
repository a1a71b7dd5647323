/-! ===== the reference: makeLine, about, text, trouble ===== -/
def mnI (S : Sp) (v : Int32) : Option Mn := if v < 0 then none else (s_m S)[v.toNatClampNeg]?
def a_abN (S : Sp) (q : Mn) : Nat → Int32
  | 0 => nI q.2.1
  | 1 => nI (ld (s_T S) q.1)
  | 2 => oI (ledM S q)
  | 3 => nI (lnM S q).2
  | 4 => nI (gonM S q)
  | 5 => nI (lnM S q).1.length
  | _ => -10
def a_about (S : Sp) (v w : Int32) : Int32 := match mnI S v with
  | none => -10
  | some q => if w < 0 then -10 else a_abN S q w.toNatClampNeg
def a_text (S : Sp) (v i : Int32) : Int32 := match mnI S v with
  | none => -1
  | some q => byI (lnM S q).1 i
def trB (S : Sp) (q : Mn) : Bool := decide (ldo (s_T S) q.1 ≠ none) && (decide ((lnM S q).2 = 0) || decide (0 < gonM S q) || (decide (q.2.1 = 1) && decide (1 < (lnM S q).2)))
def a_troub (S : Sp) : Int32 := nI ((s_m S).filter (trB S)).length
theorem mnI_in {S : Sp} {v : Int32} (hl : (s_m S).length ≤ 100) (h : (decide (0 ≤ v) && decide (v < nI (s_m S).length)) = true) : ∃ q i k f e m, v = nI q ∧ (s_m S)[q]? = some (i, k, f, e, m) ∧ mnI S v = some (i, k, f, e, m) := by
  simp only [Bool.and_eq_true, decide_eq_true_eq] at h
  obtain ⟨q, hq, rfl⟩ := nI_of (Int32.not_lt.mpr h.1)
  have hql := (nI_ltI hq (by omega)).mp h.2
  have e := List.getElem?_eq_getElem hql
  refine ⟨q, _, _, _, _, _, rfl, e, ?_⟩
  unfold mnI
  rw [if_neg (nI_pos hq), nI_clamp hq]
  exact e
theorem mnI_no {S : Sp} {v : Int32} (hl : (s_m S).length ≤ 100) (h : (decide (0 ≤ v) && decide (v < nI (s_m S).length)) = false) : mnI S v = none := by
  unfold mnI
  by_cases a : v < 0
  · rw [if_pos a]
  · rw [if_neg a]
    obtain ⟨q, hq, rfl⟩ := nI_of a
    rw [decide_eq_true (nI_pos' hq), Bool.true_and, decide_eq_false_iff_not, nI_ltI hq (by omega)] at h
    rw [nI_clamp hq]
    exact List.getElem?_eq_none (by omega)
theorem inB_m {v : Int32} {n : Nat} (hn : n < 2 ^ 29) : inB v (nI 0) (nI n - nI 1) = (decide (0 ≤ v) && decide (v < nI n)) := by
  unfold inB
  rw [show nI 0 = 0 from rfl]
  congr 1
  rw [Bool.eq_iff_iff, decide_eq_true_iff, decide_eq_true_iff]
  have h1 : (nI n).toInt = (n : Int) := nI_toInt (by omega)
  have h2 : (nI n - nI 1).toInt = (n : Int) - 1 := pk_sub_toInt (by omega) (by omega)
  rw [Int32.le_iff_toInt_le, Int32.lt_iff_toInt_lt, h1, h2]
  omega
section MC
variable {l : Launch} {D : DD} {σ : Hp} {o : Nat}
abbrev mlR : List Nat := [14, 15, 16, 17, 18, 19, 20, 21, 30, 31]
abbrev mlI : List Nat := [721, 724, 741, 742]
set_option maxRecDepth 10000 in
set_option maxHeartbeats 1000000 in
theorem c_M_makeLineS {S : Sp} {q i k f e : Nat} {m : List Nat} (h : RM σ o S) (hq : (s_m S)[q]? = some (i, k, f, e, m)) : Cn l D m_M_makeLine 0 0 [va_rf (some o), .int (nI q)] σ (fun r τ => r = none ∧ RMd τ o S ∧ MFr mlR mlI σ τ o ∧ Lb τ o (lnM S (i, k, f, e, m)).1 ∧ h_I τ 742 o = nI (lnM S (i, k, f, e, m)).2) := by
  have hM := h.1
  have hS := h.2.1
  have hW := hS.wf
  have hn9 := hS.1
  have hmv := hS.2.2.2.2.2.2.2.2.2.1 i k f e m (List.mem_of_getElem? hq)
  generalize hQ : (fun (r : Option Value) (τ : Hp) => r = none ∧ RMd τ o S ∧ MFr mlR mlI σ τ o ∧ Lb τ o (lnM S (i, k, f, e, m)).1 ∧ h_I τ 742 o = nI (lnM S (i, k, f, e, m)).2) = Q
  have ea : lnM S (i, k, f, e, m) = if ldo (s_T S) i = none then ([], 0) else if k = 4 then (edT S e f, 1) else match ledM S (i, k, f, e, m) with
      | none => ([], 0)
      | some y => if k = 1 then (wpL (s_w S f) ++ txR S 0 (rns S (mtL S m)), (rns S (mtL S m)).length) else (tdT S y, 1) := rfl
  refine Cn.of (by decide) (by repeat (first | exact ca_0 | refine ca_i ?_ | refine ca_r ?_)) (Nat.le_of_ble_eq_true rfl) ?_
  refine r_aload_n rfl rfl ?_
  refine r_callV (As := []) rfl (by decide) rfl (by first | exact hM.1 | assumption) rfl rfl (Nat.le_of_ble_eq_true rfl) ⟨Nat.le_of_ble_eq_true rfl, Nat.le_of_ble_eq_true rfl⟩ (c_M_makeS h) (kc' := 0) (ks' := 0) (by omega) (by omega) (by decide) ?_
  rintro r τ0 ⟨rfl, hd0, hf0⟩
  have hM := hd0.1.1
  refine r_aload_n rfl rfl ?_
  refine r_iconst (v := nI 0) rfl (by decide) ?_
  refine r_putI rfl hM.1 rfl (Or.inl rfl) (by first | rfl | decide) (by first | rfl | decide) ?_
  refine r_aload_n rfl rfl ?_
  refine r_iconst (v := nI 0) rfl (by decide) ?_
  refine r_putI rfl hM.1 rfl (Or.inl rfl) (by first | rfl | decide) (by first | rfl | decide) ?_
  have hf1 : MFr ([] : List Nat) [741, 742] τ0 (w_I (w_I τ0 741 o (nI 0)) 742 o (nI 0)) o := (MFr.I _ _ (by decide)).tr (MFr.I _ _ (by decide))
  have h742 : h_I (w_I (w_I τ0 741 o (nI 0)) 742 o (nI 0)) 742 o = nI 0 := hI_w _ _ _ _
  have hlb : Lb (w_I (w_I τ0 741 o (nI 0)) 742 o (nI 0)) o [] := ⟨(hI_n _ _ (by decide)).trans (hI_w _ _ _ _), by simp, fun i hi => by cases hi⟩
  have hd : RMd (w_I (w_I τ0 741 o (nI 0)) 742 o (nI 0)) o S := RMd.kp hf1 (by decide) (by decide) hd0
  have hfw : MFr mlR mlI σ (w_I (w_I τ0 741 o (nI 0)) 742 o (nI 0)) o := (hf0.wide (by decide) (by decide)).tr (hf1.wide (by decide) (by decide))
  generalize w_I (w_I τ0 741 o (nI 0)) 742 o (nI 0) = τ at hf1 h742 hlb hd hfw
  clear hd0 hf0 hf1
  have hR := hd.1
  have hM := hR.1
  obtain ⟨q1, m24, m25, m26, m27, m1, m2, hi, m4, m3⟩ := hR.mn hq
  have hld := (ld_lt hW hi).1
  refine g_fits (fun hfit _ _ => ?_)
  refine r_aload_n rfl rfl ?_
  refine r_aload_n rfl rfl ?_
  refine r_aload_n rfl rfl ?_
  refine r_mg (j := 24) hM rfl rfl (by decide) ?_
  refine r_iload_n rfl rfl ?_
  refine r_mi (j := 24) hM rfl rfl (by decide) (by first | rfl | assumption) (show _ < 100 by omega) ?_
  rw [m24]
  refine r_callV (As := [_]) rfl (by decide) rfl (by first | exact hM.1 | assumption) rfl rfl (Nat.le_of_ble_eq_true rfl) ⟨Nat.le_of_ble_eq_true rfl, Nat.le_of_ble_eq_true rfl⟩ (hR.fo hi) (kc' := 0) (ks' := 0) (by omega) (by omega) (by decide) ?_
  rintro r τ ⟨rfl, rfl⟩
  refine r_callV (As := [_]) rfl (by decide) rfl (by first | exact hM.1 | assumption) rfl rfl (Nat.le_of_ble_eq_true rfl) ⟨Nat.le_of_ble_eq_true rfl, Nat.le_of_ble_eq_true rfl⟩ (hR.th hld) (kc' := 0) (ks' := 0) (by omega) (by omega) (by decide) ?_
  rintro r τ ⟨rfl, rfl⟩
  refine r_ifneB rfl (fun w1 => ?_) (fun w1 => ?_)
  · have hlo : ldo (s_T S) i = some (ld (s_T S) i) := by unfold ldo; rw [if_pos w1]
    rw [if_neg (by rw [hlo]; exact fun q => by cases q)] at ea
    refine r_aload_n rfl rfl ?_
    refine r_mg (j := 25) hM rfl rfl (by decide) ?_
    refine r_iload_n rfl rfl ?_
    refine r_mi (j := 25) hM rfl rfl (by decide) (by first | rfl | assumption) (show _ < 100 by omega) ?_
    refine r_iconst (v := nI 4) rfl (by decide) ?_
    rw [m25]
    refine r_neN rfl (by omega) (by omega) (fun w2 => ?_) (fun w2 => ?_)
    · rw [if_neg w2] at ea
      refine r_aload_n rfl rfl ?_
      refine r_iload_n rfl rfl ?_
      refine r_callV (As := [_]) rfl (by decide) rfl (by first | exact hM.1 | assumption) rfl rfl (Nat.le_of_ble_eq_true rfl) ⟨Nat.le_of_ble_eq_true rfl, Nat.le_of_ble_eq_true rfl⟩ (c_M_leadsOfS hR hq) (kc' := 0) (ks' := 0) (by omega) (by omega) (by decide) ?_
      rintro r ρ ⟨rfl, hd2, hf2, hmt⟩
      have hlb2 : Lb ρ o [] := by
        refine ⟨?_, by simp, fun i hi => by cases hi⟩
        rw [hf2.fld (by decide)]
        exact hlb.1
      have h7422 : h_I ρ 742 o = nI 0 := by rw [hf2.fld (by decide)]; exact h742
      have hf3 : MFr mlR mlI σ ρ o := hfw.tr (hf2.wide (by decide) (by decide))
      have hM := hd2.1.1
      refine r_istore_n rfl (by decide) ?_
      refine r_iload_n rfl rfl ?_
      refine r_iconst (v := -1) rfl (by decide) ?_
      cases e3 : ledM S (i, k, f, e, m) with
      | none =>
        rw [e3] at ea
        refine r_icmp_ne rfl (fun w => absurd rfl w) (fun _ => ?_)
        refine r_vret rfl rfl ?_
        rw [← hQ]
        show _ ∧ _ ∧ _ ∧ Lb ρ o (lnM S (i, k, f, e, m)).1 ∧ h_I ρ 742 o = nI (lnM S (i, k, f, e, m)).2
        rw [ea]
        exact ⟨rfl, hd2, hf3, hlb2, h7422⟩
      | some y =>
        rw [e3] at ea
        have hy : y < s_n S ∧ t_h (s_T S) y = true := by
          unfold ledM at e3
          have e3 : (if k = 0 ∨ k = 4 then ldo (s_T S) f else if k = 1 then (mtL S m).head? else match ldo (s_T S) i with
            | none => none
            | some y => if k = 2 then nxK (fun x => nI (s_k S x)) (ordT (s_T S)) ((ordT (s_T S)).idxOf y) (nI f) else ltK (fun x => nI (s_k S x)) (ordT (s_T S)) (nI f) ((ordT (s_T S)).idxOf y)) = some y := e3
          have om : ∀ z, z ∈ ordT (s_T S) → z < s_n S ∧ t_h (s_T S) z = true := fun z hz => ⟨hW.h_lt ((ord_mem hW).mp hz), (ord_mem hW).mp hz⟩
          by_cases c1 : k = 0 ∨ k = 4
          · rw [if_pos c1] at e3
            exact ⟨(ldo_lt hS e3).1, (ldo_lt hS e3).2.1⟩
          · rw [if_neg c1] at e3
            by_cases c2 : k = 1
            · rw [if_pos c2] at e3
              have : y ∈ mtL S m := List.mem_of_mem_head? e3
              exact om y (List.mem_filter.mp this).1
            · rw [if_neg c2, hlo] at e3
              by_cases c3 : k = 2
              · have e3 : (if k = 2 then nxK (fun x => nI (s_k S x)) (ordT (s_T S)) ((ordT (s_T S)).idxOf (ld (s_T S) i)) (nI f) else _) = some y := e3
                rw [if_pos c3] at e3
                exact om y (List.mem_of_mem_drop (List.mem_of_find?_eq_some e3))
              · have e3 : (if k = 2 then _ else ltK (fun x => nI (s_k S x)) (ordT (s_T S)) (nI f) ((ordT (s_T S)).idxOf (ld (s_T S) i))) = some y := e3
                rw [if_neg c3] at e3
                obtain ⟨i1, -, -⟩ := idx_at ((ord_mem hW).mpr w1)
                have key : ∀ p, p ≤ (ordT (s_T S)).length → ltK (fun x => nI (s_k S x)) (ordT (s_T S)) (nI f) p = some y → y ∈ ordT (s_T S) := by
                  intro p
                  induction p with
                  | zero => intro _ w; cases w
                  | succ p ih =>
                    intro hp w
                    rw [ltK] at w
                    by_cases c4 : nI (s_k S ((ordT (s_T S)).getD p 0)) = nI f
                    · rw [if_pos c4] at w
                      rw [← Option.some.inj w]
                      exact getD_mem (by omega)
                    · rw [if_neg c4] at w
                      exact ih (by omega) w
                exact om y (key _ (by omega) e3)
        refine r_icmp_ne rfl (fun _ => ?_) (fun w => absurd w (nI_m1 y (by omega)))
        show Gm l D m_M_makeLine 0 0 Q 110 [some (va_rf (some o)), some (.int (nI q)), some (.int (nI y)), none] [] ρ 0 0
        have m25' : h_X ρ (o + 1 + 25) q = nI k := (hd2.1.mn hq).2.2.1
        refine r_aload_n rfl rfl ?_
        refine r_mg (j := 25) hM rfl rfl (by decide) ?_
        refine r_iload_n rfl rfl ?_
        refine r_mi (j := 25) hM rfl rfl (by decide) (by first | rfl | assumption) (show _ < 100 by omega) ?_
        refine r_iconst (v := nI 1) rfl (by decide) ?_
        rw [m25']
        refine r_neN rfl (by omega) (by omega) (fun w3 => ?_) (fun w3 => ?_)
        · have ea : lnM S (i, k, f, e, m) = if k = 1 then (wpL (s_w S f) ++ txR S 0 (rns S (mtL S m)), (rns S (mtL S m)).length) else (tdT S y, 1) := ea
          rw [if_neg w3] at ea
          have hk := hS.2.1 y hy.1
          have hwd := hd2.1.2.2.2.1 (s_k S y) hk
          have htx := hd2.tx hy.1
          have t2 : h_X ρ (o + 1 + 6) y = nI (s_k S y) := by rw [hd2.1.rt.2.1]
          have hb : ∀ v ∈ tdT S y, b8 v = v := by
            intro v hv
            have hv : v ∈ (if (s_w S (s_k S y)).length = 0 then [] else s_w S (s_k S y) ++ [nI 32]) ++ n_n S y := hv
            rcases List.mem_append.mp hv with hv | hv
            · by_cases c0 : (s_w S (s_k S y)).length = 0
              · rw [if_pos c0] at hv; cases hv
              · rw [if_neg c0] at hv
                rcases List.mem_append.mp hv with hv | hv
                · obtain ⟨j, hj, rfl⟩ := List.getElem_of_mem hv
                  rw [← getD_at hj]
                  refine fit_b8 ?_
                  have := (hR.2.2.2.1 (s_k S y) hk).2.2 j hj
                  rw [← this]
                  exact hfit _ (hR.1.2 1 (by decide)).2.1 _
                · rw [List.mem_singleton.mp hv]; decide
            · obtain ⟨j, hj, rfl⟩ := List.getElem_of_mem hv
              rw [← getD_at hj]
              refine fit_b8 ?_
              have := (hd.tx hy.1).2.2 j hj
              rw [← this]
              exact hfit _ (hR.1.2 18 (by decide)).2.1 _
          have hlen : (tdT S y).length ≤ 71 := by
            unfold tdT toldL
            have := hwd.2.1
            have := htx.2.1
            split <;> simp <;> omega
          refine r_aload_n rfl rfl ?_
          refine r_iload_n rfl rfl ?_
          refine r_callV (As := [_]) rfl (by decide) rfl (by first | exact hM.1 | assumption) rfl rfl (Nat.le_of_ble_eq_true rfl) ⟨Nat.le_of_ble_eq_true rfl, Nat.le_of_ble_eq_true rfl⟩ (c_M_lineThing hM (by omega) t2 hk hwd htx (fun j hj => hb _ (by rw [getD_at hj]; exact List.getElem_mem hj)) hlb2 (by show 0 + (tdT S y).length ≤ 2000; omega)) (kc' := 0) (ks' := 0) (by omega) (by omega) (by decide) ?_
          rintro r π ⟨rfl, k1, k2⟩
          have hf4 : MFr [30] [741, 742] ρ π o := k2.fr (by decide) (by decide)
          have hM : ML π o := hf4.mL hM
          refine r_aload_n rfl rfl ?_
          refine r_iconst (v := nI 1) rfl (by decide) ?_
          refine r_putI rfl hM.1 rfl (Or.inl rfl) (by first | rfl | decide) (by first | rfl | decide) ?_
          have hf5 : MFr [30] [741, 742] ρ (w_I π 742 o (nI 1)) o := hf4.tr (MFr.I _ _ (by decide))
          refine r_vret rfl rfl ?_
          rw [← hQ]
          show _ ∧ _ ∧ _ ∧ Lb (w_I π 742 o (nI 1)) o (lnM S (i, k, f, e, m)).1 ∧ h_I (w_I π 742 o (nI 1)) 742 o = nI (lnM S (i, k, f, e, m)).2
          rw [ea]
          refine ⟨rfl, RMd.kp hf5 (by decide) (by decide) hd2, hf3.tr (hf5.wide (by decide) (by decide)), ?_, hI_w _ _ _ _⟩
          rw [List.nil_append] at k1
          exact ⟨(hI_n _ _ (by decide)).trans k1.1, k1.2⟩
        · subst w3
          have ea : lnM S (i, 1, f, e, m) = (wpL (s_w S f) ++ txR S 0 (rns S (mtL S m)), (rns S (mtL S m)).length) := ea
          refine r_aload_n rfl rfl ?_
          refine r_iload_n rfl rfl ?_
          refine r_callV (As := [_]) rfl (by decide) rfl (by first | exact hM.1 | assumption) rfl rfl (Nat.le_of_ble_eq_true rfl) ⟨Nat.le_of_ble_eq_true rfl, Nat.le_of_ble_eq_true rfl⟩ (c_M_lineRunsS hd2 hq (hmt rfl) hlb2 h7422) (kc' := 0) (ks' := 0) (by omega) (by omega) (by decide) ?_
          rintro r π ⟨rfl, k1, k2, k3⟩
          refine r_vret rfl rfl ?_
          rw [← hQ]
          show _ ∧ _ ∧ _ ∧ Lb π o (lnM S (i, 1, f, e, m)).1 ∧ h_I π 742 o = nI (lnM S (i, 1, f, e, m)).2
          rw [ea]
          exact ⟨rfl, RMd.kp k3 (by decide) (by decide) hd2, hf3.tr (k3.wide (by decide) (by decide)), k1, k2⟩
    · rw [if_pos w2] at ea
      subst w2
      obtain ⟨hfn, d, hde, hdn⟩ := hmv.2.2.2.2.2.2.1 rfl
      cases hdf : d f with
      | none => exact absurd hdf hdn
      | some t =>
        obtain ⟨td, nm⟩ := t
        have hel : e < (s_e S).length := by
          by_cases a : e < (s_e S).length
          · exact a
          · rw [List.getElem?_eq_none (by omega)] at hde; cases hde
        have he8 := hS.2.2.2.2.2.2.2.2.1
        obtain ⟨-, s2, s3, s4, s5⟩ := hS.2.2.2.2.2.2.2.2.2.2 d (List.mem_of_getElem? hde) f td nm hdf
        have hed : edT S e f = td := by
          unfold edT
          rw [hde]
          show (match d f with
            | none => []
            | some t => t.1) = td
          rw [hdf]
        rw [hed] at ea
        obtain ⟨g1, g2, g3⟩ := (hR.2.2.2.2.2.2.2.2.1.2 e d hde f (by omega)).2 td nm hdf
        refine r_bipush (v := nI 120) rfl (by decide) ?_
        refine r_aload_n rfl rfl ?_
        refine r_mg (j := 27) hM rfl rfl (by decide) ?_
        refine r_iload_n rfl rfl ?_
        refine r_mi (j := 27) hM rfl rfl (by decide) (by first | rfl | assumption) (show _ < 100 by omega) ?_
        rw [m27 rfl]
        refine r_imulN rfl ?_
        refine r_aload_n rfl rfl ?_
        refine r_mg (j := 26) hM rfl rfl (by decide) ?_
        refine r_iload_n rfl rfl ?_
        refine r_mi (j := 26) hM rfl rfl (by decide) (by first | rfl | assumption) (show _ < 100 by omega) ?_
        rw [m26]
        refine r_iaddN rfl ?_
        refine r_istore_n rfl (by decide) ?_
        refine r_iconst (v := nI 0) rfl (by decide) ?_
        refine r_istore_n rfl (by decide) ?_
        have lp : ∀ (d j : Nat) (π : Hp), j + d = td.length → MFr [30] [741, 742] τ π o → Lb π o (td.take j) → Gm l D m_M_makeLine 0 0 Q 61 [some (va_rf (some o)), some (.int (nI q)), some (.int (nI (120 * e + f))), some (.int (nI j))] [] π 0 0 := by
          intro d
          induction d with
          | zero =>
            intro j π hj hf2 hb2
            have hM : ML π o := hf2.mL hM
            have v1 : h_X π (o + 1 + 33) (120 * e + f) = nI td.length := by rw [hf2.row (j := 33) (by decide)]; exact g1
            rw [List.take_of_length_le (by omega)] at hb2
            refine r_iload_n rfl rfl ?_
            refine r_aload_n rfl rfl ?_
            refine r_mg (j := 33) hM rfl rfl (by decide) ?_
            refine r_iload_n rfl rfl ?_
            refine r_mi (j := 33) hM rfl rfl (by decide) (by first | rfl | assumption) (show _ < 960 by omega) ?_
            rw [v1]
            refine r_geN rfl (by omega) (by omega) (fun _ => ?_) (fun w => by omega)
            refine r_aload_n rfl rfl ?_
            refine r_iconst (v := nI 1) rfl (by decide) ?_
            refine r_putI rfl hM.1 rfl (Or.inl rfl) (by first | rfl | decide) (by first | rfl | decide) ?_
            have hf5 : MFr [30] [741, 742] τ (w_I π 742 o (nI 1)) o := hf2.tr (MFr.I _ _ (by decide))
            refine r_vret rfl rfl ?_
            rw [← hQ]
            show _ ∧ _ ∧ _ ∧ Lb (w_I π 742 o (nI 1)) o (lnM S (i, 4, f, e, m)).1 ∧ h_I (w_I π 742 o (nI 1)) 742 o = nI (lnM S (i, 4, f, e, m)).2
            rw [ea]
            exact ⟨rfl, RMd.kp hf5 (by decide) (by decide) hd, hfw.tr (hf5.wide (by decide) (by decide)), ⟨(hI_n _ _ (by decide)).trans hb2.1, hb2.2⟩, hI_w _ _ _ _⟩
          | succ d ih =>
            intro j π hj hf2 hb2
            have hM : ML π o := hf2.mL hM
            have v1 : h_X π (o + 1 + 33) (120 * e + f) = nI td.length := by rw [hf2.row (j := 33) (by decide)]; exact g1
            have v3 : h_X π (o + 1 + 32) (60 * (120 * e + f) + j) = td.getD j 0 := by rw [hf2.row (j := 32) (by decide)]; exact g3 j (by omega)
            have hb8 : b8 (td.getD j 0) = td.getD j 0 := s5 _ (by rw [getD_at (by omega)]; exact List.getElem_mem _)
            refine r_iload_n rfl rfl ?_
            refine r_aload_n rfl rfl ?_
            refine r_mg (j := 33) hM rfl rfl (by decide) ?_
            refine r_iload_n rfl rfl ?_
            refine r_mi (j := 33) hM rfl rfl (by decide) (by first | rfl | assumption) (show _ < 960 by omega) ?_
            rw [v1]
            refine r_geN rfl (by omega) (by omega) (fun w => by omega) (fun _ => ?_)
            refine r_aload_n rfl rfl ?_
            refine r_aload_n rfl rfl ?_
            refine r_mg (j := 32) hM rfl rfl (by decide) ?_
            refine r_bipush (v := nI 60) rfl (by decide) ?_
            refine r_iload_n rfl rfl ?_
            (first | refine r_imulN rfl ?_ | refine r_imul rfl ?_)
            refine r_iload_n rfl rfl ?_
            (first | refine r_iaddN rfl ?_ | refine r_iadd rfl ?_)
            refine r_mb (j := 32) hM rfl rfl (by decide) (by first | rfl | assumption) (show _ < 57600 by omega) ?_
            rw [v3]
            refine r_callV (As := [_]) rfl (by decide) rfl (by first | exact hM.1 | assumption) rfl rfl (Nat.le_of_ble_eq_true rfl) ⟨Nat.le_of_ble_eq_true rfl, Nat.le_of_ble_eq_true rfl⟩ (c_M_lineByte hM hb2 (by rw [List.length_take]; omega)) (kc' := 0) (ks' := 0) (by omega) (by omega) (by decide) ?_
            rintro r ρ ⟨rfl, k1, k2⟩
            refine r_iinc rfl rfl (nI_inc _) ?_
            refine r_goto rfl ?_
            refine ih (j + 1) ρ (by omega) (hf2.tr (k2.fr (by decide) (by decide))) ?_
            rw [hb8, take_app (by omega)] at k1
            exact k1
        exact lp td.length 0 τ (by omega) (MFr.rf _ _ _ _) hlb
  · rw [if_pos (by unfold ldo; rw [if_neg (by rw [w1]; decide)])] at ea
    refine r_vret rfl rfl ?_
    rw [← hQ]
    show _ ∧ _ ∧ _ ∧ Lb τ o (lnM S (i, k, f, e, m)).1 ∧ h_I τ 742 o = nI (lnM S (i, k, f, e, m)).2
    rw [ea]
    exact ⟨rfl, hd, hfw, hlb, h742⟩
set_option maxRecDepth 10000 in
set_option maxHeartbeats 1000000 in
theorem c_M_aboutS {S : Sp} {v w : Int32} (h : RM σ o S) : Cn l D m_M_about 0 0 [va_rf (some o), .int v, .int w] σ (fun r τ => r = some (.int (a_about S v w)) ∧ RM τ o S ∧ MFr mAR mAI σ τ o) := by
  have hM := h.1
  have hS := h.2.1
  have h733 := h.2.2.2.2.2.2.2.1.1
  have hml := hS.2.2.2.2.2.2.2.1
  refine Cn.of (by decide) (by repeat (first | exact ca_0 | refine ca_i ?_ | refine ca_r ?_)) (Nat.le_of_ble_eq_true rfl) ?_
  refine r_iload_n rfl rfl ?_
  refine r_iconst (v := nI 0) rfl (by decide) ?_
  refine r_aload_n rfl rfl ?_
  (first | refine r_getIv rfl hM.1 rfl (by assumption) ?_ | refine r_getI rfl hM.1 rfl ?_)
  refine r_iconst (v := nI 1) rfl (by decide) ?_
  refine r_isub rfl ?_
  refine r_callS (As := [_, _, _]) rfl (by decide) rfl rfl rfl (Nat.le_of_ble_eq_true rfl) ⟨Nat.le_of_ble_eq_true rfl, Nat.le_of_ble_eq_true rfl⟩ (c_M_in) (kc' := 0) (ks' := 0) (by omega) (by omega) ?_
  rintro r σ ⟨rfl, rfl⟩
  rw [show nI 0 = 0 from rfl, inB_n (by omega)]
  refine r_ifneB rfl (fun q0 => ?_) (fun q0 => ?_)
  · obtain ⟨q, i, k, f, e, m, rfl, hq, hmn⟩ := mnI_in hml q0
    obtain ⟨q1, m24, m25, m26, m27, m1, m2, hi, m4, m3⟩ := h.mn hq
    have ea : a_about S (nI q) w = if w < 0 then -10 else a_abN S (i, k, f, e, m) w.toNatClampNeg := by unfold a_about; rw [hmn]
    refine r_iload_n rfl rfl ?_
    rcases sw_in (w := w) 5 (by decide) with ⟨w1, w2⟩ | ⟨j, j1, rfl⟩
    · refine r_tswOut rfl w1 (tgt := 106) (by decide) ?_
      refine r_bipush (v := -10) rfl (by decide) ?_
      refine r_iret rfl rfl ⟨?_, h, MFr.rf _ _ _ _⟩
      rw [ea]
      rcases w2 with w2 | ⟨j, j1, j2, rfl⟩
      · rw [if_pos w2]
      · rw [if_neg (nI_pos j2), nI_clamp j2]
        match j, j1 with
        | j + 6, _ => rfl
    · rw [if_neg (nI_pos (by omega)), nI_clamp (by omega)] at ea
      match j, j1, ea with
      | 0, _, ea =>
        refine r_tswIn rfl (by decide) (by decide) (off := 38) (by decide) (tgt := 56) (by decide) ?_
        refine r_aload_n rfl rfl ?_
        refine r_mg (j := 25) hM rfl rfl (by decide) ?_
        refine r_iload_n rfl rfl ?_
        refine r_mi (j := 25) hM rfl rfl (by decide) (by first | rfl | assumption) (show _ < 100 by omega) ?_
        rw [m25]
        exact r_iret rfl rfl ⟨by rw [ea]; rfl, h, MFr.rf _ _ _ _⟩
      | 1, _, ea =>
        refine r_tswIn rfl (by decide) (by decide) (off := 45) (by decide) (tgt := 63) (by decide) ?_
        refine r_aload_n rfl rfl ?_
        refine r_aload_n rfl rfl ?_
        refine r_mg (j := 24) hM rfl rfl (by decide) ?_
        refine r_iload_n rfl rfl ?_
        refine r_mi (j := 24) hM rfl rfl (by decide) (by first | rfl | assumption) (show _ < 100 by omega) ?_
        rw [m24]
        refine r_callV (As := [_]) rfl (by decide) rfl (by first | exact hM.1 | assumption) rfl rfl (Nat.le_of_ble_eq_true rfl) ⟨Nat.le_of_ble_eq_true rfl, Nat.le_of_ble_eq_true rfl⟩ (h.fo hi) (kc' := 0) (ks' := 0) (by omega) (by omega) (by decide) ?_
        rintro r σ ⟨rfl, rfl⟩
        exact r_iret rfl rfl ⟨by rw [ea]; rfl, h, MFr.rf _ _ _ _⟩
      | 2, _, ea =>
        refine r_tswIn rfl (by decide) (by decide) (off := 56) (by decide) (tgt := 74) (by decide) ?_
        refine r_aload_n rfl rfl ?_
        refine r_iload_n rfl rfl ?_
        refine r_callV (As := [_]) rfl (by decide) rfl (by first | exact hM.1 | assumption) rfl rfl (Nat.le_of_ble_eq_true rfl) ⟨Nat.le_of_ble_eq_true rfl, Nat.le_of_ble_eq_true rfl⟩ (c_M_leadsOfS h hq) (kc' := 0) (ks' := 0) (by omega) (by omega) (by decide) ?_
        rintro r τ ⟨rfl, t1, t2, -⟩
        exact r_iret rfl rfl ⟨by rw [ea]; rfl, t1.1, t2.wide (by decide) (by decide)⟩
      | 3, _, ea =>
        refine r_tswIn rfl (by decide) (by decide) (off := 62) (by decide) (tgt := 80) (by decide) ?_
        refine r_aload_n rfl rfl ?_
        refine r_iload_n rfl rfl ?_
        refine r_callV (As := [_]) rfl (by decide) rfl (by first | exact hM.1 | assumption) rfl rfl (Nat.le_of_ble_eq_true rfl) ⟨Nat.le_of_ble_eq_true rfl, Nat.le_of_ble_eq_true rfl⟩ (c_M_makeLineS h hq) (kc' := 0) (ks' := 0) (by omega) (by omega) (by decide) ?_
        rintro r τ ⟨rfl, t1, t2, t3, t4⟩
        have hM := t1.1.1
        refine r_aload_n rfl rfl ?_
        (first | refine r_getIv rfl hM.1 rfl (by assumption) ?_ | refine r_getI rfl hM.1 rfl ?_)
        exact r_iret rfl rfl ⟨by rw [ea]; rfl, t1.1, t2.wide (by decide) (by decide)⟩
      | 4, _, ea =>
        refine r_tswIn rfl (by decide) (by decide) (off := 72) (by decide) (tgt := 90) (by decide) ?_
        refine r_aload_n rfl rfl ?_
        refine r_iload_n rfl rfl ?_
        refine r_callV (As := [_]) rfl (by decide) rfl (by first | exact hM.1 | assumption) rfl rfl (Nat.le_of_ble_eq_true rfl) ⟨Nat.le_of_ble_eq_true rfl, Nat.le_of_ble_eq_true rfl⟩ (c_M_goneOfS h hq) (kc' := 0) (ks' := 0) (by omega) (by omega) (by decide) ?_
        rintro r σ ⟨rfl, rfl⟩
        exact r_iret rfl rfl ⟨by rw [ea]; rfl, h, MFr.rf _ _ _ _⟩
      | 5, _, ea =>
        refine r_tswIn rfl (by decide) (by decide) (off := 78) (by decide) (tgt := 96) (by decide) ?_
        refine r_aload_n rfl rfl ?_
        refine r_iload_n rfl rfl ?_
        refine r_callV (As := [_]) rfl (by decide) rfl (by first | exact hM.1 | assumption) rfl rfl (Nat.le_of_ble_eq_true rfl) ⟨Nat.le_of_ble_eq_true rfl, Nat.le_of_ble_eq_true rfl⟩ (c_M_makeLineS h hq) (kc' := 0) (ks' := 0) (by omega) (by omega) (by decide) ?_
        rintro r τ ⟨rfl, t1, t2, t3, t4⟩
        have hM := t1.1.1
        have t3 := t3.1
        refine r_aload_n rfl rfl ?_
        (first | refine r_getIv rfl hM.1 rfl (by assumption) ?_ | refine r_getI rfl hM.1 rfl ?_)
        exact r_iret rfl rfl ⟨by rw [ea]; rfl, t1.1, t2.wide (by decide) (by decide)⟩
      | j + 6, h9, _ => omega
  · refine r_bipush (v := -10) rfl (by decide) ?_
    refine r_iret rfl rfl ⟨?_, h, MFr.rf _ _ _ _⟩
    unfold a_about
    rw [mnI_no hml q0]
theorem c_M_textS {S : Sp} {v i : Int32} (h : RM σ o S) : Cn l D m_M_text 0 0 [va_rf (some o), .int v, .int i] σ (fun r τ => r = some (.int (a_text S v i)) ∧ RM τ o S ∧ MFr mAR mAI σ τ o) := by
  have hM := h.1
  have hS := h.2.1
  have h733 := h.2.2.2.2.2.2.2.1.1
  have hml := hS.2.2.2.2.2.2.2.1
  refine Cn.of (by decide) (by repeat (first | exact ca_0 | refine ca_i ?_ | refine ca_r ?_)) (Nat.le_of_ble_eq_true rfl) ?_
  refine r_iload_n rfl rfl ?_
  refine r_iconst (v := nI 0) rfl (by decide) ?_
  refine r_aload_n rfl rfl ?_
  (first | refine r_getIv rfl hM.1 rfl (by assumption) ?_ | refine r_getI rfl hM.1 rfl ?_)
  refine r_iconst (v := nI 1) rfl (by decide) ?_
  refine r_isub rfl ?_
  refine r_callS (As := [_, _, _]) rfl (by decide) rfl rfl rfl (Nat.le_of_ble_eq_true rfl) ⟨Nat.le_of_ble_eq_true rfl, Nat.le_of_ble_eq_true rfl⟩ (c_M_in) (kc' := 0) (ks' := 0) (by omega) (by omega) ?_
  rintro r σ ⟨rfl, rfl⟩
  rw [show nI 0 = 0 from rfl, inB_n (by omega)]
  refine r_ifneB rfl (fun q0 => ?_) (fun q0 => ?_)
  · obtain ⟨q, i', k, f, e, m, rfl, hq, hmn⟩ := mnI_in hml q0
    have ea : a_text S (nI q) i = byI (lnM S (i', k, f, e, m)).1 i := by unfold a_text; rw [hmn]
    refine r_aload_n rfl rfl ?_
    refine r_iload_n rfl rfl ?_
    refine r_callV (As := [_]) rfl (by decide) rfl (by first | exact hM.1 | assumption) rfl rfl (Nat.le_of_ble_eq_true rfl) ⟨Nat.le_of_ble_eq_true rfl, Nat.le_of_ble_eq_true rfl⟩ (c_M_makeLineS h hq) (kc' := 0) (ks' := 0) (by omega) (by omega) (by decide) ?_
    rintro r τ ⟨rfl, t1, t2, t3, -⟩
    have hM := t1.1.1
    have hR := t1.1
    have hfw : MFr mAR mAI σ τ o := t2.wide (by decide) (by decide)
    obtain ⟨t4, t5, t6⟩ := t3
    generalize (lnM S (i', k, f, e, m)).1 = xs at t4 t5 t6 ea
    refine r_iload_n rfl rfl ?_
    refine r_iconst (v := nI 0) rfl (by decide) ?_
    refine r_aload_n rfl rfl ?_
    (first | refine r_getIv rfl hM.1 rfl (by assumption) ?_ | refine r_getI rfl hM.1 rfl ?_)
    refine r_iconst (v := nI 1) rfl (by decide) ?_
    refine r_isub rfl ?_
    refine r_callS (As := [_, _, _]) rfl (by decide) rfl rfl rfl (Nat.le_of_ble_eq_true rfl) ⟨Nat.le_of_ble_eq_true rfl, Nat.le_of_ble_eq_true rfl⟩ (c_M_in) (kc' := 0) (ks' := 0) (by omega) (by omega) ?_
    rintro r τ ⟨rfl, rfl⟩
    rw [inB_m (by omega)]
    refine r_ifeqB rfl (fun q => ?_) (fun q => ?_)
    · refine r_iconst (v := -1) rfl (by decide) ?_
      refine r_iret rfl rfl ⟨?_, hR, hfw⟩
      rw [ea]
      unfold byI
      by_cases a : i < 0
      · rw [if_pos a]
      · rw [if_neg a]
        obtain ⟨j, hj, rfl⟩ := nI_of a
        rw [decide_eq_true (nI_pos' hj), Bool.true_and, decide_eq_false_iff_not, nI_ltI hj (by omega)] at q
        rw [nI_clamp hj, List.getD_eq_getElem?_getD, List.getElem?_eq_none (by omega)]
        rfl
    · simp only [Bool.and_eq_true, decide_eq_true_eq] at q
      obtain ⟨j, hj, rfl⟩ := nI_of (Int32.not_lt.mpr q.1)
      have hjl := (nI_ltI hj (by omega)).mp q.2
      refine r_aload_n rfl rfl ?_
      refine r_mg (j := 30) hM rfl rfl (by decide) ?_
      refine r_iload_n rfl rfl ?_
      refine r_mb (j := 30) hM rfl rfl (by decide) rfl (Nat.lt_of_lt_of_le hjl (Nat.le_trans t5 (Nat.le_of_ble_eq_true rfl))) ?_
      refine r_goto rfl ?_
      refine r_iret rfl rfl ⟨?_, hR, hfw⟩
      rw [ea, t6 j hjl]
      unfold byI
      rw [if_neg (nI_pos hj), nI_clamp hj, List.getD_eq_getElem?_getD, List.getD_eq_getElem?_getD, List.getElem?_eq_getElem hjl]
      rfl
  · refine r_iconst (v := -1) rfl (by decide) ?_
    refine r_iret rfl rfl ⟨?_, h, MFr.rf _ _ _ _⟩
    unfold a_text
    rw [mnI_no hml q0]
theorem tr_take {S : Sp} {k : Nat} {q : Mn} (h : (s_m S)[k]? = some q) : (((s_m S).take (k + 1)).filter (trB S)).length = (((s_m S).take k).filter (trB S)).length + (trB S q).toNat := by
  have hk : k < (s_m S).length := by
    by_cases a : k < (s_m S).length
    · exact a
    · rw [List.getElem?_eq_none (by omega)] at h; cases h
  have e : (s_m S)[k] = q := by rw [List.getElem?_eq_getElem hk] at h; exact Option.some.inj h
  rw [List.take_succ_eq_append_getElem hk, List.filter_append, List.length_append, e, List.filter_cons]
  cases trB S q <;> simp
set_option maxHeartbeats 1000000 in
theorem c_M_troubS {S : Sp} (h : RM σ o S) : Cn l D m_M_trouble 0 0 [va_rf (some o)] σ (fun r τ => r = some (.int (a_troub S)) ∧ RM τ o S ∧ MFr mAR mAI σ τ o) := by
  have hS := h.2.1
  have hW := hS.wf
  have hml := hS.2.2.2.2.2.2.2.1
  generalize hQ : (fun (r : Option Value) (τ : Hp) => r = some (.int (a_troub S)) ∧ RM τ o S ∧ MFr mAR mAI σ τ o) = Q
  refine Cn.of (by decide) (by repeat (first | exact ca_0 | refine ca_i ?_ | refine ca_r ?_)) (Nat.le_of_ble_eq_true rfl) ?_
  refine r_iconst (v := nI 0) rfl (by decide) ?_
  refine r_istore_n rfl (by decide) ?_
  refine r_iconst (v := nI 0) rfl (by decide) ?_
  refine r_istore_n rfl (by decide) ?_
  have lp : ∀ (d k : Nat) (π : Hp), k + d = (s_m S).length → RM π o S → MFr mAR mAI σ π o → Gm l D m_M_trouble 0 0 Q 4 [some (va_rf (some o)), some (.int (nI (((s_m S).take k).filter (trB S)).length)), some (.int (nI k))] [] π 0 0 := by
    intro d
    induction d with
    | zero =>
      intro k π hk hR hf
      have hM := hR.1
      have h733 := hR.2.2.2.2.2.2.2.1.1
      refine r_iload_n rfl rfl ?_
      refine r_aload_n rfl rfl ?_
      (first | refine r_getIv rfl hM.1 rfl (by assumption) ?_ | refine r_getI rfl hM.1 rfl ?_)
      refine r_geN rfl (by omega) (by omega) (fun _ => ?_) (fun w => by omega)
      refine r_iload_n rfl rfl ?_
      refine r_iret rfl rfl ?_
      rw [← hQ]
      refine ⟨?_, hR, hf⟩
      rw [List.take_of_length_le (by omega)]
      rfl
    | succ d ih =>
      intro k π hk hR hf
      have hM := hR.1
      have h733 := hR.2.2.2.2.2.2.2.1.1
      have hkl : k < (s_m S).length := by omega
      obtain ⟨⟨i, k', f, e, m⟩, hq⟩ : ∃ q, (s_m S)[k]? = some q := ⟨_, List.getElem?_eq_getElem hkl⟩
      have htk := tr_take hq
      have ih := fun π => ih (k + 1) π (by omega)
      rw [htk] at ih
      generalize (((s_m S).take k).filter (trB S)).length = c at ih ⊢
      obtain ⟨q1, m24, m25, m26, m27, m1, m2, hi, m4, m3⟩ := hR.mn hq
      have hld := (ld_lt hW hi).1
      have eb : trB S (i, k', f, e, m) = (decide (ldo (s_T S) i ≠ none) && (decide ((lnM S (i, k', f, e, m)).2 = 0) || decide (0 < gonM S (i, k', f, e, m)) || (decide (k' = 1) && decide (1 < (lnM S (i, k', f, e, m)).2)))) := rfl
      refine r_iload_n rfl rfl ?_
      refine r_aload_n rfl rfl ?_
      (first | refine r_getIv rfl hM.1 rfl (by assumption) ?_ | refine r_getI rfl hM.1 rfl ?_)
      refine r_geN rfl (by omega) (by omega) (fun w => by omega) (fun _ => ?_)
      refine r_aload_n rfl rfl ?_
      refine r_aload_n rfl rfl ?_
      refine r_aload_n rfl rfl ?_
      refine r_mg (j := 24) hM rfl rfl (by decide) ?_
      refine r_iload_n rfl rfl ?_
      refine r_mi (j := 24) hM rfl rfl (by decide) (by first | rfl | assumption) (show _ < 100 by omega) ?_
      rw [m24]
      refine r_callV (As := [_]) rfl (by decide) rfl (by first | exact hM.1 | assumption) rfl rfl (Nat.le_of_ble_eq_true rfl) ⟨Nat.le_of_ble_eq_true rfl, Nat.le_of_ble_eq_true rfl⟩ (hR.fo hi) (kc' := 0) (ks' := 0) (by omega) (by omega) (by decide) ?_
      rintro r π ⟨rfl, rfl⟩
      refine r_callV (As := [_]) rfl (by decide) rfl (by first | exact hM.1 | assumption) rfl rfl (Nat.le_of_ble_eq_true rfl) ⟨Nat.le_of_ble_eq_true rfl, Nat.le_of_ble_eq_true rfl⟩ (hR.th hld) (kc' := 0) (ks' := 0) (by omega) (by omega) (by decide) ?_
      rintro r π ⟨rfl, rfl⟩
      refine r_ifneB rfl (fun w1 => ?_) (fun w1 => ?_)
      · have hlo : ldo (s_T S) i ≠ none := by unfold ldo; rw [if_pos w1]; exact fun q => by cases q
        rw [decide_eq_true hlo, Bool.true_and] at eb
        refine r_aload_n rfl rfl ?_
        refine r_iload_n rfl rfl ?_
        refine r_callV (As := [_]) rfl (by decide) rfl (by first | exact hM.1 | assumption) rfl rfl (Nat.le_of_ble_eq_true rfl) ⟨Nat.le_of_ble_eq_true rfl, Nat.le_of_ble_eq_true rfl⟩ (c_M_makeLineS hR hq) (kc' := 0) (ks' := 0) (by omega) (by omega) (by decide) ?_
        rintro r ρ ⟨rfl, t1, t2, t3, t4⟩
        have hR2 := t1.1
        have hM := hR2.1
        have hf2 : MFr mAR mAI σ ρ o := hf.tr (t2.wide (by decide) (by decide))
        have hrb : (lnM S (i, k', f, e, m)).2 < 2 ^ 20 := by
          have := mtL_len hS (m := m)
          have := rns_len S (mtL S m)
          unfold lnM
          show (if ldo (s_T S) i = none then (([] : List Int32), 0) else if k' = 4 then _ else _).2 < 2 ^ 20
          rw [if_neg hlo]
          by_cases c4 : k' = 4
          · rw [if_pos c4]; exact (show 1 < 2 ^ 20 by decide)
          · rw [if_neg c4]
            cases ledM S (i, k', f, e, m) with
            | none => exact (show 0 < 2 ^ 20 by decide)
            | some y =>
              show (if k' = 1 then _ else _ : List Int32 × Nat).2 < _
              by_cases c5 : k' = 1
              · rw [if_pos c5]
                show (rns S (mtL S m)).length < _
                omega
              · rw [if_neg c5]; exact (show 1 < 2 ^ 20 by decide)
        have hgb : gonM S (i, k', f, e, m) < 2 ^ 20 := by
          unfold gonM
          show (if k' = 0 ∨ k' = 4 then (if ldo (s_T S) f = none then 1 else 0) else goN S m) < 2 ^ 20
          have : goN S m ≤ m.length := List.length_filter_le _ _
          split
          · split <;> decide
          · omega
        generalize (lnM S (i, k', f, e, m)).2 = rn at t4 eb hrb
        have fin : ∀ (b : Bool), trB S (i, k', f, e, m) = b → Gm l D m_M_trouble 0 0 Q 76 [some (va_rf (some o)), some (.int (nI c)), some (.int (nI k))] [.int (nI b.toNat), .int (nI c)] ρ 0 0 := by
          intro b hb
          rw [hb] at ih
          (first | refine r_iaddN rfl ?_ | refine r_iadd rfl ?_)
          refine r_istore_n rfl (by decide) ?_
          refine r_iinc rfl rfl (nI_inc _) ?_
          refine r_goto rfl ?_
          exact ih ρ hR2 hf2
        have yes : trB S (i, k', f, e, m) = true → Gm l D m_M_trouble 0 0 Q 71 [some (va_rf (some o)), some (.int (nI c)), some (.int (nI k))] [.int (nI c)] ρ 0 0 := by
          intro hb
          refine r_iconst (v := nI 1) rfl (by decide) ?_
          refine r_goto rfl ?_
          exact fin true hb
        have noo : trB S (i, k', f, e, m) = false → Gm l D m_M_trouble 0 0 Q 75 [some (va_rf (some o)), some (.int (nI c)), some (.int (nI k))] [.int (nI c)] ρ 0 0 := by
          intro hb
          refine r_iconst (v := nI 0) rfl (by decide) ?_
          exact fin false hb
        refine r_iload_n rfl rfl ?_
        refine r_aload_n rfl rfl ?_
        (first | refine r_getIv rfl hM.1 rfl (by assumption) ?_ | refine r_getI rfl hM.1 rfl ?_)
        refine r_if_eq rfl (fun w2 => yes ?_) (fun w2 => ?_)
        · have : rn = 0 := by
            by_cases z : rn = 0
            · exact z
            · exact absurd w2 (nI_ne0 (by omega) (by omega))
          rw [eb, decide_eq_true this]; rfl
        have w2 : ¬ rn = 0 := fun z => w2 (by rw [z]; rfl)
        rw [decide_eq_false w2, Bool.false_or] at eb
        refine r_aload_n rfl rfl ?_
        refine r_iload_n rfl rfl ?_
        refine r_callV (As := [_]) rfl (by decide) rfl (by first | exact hM.1 | assumption) rfl rfl (Nat.le_of_ble_eq_true rfl) ⟨Nat.le_of_ble_eq_true rfl, Nat.le_of_ble_eq_true rfl⟩ (c_M_goneOfS hR2 hq) (kc' := 0) (ks' := 0) (by omega) (by omega) (by decide) ?_
        rintro r ρ ⟨rfl, rfl⟩
        refine r_if_gt rfl (fun w3 => yes ?_) (fun w3 => ?_)
        · have : 0 < gonM S (i, k', f, e, m) := by
            by_cases z : gonM S (i, k', f, e, m) = 0
            · rw [z] at w3; exact absurd w3 (by decide)
            · omega
          rw [eb, decide_eq_true this]; rfl
        have w3 : ¬ 0 < gonM S (i, k', f, e, m) := fun z => w3 (nI_lt z (by omega))
        rw [decide_eq_false w3, Bool.false_or] at eb
        have m25' : h_X ρ (o + 1 + 25) k = nI k' := (hR2.mn hq).2.2.1
        refine r_aload_n rfl rfl ?_
        refine r_mg (j := 25) hM rfl rfl (by decide) ?_
        refine r_iload_n rfl rfl ?_
        refine r_mi (j := 25) hM rfl rfl (by decide) (by first | rfl | assumption) (show _ < 100 by omega) ?_
        refine r_iconst (v := nI 1) rfl (by decide) ?_
        rw [m25']
        refine r_neN rfl (by omega) (by omega) (fun w4 => noo (by rw [eb, decide_eq_false w4]; rfl)) (fun w4 => ?_)
        refine r_aload_n rfl rfl ?_
        (first | refine r_getIv rfl hM.1 rfl (by assumption) ?_ | refine r_getI rfl hM.1 rfl ?_)
        refine r_iconst (v := nI 1) rfl (by decide) ?_
        refine r_leN rfl (by omega) (by omega) (fun w5 => noo (by rw [eb, decide_eq_false (show ¬ 1 < rn by omega), Bool.and_false])) (fun w5 => yes (by rw [eb, decide_eq_true w4, decide_eq_true w5]; rfl))
      · have hlo : ldo (s_T S) i = none := by unfold ldo; rw [if_neg (by rw [w1]; decide)]
        rw [decide_eq_false (fun w => w hlo)] at eb
        rw [eb] at ih
        refine r_goto rfl ?_
        refine r_iinc rfl rfl (nI_inc _) ?_
        refine r_goto rfl ?_
        exact ih π hR hf
  exact lp (s_m S).length 0 σ (by omega) h (MFr.rf _ _ _ _)
end MC
