/-! ===== the reference: join, undo ===== -/
theorem join_iff {n : Nat} {kd : Nat → Nat} {T : Tr} (hW : Wf n kd T) {pl : Nat → Int32} (hp : ∀ p, liv T p → ∀ i z, (t_k T p)[i]? = some z → pl z = nI i) {x y : Nat} (hx : t_h T x = true) (hy : t_h T y = true) : (onT n T x = onT n T y ∧ pl y = pl x + nI 1) ↔ sib T x = some y := by
  obtain ⟨p, i, p1, p2, p3⟩ := hW.pos hx
  obtain ⟨q, j, q1, q2, q3⟩ := hW.pos hy
  have hi := getE_lt p2
  have hj := getE_lt q2
  have l1 := hW.len p
  have l2 := hW.len q
  have hn := hW.1
  rw [onT_on hW p1 (List.mem_of_getElem? p2), onT_on hW q1 (List.mem_of_getElem? q2), hp p p1 i x p2, hp q q1 j y q2, sib_pos hW p2, nI_add]
  constructor
  · rintro ⟨a, b⟩
    have a := cd_inj (hW.liv_le p1) (hW.liv_le q1) a
    have b := (nI_eq (by omega) (by omega)).mp b
    rw [a, ← b]
    exact q2
  · intro h
    have a := par_of hW (List.mem_of_getElem? h)
    rw [a] at q3
    have a := Option.some.inj q3
    subst a
    refine ⟨rfl, ?_⟩
    have := (List.getElem?_inj hj (hW.2.2.1 p)).mp (q2.trans h.symm)
    rw [this]
theorem jn_VJ {n : Nat} {kd : Nat → Nat} {T : Tr} (hW : Wf n kd T) {x y : Nat} (hx : t_h T x = true) (hy : t_h T y = true) (hk : kd x = kd y) (h : sib T x = some y) : VJ kd T x y := by
  obtain ⟨p, i, p1, p2, p3⟩ := hW.pos hx
  rw [sib_pos hW p2] at h
  exact ⟨hx, hy, hk, p, i, p1, p2, h⟩
section MC
variable {l : Launch} {D : DD} {σ : Hp} {o : Nat}
set_option maxHeartbeats 1000000 in
theorem c_M_joinS {S : Sp} {v w : Int32} (h : RM σ o S) : Cn l D m_M_join 0 0 [va_rf (some o), .int v, .int w] σ (fun r τ => r = some (.int (a_join S v w).1) ∧ RM τ o (a_join S v w).2 ∧ MFr mAR mAI σ τ o) := by
  have hM := h.1
  have hS := h.2.1
  have hW := hS.wf
  have hn9 := hS.1
  have hG : RG σ o (s_n S, s_k S, s_l S) := h.2.2.2.2.2.1
  have hn : h_I σ 711 o = nI (s_n S) := hG.1.1
  have he : h_I σ 716 o = nI (s_l S).length := hG.2.1
  have hl := hS.2.2.2.1
  obtain ⟨-, r2, r3, r4, r5, r6, r7⟩ := hG.1
  have r5 : h_X σ (o + 1 + 7) = onT (s_n S) (s_T S) := r5
  have r2 : h_X σ (o + 1 + 6) = fun x => nI (s_k S x) := r2
  have r6 : ∀ p, liv (s_T S) p → ∀ i z, (t_k (s_T S) p)[i]? = some z → h_X σ (o + 1 + 8) z = nI i := r6
  generalize hQ : (fun (r : Option Value) (τ : Hp) => r = some (.int (a_join S v w).1) ∧ RM τ o (a_join S v w).2 ∧ MFr mAR mAI σ τ o) = Q
  refine Cn.of (by decide) (by repeat (first | exact ca_0 | refine ca_i ?_ | refine ca_r ?_)) (Nat.le_of_ble_eq_true rfl) ?_
  have no : a_join S v w = (-2, S) → Gm l D m_M_join 0 0 Q 68 [some (va_rf (some o)), some (.int v), some (.int w)] [] σ 0 0 := by
    intro e
    refine r_bipush (v := -2) rfl (by decide) ?_
    refine r_iret rfl rfl ?_
    rw [← hQ]
    show _ = some (Value.int (a_join S v w).1) ∧ RM σ o (a_join S v w).2 ∧ _
    rw [e]
    exact ⟨rfl, h, MFr.rf _ _ _ _⟩
  refine r_aload_n rfl rfl ?_
  refine r_iload_n rfl rfl ?_
  refine r_callV (As := [_]) rfl (by decide) rfl (by first | exact hM.1 | assumption) rfl rfl (Nat.le_of_ble_eq_true rfl) ⟨Nat.le_of_ble_eq_true rfl, Nat.le_of_ble_eq_true rfl⟩ (c_M_isThere hM hn hn9) (kc' := 0) (ks' := 0) (by omega) (by omega) (by decide) ?_
  rintro r σ ⟨rfl, rfl⟩
  rw [r5]
  refine r_ifeqB rfl (fun q => no (by unfold a_join; rw [isTh_none q])) (fun q1 => ?_)
  obtain ⟨x, x1, x2, rfl, x4⟩ := isTh_some hS q1
  refine r_aload_n rfl rfl ?_
  refine r_iload_n rfl rfl ?_
  refine r_callV (As := [_]) rfl (by decide) rfl (by first | exact hM.1 | assumption) rfl rfl (Nat.le_of_ble_eq_true rfl) ⟨Nat.le_of_ble_eq_true rfl, Nat.le_of_ble_eq_true rfl⟩ (c_M_isThere hM hn hn9) (kc' := 0) (ks' := 0) (by omega) (by omega) (by decide) ?_
  rintro r σ ⟨rfl, rfl⟩
  rw [r5]
  refine r_ifeqB rfl (fun q => no (by unfold a_join; rw [x4, isTh_none q])) (fun q2 => ?_)
  obtain ⟨y, y1, y2, rfl, y4⟩ := isTh_some hS q2
  have hji := join_iff hW r6 x2 y2
  have ea : a_join S (nI x) (nI y) = if jnB S x y = true then (if (s_l S).length = 200 then (-3, S) else (nI ((t_k (s_T S) x).length + (t_k (s_T S) y).length), sG S (s_n S, s_k S, (4, x, y, 0) :: s_l S))) else (-2, S) := by
    unfold a_join
    rw [x4, y4]
  refine r_iload_n rfl rfl ?_
  refine r_iload_n rfl rfl ?_
  refine r_eqN rfl (by omega) (by omega) (fun q => no ?_) (fun q3 => ?_)
  · rw [ea, if_neg ?_]
    intro w
    simp only [jnB, Bool.and_eq_true, decide_eq_true_eq] at w
    subst q
    obtain ⟨p, i, p1, p2, p3⟩ := hW.pos x2
    have := w.2
    rw [sib_pos hW p2] at this
    have := (List.getElem?_inj (getE_lt p2) (hW.2.2.1 p)).mp (p2.trans this.symm)
    omega
  refine r_aload_n rfl rfl ?_
  refine r_mg (j := 6) hM rfl rfl (by decide) ?_
  refine r_iload_n rfl rfl ?_
  refine r_mi (j := 6) hM rfl rfl (by decide) (by first | rfl | assumption) (show _ < 120 by omega) ?_
  refine r_aload_n rfl rfl ?_
  refine r_mg (j := 6) hM rfl rfl (by decide) ?_
  refine r_iload_n rfl rfl ?_
  refine r_mi (j := 6) hM rfl rfl (by decide) (by first | rfl | assumption) (show _ < 120 by omega) ?_
  rw [r2]
  refine r_neN rfl (by have := hS.2.1 x x1; omega) (by have := hS.2.1 y y1; omega) (fun q => no ?_) (fun q4 => ?_)
  · rw [ea, if_neg (fun w => ?_)]
    simp only [jnB, Bool.and_eq_true, decide_eq_true_eq] at w
    exact q w.1
  refine r_aload_n rfl rfl ?_
  refine r_mg (j := 7) hM rfl rfl (by decide) ?_
  refine r_iload_n rfl rfl ?_
  refine r_mi (j := 7) hM rfl rfl (by decide) (by first | rfl | assumption) (show _ < 120 by omega) ?_
  refine r_aload_n rfl rfl ?_
  refine r_mg (j := 7) hM rfl rfl (by decide) ?_
  refine r_iload_n rfl rfl ?_
  refine r_mi (j := 7) hM rfl rfl (by decide) (by first | rfl | assumption) (show _ < 120 by omega) ?_
  rw [r5]
  refine r_icmp_ne rfl (fun q => no ?_) (fun q5 => ?_)
  · rw [ea, if_neg (fun w => ?_)]
    simp only [jnB, Bool.and_eq_true, decide_eq_true_eq] at w
    exact q (hji.mpr w.2).1
  refine r_aload_n rfl rfl ?_
  refine r_mg (j := 8) hM rfl rfl (by decide) ?_
  refine r_iload_n rfl rfl ?_
  refine r_mi (j := 8) hM rfl rfl (by decide) (by first | rfl | assumption) (show _ < 120 by omega) ?_
  refine r_aload_n rfl rfl ?_
  refine r_mg (j := 8) hM rfl rfl (by decide) ?_
  refine r_iload_n rfl rfl ?_
  refine r_mi (j := 8) hM rfl rfl (by decide) (by first | rfl | assumption) (show _ < 120 by omega) ?_
  refine r_iconst (v := nI 1) rfl (by decide) ?_
  refine r_iadd rfl ?_
  refine r_icmp_eq rfl (fun q6 => ?_) (fun q => no ?_)
  · have hs := hji.mp ⟨q5, q6⟩
    have hj : jnB S x y = true := by
      unfold jnB
      rw [decide_eq_true q4, decide_eq_true hs]
      rfl
    rw [if_pos hj] at ea
    refine r_aload_n rfl rfl ?_
    (first | refine r_getIv rfl hM.1 rfl (by assumption) ?_ | refine r_getI rfl hM.1 rfl ?_)
    refine r_sipush (v := nI 200) rfl (by decide) ?_
    refine r_neN rfl (by omega) (by omega) (fun w => ?_) (fun w => ?_)
    · refine r_aload_n rfl rfl ?_
      refine r_iconst (v := nI 4) rfl (by decide) ?_
      refine r_iload_n rfl rfl ?_
      refine r_iload_n rfl rfl ?_
      refine r_iconst (v := nI 0) rfl (by decide) ?_
      refine r_callV (As := [_, _, _, _]) rfl (by decide) rfl (by first | exact hM.1 | assumption) rfl rfl (Nat.le_of_ble_eq_true rfl) ⟨Nat.le_of_ble_eq_true rfl, Nat.le_of_ble_eq_true rfl⟩ (c_M_changeT (e := (4, x, y, 0)) hM hS.1 hG hS.2.2.1 (by omega) (Or.inr (Or.inr (Or.inr ⟨rfl, jn_VJ hW x2 y2 q4 hs⟩)))) (kc' := 0) (ks' := 0) (by omega) (by omega) (by decide) ?_
      rintro r τ ⟨rfl, t1, t2, t3⟩
      refine r_iret rfl rfl ?_
      rw [← hQ]
      show _ = some (Value.int (a_join S (nI x) (nI y)).1) ∧ RM τ o (a_join S (nI x) (nI y)).2 ∧ _
      rw [ea, if_neg w]
      exact ⟨rfl, h.g t3 t1 t2 (hS.g (Nat.le_refl _) hS.1 (fun _ _ => rfl) hS.2.1 ⟨hS.2.2.1, Or.inr (Or.inr (Or.inr ⟨rfl, jn_VJ hW x2 y2 q4 hs⟩))⟩ (by show (s_l S).length + 1 ≤ 200; omega)), t3.wide (by decide) (by decide)⟩
    · refine r_bipush (v := -3) rfl (by decide) ?_
      refine r_goto rfl ?_
      refine r_iret rfl rfl ?_
      rw [← hQ]
      show _ = some (Value.int (a_join S (nI x) (nI y)).1) ∧ RM σ o (a_join S (nI x) (nI y)).2 ∧ _
      rw [ea, if_pos w]
      exact ⟨rfl, h, MFr.rf _ _ _ _⟩
  · rw [ea, if_neg (fun w => ?_)]
    simp only [jnB, Bool.and_eq_true, decide_eq_true_eq] at w
    exact q (hji.mpr w.2).2
set_option maxHeartbeats 1000000 in
theorem c_M_undoS {S : Sp} (h : RM σ o S) : Cn l D m_M_undo 0 0 [va_rf (some o)] σ (fun r τ => r = some (.int (a_undo S).1) ∧ RM τ o (a_undo S).2 ∧ MFr mAR mAI σ τ o) := by
  have hM := h.1
  have hS := h.2.1
  have hn9 := hS.1
  have hG : RG σ o (s_n S, s_k S, s_l S) := h.2.2.2.2.2.1
  have hn : h_I σ 711 o = nI (s_n S) := hG.1.1
  have he : h_I σ 716 o = nI (s_l S).length := hG.2.1
  have hl := hS.2.2.2.1
  obtain ⟨-, r2, r3, r4, r5, r6, r7⟩ := hG.1
  have hlog := hS.2.2.1
  generalize hQ : (fun (r : Option Value) (τ : Hp) => r = some (.int (a_undo S).1) ∧ RM τ o (a_undo S).2 ∧ MFr mAR mAI σ τ o) = Q
  refine Cn.of (by decide) (by repeat (first | exact ca_0 | refine ca_i ?_ | refine ca_r ?_)) (Nat.le_of_ble_eq_true rfl) ?_
  cases hlg : s_l S with
  | nil =>
    rw [hlg] at he
    refine r_aload_n rfl rfl ?_
    (first | refine r_getIv rfl hM.1 rfl (by assumption) ?_ | refine r_getI rfl hM.1 rfl ?_)
    refine r_if_ne rfl (fun q => absurd rfl q) (fun q => ?_)
    refine r_iconst (v := -1) rfl (by decide) ?_
    refine r_iret rfl rfl ?_
    rw [← hQ]
    unfold a_undo
    rw [hlg]
    exact ⟨rfl, h, MFr.rf _ _ _ _⟩
  | cons e lg =>
    rw [hlg] at he hl hlog hG
    rw [List.length_cons] at he hl
    have hrl := hG.2.2
    refine r_aload_n rfl rfl ?_
    (first | refine r_getIv rfl hM.1 rfl (by assumption) ?_ | refine r_getI rfl hM.1 rfl ?_)
    refine r_if_ne rfl (fun _ => ?_) (fun q => absurd q (nI_ne0 (by omega) (by omega)))
    refine r_aload_n rfl rfl ?_
    refine r_dup rfl (by first | rfl | exact rf_cat _) ?_
    (first | refine r_getIv rfl hM.1 rfl (by assumption) ?_ | refine r_getI rfl hM.1 rfl ?_)
    refine r_iconst (v := nI 1) rfl (by decide) ?_
    refine r_isubN rfl (by omega) ?_
    rw [show lg.length + 1 - 1 = lg.length by omega]
    refine r_putI rfl hM.1 rfl (Or.inl rfl) (by first | rfl | decide) (by first | rfl | decide) ?_
    refine r_iconst (v := nI 0) rfl (by decide) ?_
    refine r_istore_n rfl (by decide) ?_
    have hn2 : ∀ (g7 g9 : Nat → Int32), h_I (w_X (w_X (w_I σ 716 o (nI lg.length)) (o + 1 + 7) g7) (o + 1 + 9) g9) 711 o = nI (s_n S) := fun _ _ => by
      rw [hI_wX, hI_wX, hI_n _ _ (by decide)]
      exact hn
    -- the second loop
    have lp2 : ∀ (d k : Nat) (τ : Hp) (z : Option Value), k + d = lg.length → RT τ o (s_n S) (s_k S) (rp (lg.drop (lg.length - k))) → MFr [7, 8, 9] [716, 721] σ τ o → h_I τ 716 o = nI lg.length → Gm l D m_M_undo 0 0 Q 52 [some (va_rf (some o)), some (.int (nI k)), z] [] τ 0 0 := by
      intro d
      induction d with
      | zero =>
        intro k τ z hk hR hf h716
        have hM : ML τ o := hf.mL hM
        refine r_iload_n rfl rfl ?_
        refine r_aload_n rfl rfl ?_
        (first | refine r_getIv rfl hM.1 rfl (by assumption) ?_ | refine r_getI rfl hM.1 rfl ?_)
        refine r_geN rfl (by omega) (by omega) (fun _ => ?_) (fun q => by omega)
        refine r_aload_n rfl rfl ?_
        refine r_iconst (v := nI 0) rfl (by decide) ?_
        refine r_putI rfl hM.1 rfl (Or.inl rfl) (by first | rfl | decide) (by first | rfl | decide) ?_
        have h716' : h_I (w_I τ 721 o (nI 0)) 716 o = nI lg.length := (hI_n _ _ (by decide)).trans h716
        refine r_aload_n rfl rfl ?_
        (first | refine r_getIv rfl hM.1 rfl (by assumption) ?_ | refine r_getI rfl hM.1 rfl ?_)
        refine r_iret rfl rfl ?_
        rw [← hQ]
        show _ = some (Value.int (a_undo S).1) ∧ RM _ o (a_undo S).2 ∧ _
        have ea : a_undo S = (nI lg.length, sG S (s_n S, s_k S, lg)) := by
          unfold a_undo
          rw [hlg]
        rw [ea]
        have hf2 : MFr [6, 7, 8, 9, 10, 11, 12, 13] [711, 716, 721] σ (w_I τ 721 o (nI 0)) o := (hf.wide (by decide) (by decide)).tr (MFr.I _ _ (by decide))
        have hf3 : MFr [7, 8, 9] [716, 721] σ (w_I τ 721 o (nI 0)) o := hf.tr (MFr.I _ _ (by decide))
        refine ⟨rfl, h.g hf2 ⟨?_, h716', fun q e' hq => ?_⟩ (hI_w _ _ _ _) (hS.g (Nat.le_refl _) hn9 (fun _ _ => rfl) hS.2.1 hlog.1 (by omega)), hf2.wide (by decide) (by decide)⟩
        · rw [show lg.length - k = 0 by omega, List.drop_zero] at hR
          have : MFr ([] : List Nat) [721] τ (w_I τ 721 o (nI 0)) o := MFr.I _ _ (by decide)
          exact hR.kp this (by decide) (by decide) (by decide) (by decide) (by decide)
        · rw [hf3.row (j := 10) (by decide), hf3.row (j := 11) (by decide), hf3.row (j := 12) (by decide), hf3.row (j := 13) (by decide)]
          refine hrl q e' ?_
          rw [List.reverse_cons, List.getElem?_append_left]
          · exact hq
          · by_cases a : q < lg.reverse.length
            · exact a
            · have hq : lg.reverse[q]? = some e' := hq
              rw [List.getElem?_eq_none (by omega)] at hq; cases hq
      | succ d ih =>
        intro k τ z hk hR hf h716
        have hM : ML τ o := hf.mL hM
        have hlen : k < lg.reverse.length := by rw [List.length_reverse]; omega
        obtain ⟨e', he'⟩ : ∃ e', lg.reverse[k]? = some e' := ⟨_, List.getElem?_eq_getElem hlen⟩
        obtain ⟨w1, w2, w3, w4⟩ := hrl k e' (by rw [List.reverse_cons, List.getElem?_append_left hlen]; exact he')
        rw [← hf.row (j := 10) (by decide)] at w1
        rw [← hf.row (j := 11) (by decide)] at w2
        rw [← hf.row (j := 12) (by decide)] at w3
        rw [← hf.row (j := 13) (by decide)] at w4
        have hd := rp_drop he'
        have hlk := LogOk.drop (lg.length - (k + 1)) hlog.1
        rw [hd] at hlk
        refine r_iload_n rfl rfl ?_
        refine r_aload_n rfl rfl ?_
        (first | refine r_getIv rfl hM.1 rfl (by assumption) ?_ | refine r_getI rfl hM.1 rfl ?_)
        refine r_geN rfl (by omega) (by omega) (fun q => by omega) (fun _ => ?_)
        refine r_aload_n rfl rfl ?_
        refine r_aload_n rfl rfl ?_
        refine r_mg (j := 10) hM rfl rfl (by decide) ?_
        refine r_iload_n rfl rfl ?_
        refine r_mi (j := 10) hM rfl rfl (by decide) (by first | rfl | assumption) (show _ < 200 by omega) ?_
        refine r_aload_n rfl rfl ?_
        refine r_mg (j := 11) hM rfl rfl (by decide) ?_
        refine r_iload_n rfl rfl ?_
        refine r_mi (j := 11) hM rfl rfl (by decide) (by first | rfl | assumption) (show _ < 200 by omega) ?_
        refine r_aload_n rfl rfl ?_
        refine r_mg (j := 12) hM rfl rfl (by decide) ?_
        refine r_iload_n rfl rfl ?_
        refine r_mi (j := 12) hM rfl rfl (by decide) (by first | rfl | assumption) (show _ < 200 by omega) ?_
        refine r_aload_n rfl rfl ?_
        refine r_mg (j := 13) hM rfl rfl (by decide) ?_
        refine r_iload_n rfl rfl ?_
        refine r_mi (j := 13) hM rfl rfl (by decide) (by first | rfl | assumption) (show _ < 200 by omega) ?_
        rw [w1, w2, w3, w4]
        refine r_callV (As := [_, _, _, _]) rfl (by decide) rfl (by first | exact hM.1 | assumption) rfl rfl (Nat.le_of_ble_eq_true rfl) ⟨Nat.le_of_ble_eq_true rfl, Nat.le_of_ble_eq_true rfl⟩ (c_M_doesT hM (LogOk.wf hn9 hlk.1) hR hlk.2) (kc' := 0) (ks' := 0) (by omega) (by omega) (by decide) ?_
        rintro r ρ ⟨rfl, t1, t2, t3⟩
        refine r_istore_n rfl (by decide) ?_
        refine r_iinc rfl rfl (nI_inc _) ?_
        refine r_goto rfl ?_
        refine ih (k + 1) ρ _ (by omega) ?_ (hf.tr (t3.wide (by decide) (by decide))) (by rw [t3.fld (by decide)]; exact h716)
        rw [hd]
        exact t1
    -- the first loop
    have lp1 : ∀ (d i : Nat) (g7 g9 : Nat → Int32), i + d = s_n S → (∀ z, z < i → g7 z = -9 ∧ g9 z = -1) → (∀ z, i ≤ z → g7 z = h_X σ (o + 1 + 7) z) → Gm l D m_M_undo 0 0 Q 21 [some (va_rf (some o)), some (.int (nI i)), none] [] (w_X (w_X (w_I σ 716 o (nI lg.length)) (o + 1 + 7) g7) (o + 1 + 9) g9) 0 0 := by
      intro d
      induction d with
      | zero =>
        intro i g7 g9 hi h1 h2
        have h711 := hn2 g7 g9
        refine r_iload_n rfl rfl ?_
        refine r_aload_n rfl rfl ?_
        (first | refine r_getIv rfl hM.1 rfl (by assumption) ?_ | refine r_getI rfl hM.1 rfl ?_)
        refine r_geN rfl (by omega) (by omega) (fun _ => ?_) (fun q => by omega)
        refine r_iconst (v := nI 0) rfl (by decide) ?_
        refine r_istore_n rfl (by decide) ?_
        have hf : MFr [7, 8, 9] [716, 721] σ (w_X (w_X (w_I σ 716 o (nI lg.length)) (o + 1 + 7) g7) (o + 1 + 9) g9) o := ((MFr.I _ _ (by decide)).tr (MFr.X _ _ (by decide))).tr (MFr.X _ _ (by decide))
        refine lp2 lg.length 0 _ none (by omega) ?_ hf (hI_w _ _ _ _)
        rw [Nat.sub_zero, List.drop_eq_nil_of_le (Nat.le_refl _)]
        refine ⟨h711, ?_, r3, r4, ?_, fun p hp i z hz => ?_, fun x hx => ?_⟩
        · rw [hf.row (j := 6) (by decide)]
          exact r2
        · rw [hX_n _ _ (by omega), hX_w]
          refine onT_eq (kd := s_k S) (Wf_T0 hn9) (fun z hz _ => (h1 z (by omega)).1) (fun q z _ hz => by cases hz) (fun z hz => ?_)
          rw [h2 z (by omega), r5]
          show onT (s_n S) (rp (s_l S)) z = 0
          rw [onT, if_neg (by omega)]
        · cases i <;> cases hz
        · rw [hX_w]
          exact (h1 x (by omega)).2
      | succ d ih =>
        intro i g7 g9 hi h1 h2
        have h711 := hn2 g7 g9
        refine r_iload_n rfl rfl ?_
        refine r_aload_n rfl rfl ?_
        (first | refine r_getIv rfl hM.1 rfl (by assumption) ?_ | refine r_getI rfl hM.1 rfl ?_)
        refine r_geN rfl (by omega) (by omega) (fun q => by omega) (fun _ => ?_)
        refine r_aload_n rfl rfl ?_
        refine r_mg (j := 7) hM rfl rfl (by decide) ?_
        refine r_iload_n rfl rfl ?_
        refine r_bipush (v := -9) rfl (by decide) ?_
        refine r_mis (j := 7) hM rfl rfl (by decide) (by first | rfl | assumption) (show _ < 120 by omega) ?_
        refine r_aload_n rfl rfl ?_
        refine r_mg (j := 9) hM rfl rfl (by decide) ?_
        refine r_iload_n rfl rfl ?_
        refine r_iconst (v := -1) rfl (by decide) ?_
        refine r_mis (j := 9) hM rfl rfl (by decide) (by first | rfl | assumption) (show _ < 120 by omega) ?_
        refine r_iinc rfl rfl (nI_inc _) ?_
        refine r_goto rfl ?_
        rw [hX_n _ _ (show o + 1 + 7 ≠ o + 1 + 9 by omega), hX_w, wX_comm (w_X (w_I σ 716 o (nI lg.length)) (o + 1 + 7) g7) _ _ (show o + 1 + 9 ≠ o + 1 + 7 by omega), wX_same, hX_w, wX_same]
        refine ih (i + 1) _ _ (by omega) (fun z hz => ?_) (fun z hz => ?_)
        · by_cases e2 : z = i
          · rw [e2, upd_s, upd_s]
            exact ⟨rfl, rfl⟩
          · rw [upd_n _ _ e2, upd_n _ _ e2]
            exact h1 z (by omega)
        · rw [upd_n _ _ (by omega)]
          exact h2 z (by omega)
    have e1 : w_X (w_X (w_I σ 716 o (nI lg.length)) (o + 1 + 7) (h_X (w_I σ 716 o (nI lg.length)) (o + 1 + 7))) (o + 1 + 9) (h_X (w_I σ 716 o (nI lg.length)) (o + 1 + 9)) = w_I σ 716 o (nI lg.length) := by
      rw [wX_self]
      exact wX_self _ _
    have := lp1 (s_n S) 0 (h_X (w_I σ 716 o (nI lg.length)) (o + 1 + 7)) (h_X (w_I σ 716 o (nI lg.length)) (o + 1 + 9)) (by omega) (fun z hz => by omega) (fun z _ => rfl)
    rw [e1] at this
    exact this
end MC
