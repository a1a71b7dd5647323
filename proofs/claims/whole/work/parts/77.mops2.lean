/-! ===== the reference: add, join, undo ===== -/
theorem sib_pos {n : Nat} {kd : Nat → Nat} {T : Tr} (hW : Wf n kd T) {p i x : Nat} (h : (t_k T p)[i]? = some x) : sib T x = (t_k T p)[i + 1]? := by
  have hi := getE_lt h
  have e : (t_k T p)[i] = x := by rw [List.getElem?_eq_getElem hi] at h; exact Option.some.inj h
  unfold sib
  rw [par_of hW (List.mem_of_getElem? h)]
  show (t_k T p)[(t_k T p).idxOf x + 1]? = _
  rw [← e, List.Nodup.idxOf_getElem (hW.2.2.1 p) i hi]
theorem rp_drop {lg : List En} {k : Nat} {e : En} (h : lg.reverse[k]? = some e) : lg.drop (lg.length - (k + 1)) = e :: lg.drop (lg.length - k) := by
  have hk : k < lg.length := by
    by_cases a : k < lg.length
    · exact a
    · rw [List.getElem?_eq_none (by rw [List.length_reverse]; omega)] at h; cases h
  rw [List.getElem?_reverse hk] at h
  have h2 : lg.length - 1 - k < lg.length := by omega
  rw [List.getElem?_eq_getElem h2] at h
  rw [show lg.length - (k + 1) = lg.length - 1 - k by omega, List.drop_eq_getElem_cons h2, Option.some.inj h, show lg.length - 1 - k + 1 = lg.length - k by omega]
theorem LogOk.drop {n : Nat} {kd : Nat → Nat} : ∀ {l : List En} (j : Nat), LogOk n kd l → LogOk n kd (l.drop j)
  | [], j, _ => by rw [List.drop_nil]; trivial
  | e :: l, 0, h => h
  | e :: l, j + 1, h => LogOk.drop j h.1
section MC
variable {l : Launch} {D : DD} {σ : Hp} {o : Nat}
set_option maxHeartbeats 1000000 in
theorem c_M_addS {S : Sp} {k v i : Int32} (h : RM σ o S) : Cn l D m_M_add 0 0 [va_rf (some o), .int k, .int v, .int i] σ (fun r τ => r = some (.int (a_add S k v i).1) ∧ RM τ o (a_add S k v i).2 ∧ MFr mAR mAI σ τ o) := by
  have hM := h.1
  have hS := h.2.1
  have hW := hS.wf
  have hn9 := hS.1
  have hG : RG σ o (s_n S, s_k S, s_l S) := h.2.2.2.2.2.1
  have hn : h_I σ 711 o = nI (s_n S) := hG.1.1
  have he : h_I σ 716 o = nI (s_l S).length := hG.2.1
  have hl := hS.2.2.2.1
  obtain ⟨-, r2, r3, r4, r5, r6, r7⟩ := hG.1
  have r5 : h_X σ (o + 1 + 7) = onT (s_n S) (s_T S) := r5
  generalize hQ : (fun (r : Option Value) (τ : Hp) => r = some (.int (a_add S k v i).1) ∧ RM τ o (a_add S k v i).2 ∧ MFr mAR mAI σ τ o) = Q
  refine Cn.of (by decide) (by repeat (first | exact ca_0 | refine ca_i ?_ | refine ca_r ?_)) (Nat.le_of_ble_eq_true rfl) ?_
  have no : a_add S k v i = (-2, S) → Gm l D m_M_add 0 0 Q 33 [some (va_rf (some o)), some (.int k), some (.int v), some (.int i)] [] σ 0 0 := by
    intro e
    refine r_bipush (v := -2) rfl (by decide) ?_
    refine r_iret rfl rfl ?_
    rw [← hQ]
    show _ = some (Value.int (a_add S k v i).1) ∧ RM σ o (a_add S k v i).2 ∧ _
    rw [e]
    exact ⟨rfl, h, MFr.rf _ _ _ _⟩
  refine r_iload_n rfl rfl ?_
  refine r_callS (As := [_]) rfl (by decide) rfl rfl rfl (Nat.le_of_ble_eq_true rfl) ⟨Nat.le_of_ble_eq_true rfl, Nat.le_of_ble_eq_true rfl⟩ (c_M_isKind) (kc' := 0) (ks' := 0) (by omega) (by omega) ?_
  rintro r σ ⟨rfl, rfl⟩
  refine r_ifeqB rfl (fun q => no (by unfold a_add kiI; rw [q]; rfl)) (fun q1 => ?_)
  obtain ⟨k', hk, rfl⟩ := inB_nI (m := 5) (by omega) q1
  have hki := kiI_nI (show k' < 6 by omega)
  have cont : ∀ p, hoI S v = some p → v = cd p → liv (s_T S) p → Gm l D m_M_add 0 0 Q 20 [some (va_rf (some o)), some (.int (nI k')), some (.int v), some (.int i)] [] σ 0 0 := by
    intro p hp1 hp2 hp3
    refine r_iload_n rfl rfl ?_
    refine r_iconst (v := nI 0) rfl (by decide) ?_
    refine r_aload_n rfl rfl ?_
    refine r_iload_n rfl rfl ?_
    refine r_callV (As := [_]) rfl (by decide) rfl (by first | exact hM.1 | assumption) rfl rfl (Nat.le_of_ble_eq_true rfl) ⟨Nat.le_of_ble_eq_true rfl, Nat.le_of_ble_eq_true rfl⟩ (c_M_hanging hM hn hn9) (kc' := 0) (ks' := 0) (by omega) (by omega) (by decide) ?_
    rintro r σ ⟨rfl, rfl⟩
    rw [r5, hp2, hang_T hW hp3]
    refine r_callS (As := [_, _, _]) rfl (by decide) rfl rfl rfl (Nat.le_of_ble_eq_true rfl) ⟨Nat.le_of_ble_eq_true rfl, Nat.le_of_ble_eq_true rfl⟩ (c_M_in) (kc' := 0) (ks' := 0) (by omega) (by omega) ?_
    rintro r σ ⟨rfl, rfl⟩
    rw [show nI 0 = 0 from rfl]
    refine r_ifneB rfl (fun q2 => ?_) (fun q2 => by rw [← hp2]; exact no (by unfold a_add; rw [hki, hp1]; show (if inB i 0 (nI (t_k (s_T S) p).length) = true then _ else _) = _; rw [q2]; rfl))
    have hlen := hW.len p
    obtain ⟨i', hi, rfl⟩ := inB_nI (m := (t_k (s_T S) p).length) (by omega) q2
    have ea : a_add S (nI k') v (nI i') = if s_n S = 120 ∨ (s_l S).length = 200 then (-3, S) else (nI (s_n S), sG S (s_n S + 1, u_1 (s_k S) (s_n S) k', (1, s_n S, p, i') :: s_l S)) := by
      unfold a_add
      rw [hki, hp1]
      show (if inB (nI i') 0 (nI (t_k (s_T S) p).length) = true then _ else _) = _
      rw [if_pos q2, nI_clamp (by omega)]
    rw [hp2] at ea
    have full : (s_n S = 120 ∨ (s_l S).length = 200) → Gm l D m_M_add 0 0 Q 55 [some (va_rf (some o)), some (.int (nI k')), some (.int (cd p)), some (.int (nI i'))] [] σ 0 0 := by
      intro w
      refine r_bipush (v := -3) rfl (by decide) ?_
      refine r_iret rfl rfl ?_
      rw [← hQ]
      show _ = some (Value.int (a_add S (nI k') v (nI i')).1) ∧ RM σ o (a_add S (nI k') v (nI i')).2 ∧ _
      rw [hp2, ea, if_pos w]
      exact ⟨rfl, h, MFr.rf _ _ _ _⟩
    refine r_aload_n rfl rfl ?_
    (first | refine r_getIv rfl hM.1 rfl (by assumption) ?_ | refine r_getI rfl hM.1 rfl ?_)
    refine r_bipush (v := nI 120) rfl (by decide) ?_
    refine r_eqN rfl (by omega) (by omega) (fun w => full (Or.inl w)) (fun w1 => ?_)
    refine r_aload_n rfl rfl ?_
    (first | refine r_getIv rfl hM.1 rfl (by assumption) ?_ | refine r_getI rfl hM.1 rfl ?_)
    refine r_sipush (v := nI 200) rfl (by decide) ?_
    refine r_neN rfl (by omega) (by omega) (fun w2 => ?_) (fun w => full (Or.inr w))
    refine r_aload_n rfl rfl ?_
    refine r_mg (j := 6) hM rfl rfl (by decide) ?_
    refine r_aload_n rfl rfl ?_
    (first | refine r_getIv rfl hM.1 rfl (by assumption) ?_ | refine r_getI rfl hM.1 rfl ?_)
    refine r_iload_n rfl rfl ?_
    refine r_mis (j := 6) hM rfl rfl (by decide) (by first | rfl | assumption) (show _ < 120 by omega) ?_
    refine r_aload_n rfl rfl ?_
    refine r_mg (j := 7) hM rfl rfl (by decide) ?_
    refine r_aload_n rfl rfl ?_
    (first | refine r_getIv rfl hM.1 rfl (by assumption) ?_ | refine r_getI rfl hM.1 rfl ?_)
    refine r_bipush (v := -9) rfl (by decide) ?_
    refine r_mis (j := 7) hM rfl rfl (by decide) (by first | rfl | assumption) (show _ < 120 by omega) ?_
    refine r_aload_n rfl rfl ?_
    refine r_mg (j := 9) hM rfl rfl (by decide) ?_
    refine r_aload_n rfl rfl ?_
    (first | refine r_getIv rfl hM.1 rfl (by assumption) ?_ | refine r_getI rfl hM.1 rfl ?_)
    refine r_iconst (v := -1) rfl (by decide) ?_
    refine r_mis (j := 9) hM rfl rfl (by decide) (by first | rfl | assumption) (show _ < 120 by omega) ?_
    refine r_aload_n rfl rfl ?_
    refine r_dup rfl (by first | rfl | exact rf_cat _) ?_
    (first | refine r_getIv rfl hM.1 rfl (by assumption) ?_ | refine r_getI rfl hM.1 rfl ?_)
    refine r_iconst (v := nI 1) rfl (by decide) ?_
    (first | refine r_iaddN rfl ?_ | refine r_iadd rfl ?_)
    refine r_putI rfl hM.1 rfl (Or.inl rfl) (by first | rfl | decide) (by first | rfl | decide) ?_
    refine r_aload_n rfl rfl ?_
    refine r_iconst (v := nI 1) rfl (by decide) ?_
    refine r_aload_n rfl rfl ?_
    (first | refine r_getIv rfl hM.1 rfl (by assumption) ?_ | refine r_getI rfl hM.1 rfl ?_)
    generalize hτ : w_I (w_X (w_X (w_X σ (o + 1 + 6) (upd (h_X σ (o + 1 + 6)) (s_n S) (nI k'))) (o + 1 + 7) (upd (h_X (w_X σ (o + 1 + 6) (upd (h_X σ (o + 1 + 6)) (s_n S) (nI k'))) (o + 1 + 7)) (s_n S) (-9))) (o + 1 + 9) (upd (h_X (w_X (w_X σ (o + 1 + 6) (upd (h_X σ (o + 1 + 6)) (s_n S) (nI k'))) (o + 1 + 7) (upd (h_X (w_X σ (o + 1 + 6) (upd (h_X σ (o + 1 + 6)) (s_n S) (nI k'))) (o + 1 + 7)) (s_n S) (-9))) (o + 1 + 9)) (s_n S) (-1))) 711 o (nI (s_n S + 1)) = τ
    have ft : MFr [6, 7, 8, 9, 10, 11, 12, 13] [711, 716, 721] σ τ o := by
      rw [← hτ]
      exact (((MFr.X _ _ (by decide)).tr (MFr.X _ _ (by decide))).tr (MFr.X _ _ (by decide))).tr (MFr.I _ _ (by decide))
    have ht711 : h_I τ 711 o = nI (s_n S + 1) := by rw [← hτ]; exact hI_w _ _ _ _
    have e6 : h_X τ (o + 1 + 6) = fun x => nI (u_1 (s_k S) (s_n S) k' x) := by
      rw [← hτ, hX_wI, hX_n _ _ (by omega), hX_n _ _ (by omega), hX_w]
      funext x
      have r2 : h_X σ (o + 1 + 6) = fun x => nI (s_k S x) := r2
      rw [r2]
      by_cases e : x = s_n S
      · rw [e, upd_s, u1_s]
      · rw [upd_n _ _ e, u1_n _ _ e]
    have hW2 : Wf (s_n S + 1) (u_1 (s_k S) (s_n S) k') (s_T S) := hW.more (by omega) (by omega) (fun x hx => u1_n _ _ (by omega))
    have hoff : t_h (s_T S) (s_n S) = false := by
      cases e : t_h (s_T S) (s_n S) with
      | false => rfl
      | true => have := hW.h_lt e; omega
    have e7 : h_X τ (o + 1 + 7) = onT (s_n S + 1) (s_T S) := by
      rw [← hτ, hX_wI, hX_n _ _ (by omega), hX_w, hX_n _ _ (by omega), r5]
      refine onT_eq hW2 (fun z hz hh => ?_) (fun q z hq hz => ?_) (fun z hz => ?_)
      · by_cases e : z = s_n S
        · rw [e, upd_s]
        · rw [upd_n _ _ e]
          exact onT_off (by omega) hh
      · have := hW.k_lt hz
        rw [upd_n _ _ (by omega)]
        exact onT_on hW hq hz
      · rw [upd_n _ _ (by omega), onT, if_neg (by omega)]
    have hlg := LogOk.more (m := s_n S + 1) (kd' := u_1 (s_k S) (s_n S) k') hn9 (by omega) (fun x hx => u1_n _ _ (by omega)) hS.2.2.1
    have hG2 : RG τ o (s_n S + 1, u_1 (s_k S) (s_n S) k', s_l S) := by
      refine ⟨⟨ht711, e6, fun x hx => ?_, fun x hx => ?_, e7, fun p hp i z hz => ?_, fun x hx => ?_⟩, ?_, fun q e hq => ?_⟩
      · by_cases e : x = s_n S
        · show u_1 (s_k S) (s_n S) k' x < 6
          rw [e, u1_s]; omega
        · show u_1 (s_k S) (s_n S) k' x < 6
          rw [u1_n _ _ e]
          have hx : x < s_n S + 1 := hx
          exact r3 x (by show x < s_n S; omega)
      · have hx : s_n S + 1 ≤ x := hx
        show u_1 (s_k S) (s_n S) k' x = 0
        rw [u1_n _ _ (by omega)]
        exact r4 x (by show s_n S ≤ x; omega)
      · rw [← hτ, hX_wI, hX_n _ _ (by omega), hX_n _ _ (by omega), hX_n _ _ (by omega)]
        exact r6 p hp i z hz
      · rw [← hτ, hX_wI, hX_w, hX_n _ _ (by omega), hX_n _ _ (by omega)]
        by_cases e : x = s_n S
        · rw [e, upd_s]
          show (-1 : Int32) = oI (t_i (s_T S) (s_n S))
          cases e2 : t_i (s_T S) (s_n S) with
          | none => rfl
          | some w => have := (hW.2.2.2.2.2.2.2.1 _ _ e2).2.1; omega
        · rw [upd_n _ _ e]
          have hx : x < s_n S + 1 := hx
          exact r7 x (by show x < s_n S; omega)
      · rw [← hτ, hI_n _ _ (by decide)]
        exact he
      · rw [← hτ, hX_wI, hX_n _ _ (by omega), hX_n _ _ (by omega), hX_n _ _ (by omega), hX_n _ _ (by omega), hX_n _ _ (by omega), hX_n _ _ (by omega), hX_n _ _ (by omega), hX_n _ _ (by omega), hX_n _ _ (by omega), hX_n _ _ (by omega), hX_n _ _ (by omega), hX_n _ _ (by omega)]
        exact hG.2.2 q e hq
    have hv : Va (s_n S + 1) (u_1 (s_k S) (s_n S) k') (1, s_n S, p, i') (rp (s_l S)) := by
      refine Or.inl ⟨rfl, by show s_n S < s_n S + 1; omega, hoff, ?_, ?_, fun q hq => ?_, hp3, hi⟩
      · show t_k (s_T S) (s_n S) = []
        cases e : t_k (s_T S) (s_n S) with
        | nil => rfl
        | cons c ks =>
          have := hW.2.1 (s_n S) c (by rw [e]; exact List.mem_cons_self)
          omega
      · show t_i (s_T S) (s_n S) = none
        cases e2 : t_i (s_T S) (s_n S) with
        | none => rfl
        | some w => have := (hW.2.2.2.2.2.2.2.1 _ _ e2).2.1; omega
      · have := hW.k_lt (show s_n S ∈ t_k (s_T S) q from hq)
        omega
    have hMt : ML τ o := ft.mL hM
    rw [ht711]
    refine r_iconst (v := nI 1) rfl (by decide) ?_
    refine r_isubN rfl (by omega) ?_
    rw [show s_n S + 1 - 1 = s_n S by omega]
    refine r_iload_n rfl rfl ?_
    refine r_iload_n rfl rfl ?_
    refine r_callV (As := [_, _, _, _]) rfl (by decide) rfl hMt.1 rfl rfl (Nat.le_of_ble_eq_true rfl) ⟨Nat.le_of_ble_eq_true rfl, Nat.le_of_ble_eq_true rfl⟩ (c_M_changeT (e := (1, s_n S, p, i')) hMt (by omega) hG2 hlg (by omega) hv) (kc' := 0) (ks' := 0) (by omega) (by omega) (by decide) ?_
    rintro r ρ ⟨rfl, t1, t2, t3⟩
    refine r_iret rfl rfl ?_
    rw [← hQ]
    show _ = some (Value.int (a_add S (nI k') v (nI i')).1) ∧ RM ρ o (a_add S (nI k') v (nI i')).2 ∧ _
    rw [hp2, ea, if_neg (fun w => w.elim w1 w2)]
    refine ⟨rfl, h.g (ft.tr t3) t1 t2 (hS.g (by omega) (by omega) (fun x hx => u1_n _ _ (by omega)) (fun x hx => ?_) ⟨hlg, hv⟩ (by show (s_l S).length + 1 ≤ 200; omega)), (ft.tr t3).wide (by decide) (by decide)⟩
    by_cases e : x = s_n S
    · rw [e, u1_s]; omega
    · rw [u1_n _ _ e]
      exact hS.2.1 x (by omega)
  refine r_iload_n rfl rfl ?_
  refine r_iconst (v := -1) rfl (by decide) ?_
  refine r_icmp_eq rfl (fun q => cont 120 (by unfold hoI; rw [if_pos q]) q (Or.inl rfl)) (fun q => ?_)
  refine r_aload_n rfl rfl ?_
  refine r_iload_n rfl rfl ?_
  refine r_callV (As := [_]) rfl (by decide) rfl (by first | exact hM.1 | assumption) rfl rfl (Nat.le_of_ble_eq_true rfl) ⟨Nat.le_of_ble_eq_true rfl, Nat.le_of_ble_eq_true rfl⟩ (c_M_isThere hM hn hn9) (kc' := 0) (ks' := 0) (by omega) (by omega) (by decide) ?_
  rintro r σ ⟨rfl, rfl⟩
  rw [r5]
  refine r_ifeqB rfl (fun q2 => no (by unfold a_add hoI; rw [hki, if_neg q, isTh_none q2])) (fun q2 => ?_)
  obtain ⟨x, x1, x2, rfl, x4⟩ := isTh_some hS q2
  exact cont x (by unfold hoI; rw [if_neg q]; exact x4) (cd_n (by omega)).symm (Or.inr x2)
end MC
