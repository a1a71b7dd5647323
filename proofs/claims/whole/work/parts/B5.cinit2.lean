/-! ===== the class: a new one, whole ===== -/
section BC
variable {l : Launch} {D : DD} {σ0 σ β : Hp} {c : Nat}
theorem bs_ok : ∀ k, k < 7 → h_z (bs k) = 17 + 3 * k ∧ h_K (bs k) 16 = 32 ∧ h_L (bs k) 16 = 6 ∧ h_K (bs k) 3 = 10 ∧ h_P (bs k) 578 3 = some 16 := by decide +kernel
theorem bF_ok : ∀ k, k < 6 → h_z (n_O (bs k) 3) = 18 + 3 * k ∧ h_K (n_O (bs k) 3) (17 + 3 * k) = 3 ∧ h_K (bF (bs k) k) 16 = 32 ∧ h_L (bF (bs k) k) 16 = 6 ∧ 16 < h_z (bF (bs k) k) ∧ h_K (bF (bs k) k) (17 + 3 * k) = 3 ∧ 17 + 3 * k < h_z (bF (bs k) k) := by decide +kernel
set_option maxHeartbeats 1000000 in
theorem c_bTree (h : Bd σ0 σ c (n_O b1 10)) : Cn l D m_Tree_init 31 358 [va_rf (some (c + 3))] σ (fun r τ => r = none ∧ Bd σ0 τ c (bs 6)) := by
  generalize hQ : (fun (r : Option Value) (τ : Hp) => r = none ∧ Bd σ0 τ c (bs 6)) = Q
  refine Cn.of (by decide) (by repeat (first | exact ca_0 | refine ca_i ?_ | refine ca_r ?_)) (Nat.le_of_ble_eq_true rfl) ?_
  have loop : ∀ (d k : Nat) (τ : Hp), k + d = 6 → Bd σ0 τ c (bs k) → Gm l D m_Tree_init 31 358 Q 44 [some (va_rf (some (c + 3))), some (.int (nI k))] [] τ (3 * d) (16 * d) := by
    intro d
    induction d with
    | zero =>
      intro k τ hk h
      obtain ⟨q1, q2, q3, q4, q5⟩ := bs_ok k (by omega)
      have l16 : h_L τ (c + 16) = 6 := ((h.2.1 16 (by omega)).2.2 (by omega)).1.trans q3
      refine r_iload_n rfl rfl ?_
      refine r_aload_n rfl rfl ?_
      refine r_getPB h rfl (by omega) q4 (by decide) rfl q5 ?_
      refine r_alenv rfl (Or.inr (by rw [(h.2.1 16 (by omega)).1, q2]; decide)) l16 ?_
      refine r_geN rfl (by omega) (by omega) (fun _ => ?_) (fun w => by omega)
      refine r_vret rfl rfl ?_
      rw [← hQ]
      rw [show k = 6 by omega] at h
      exact ⟨rfl, h⟩
    | succ d ih =>
      intro k τ hk h
      obtain ⟨q1, q2, q3, q4, q5⟩ := bs_ok k (by omega)
      obtain ⟨f1, f2, f3, f4, f5, f6, f7⟩ := bF_ok k (by omega)
      have l16 : h_L τ (c + 16) = 6 := ((h.2.1 16 (by omega)).2.2 (by omega)).1.trans q3
      refine r_iload_n rfl rfl ?_
      refine r_aload_n rfl rfl ?_
      refine r_getPB h rfl (by omega) q4 (by decide) rfl q5 ?_
      refine r_alenv rfl (Or.inr (by rw [(h.2.1 16 (by omega)).1, q2]; decide)) l16 ?_
      refine r_geN rfl (by omega) (by omega) (fun w => by omega) (fun _ => ?_)
      refine r_aload_n rfl rfl ?_
      refine r_getPB h rfl (by omega) q4 (by decide) rfl q5 ?_
      refine r_iload_n rfl rfl ?_
      refine r_newB (kc' := 3 * d + 2) (ks' := 16 * d + 12) h rfl q1 (by decide) (by omega) (by show 16 * d + 12 + 4 ≤ _; omega) (fun σ1 h1 => ?_)
      refine r_dup rfl (by first | rfl | exact rf_cat _) ?_
      refine r_callIN (As := []) (z := 7) rfl (by decide) rfl (by decide +kernel) rfl rfl (Nat.le_of_ble_eq_true rfl) ⟨Nat.le_of_ble_eq_true rfl, Nat.le_of_ble_eq_true rfl⟩ (c_bForm h1 f1 (by omega) f2) (kc' := (3*d)) (ks' := (16*d)) (by omega) (by omega) ?_
      rintro r σ2 ⟨rfl, h2⟩
      have h2 : Bd σ0 σ2 c (bF (bs k) k) := h2
      have k16 : h_K σ2 (c + 16) = 30 + 2 := ((h2.2.1 16 f5).1).trans f3
      have l16 : h_L σ2 (c + 16) = 6 := ((h2.2.1 16 f5).2.2 (by omega)).1.trans f4
      have kf : h_K σ2 (c + (17 + 3 * k)) = 3 := ((h2.2.1 _ f7).1).trans f6
      refine r_aast (v := some (c + (17 + 3 * k))) rfl k16 (by decide) rfl (by omega) (by omega) (fun b hb => ?_) ?_
      · cases hb
        exact kf
      · refine r_iinc rfl rfl (nI_inc _) ?_
        refine r_goto rfl ?_
        exact ih (k + 1) _ (by omega) (h2.Y f5 (by omega) k (17 + 3 * k))
  refine r_aload_n rfl rfl ?_
  refine r_objInit rfl (Nat.le_of_ble_eq_true rfl) ⟨Nat.le_of_ble_eq_true rfl, Nat.le_of_ble_eq_true rfl⟩ ?_
  refine r_aload_n rfl rfl ?_
  refine r_newB (kc' := 30) (ks' := 340) (i := 4) h rfl (by decide +kernel) (by decide) (by decide) (by decide) (fun σ1 h1 => ?_)
  refine r_dup rfl (by first | rfl | exact rf_cat _) ?_
  refine r_iconst (v := -1) rfl (by decide) ?_
  refine r_iconst (v := -1) rfl (by decide) ?_
  refine r_newB (kc' := 29) (ks' := 336) (i := 5) h1 rfl (by decide +kernel) (by decide) (by decide) (by decide) (fun σ2 h2 => ?_)
  refine r_dup rfl (by first | rfl | exact rf_cat _) ?_
  refine r_callIN8 (As := []) (z := m_Form_init) rfl (by decide) rfl (by decide +kernel) rfl rfl (Nat.le_of_ble_eq_true rfl) ⟨Nat.le_of_ble_eq_true rfl, Nat.le_of_ble_eq_true rfl⟩ (c_bForm (i := 6) h2 (by decide +kernel) (by decide) (by decide +kernel)) (kc' := 27) (ks' := 324) (by omega) (by omega) ?_
  rintro r σ3 ⟨rfl, h3⟩
  refine r_callI (As := [_, _, _]) rfl (by decide) rfl rfl rfl (Nat.le_of_ble_eq_true rfl) ⟨Nat.le_of_ble_eq_true rfl, Nat.le_of_ble_eq_true rfl⟩ (c_bThing h3) (kc' := 20) (ks' := 222) (by omega) (by omega) ?_
  rintro r σ4 ⟨rfl, h4⟩
  refine r_putPB h4 rfl (by decide +kernel) (by decide +kernel) rfl (Or.inr ⟨rfl, rfl⟩) (fun σ5 h5 => ?_)
  refine r_aload_n rfl rfl ?_
  refine r_bipush (v := nI 120) rfl (by decide) ?_
  refine r_anewB (kc' := 19) (ks' := 102) (m' := 120) (t := 5) (i := 15) h5 rfl (by decide) rfl (by decide) (by decide +kernel) (by decide) (by decide) (fun σ6 h6 => ?_)
  refine r_putPB h6 rfl (by decide +kernel) (by decide +kernel) rfl (Or.inr ⟨rfl, rfl⟩) (fun σ7 h7 => ?_)
  refine r_aload_n rfl rfl ?_
  refine r_bipush (v := nI 6) rfl (by decide) ?_
  refine r_anewB (kc' := 18) (ks' := 96) (m' := 6) (t := 2) (i := 16) h7 rfl (by decide) rfl (by decide) (by decide +kernel) (by decide) (by decide) (fun σ8 h8 => ?_)
  refine r_putPB h8 rfl (by decide +kernel) (by decide +kernel) rfl (Or.inr ⟨rfl, rfl⟩) (fun σ9 h9 => ?_)
  refine r_iconst (v := nI 0) rfl (by decide) ?_
  refine r_istore_n rfl (by decide) ?_
  exact loop 6 0 σ9 rfl h9
theorem c_bNumbering (h : Bd σ0 σ c (n_O b5 6)) : Cn l D m_Numbering_init 1 6 [va_rf (some (c + 35)), va_rf (some (c + 4))] σ (fun r τ => r = none ∧ Bd σ0 τ c (w_P (w_P (n_A (n_O b5 6) 21 6) 322 35 (some 36)) 321 35 (some 4))) := by
  generalize hQ : (fun (r : Option Value) (τ : Hp) => r = none ∧ Bd σ0 τ c (w_P (w_P (n_A (n_O b5 6) 21 6) 322 35 (some 36)) 321 35 (some 4))) = Q
  refine Cn.of (by decide) (by repeat (first | exact ca_0 | refine ca_i ?_ | refine ca_r ?_)) (Nat.le_of_ble_eq_true rfl) ?_
  refine r_aload_n rfl rfl ?_
  refine r_objInit rfl (Nat.le_of_ble_eq_true rfl) ⟨Nat.le_of_ble_eq_true rfl, Nat.le_of_ble_eq_true rfl⟩ ?_
  refine r_aload_n rfl rfl ?_
  refine r_bipush (v := nI 6) rfl (by decide) ?_
  refine r_newaB (kc' := 0) (ks' := 0) (m' := 6) (i := 36) h rfl rfl (by decide) (by decide +kernel) (by decide) (by decide) (by decide) (fun σ2 h2 => ?_)
  refine r_putPB h2 rfl (by decide +kernel) (by decide +kernel) rfl (Or.inr ⟨rfl, rfl⟩) (fun σ3 h3 => ?_)
  refine r_aload_n rfl rfl ?_
  refine r_aload_n rfl rfl ?_
  refine r_putPB h3 rfl (by decide +kernel) (by decide +kernel) rfl (Or.inr ⟨rfl, rfl⟩) (fun σ4 h4 => ?_)
  refine r_vret rfl rfl ?_
  rw [← hQ]
  exact ⟨rfl, h4⟩
theorem c_bTeller (h : Bd σ0 σ c (n_O b7 8)) : Cn l D m_Teller_init 0 0 [va_rf (some (c + 39)), va_rf (some (c + 4))] σ (fun r τ => r = none ∧ Bd σ0 τ c (w_P (n_O b7 8) 448 39 (some 4))) := by
  generalize hQ : (fun (r : Option Value) (τ : Hp) => r = none ∧ Bd σ0 τ c (w_P (n_O b7 8) 448 39 (some 4))) = Q
  refine Cn.of (by decide) (by repeat (first | exact ca_0 | refine ca_i ?_ | refine ca_r ?_)) (Nat.le_of_ble_eq_true rfl) ?_
  refine r_aload_n rfl rfl ?_
  refine r_objInit rfl (Nat.le_of_ble_eq_true rfl) ⟨Nat.le_of_ble_eq_true rfl, Nat.le_of_ble_eq_true rfl⟩ ?_
  refine r_aload_n rfl rfl ?_
  refine r_aload_n rfl rfl ?_
  refine r_putPB h rfl (by decide +kernel) (by decide +kernel) rfl (Or.inr ⟨rfl, rfl⟩) (fun σ4 h4 => ?_)
  refine r_vret rfl rfl ?_
  rw [← hQ]
  exact ⟨rfl, h4⟩
theorem c_bReader (h : Bd σ0 σ c (n_O b8' 7)) : Cn l D m_Reader_init 1 200 [va_rf (some (c + 41)), va_rf (some (c + 1)), va_rf (some (c + 3))] σ (fun r τ => r = none ∧ Bd σ0 τ c (w_P (w_P (w_P (n_A (n_O b8' 7) 21 200) 386 41 (some 42)) 384 41 (some 1)) 385 41 (some 3))) := by
  generalize hQ : (fun (r : Option Value) (τ : Hp) => r = none ∧ Bd σ0 τ c (w_P (w_P (w_P (n_A (n_O b8' 7) 21 200) 386 41 (some 42)) 384 41 (some 1)) 385 41 (some 3))) = Q
  refine Cn.of (by decide) (by repeat (first | exact ca_0 | refine ca_i ?_ | refine ca_r ?_)) (Nat.le_of_ble_eq_true rfl) ?_
  refine r_aload_n rfl rfl ?_
  refine r_objInit rfl (Nat.le_of_ble_eq_true rfl) ⟨Nat.le_of_ble_eq_true rfl, Nat.le_of_ble_eq_true rfl⟩ ?_
  refine r_aload_n rfl rfl ?_
  refine r_sipush (v := nI 200) rfl (by decide) ?_
  refine r_newaB (kc' := 0) (ks' := 0) (m' := 200) (i := 42) h rfl rfl (by decide) (by decide +kernel) (by decide) (by decide) (by decide) (fun σ2 h2 => ?_)
  refine r_putPB h2 rfl (by decide +kernel) (by decide +kernel) rfl (Or.inr ⟨rfl, rfl⟩) (fun σ3 h3 => ?_)
  refine r_aload_n rfl rfl ?_
  refine r_aload_n rfl rfl ?_
  refine r_putPB h3 rfl (by decide +kernel) (by decide +kernel) rfl (Or.inr ⟨rfl, rfl⟩) (fun σ4 h4 => ?_)
  refine r_aload_n rfl rfl ?_
  refine r_aload_n rfl rfl ?_
  refine r_putPB h4 rfl (by decide +kernel) (by decide +kernel) rfl (Or.inr ⟨rfl, rfl⟩) (fun σ5 h5 => ?_)
  refine r_vret rfl rfl ?_
  rw [← hQ]
  exact ⟨rfl, h5⟩
set_option maxHeartbeats 1000000 in
theorem c_bNK (h : Bd σ0 σ c (n_O hp0 11)) : Cn l D m_NK_init 44 2031 [va_rf (some (c + 0))] σ (fun r τ => r = none ∧ Bd σ0 τ c bNK) := by
  generalize hQ : (fun (r : Option Value) (τ : Hp) => r = none ∧ Bd σ0 τ c bNK) = Q
  refine Cn.of (by decide) (by repeat (first | exact ca_0 | refine ca_i ?_ | refine ca_r ?_)) (Nat.le_of_ble_eq_true rfl) ?_
  refine r_aload_n rfl rfl ?_
  refine r_objInit rfl (Nat.le_of_ble_eq_true rfl) ⟨Nat.le_of_ble_eq_true rfl, Nat.le_of_ble_eq_true rfl⟩ ?_
  refine r_aload_n rfl rfl ?_
  refine r_newB (kc' := 43) (ks' := 2029) (i := 1) h rfl (by decide +kernel) (by decide) (by decide) (by decide) (fun σ1 h1 => ?_)
  refine r_dup rfl (by first | rfl | exact rf_cat _) ?_
  refine r_sipush (v := nI 600) rfl (by decide) ?_
  refine r_callI (As := [_]) rfl (by decide) rfl rfl rfl (Nat.le_of_ble_eq_true rfl) ⟨Nat.le_of_ble_eq_true rfl, Nat.le_of_ble_eq_true rfl⟩ (c_bLine (i := 2) h1 (by decide +kernel) (by decide) (by decide +kernel) (by decide)) (kc' := 42) (ks' := 1429) (by omega) (by omega) ?_
  rintro r σ2 ⟨rfl, h2⟩
  refine r_putPB h2 rfl (by decide +kernel) (by decide +kernel) rfl (Or.inr ⟨rfl, rfl⟩) (fun σ3 h3 => ?_)
  refine r_aload_n rfl rfl ?_
  refine r_newB (kc' := 41) (ks' := 1425) (i := 3) h3 rfl (by decide +kernel) (by decide) (by decide) (by decide) (fun σ4 h4 => ?_)
  refine r_dup rfl (by first | rfl | exact rf_cat _) ?_
  refine r_callI (As := []) rfl (by decide) rfl rfl rfl (Nat.le_of_ble_eq_true rfl) ⟨Nat.le_of_ble_eq_true rfl, Nat.le_of_ble_eq_true rfl⟩ (c_bTree h4) (kc' := 10) (ks' := 1067) (by omega) (by omega) ?_
  rintro r σ5 ⟨rfl, h5⟩
  refine r_putPB h5 rfl (by decide +kernel) (by decide +kernel) rfl (Or.inr ⟨rfl, rfl⟩) (fun σ6 h6 => ?_)
  refine r_aload_n rfl rfl ?_
  refine r_newB (kc' := 9) (ks' := 1064) (i := 35) h6 rfl (by decide +kernel) (by decide) (by decide) (by decide) (fun σ7 h7 => ?_)
  refine r_dup rfl (by first | rfl | exact rf_cat _) ?_
  refine r_aload_n rfl rfl ?_
  refine r_getPB (i := 3) h7 rfl (by decide +kernel) (by decide +kernel) (by decide) rfl (by decide +kernel) ?_
  refine r_getPB (i := 4) h7 rfl (by decide +kernel) (by decide +kernel) (by decide) rfl (by decide +kernel) ?_
  refine r_callI (As := [_]) rfl (by decide) rfl rfl rfl (Nat.le_of_ble_eq_true rfl) ⟨Nat.le_of_ble_eq_true rfl, Nat.le_of_ble_eq_true rfl⟩ (c_bNumbering h7) (kc' := 8) (ks' := 1058) (by omega) (by omega) ?_
  rintro r σ8 ⟨rfl, h8⟩
  refine r_putPB h8 rfl (by decide +kernel) (by decide +kernel) rfl (Or.inr ⟨rfl, rfl⟩) (fun σ9 h9 => ?_)
  refine r_aload_n rfl rfl ?_
  refine r_sipush (v := nI 200) rfl (by decide) ?_
  refine r_anewB (kc' := 7) (ks' := 858) (m' := 200) (t := 0) (i := 37) h9 rfl (by decide) rfl (by decide) (by decide +kernel) (by decide) (by decide) (fun σ10 h10 => ?_)
  refine r_putPB h10 rfl (by decide +kernel) (by decide +kernel) rfl (Or.inr ⟨rfl, rfl⟩) (fun σ11 h11 => ?_)
  refine r_aload_n rfl rfl ?_
  refine r_bipush (v := nI 100) rfl (by decide) ?_
  refine r_anewB (kc' := 6) (ks' := 758) (m' := 100) (t := 4) (i := 38) h11 rfl (by decide) rfl (by decide) (by decide +kernel) (by decide) (by decide) (fun σ12 h12 => ?_)
  refine r_putPB h12 rfl (by decide +kernel) (by decide +kernel) rfl (Or.inr ⟨rfl, rfl⟩) (fun σ13 h13 => ?_)
  refine r_aload_n rfl rfl ?_
  refine r_newB (kc' := 5) (ks' := 756) (i := 39) h13 rfl (by decide +kernel) (by decide) (by decide) (by decide) (fun σ14 h14 => ?_)
  refine r_dup rfl (by first | rfl | exact rf_cat _) ?_
  refine r_aload_n rfl rfl ?_
  refine r_getPB (i := 3) h14 rfl (by decide +kernel) (by decide +kernel) (by decide) rfl (by decide +kernel) ?_
  refine r_getPB (i := 4) h14 rfl (by decide +kernel) (by decide +kernel) (by decide) rfl (by decide +kernel) ?_
  refine r_callI (As := [_]) rfl (by decide) rfl rfl rfl (Nat.le_of_ble_eq_true rfl) ⟨Nat.le_of_ble_eq_true rfl, Nat.le_of_ble_eq_true rfl⟩ (c_bTeller h14) (kc' := 5) (ks' := 756) (by omega) (by omega) ?_
  rintro r σ15 ⟨rfl, h15⟩
  refine r_putPB h15 rfl (by decide +kernel) (by decide +kernel) rfl (Or.inr ⟨rfl, rfl⟩) (fun σ16 h16 => ?_)
  refine r_aload_n rfl rfl ?_
  refine r_bipush (v := nI 8) rfl (by decide) ?_
  refine r_anewB (kc' := 4) (ks' := 748) (m' := 8) (t := 1) (i := 40) h16 rfl (by decide) rfl (by decide) (by decide +kernel) (by decide) (by decide) (fun σ17 h17 => ?_)
  refine r_putPB h17 rfl (by decide +kernel) (by decide +kernel) rfl (Or.inr ⟨rfl, rfl⟩) (fun σ18 h18 => ?_)
  refine r_aload_n rfl rfl ?_
  refine r_newB (kc' := 3) (ks' := 741) (i := 41) h18 rfl (by decide +kernel) (by decide) (by decide) (by decide) (fun σ19 h19 => ?_)
  refine r_dup rfl (by first | rfl | exact rf_cat _) ?_
  refine r_aload_n rfl rfl ?_
  refine r_getPB (i := 1) h19 rfl (by decide +kernel) (by decide +kernel) (by decide) rfl (by decide +kernel) ?_
  refine r_aload_n rfl rfl ?_
  refine r_getPB (i := 3) h19 rfl (by decide +kernel) (by decide +kernel) (by decide) rfl (by decide +kernel) ?_
  refine r_callI (As := [_, _]) rfl (by decide) rfl rfl rfl (Nat.le_of_ble_eq_true rfl) ⟨Nat.le_of_ble_eq_true rfl, Nat.le_of_ble_eq_true rfl⟩ (c_bReader h19) (kc' := 2) (ks' := 541) (by omega) (by omega) ?_
  rintro r σ20 ⟨rfl, h20⟩
  refine r_putPB h20 rfl (by decide +kernel) (by decide +kernel) rfl (Or.inr ⟨rfl, rfl⟩) (fun σ21 h21 => ?_)
  refine r_aload_n rfl rfl ?_
  refine r_newB (kc' := 1) (ks' := 539) (i := 43) h21 rfl (by decide +kernel) (by decide) (by decide) (by decide) (fun σ22 h22 => ?_)
  refine r_dup rfl (by first | rfl | exact rf_cat _) ?_
  refine r_sipush (v := nI 539) rfl (by decide) ?_
  refine r_callI (As := [_]) rfl (by decide) rfl rfl rfl (Nat.le_of_ble_eq_true rfl) ⟨Nat.le_of_ble_eq_true rfl, Nat.le_of_ble_eq_true rfl⟩ (c_bLine (i := 44) h22 (by decide +kernel) (by decide) (by decide +kernel) (by decide)) (kc' := 0) (ks' := 0) (by omega) (by omega) ?_
  rintro r σ23 ⟨rfl, h23⟩
  refine r_putPB h23 rfl (by decide +kernel) (by decide +kernel) rfl (Or.inr ⟨rfl, rfl⟩) (fun σ24 h24 => ?_)
  refine r_vret rfl rfl ?_
  rw [← hQ]
  exact ⟨rfl, h24⟩
end BC
