/-! ===== the reference: word ===== -/
section MC
variable {l : Launch} {D : DD} {σ : Hp} {o : Nat}
set_option maxHeartbeats 1000000 in
theorem c_M_word {k : Int32} {xs : List Int32} (hM : ML σ o) (h : Tp σ o xs) : Cn l D m_M_word 0 0 [va_rf (some o), .int k] σ (fun r τ => (inB k 0 5 && decide (xs.length ≤ 10) && xs.all isL) = false ∧ r = some (.int (-2)) ∧ τ = w_I σ 705 o (nI 0) ∨
      (inB k 0 5 && decide (xs.length ≤ 10) && xs.all isL) = true ∧ r = some (.int (nI xs.length)) ∧ ∃ q, q < 6 ∧ k = nI q ∧ Wd τ o q xs ∧ h_I τ 705 o = nI 0 ∧ h_I τ 721 o = nI 0 ∧ MFr [1, 2] [705, 721] σ τ o ∧ ∀ p ws, p ≠ q → Wd σ o p ws → Wd τ o p ws) := by
  generalize hQ : (fun (r : Option Value) (τ : Hp) => (inB k 0 5 && decide (xs.length ≤ 10) && xs.all isL) = false ∧ r = some (.int (-2)) ∧ τ = w_I σ 705 o (nI 0) ∨
      (inB k 0 5 && decide (xs.length ≤ 10) && xs.all isL) = true ∧ r = some (.int (nI xs.length)) ∧ ∃ q, q < 6 ∧ k = nI q ∧ Wd τ o q xs ∧ h_I τ 705 o = nI 0 ∧ h_I τ 721 o = nI 0 ∧ MFr [1, 2] [705, 721] σ τ o ∧ ∀ p ws, p ≠ q → Wd σ o p ws → Wd τ o p ws) = Q
  obtain ⟨h1, h2, h3⟩ := id h
  refine Cn.of (by decide) (by repeat (first | exact ca_0 | refine ca_i ?_ | refine ca_r ?_)) (Nat.le_of_ble_eq_true rfl) ?_
  refine g_fits (fun hfit _ _ => ?_)
  refine r_aload_n rfl rfl ?_
  (first | refine r_getIv rfl hM.1 rfl (by assumption) ?_ | refine r_getI rfl hM.1 rfl ?_)
  refine r_istore_n rfl (by decide) ?_
  refine r_aload_n rfl rfl ?_
  refine r_iconst (v := nI 0) rfl (by decide) ?_
  refine r_putI rfl hM.1 rfl (Or.inl rfl) (by first | rfl | decide) (by first | rfl | decide) ?_
  refine r_iload_n rfl rfl ?_
  have no : ∀ z, (inB k 0 5 && decide (xs.length ≤ 10) && xs.all isL) = false → Gm l D m_M_word 0 0 Q 23 [some (va_rf (some o)), some (.int k), some (.int (nI xs.length)), z] [] (w_I σ 705 o (nI 0)) 0 0 := by
    intro z hz
    refine r_bipush (v := -2) rfl (by decide) ?_
    refine r_iret rfl rfl ?_
    rw [← hQ]
    exact Or.inl ⟨hz, rfl, rfl⟩
  refine r_callS (As := [_]) rfl (by decide) rfl rfl rfl (Nat.le_of_ble_eq_true rfl) ⟨Nat.le_of_ble_eq_true rfl, Nat.le_of_ble_eq_true rfl⟩ c_M_isKind (kc' := 0) (ks' := 0) (by omega) (by omega) ?_
  rintro r τ ⟨rfl, rfl⟩
  refine r_ifeqB rfl (fun q => no _ (by rw [q]; rfl)) (fun q1 => ?_)
  refine r_iload_n rfl rfl ?_
  refine r_bipush (v := nI 10) rfl (by decide) ?_
  refine r_leN rfl (by omega) (by omega) (fun q2 => ?_) (fun q2 => no _ (by rw [decide_eq_false (by omega)]; simp))
  obtain ⟨q, hq, rfl⟩ := inB_nI (m := 5) (by omega) q1
  have hM1 : ML (w_I σ 705 o (nI 0)) o := hM
  have hI5 : h_I (w_I σ 705 o (nI 0)) 705 o = nI 0 := hI_w _ _ _ _
  have f0 : MFr [1, 2] [705, 721] σ (w_I σ 705 o (nI 0)) o := MFr.I _ _ (by decide)
  -- the copy
  have cp : xs.all isL = true → ∀ (d i : Nat) (g : Nat → Int32), i + d = xs.length → (∀ j, j < i → g (10 * q + j) = xs.getD j 0) → (∀ z, ¬ (10 * q ≤ z ∧ z < 10 * q + 10) → g z = h_X σ (o + 1 + 1) z) → Gm l D m_M_word 0 0 Q 56 [some (va_rf (some o)), some (.int (nI q)), some (.int (nI xs.length)), some (.int (nI i))] [] (w_X (w_I σ 705 o (nI 0)) (o + 1 + 1) g) 0 0 := by
    intro hall d
    induction d with
    | zero =>
      intro i g hi g1 g2
      refine r_iload_n rfl rfl ?_
      refine r_iload_n rfl rfl ?_
      refine r_geN rfl (by omega) (by omega) (fun _ => ?_) (fun w => by omega)
      refine r_aload_n rfl rfl ?_
      refine r_mg (j := 2) hM rfl rfl (by decide) ?_
      refine r_iload_n rfl rfl ?_
      refine r_iload_n rfl rfl ?_
      refine r_mis (j := 2) hM rfl rfl (by decide) (by first | rfl | assumption) (show _ < 6 by omega) ?_
      refine r_aload_n rfl rfl ?_
      refine r_iconst (v := nI 0) rfl (by decide) ?_
      refine r_putI rfl hM.1 rfl (Or.inl rfl) (by first | rfl | decide) (by first | rfl | decide) ?_
      refine r_iload_n rfl rfl ?_
      refine r_iret rfl rfl ?_
      rw [← hQ]
      refine Or.inr ⟨by rw [q1, decide_eq_true q2, hall]; rfl, rfl, q, by omega, rfl, ⟨?_, q2, fun j hj => ?_⟩, ?_, ?_, ((f0.tr (MFr.X _ _ (by decide))).tr (MFr.X _ _ (by decide))).tr (MFr.I _ _ (by decide)), fun p ws hp hw => ?_⟩
      · rw [hX_wI, hX_w, upd_s]
      · rw [hX_wI, hX_n _ _ (by omega), hX_w]
        exact g1 j (by omega)
      · rw [hI_n _ _ (by decide)]
        exact hI5
      · rw [hI_w]
      · obtain ⟨w1, w2, w3⟩ := hw
        refine ⟨?_, w2, fun j hj => ?_⟩
        · rw [hX_wI, hX_w, upd_n _ _ hp, hX_n _ _ (by omega)]
          exact w1
        · rw [hX_wI, hX_n _ _ (by omega), hX_w, g2 _ (by omega)]
          exact w3 j hj
    | succ d ih =>
      intro i g hi g1 g2
      have hfv : fits .byte (.int (xs.getD i 0)) = true := by
        rw [← h3 i (by omega)]
        exact hfit _ (hM.2 0 (by decide)).2.1 _
      have hnv : narrow .byte (.int (xs.getD i 0)) = .int (xs.getD i 0) := by
        show Value.int (b8 (xs.getD i 0)) = _
        rw [fit_b8 hfv]
      refine r_iload_n rfl rfl ?_
      refine r_iload_n rfl rfl ?_
      refine r_geN rfl (by omega) (by omega) (fun w => by omega) (fun _ => ?_)
      refine r_aload_n rfl rfl ?_
      refine r_mg (j := 1) hM rfl rfl (by decide) ?_
      refine r_bipush (v := nI 10) rfl (by decide) ?_
      refine r_iload_n rfl rfl ?_
      (first | refine r_imulN rfl ?_ | refine r_imul rfl ?_)
      refine r_iload_n rfl rfl ?_
      (first | refine r_iaddN rfl ?_ | refine r_iadd rfl ?_)
      refine r_aload_n rfl rfl ?_
      refine r_mg (j := 0) hM rfl rfl (by decide) ?_
      refine r_iload_n rfl rfl ?_
      refine r_mb (j := 0) hM rfl rfl (by decide) (by first | rfl | assumption) (show _ < 600 by omega) ?_
      rw [hX_n _ _ (show o + 1 + 0 ≠ o + 1 + 1 by omega), hX_wI, h3 i (by omega)]
      refine r_mbs (j := 1) hM rfl rfl (by decide) rfl (show _ < 60 by omega) hnv hfv ?_
      rw [wX_same, hX_w]
      refine r_iinc rfl rfl (nI_inc _) ?_
      refine r_goto rfl ?_
      refine ih (i + 1) _ (by omega) (fun j hj => ?_) (fun z hz => ?_)
      · by_cases w : j = i
        · rw [w, upd_s]
        · rw [upd_n _ _ (by omega)]
          exact g1 j (by omega)
      · rw [upd_n _ _ (by omega)]
        exact g2 z hz
  refine r_iconst (v := nI 0) rfl (by decide) ?_
  refine r_istore_n rfl (by decide) ?_
  have lp : ∀ (d i : Nat), i + d = xs.length → (∀ j, j < i → isL (xs.getD j 0) = true) → Gm l D m_M_word 0 0 Q 28 [some (va_rf (some o)), some (.int (nI q)), some (.int (nI xs.length)), some (.int (nI i))] [] (w_I σ 705 o (nI 0)) 0 0 := by
    intro d
    induction d with
    | zero =>
      intro i hi hp
      refine r_iload_n rfl rfl ?_
      refine r_iload_n rfl rfl ?_
      refine r_geN rfl (by omega) (by omega) (fun _ => ?_) (fun w => by omega)
      have hall : xs.all isL = true := by
        rw [List.all_eq_true]
        intro v hv
        obtain ⟨j, hj, rfl⟩ := List.getElem_of_mem hv
        rw [← getD_at hj]
        exact hp j (by omega)
      refine r_iconst (v := nI 0) rfl (by decide) ?_
      refine r_istore_n rfl (by decide) ?_
      have e := cp hall xs.length 0 (h_X σ (o + 1 + 1)) (by omega) (fun j hj => by omega) (fun _ _ => rfl)
      have e2 : w_X (w_I σ 705 o (nI 0)) (o + 1 + 1) (h_X σ (o + 1 + 1)) = w_I σ 705 o (nI 0) := wX_self (w_I σ 705 o (nI 0)) (o + 1 + 1)
      rw [e2] at e
      exact e
    | succ d ih =>
      intro i hi hp
      refine r_iload_n rfl rfl ?_
      refine r_iload_n rfl rfl ?_
      refine r_geN rfl (by omega) (by omega) (fun w => by omega) (fun _ => ?_)
      refine r_aload_n rfl rfl ?_
      refine r_mg (j := 0) hM rfl rfl (by decide) ?_
      refine r_iload_n rfl rfl ?_
      refine r_mb (j := 0) hM rfl rfl (by decide) (by first | rfl | assumption) (show _ < 600 by omega) ?_
      rw [hX_wI, h3 i (by omega)]
      refine r_callS (As := [_]) rfl (by decide) rfl rfl rfl (Nat.le_of_ble_eq_true rfl) ⟨Nat.le_of_ble_eq_true rfl, Nat.le_of_ble_eq_true rfl⟩ c_M_isLetter (kc' := 0) (ks' := 0) (by omega) (by omega) ?_
      rintro r τ ⟨rfl, rfl⟩
      refine r_ifneB rfl (fun w => ?_) (fun w => ?_)
      · refine r_iinc rfl rfl (nI_inc _) ?_
        refine r_goto rfl ?_
        refine ih (i + 1) (by omega) (fun j hj => ?_)
        by_cases e : j = i
        · rw [e]; exact w
        · exact hp j (by omega)
      · refine r_bipush (v := -2) rfl (by decide) ?_
        refine r_iret rfl rfl ?_
        rw [← hQ]
        refine Or.inl ⟨?_, rfl, rfl⟩
        have : xs.all isL = false := by
          rw [Bool.eq_false_iff]
          intro e
          have := List.all_eq_true.mp e (xs.getD i 0) (by rw [getD_at (by omega)]; exact List.getElem_mem _)
          rw [this] at w
          cases w
        rw [this, Bool.and_false]
  exact lp xs.length 0 (by omega) (fun j hj => by omega)
end MC
