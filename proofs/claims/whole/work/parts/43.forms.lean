/-! ===== the reference: form, change, had, finding ===== -/
theorem inB_nI {v : Int32} {m : Nat} (hm : m < 2 ^ 31) (h : inB v 0 (nI m) = true) : ∃ k, k ≤ m ∧ v = nI k := by
  obtain ⟨h1, h2⟩ := okn h
  have h1 := of_decide_eq_true h1
  have h2 := of_decide_eq_true h2
  obtain ⟨k, hk, rfl⟩ := nI_of (Int32.not_lt.mpr h1)
  exact ⟨k, (nI_leI hk hm).mp h2, rfl⟩
section MC
variable {l : Launch} {D : DD} {σ : Hp} {o : Nat}
theorem c_M_form {k s y j : Int32} (hM : ML σ o) : Cn l D m_M_form 0 0 [va_rf (some o), .int k, .int s, .int y, .int j] σ (fun r τ => (inB k 0 5 && inB s 0 7 && inB y 0 4 && inB j 0 2) = false ∧ r = some (.int (-2)) ∧ τ = σ ∨ (inB k 0 5 && inB s 0 7 && inB y 0 4 && inB j 0 2) = true ∧ r = some (.int (nI 1)) ∧ ∃ q, q < 6 ∧ k = nI q ∧ τ = w_I (w_X (w_X (w_X σ (o + 1 + 3) (upd (h_X σ (o + 1 + 3)) q s)) (o + 1 + 4) (upd (h_X σ (o + 1 + 4)) q y)) (o + 1 + 5) (upd (h_X σ (o + 1 + 5)) q j)) 721 o (nI 0)) := by
  generalize hQ : (fun (r : Option Value) (τ : Hp) => (inB k 0 5 && inB s 0 7 && inB y 0 4 && inB j 0 2) = false ∧ r = some (.int (-2)) ∧ τ = σ ∨ (inB k 0 5 && inB s 0 7 && inB y 0 4 && inB j 0 2) = true ∧ r = some (.int (nI 1)) ∧ ∃ q, q < 6 ∧ k = nI q ∧ τ = w_I (w_X (w_X (w_X σ (o + 1 + 3) (upd (h_X σ (o + 1 + 3)) q s)) (o + 1 + 4) (upd (h_X σ (o + 1 + 4)) q y)) (o + 1 + 5) (upd (h_X σ (o + 1 + 5)) q j)) 721 o (nI 0)) = Q
  refine Cn.of (by decide) (by repeat (first | exact ca_0 | refine ca_i ?_ | refine ca_r ?_)) (Nat.le_of_ble_eq_true rfl) ?_
  have no : (inB k 0 5 && inB s 0 7 && inB y 0 4 && inB j 0 2) = false → Gm l D m_M_form 0 0 Q 36 (en_L [va_rf (some o), .int k, .int s, .int y, .int j] 5) [] σ 0 0 := by
    intro h
    refine r_bipush (v := -2) rfl (by decide) ?_
    refine r_iret rfl rfl ?_
    rw [← hQ]
    exact Or.inl ⟨h, rfl, rfl⟩
  refine r_iload_n rfl rfl ?_
  refine r_callS (As := [_]) rfl (by decide) rfl rfl rfl (Nat.le_of_ble_eq_true rfl) ⟨Nat.le_of_ble_eq_true rfl, Nat.le_of_ble_eq_true rfl⟩ c_M_isKind (kc' := 0) (ks' := 0) (by omega) (by omega) ?_
  rintro r τ ⟨rfl, rfl⟩
  refine r_ifeqB rfl (fun q => no (by rw [q]; rfl)) (fun q1 => ?_)
  refine r_iload_n rfl rfl ?_
  refine r_iconst (v := nI 0) rfl (by decide) ?_
  refine r_bipush (v := nI 7) rfl (by decide) ?_
  refine r_callS (As := [_, _, _]) rfl (by decide) rfl rfl rfl (Nat.le_of_ble_eq_true rfl) ⟨Nat.le_of_ble_eq_true rfl, Nat.le_of_ble_eq_true rfl⟩ c_M_in (kc' := 0) (ks' := 0) (by omega) (by omega) ?_
  rintro r τ' ⟨rfl, rfl⟩
  have e7 : inB s (nI 0) (nI 7) = inB s 0 7 := rfl
  rw [e7]
  refine r_ifeqB rfl (fun q => no (by rw [q]; simp)) (fun q2 => ?_)
  refine r_iload_n rfl rfl ?_
  refine r_iconst (v := nI 0) rfl (by decide) ?_
  refine r_iconst (v := nI 4) rfl (by decide) ?_
  refine r_callS (As := [_, _, _]) rfl (by decide) rfl rfl rfl (Nat.le_of_ble_eq_true rfl) ⟨Nat.le_of_ble_eq_true rfl, Nat.le_of_ble_eq_true rfl⟩ c_M_in (kc' := 0) (ks' := 0) (by omega) (by omega) ?_
  rintro r τ'' ⟨rfl, rfl⟩
  have e4 : inB y (nI 0) (nI 4) = inB y 0 4 := rfl
  rw [e4]
  refine r_ifeqB rfl (fun q => no (by rw [q]; simp)) (fun q3 => ?_)
  refine r_iload rfl rfl ?_
  refine r_iconst (v := nI 0) rfl (by decide) ?_
  refine r_iconst (v := nI 2) rfl (by decide) ?_
  refine r_callS (As := [_, _, _]) rfl (by decide) rfl rfl rfl (Nat.le_of_ble_eq_true rfl) ⟨Nat.le_of_ble_eq_true rfl, Nat.le_of_ble_eq_true rfl⟩ c_M_in (kc' := 0) (ks' := 0) (by omega) (by omega) ?_
  rintro r ρ ⟨rfl, rfl⟩
  have e2 : inB j (nI 0) (nI 2) = inB j 0 2 := rfl
  rw [e2]
  refine r_ifneB rfl (fun q4 => ?_) (fun q => no (by rw [q]; simp))
  obtain ⟨q, hq, rfl⟩ := inB_nI (m := 5) (by omega) q1
  refine r_aload_n rfl rfl ?_
  refine r_mg (j := 3) hM rfl rfl (by decide) ?_
  refine r_iload_n rfl rfl ?_
  refine r_iload_n rfl rfl ?_
  refine r_mis (j := 3) hM rfl rfl (by decide) (by first | rfl | assumption) (show _ < 6 by omega) ?_
  refine r_aload_n rfl rfl ?_
  refine r_mg (j := 4) hM rfl rfl (by decide) ?_
  refine r_iload_n rfl rfl ?_
  refine r_iload_n rfl rfl ?_
  refine r_mis (j := 4) hM rfl rfl (by decide) (by first | rfl | assumption) (show _ < 6 by omega) ?_
  refine r_aload_n rfl rfl ?_
  refine r_mg (j := 5) hM rfl rfl (by decide) ?_
  refine r_iload_n rfl rfl ?_
  refine r_iload rfl rfl ?_
  refine r_mis (j := 5) hM rfl rfl (by decide) (by first | rfl | assumption) (show _ < 6 by omega) ?_
  refine r_aload_n rfl rfl ?_
  refine r_iconst (v := nI 0) rfl (by decide) ?_
  refine r_putI rfl hM.1 rfl (Or.inl rfl) (by first | rfl | decide) (by first | rfl | decide) ?_
  refine r_iconst (v := nI 1) rfl (by decide) ?_
  refine r_iret rfl rfl ?_
  rw [← hQ]
  refine Or.inr ⟨by rw [q1, q2, q3, q4]; rfl, rfl, q, by omega, rfl, ?_⟩
  simp only [hX_n _ _ (show o + 1 + 4 ≠ o + 1 + 3 by omega), hX_n _ _ (show o + 1 + 5 ≠ o + 1 + 4 by omega), hX_n _ _ (show o + 1 + 5 ≠ o + 1 + 3 by omega)]
/-- an entry of the log, and what it does -/
def chg (σ : Hp) (o e : Nat) (code a b c : Int32) : Hp := w_I (w_X (w_X (w_X (w_X σ (o + 1 + 10) (upd (h_X σ (o + 1 + 10)) e code)) (o + 1 + 11) (upd (h_X σ (o + 1 + 11)) e a)) (o + 1 + 12) (upd (h_X σ (o + 1 + 12)) e b)) (o + 1 + 13) (upd (h_X σ (o + 1 + 13)) e c)) 716 o (nI (e + 1))
theorem c_M_change {code a b c : Int32} {e : Nat} {Q : Option Value → Hp → Prop} (hM : ML σ o) (he : h_I σ 716 o = nI e) (he2 : e < 200) (hQ : ∀ r τ, Q r τ → ∃ v, r = some (.int v)) (hd : Cn l D m_M_does 0 0 [va_rf (some o), .int code, .int a, .int b, .int c] (chg σ o e code a b c) Q) : Cn l D m_M_change 0 0 [va_rf (some o), .int code, .int a, .int b, .int c] σ Q := by
  refine Cn.of (by decide) (by repeat (first | exact ca_0 | refine ca_i ?_ | refine ca_r ?_)) (Nat.le_of_ble_eq_true rfl) ?_
  refine r_aload_n rfl rfl ?_
  refine r_mg (j := 10) hM rfl rfl (by decide) ?_
  refine r_aload_n rfl rfl ?_
  (first | refine r_getIv rfl hM.1 rfl (by assumption) ?_ | refine r_getI rfl hM.1 rfl ?_)
  refine r_iload_n rfl rfl ?_
  refine r_mis (j := 10) hM rfl rfl (by decide) (by first | rfl | assumption) (show _ < 200 by omega) ?_
  refine r_aload_n rfl rfl ?_
  refine r_mg (j := 11) hM rfl rfl (by decide) ?_
  refine r_aload_n rfl rfl ?_
  (first | refine r_getIv rfl hM.1 rfl (by assumption) ?_ | refine r_getI rfl hM.1 rfl ?_)
  refine r_iload_n rfl rfl ?_
  refine r_mis (j := 11) hM rfl rfl (by decide) (by first | rfl | assumption) (show _ < 200 by omega) ?_
  refine r_aload_n rfl rfl ?_
  refine r_mg (j := 12) hM rfl rfl (by decide) ?_
  refine r_aload_n rfl rfl ?_
  (first | refine r_getIv rfl hM.1 rfl (by assumption) ?_ | refine r_getI rfl hM.1 rfl ?_)
  refine r_iload_n rfl rfl ?_
  refine r_mis (j := 12) hM rfl rfl (by decide) (by first | rfl | assumption) (show _ < 200 by omega) ?_
  refine r_aload_n rfl rfl ?_
  refine r_mg (j := 13) hM rfl rfl (by decide) ?_
  refine r_aload_n rfl rfl ?_
  (first | refine r_getIv rfl hM.1 rfl (by assumption) ?_ | refine r_getI rfl hM.1 rfl ?_)
  refine r_iload rfl rfl ?_
  refine r_mis (j := 13) hM rfl rfl (by decide) (by first | rfl | assumption) (show _ < 200 by omega) ?_
  refine r_aload_n rfl rfl ?_
  refine r_dup rfl (by first | rfl | exact rf_cat _) ?_
  (first | refine r_getIv rfl hM.1 rfl (by assumption) ?_ | refine r_getI rfl hM.1 rfl ?_)
  refine r_iconst (v := nI 1) rfl (by decide) ?_
  (first | refine r_iaddN rfl ?_ | refine r_iadd rfl ?_)
  refine r_putI rfl hM.1 rfl (Or.inl rfl) (by first | rfl | decide) (by first | rfl | decide) ?_
  refine r_aload_n rfl rfl ?_
  refine r_iload_n rfl rfl ?_
  refine r_iload_n rfl rfl ?_
  refine r_iload_n rfl rfl ?_
  refine r_iload rfl rfl ?_
  have es : chg σ o e code a b c = w_I (w_X (w_X (w_X (w_X σ (o + 1 + 10) (upd (h_X σ (o + 1 + 10)) e code)) (o + 1 + 11) (upd (h_X (w_X σ (o + 1 + 10) (upd (h_X σ (o + 1 + 10)) e code)) (o + 1 + 11)) e a)) (o + 1 + 12) (upd (h_X (w_X (w_X σ (o + 1 + 10) (upd (h_X σ (o + 1 + 10)) e code)) (o + 1 + 11) (upd (h_X (w_X σ (o + 1 + 10) (upd (h_X σ (o + 1 + 10)) e code)) (o + 1 + 11)) e a)) (o + 1 + 12)) e b)) (o + 1 + 13) (upd (h_X (w_X (w_X (w_X σ (o + 1 + 10) (upd (h_X σ (o + 1 + 10)) e code)) (o + 1 + 11) (upd (h_X (w_X σ (o + 1 + 10) (upd (h_X σ (o + 1 + 10)) e code)) (o + 1 + 11)) e a)) (o + 1 + 12) (upd (h_X (w_X (w_X σ (o + 1 + 10) (upd (h_X σ (o + 1 + 10)) e code)) (o + 1 + 11) (upd (h_X (w_X σ (o + 1 + 10) (upd (h_X σ (o + 1 + 10)) e code)) (o + 1 + 11)) e a)) (o + 1 + 12)) e b)) (o + 1 + 13)) e c)) 716 o (nI (e + 1)) := by
    unfold chg
    simp only [hX_n _ _ (show o + 1 + 11 ≠ o + 1 + 10 by omega), hX_n _ _ (show o + 1 + 12 ≠ o + 1 + 11 by omega), hX_n _ _ (show o + 1 + 12 ≠ o + 1 + 10 by omega), hX_n _ _ (show o + 1 + 13 ≠ o + 1 + 12 by omega), hX_n _ _ (show o + 1 + 13 ≠ o + 1 + 11 by omega), hX_n _ _ (show o + 1 + 13 ≠ o + 1 + 10 by omega)]
  rw [← es]
  have hMc : ML (chg σ o e code a b c) o := hM
  refine r_callV (As := [_, _, _, _]) rfl (by decide) rfl hMc.1 rfl rfl (Nat.le_of_ble_eq_true rfl) ⟨Nat.le_of_ble_eq_true rfl, Nat.le_of_ble_eq_true rfl⟩ hd (kc' := 0) (ks' := 0) (by omega) (by omega) (by decide) ?_
  intro r τ hq
  obtain ⟨v, rfl⟩ := hQ r τ hq
  exact r_iret rfl rfl hq
/-- did edition e have thing x? -/
def hadB (ne : Nat) (kn : Nat → Int32) (e x : Int32) : Bool := (decide (0 ≤ e) && decide (e < nI ne)) && inB x 0 119 && decide (kn (120 * e.toNatClampNeg + x.toNatClampNeg) ≠ -1)
theorem c_M_had {e x : Int32} {ne : Nat} (hM : ML σ o) (hn : h_I σ 744 o = nI ne) (hn2 : ne ≤ 8) : Cn l D m_M_had 0 0 [va_rf (some o), .int e, .int x] σ (fun r τ => r = some (.int (nI (hadB ne (h_X σ (o + 1 + 34)) e x).toNat)) ∧ τ = σ) := by
  refine Cn.of (by decide) (by repeat (first | exact ca_0 | refine ca_i ?_ | refine ca_r ?_)) (Nat.le_of_ble_eq_true rfl) ?_
  have no : hadB ne (h_X σ (o + 1 + 34)) e x = false → Gm l D m_M_had 0 0 (fun r τ => r = some (.int (nI (hadB ne (h_X σ (o + 1 + 34)) e x).toNat)) ∧ τ = σ) 43 (en_L [va_rf (some o), .int e, .int x] 3) [] σ 0 0 := by
    intro h
    refine r_iconst (v := nI 0) rfl (by decide) ?_
    exact r_zret rfl rfl (by decide) ⟨by rw [h]; rfl, rfl⟩
  refine r_iload_n rfl rfl ?_
  refine r_iconst (v := nI 0) rfl (by decide) ?_
  refine r_aload_n rfl rfl ?_
  (first | refine r_getIv rfl hM.1 rfl (by assumption) ?_ | refine r_getI rfl hM.1 rfl ?_)
  refine r_iconst (v := nI 1) rfl (by decide) ?_
  refine r_isub rfl ?_
  refine r_callS (As := [_, _, _]) rfl (by decide) rfl rfl rfl (Nat.le_of_ble_eq_true rfl) ⟨Nat.le_of_ble_eq_true rfl, Nat.le_of_ble_eq_true rfl⟩ c_M_in (kc' := 0) (ks' := 0) (by omega) (by omega) ?_
  rintro r τ ⟨rfl, rfl⟩
  rw [show nI 0 = 0 from rfl, inB_n (by omega)]
  refine r_ifeqB rfl (fun q => no (by unfold hadB; rw [q]; rfl)) (fun q1 => ?_)
  refine r_iload_n rfl rfl ?_
  refine r_iconst (v := nI 0) rfl (by decide) ?_
  refine r_bipush (v := nI 119) rfl (by decide) ?_
  refine r_callS (As := [_, _, _]) rfl (by decide) rfl rfl rfl (Nat.le_of_ble_eq_true rfl) ⟨Nat.le_of_ble_eq_true rfl, Nat.le_of_ble_eq_true rfl⟩ c_M_in (kc' := 0) (ks' := 0) (by omega) (by omega) ?_
  rintro r τ' ⟨rfl, rfl⟩
  have e119 : inB x (nI 0) (nI 119) = inB x 0 119 := rfl
  rw [e119]
  refine r_ifeqB rfl (fun q => no (by unfold hadB; rw [q]; simp)) (fun q2 => ?_)
  obtain ⟨a1, a2⟩ := okn q1
  have a1 := of_decide_eq_true a1
  have a2 := of_decide_eq_true a2
  obtain ⟨p, hp, rfl⟩ := nI_of (Int32.not_lt.mpr a1)
  have hp2 : p < ne := (nI_ltI hp (by omega)).mp a2
  obtain ⟨z, hz, rfl⟩ := inB_nI (m := 119) (by omega) q2
  have c1 : (nI p).toNatClampNeg = p := nI_clamp hp
  have c2 : (nI z).toNatClampNeg = z := nI_clamp (by omega)
  refine r_aload_n rfl rfl ?_
  refine r_mg (j := 34) hM rfl rfl (by decide) ?_
  refine r_bipush (v := nI 120) rfl (by decide) ?_
  refine r_iload_n rfl rfl ?_
  (first | refine r_imulN rfl ?_ | refine r_imul rfl ?_)
  refine r_iload_n rfl rfl ?_
  (first | refine r_iaddN rfl ?_ | refine r_iadd rfl ?_)
  refine r_mi (j := 34) hM rfl rfl (by decide) (by first | rfl | assumption) (show _ < 960 by omega) ?_
  refine r_iconst (v := -1) rfl (by decide) ?_
  refine r_icmp_eq rfl (fun q => no ?_) (fun q => ?_)
  · unfold hadB
    rw [c1, c2, q]
    simp
  · refine r_iconst (v := nI 1) rfl (by decide) ?_
    refine r_goto rfl ?_
    refine r_zret rfl rfl (by decide) ⟨?_, rfl⟩
    unfold hadB
    rw [c1, c2, q1, q2, decide_eq_true (p := _ ≠ _) q]
    rfl
end MC
