/-! ===== the class: letters and figures of a number ===== -/
section NB
variable {l : Launch} {D : DD} {σ : Hp} {a cap : Nat} {xs : List Int32}
theorem c_putLetters {n f : Nat} (h : Ln σ a cap xs) (hn : 1 ≤ n) (hn2 : n ≤ 120) (hf : 1 ≤ f) (hf2 : f ≤ 200) (hl : xs.length + 2 ≤ cap) : Cn l D m_Numbering_putLetters 0 0 [va_rf (some a), .int (nI n), .int (nI f)] σ (fun r τ => r = none ∧ Ln τ a cap (xs ++ lets f n) ∧ LF σ τ a) := by
  generalize hQ : (fun (r : Option Value) (τ : Hp) => r = none ∧ Ln τ a cap (xs ++ lets f n) ∧ LF σ τ a) = Q
  refine Cn.of (by decide) (by repeat (first | exact ca_0 | refine ca_i ?_ | refine ca_r ?_)) (Nat.le_of_ble_eq_true rfl) ?_
  have rest : ∀ (τ : Hp) (ys : List Int32), Ln τ a cap ys → LF σ τ a → ys.length < cap → ys ++ [b8 (nI (f + (n - 1) % 26))] = xs ++ lets f n → Gm l D m_Numbering_putLetters 0 0 Q 22 [some (va_rf (some a)), some (.int (nI n)), some (.int (nI f)), some (.int (nI (n - 1)))] [] τ 0 0 := by
    intro τ ys h1 h2 h3 h4
    refine r_aload_n rfl rfl ?_
    refine r_iload_n rfl rfl ?_
    refine r_iload_n rfl rfl ?_
    refine r_bipush (v := nI 26) rfl (by decide) ?_
    refine r_iremN rfl (by omega) (by decide) (by decide) ?_
    refine r_iadd rfl ?_
    rw [nI_add]
    refine r_callV (As := [_]) rfl (by decide) rfl h1.1 rfl rfl (Nat.le_of_ble_eq_true rfl) ⟨Nat.le_of_ble_eq_true rfl, Nat.le_of_ble_eq_true rfl⟩ (c_put h1 h3) (kc' := 0) (ks' := 0) (by omega) (by omega) (by decide) ?_
    rintro r ρ ⟨rfl, l1, l2⟩
    refine r_vret rfl rfl ?_
    rw [← hQ, ← h4]
    exact ⟨rfl, l1, h2.tr l2⟩
  refine r_iload_n rfl rfl ?_
  refine r_iconst (v := nI 1) rfl (by decide) ?_
  refine r_isubN rfl (by omega) ?_
  refine r_istore_n rfl (by decide) ?_
  refine r_iload_n rfl rfl ?_
  refine r_bipush (v := nI 26) rfl (by decide) ?_
  refine r_ltN rfl (by omega) (by omega) (fun q => ?_) (fun q => ?_)
  · refine rest σ xs h (LF.rf _ _) (by omega) ?_
    unfold lets
    rw [if_neg (by omega)]
    rfl
  · refine r_aload_n rfl rfl ?_
    refine r_iload_n rfl rfl ?_
    refine r_iload_n rfl rfl ?_
    refine r_bipush (v := nI 26) rfl (by decide) ?_
    refine r_idivN rfl (by omega) (by decide) (by decide) ?_
    refine r_iadd rfl ?_
    rw [nI_add]
    refine r_iconst (v := nI 1) rfl (by decide) ?_
    refine r_isubN rfl (by omega) ?_
    refine r_callV (As := [_]) rfl (by decide) rfl h.1 rfl rfl (Nat.le_of_ble_eq_true rfl) ⟨Nat.le_of_ble_eq_true rfl, Nat.le_of_ble_eq_true rfl⟩ (c_put h (by omega)) (kc' := 0) (ks' := 0) (by omega) (by omega) (by decide) ?_
    rintro r τ ⟨rfl, l1, l2⟩
    refine rest τ _ l1 l2 (by rw [List.length_append, List.length_singleton]; omega) ?_
    unfold lets
    rw [if_pos (by omega), List.append_assoc]
theorem c_putFigures {n : Nat} (h : Ln σ a cap xs) (hn2 : n ≤ 120) (hl : xs.length + 3 ≤ cap) : Cn l D m_Numbering_putFigures 0 0 [va_rf (some a), .int (nI n)] σ (fun r τ => r = none ∧ Ln τ a cap (xs ++ figs n) ∧ LF σ τ a) := by
  generalize hQ : (fun (r : Option Value) (τ : Hp) => r = none ∧ Ln τ a cap (xs ++ figs n) ∧ LF σ τ a) = Q
  refine Cn.of (by decide) (by repeat (first | exact ca_0 | refine ca_i ?_ | refine ca_r ?_)) (Nat.le_of_ble_eq_true rfl) ?_
  have rest : ∀ (τ : Hp) (ys : List Int32), Ln τ a cap ys → LF σ τ a → ys.length < cap → ys ++ [b8 (nI (48 + n % 10))] = xs ++ figs n → Gm l D m_Numbering_putFigures 0 0 Q 37 [some (va_rf (some a)), some (.int (nI n))] [] τ 0 0 := by
    intro τ ys h1 h2 h3 h4
    refine r_aload_n rfl rfl ?_
    refine r_bipush (v := nI 48) rfl (by decide) ?_
    refine r_iload_n rfl rfl ?_
    refine r_bipush (v := nI 10) rfl (by decide) ?_
    refine r_iremN rfl (by omega) (by decide) (by decide) ?_
    refine r_iadd rfl ?_
    rw [nI_add]
    refine r_callV (As := [_]) rfl (by decide) rfl h1.1 rfl rfl (Nat.le_of_ble_eq_true rfl) ⟨Nat.le_of_ble_eq_true rfl, Nat.le_of_ble_eq_true rfl⟩ (c_put h1 h3) (kc' := 0) (ks' := 0) (by omega) (by omega) (by decide) ?_
    rintro r ρ ⟨rfl, l1, l2⟩
    refine r_vret rfl rfl ?_
    rw [← hQ, ← h4]
    exact ⟨rfl, l1, h2.tr l2⟩
  have mid : ∀ (τ : Hp) (ys : List Int32), Ln τ a cap ys → LF σ τ a → ys.length + 1 < cap → ys = xs ++ (if 100 ≤ n then [b8 (nI (48 + n / 100 % 10))] else []) → Gm l D m_Numbering_putFigures 0 0 Q 17 [some (va_rf (some a)), some (.int (nI n))] [] τ 0 0 := by
    intro τ ys h1 h2 h3 h4
    refine r_iload_n rfl rfl ?_
    refine r_bipush (v := nI 10) rfl (by decide) ?_
    refine r_ltN rfl (by omega) (by omega) (fun q => ?_) (fun q => ?_)
    · refine rest τ ys h1 h2 (by omega) ?_
      rw [h4]
      unfold figs
      rw [if_neg (show ¬ 10 ≤ n by omega), List.append_nil, List.append_assoc]
    · refine r_aload_n rfl rfl ?_
      refine r_bipush (v := nI 48) rfl (by decide) ?_
      refine r_iload_n rfl rfl ?_
      refine r_bipush (v := nI 10) rfl (by decide) ?_
      refine r_idivN rfl (by omega) (by decide) (by decide) ?_
      refine r_bipush (v := nI 10) rfl (by decide) ?_
      refine r_iremN rfl (by omega) (by decide) (by decide) ?_
      refine r_iadd rfl ?_
      rw [nI_add]
      refine r_callV (As := [_]) rfl (by decide) rfl h1.1 rfl rfl (Nat.le_of_ble_eq_true rfl) ⟨Nat.le_of_ble_eq_true rfl, Nat.le_of_ble_eq_true rfl⟩ (c_put h1 (by omega)) (kc' := 0) (ks' := 0) (by omega) (by omega) (by decide) ?_
      rintro r ρ ⟨rfl, l1, l2⟩
      refine rest ρ _ l1 (h2.tr l2) (by rw [List.length_append, List.length_singleton]; omega) ?_
      rw [h4]
      unfold figs
      rw [if_pos (show 10 ≤ n by omega)]
      simp only [List.append_assoc]
  refine r_iload_n rfl rfl ?_
  refine r_bipush (v := nI 100) rfl (by decide) ?_
  refine r_ltN rfl (by omega) (by omega) (fun q => ?_) (fun q => ?_)
  · exact mid σ xs h (LF.rf _ _) (by omega) (by rw [if_neg (by omega), List.append_nil])
  · refine r_aload_n rfl rfl ?_
    refine r_bipush (v := nI 48) rfl (by decide) ?_
    refine r_iload_n rfl rfl ?_
    refine r_bipush (v := nI 100) rfl (by decide) ?_
    refine r_idivN rfl (by omega) (by decide) (by decide) ?_
    refine r_iadd rfl ?_
    rw [nI_add]
    refine r_callV (As := [_]) rfl (by decide) rfl h.1 rfl rfl (Nat.le_of_ble_eq_true rfl) ⟨Nat.le_of_ble_eq_true rfl, Nat.le_of_ble_eq_true rfl⟩ (c_put h (by omega)) (kc' := 0) (ks' := 0) (by omega) (by omega) (by decide) ?_
    rintro r τ ⟨rfl, l1, l2⟩
    refine mid τ _ l1 l2 (by rw [List.length_append, List.length_singleton]; omega) ?_
    rw [if_pos (by omega), Nat.mod_eq_of_lt (show n / 100 < 10 by omega)]
end NB
