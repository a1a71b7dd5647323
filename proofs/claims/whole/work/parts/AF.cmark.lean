/-! ===== the class: Roman figures, signs, marks, names ===== -/
def rL (d : Nat) : Nat := if d = 9 ∨ d = 4 then 2 else (if 5 ≤ d then 1 else 0) + d % 5
theorem romD_rL (d : Nat) (a b c : Int32) : (romD d a b c).length = rL d := by
  unfold romD rL
  by_cases h9 : d = 9
  · rw [if_pos h9, if_pos (Or.inl h9)]; rfl
  · rw [if_neg h9]
    by_cases h4 : d = 4
    · rw [if_pos h4, if_pos (Or.inr h4)]; rfl
    · rw [if_neg h4, if_neg (show ¬ (d = 9 ∨ d = 4) by omega), List.length_append, List.length_replicate]
      congr 1
      by_cases h5 : 5 ≤ d
      · rw [if_pos h5, if_pos h5]; rfl
      · rw [if_neg h5, if_neg h5]; rfl
section NB
variable {l : Launch} {D : DD} {σ : Hp} {a cap : Nat} {xs : List Int32}
theorem c_putRomanDigit {d i : Nat} {w : Int32} (h : Ln σ a cap xs) (hd : d < 10) (hi : i < 3) (hl : xs.length + rL d ≤ cap) : Cn l D m_Numbering_putRomanDigit 0 0 [va_rf (some a), .int (nI d), va_rf (some (d_t D i)), .int w] σ (fun r τ => r = none ∧ Ln τ a cap (xs ++ romD d (tx i 0 + w) (tx i 1 + w) (tx i 2 + w)) ∧ LF σ τ a) := by
  generalize hQ : (fun (r : Option Value) (τ : Hp) => r = none ∧ Ln τ a cap (xs ++ romD d (tx i 0 + w) (tx i 1 + w) (tx i 2 + w)) ∧ LF σ τ a) = Q
  refine Cn.of (by decide) (by repeat (first | exact ca_0 | refine ca_i ?_ | refine ca_r ?_)) (Nat.le_of_ble_eq_true rfl) ?_
  refine r_iload_n rfl rfl ?_
  refine r_iconst (v := nI 5) rfl (by decide) ?_
  refine r_iremN rfl (by omega) (by decide) (by decide) ?_
  refine r_istore rfl (by decide) ?_
  refine r_iload rfl rfl ?_
  refine r_iconst (v := nI 4) rfl (by decide) ?_
  refine r_neN rfl (by omega) (by omega) (fun q => ?_) (fun q => ?_)
  · have loop : ∀ (k j : Nat) (ys : List Int32) (τ : Hp), j + k = d % 5 → Ln τ a cap ys → LF σ τ a → ys.length + k ≤ cap → ys ++ List.replicate k (b8 (tx i 0 + w)) = xs ++ romD d (tx i 0 + w) (tx i 1 + w) (tx i 2 + w) → Gm l D m_Numbering_putRomanDigit 0 0 Q 62 [some (va_rf (some a)), some (.int (nI d)), some (va_rf (some (d_t D i))), some (.int w), some (.int (nI (d % 5))), some (.int (nI j))] [] τ 0 0 := by
      intro k
      induction k with
      | zero =>
        intro j ys τ h1 h2 h3 h4 h5
        refine r_iload rfl rfl ?_
        refine r_iload rfl rfl ?_
        refine r_geN rfl (by omega) (by omega) (fun _ => ?_) (fun q => by omega)
        refine r_vret rfl rfl ?_
        rw [← hQ, ← h5]
        exact ⟨rfl, by rw [List.replicate_zero, List.append_nil]; exact h2, h3⟩
      | succ k ih =>
        intro j ys τ h1 h2 h3 h4 h5
        refine r_iload rfl rfl ?_
        refine r_iload rfl rfl ?_
        refine r_geN rfl (by omega) (by omega) (fun q => by omega) (fun _ => ?_)
        refine r_aload_n rfl rfl ?_
        refine r_aload_n rfl rfl ?_
        refine r_iconst (v := nI 0) rfl (by decide) ?_
        refine r_charAt rfl hi (by decide) (Nat.le_of_ble_eq_true rfl) ⟨Nat.le_of_ble_eq_true rfl, Nat.le_of_ble_eq_true rfl⟩ ?_
        refine r_iload_n rfl rfl ?_
        refine r_iadd rfl ?_
        refine r_callV (As := [_]) rfl (by decide) rfl h2.1 rfl rfl (Nat.le_of_ble_eq_true rfl) ⟨Nat.le_of_ble_eq_true rfl, Nat.le_of_ble_eq_true rfl⟩ (c_put h2 (by omega)) (kc' := 0) (ks' := 0) (by omega) (by omega) (by decide) ?_
        rintro r ρ ⟨rfl, l1, l2⟩
        refine r_iinc rfl rfl (nI_inc _) ?_
        refine r_goto rfl ?_
        refine ih (j + 1) _ ρ (by omega) l1 (h3.tr l2) (by rw [List.length_append, List.length_singleton]; omega) ?_
        rw [← h5, List.append_assoc]
        rfl
    have e0 : romD d (tx i 0 + w) (tx i 1 + w) (tx i 2 + w) = (if 5 ≤ d then [b8 (tx i 1 + w)] else []) ++ List.replicate (d % 5) (b8 (tx i 0 + w)) := by
      unfold romD
      rw [if_neg (by omega), if_neg (by omega)]
    have eL : rL d = (if 5 ≤ d then 1 else 0) + d % 5 := by
      unfold rL
      rw [if_neg (by omega)]
    refine r_iload_n rfl rfl ?_
    refine r_iconst (v := nI 5) rfl (by decide) ?_
    refine r_ltN rfl (by omega) (by omega) (fun q5 => ?_) (fun q5 => ?_)
    · refine r_iconst (v := nI 0) rfl (by decide) ?_
      refine r_istore rfl (by decide) ?_
      rw [if_neg (by omega)] at e0 eL
      exact loop (d % 5) 0 xs σ (by omega) h (LF.rf _ _) (by omega) (by rw [e0]; rfl)
    · rw [if_pos (by omega)] at e0 eL
      refine r_aload_n rfl rfl ?_
      refine r_aload_n rfl rfl ?_
      refine r_iconst (v := nI 1) rfl (by decide) ?_
      refine r_charAt rfl hi (by decide) (Nat.le_of_ble_eq_true rfl) ⟨Nat.le_of_ble_eq_true rfl, Nat.le_of_ble_eq_true rfl⟩ ?_
      refine r_iload_n rfl rfl ?_
      refine r_iadd rfl ?_
      refine r_callV (As := [_]) rfl (by decide) rfl h.1 rfl rfl (Nat.le_of_ble_eq_true rfl) ⟨Nat.le_of_ble_eq_true rfl, Nat.le_of_ble_eq_true rfl⟩ (c_put h (by omega)) (kc' := 0) (ks' := 0) (by omega) (by omega) (by decide) ?_
      rintro r ρ ⟨rfl, l1, l2⟩
      refine r_iconst (v := nI 0) rfl (by decide) ?_
      refine r_istore rfl (by decide) ?_
      exact loop (d % 5) 0 _ ρ (by omega) l1 l2 (by rw [List.length_append, List.length_singleton]; omega) (by rw [e0, List.append_assoc])
  · have eL : rL d = 2 := by
      unfold rL
      rw [if_pos (by omega)]
    refine r_aload_n rfl rfl ?_
    refine r_aload_n rfl rfl ?_
    refine r_iconst (v := nI 0) rfl (by decide) ?_
    refine r_charAt rfl hi (by decide) (Nat.le_of_ble_eq_true rfl) ⟨Nat.le_of_ble_eq_true rfl, Nat.le_of_ble_eq_true rfl⟩ ?_
    refine r_iload_n rfl rfl ?_
    refine r_iadd rfl ?_
    refine r_callV (As := [_]) rfl (by decide) rfl h.1 rfl rfl (Nat.le_of_ble_eq_true rfl) ⟨Nat.le_of_ble_eq_true rfl, Nat.le_of_ble_eq_true rfl⟩ (c_put h (by omega)) (kc' := 0) (ks' := 0) (by omega) (by omega) (by decide) ?_
    rintro r τ ⟨rfl, l1, l2⟩
    have fin : ∀ j, j < 3 → xs ++ [b8 (tx i 0 + w)] ++ [b8 (tx i j + w)] = xs ++ romD d (tx i 0 + w) (tx i 1 + w) (tx i 2 + w) → Gm l D m_Numbering_putRomanDigit 0 0 Q 34 [some (va_rf (some a)), some (.int (nI d)), some (va_rf (some (d_t D i))), some (.int w), some (.int (nI (d % 5))), none] [.int (nI j), va_rf (some (d_t D i)), va_rf (some a)] τ 0 0 := by
      intro j hj e
      refine r_charAt rfl hi hj (Nat.le_of_ble_eq_true rfl) ⟨Nat.le_of_ble_eq_true rfl, Nat.le_of_ble_eq_true rfl⟩ ?_
      refine r_iload_n rfl rfl ?_
      refine r_iadd rfl ?_
      refine r_callV (As := [_]) rfl (by decide) rfl l1.1 rfl rfl (Nat.le_of_ble_eq_true rfl) ⟨Nat.le_of_ble_eq_true rfl, Nat.le_of_ble_eq_true rfl⟩ (c_put l1 (by rw [List.length_append, List.length_singleton]; omega)) (kc' := 0) (ks' := 0) (by omega) (by omega) (by decide) ?_
      rintro r ρ ⟨rfl, m1, m2⟩
      refine r_vret rfl rfl ?_
      rw [← hQ, ← e]
      exact ⟨rfl, m1, l2.tr m2⟩
    refine r_aload_n rfl rfl ?_
    refine r_aload_n rfl rfl ?_
    refine r_iload_n rfl rfl ?_
    refine r_iconst (v := nI 4) rfl (by decide) ?_
    refine r_neN rfl (by omega) (by omega) (fun q4 => ?_) (fun q4 => ?_)
    · refine r_iconst (v := nI 2) rfl (by decide) ?_
      refine fin 2 (by decide) ?_
      unfold romD
      rw [if_pos (by omega), List.append_assoc]
      rfl
    · refine r_iconst (v := nI 1) rfl (by decide) ?_
      refine r_goto rfl ?_
      refine fin 1 (by decide) ?_
      unfold romD
      rw [if_neg (by omega), if_pos q4, List.append_assoc]
      rfl
def romW (w : Int32) (c : Nat) : List Int32 := romD (c / 100 % 10) (tx 0 0 + w) (tx 0 1 + w) (tx 0 2 + w) ++ romD (c / 10 % 10) (tx 1 0 + w) (tx 1 1 + w) (tx 1 2 + w) ++ romD (c % 10) (tx 2 0 + w) (tx 2 1 + w) (tx 2 2 + w)
theorem romW_len (w : Int32) (c : Nat) : (romW w c).length = rL (c / 100 % 10) + rL (c / 10 % 10) + rL (c % 10) := by
  unfold romW
  rw [List.length_append, List.length_append, romD_rL, romD_rL, romD_rL]
theorem c_putRoman {n : Nat} {w : Int32} (h : Ln σ a cap xs) (hn2 : n ≤ 120) (hl : xs.length + (romW w n).length ≤ cap) : Cn l D m_Numbering_putRoman 0 0 [va_rf (some a), .int (nI n), .int w] σ (fun r τ => r = none ∧ Ln τ a cap (xs ++ romW w n) ∧ LF σ τ a) := by
  rw [romW_len] at hl
  refine Cn.of (by decide) (by repeat (first | exact ca_0 | refine ca_i ?_ | refine ca_r ?_)) (Nat.le_of_ble_eq_true rfl) ?_
  refine r_aload_n rfl rfl ?_
  refine r_iload_n rfl rfl ?_
  refine r_bipush (v := nI 100) rfl (by decide) ?_
  refine r_idivN rfl (by omega) (by decide) (by decide) ?_
  refine r_bipush (v := nI 10) rfl (by decide) ?_
  refine r_iremN rfl (by omega) (by decide) (by decide) ?_
  refine r_ldcS rfl rfl rfl ?_
  refine r_iload_n rfl rfl ?_
  refine r_callS (As := [_, _, _, _]) rfl (by decide) rfl rfl rfl (Nat.le_of_ble_eq_true rfl) ⟨Nat.le_of_ble_eq_true rfl, Nat.le_of_ble_eq_true rfl⟩ (c_putRomanDigit (i := 0) h (by omega) (by decide) (by omega)) (kc' := 0) (ks' := 0) (by omega) (by omega) ?_
  rintro r τ ⟨rfl, l1, l2⟩
  refine r_aload_n rfl rfl ?_
  refine r_iload_n rfl rfl ?_
  refine r_bipush (v := nI 10) rfl (by decide) ?_
  refine r_idivN rfl (by omega) (by decide) (by decide) ?_
  refine r_bipush (v := nI 10) rfl (by decide) ?_
  refine r_iremN rfl (by omega) (by decide) (by decide) ?_
  refine r_ldcS rfl rfl rfl ?_
  refine r_iload_n rfl rfl ?_
  refine r_callS (As := [_, _, _, _]) rfl (by decide) rfl rfl rfl (Nat.le_of_ble_eq_true rfl) ⟨Nat.le_of_ble_eq_true rfl, Nat.le_of_ble_eq_true rfl⟩ (c_putRomanDigit (i := 1) l1 (by omega) (by decide) (by rw [List.length_append, romD_rL]; omega)) (kc' := 0) (ks' := 0) (by omega) (by omega) ?_
  rintro r τ' ⟨rfl, m1, m2⟩
  refine r_aload_n rfl rfl ?_
  refine r_iload_n rfl rfl ?_
  refine r_bipush (v := nI 10) rfl (by decide) ?_
  refine r_iremN rfl (by omega) (by decide) (by decide) ?_
  refine r_ldcS rfl rfl rfl ?_
  refine r_iload_n rfl rfl ?_
  refine r_callS (As := [_, _, _, _]) rfl (by decide) rfl rfl rfl (Nat.le_of_ble_eq_true rfl) ⟨Nat.le_of_ble_eq_true rfl, Nat.le_of_ble_eq_true rfl⟩ (c_putRomanDigit (i := 2) m1 (by omega) (by decide) (by rw [List.length_append, List.length_append, romD_rL, romD_rL]; omega)) (kc' := 0) (ks' := 0) (by omega) (by omega) ?_
  rintro r ρ ⟨rfl, p1, p2⟩
  refine r_vret rfl rfl ⟨rfl, ?_, (l2.tr m2).tr p2⟩
  rw [List.append_assoc, List.append_assoc] at p1
  unfold romW
  rw [List.append_assoc]
  exact p1
theorem romW_0 (c : Nat) : romW 0 c = roms 32 c := by
  have e : ∀ i, i < 3 → ∀ j, j < 3 → tx i j + 0 = tx i j := by decide
  unfold romW
  rfl
theorem romW_32 (c : Nat) : romW (-32) c = roms 0 c := by
  unfold romW
  rfl
theorem c_putSign {n s : Nat} (h : Ln σ a cap xs) (hn : 1 ≤ n) (hn2 : n ≤ 120) (hs : s < 5) (hl : xs.length + 8 ≤ cap) : Cn l D m_Numbering_putSign 0 0 [va_rf (some a), .int (nI n), .int (nI s)] σ (fun r τ => r = none ∧ Ln τ a cap (xs ++ sgn s n) ∧ LF σ τ a) := by
  have h8 := sgn_len8 s hs n (by omega)
  generalize hQ : (fun (r : Option Value) (τ : Hp) => r = none ∧ Ln τ a cap (xs ++ sgn s n) ∧ LF σ τ a) = Q
  refine Cn.of (by decide) (by repeat (first | exact ca_0 | refine ca_i ?_ | refine ca_r ?_)) (Nat.le_of_ble_eq_true rfl) ?_
  refine r_iload_n rfl rfl ?_
  have hc : s = 0 ∨ s = 1 ∨ s = 2 ∨ s = 3 ∨ s = 4 := by omega
  rcases hc with rfl | rfl | rfl | rfl | rfl
  · refine r_tswOut rfl (Or.inl (by decide)) (tgt := 71) (by decide) ?_
    refine r_aload_n rfl rfl ?_
    refine r_iload_n rfl rfl ?_
    refine r_callS (As := [_, _]) rfl (by decide) rfl rfl rfl (Nat.le_of_ble_eq_true rfl) ⟨Nat.le_of_ble_eq_true rfl, Nat.le_of_ble_eq_true rfl⟩ (c_putFigures h hn2 (by omega)) (kc' := 0) (ks' := 0) (by omega) (by omega) ?_
    rintro r τ ⟨rfl, l1, l2⟩
    refine r_vret rfl rfl ?_
    rw [← hQ]
    exact ⟨rfl, l1, l2⟩
  · refine r_tswIn rfl (by decide) (by decide) (off := 31) (by decide) (tgt := 32) (by decide) ?_
    refine r_aload_n rfl rfl ?_
    refine r_iload_n rfl rfl ?_
    refine r_bipush (v := nI 97) rfl (by decide) ?_
    refine r_callS (As := [_, _, _]) rfl (by decide) rfl rfl rfl (Nat.le_of_ble_eq_true rfl) ⟨Nat.le_of_ble_eq_true rfl, Nat.le_of_ble_eq_true rfl⟩ (c_putLetters (f := 97) h hn hn2 (by decide) (by decide) (by omega)) (kc' := 0) (ks' := 0) (by omega) (by omega) ?_
    rintro r τ ⟨rfl, l1, l2⟩
    refine r_goto rfl ?_
    refine r_vret rfl rfl ?_
    rw [← hQ]
    exact ⟨rfl, l1, l2⟩
  · refine r_tswIn rfl (by decide) (by decide) (off := 41) (by decide) (tgt := 42) (by decide) ?_
    refine r_aload_n rfl rfl ?_
    refine r_iload_n rfl rfl ?_
    refine r_bipush (v := nI 65) rfl (by decide) ?_
    refine r_callS (As := [_, _, _]) rfl (by decide) rfl rfl rfl (Nat.le_of_ble_eq_true rfl) ⟨Nat.le_of_ble_eq_true rfl, Nat.le_of_ble_eq_true rfl⟩ (c_putLetters (f := 65) h hn hn2 (by decide) (by decide) (by omega)) (kc' := 0) (ks' := 0) (by omega) (by omega) ?_
    rintro r τ ⟨rfl, l1, l2⟩
    refine r_goto rfl ?_
    refine r_vret rfl rfl ?_
    rw [← hQ]
    exact ⟨rfl, l1, l2⟩
  · refine r_tswIn rfl (by decide) (by decide) (off := 51) (by decide) (tgt := 52) (by decide) ?_
    have h8 : (roms 32 n).length ≤ 8 := h8
    rw [← romW_0] at h8
    refine r_aload_n rfl rfl ?_
    refine r_iload_n rfl rfl ?_
    refine r_iconst (v := nI 0) rfl (by decide) ?_
    refine r_callS (As := [_, _, _]) rfl (by decide) rfl rfl rfl (Nat.le_of_ble_eq_true rfl) ⟨Nat.le_of_ble_eq_true rfl, Nat.le_of_ble_eq_true rfl⟩ (c_putRoman (w := 0) h hn2 (by omega)) (kc' := 0) (ks' := 0) (by omega) (by omega) ?_
    rintro r τ ⟨rfl, l1, l2⟩
    refine r_goto rfl ?_
    refine r_vret rfl rfl ?_
    rw [← hQ]
    rw [romW_0] at l1
    exact ⟨rfl, l1, l2⟩
  · refine r_tswIn rfl (by decide) (by decide) (off := 60) (by decide) (tgt := 61) (by decide) ?_
    have h8 : (roms 0 n).length ≤ 8 := h8
    rw [← romW_32] at h8
    refine r_aload_n rfl rfl ?_
    refine r_iload_n rfl rfl ?_
    refine r_bipush (v := -32) rfl (by decide) ?_
    refine r_callS (As := [_, _, _]) rfl (by decide) rfl rfl rfl (Nat.le_of_ble_eq_true rfl) ⟨Nat.le_of_ble_eq_true rfl, Nat.le_of_ble_eq_true rfl⟩ (c_putRoman (w := -32) h hn2 (by omega)) (kc' := 0) (ks' := 0) (by omega) (by omega) ?_
    rintro r τ ⟨rfl, l1, l2⟩
    refine r_goto rfl ?_
    refine r_vret rfl rfl ?_
    rw [← hQ]
    rw [romW_32] at l1
    exact ⟨rfl, l1, l2⟩
/-- the mark of a thing -/
def mkS (j s n : Nat) : List Int32 := (if j = 2 then [b8 (nI 40)] else []) ++ sgn s n ++ (if j = 2 then [b8 (nI 41)] else [])
theorem c_writeMark {t f mk n s j : Nat} {ys : List Int32} (kt : h_K σ t = 9) (p526 : h_P σ 526 t = some mk) (p514 : h_P σ 514 t = some f) (kf : h_K σ f = 3) (i131 : h_I σ 131 f = nI j) (i130 : h_I σ 130 f = nI s) (i523 : h_I σ 523 t = nI n) (hln : Ln σ mk 10 ys) (hs : s < 5) (hj : j < 3) (hn : 1 ≤ n) (hn2 : n ≤ 120) : Cn l D m_Numbering_writeMark 0 0 [va_rf (some t)] σ (fun r τ => r = none ∧ Ln τ mk 10 (mkS j s n) ∧ LF σ τ mk) := by
  have h8 := sgn_len8 s hs n (by omega)
  have km := hln.1
  generalize hQ : (fun (r : Option Value) (τ : Hp) => r = none ∧ Ln τ mk 10 (mkS j s n) ∧ LF σ τ mk) = Q
  refine Cn.of (by decide) (by repeat (first | exact ca_0 | refine ca_i ?_ | refine ca_r ?_)) (Nat.le_of_ble_eq_true rfl) ?_
  refine r_aload_n rfl rfl ?_
  (first | refine r_getPv rfl (by first | assumption | rfl) rfl (by assumption) ?_ | refine r_getP rfl (by first | assumption | rfl) rfl ?_)
  refine r_iconst (v := nI 0) rfl (by decide) ?_
  refine r_putI rfl (by first | assumption | rfl) rfl (by first | exact Or.inl rfl | exact Or.inr ⟨rfl, rfl⟩) (by first | rfl | decide | assumption) (by first | rfl | decide) ?_
  obtain ⟨c1, c2⟩ := hln.cut 0 (Nat.zero_le _)
  rw [List.take_zero] at c1
  generalize hσ1 : w_I σ 193 mk (nI 0) = σ1 at c1 c2 ⊢
  have kt1 : h_K σ1 t = 9 := by rw [c2.2.1]; exact kt
  have kf1 : h_K σ1 f = 3 := by rw [c2.2.1]; exact kf
  have km1 := c1.1
  have p5261 : h_P σ1 526 t = some mk := by rw [c2.2.2.1]; exact p526
  have p5141 : h_P σ1 514 t = some f := by rw [c2.2.2.1]; exact p514
  have i1311 : h_I σ1 131 f = nI j := by rw [c2.2.2.2.2.2.1 131 f (fun e => by cases e.1)]; exact i131
  have i1301 : h_I σ1 130 f = nI s := by rw [c2.2.2.2.2.2.1 130 f (fun e => by cases e.1)]; exact i130
  have i5231 : h_I σ1 523 t = nI n := by rw [c2.2.2.2.2.2.1 523 t (fun e => by cases e.1)]; exact i523
  refine r_aload_n rfl rfl ?_
  (first | refine r_getPv rfl (by first | assumption | rfl) rfl (by assumption) ?_ | refine r_getP rfl (by first | assumption | rfl) rfl ?_)
  (first | refine r_getIv rfl (by first | assumption | rfl) rfl (by assumption) ?_ | refine r_getI rfl (by first | assumption | rfl) rfl ?_)
  refine r_iconst (v := nI 2) rfl (by decide) ?_
  refine r_neN rfl (by omega) (by omega) (fun q => ?_) (fun q => ?_)
  · refine r_aload_n rfl rfl ?_
    (first | refine r_getPv rfl (by first | assumption | rfl) rfl (by assumption) ?_ | refine r_getP rfl (by first | assumption | rfl) rfl ?_)
    refine r_aload_n rfl rfl ?_
    (first | refine r_getIv rfl (by first | assumption | rfl) rfl (by assumption) ?_ | refine r_getI rfl (by first | assumption | rfl) rfl ?_)
    refine r_aload_n rfl rfl ?_
    (first | refine r_getPv rfl (by first | assumption | rfl) rfl (by assumption) ?_ | refine r_getP rfl (by first | assumption | rfl) rfl ?_)
    (first | refine r_getIv rfl (by first | assumption | rfl) rfl (by assumption) ?_ | refine r_getI rfl (by first | assumption | rfl) rfl ?_)
    refine r_callS (As := [_, _, _]) rfl (by decide) rfl rfl rfl (Nat.le_of_ble_eq_true rfl) ⟨Nat.le_of_ble_eq_true rfl, Nat.le_of_ble_eq_true rfl⟩ (c_putSign c1 hn hn2 hs (by show 0 + 8 ≤ 10; omega)) (kc' := 0) (ks' := 0) (by omega) (by omega) ?_
    rintro r τ ⟨rfl, l1, l2⟩
    refine r_vret rfl rfl ?_
    rw [← hQ]
    unfold mkS
    rw [if_neg q, if_neg q, List.append_nil]
    exact ⟨rfl, l1, c2.tr l2⟩
  · refine r_aload_n rfl rfl ?_
    (first | refine r_getPv rfl (by first | assumption | rfl) rfl (by assumption) ?_ | refine r_getP rfl (by first | assumption | rfl) rfl ?_)
    refine r_bipush (v := nI 40) rfl (by decide) ?_
    refine r_callV (As := [_]) rfl (by decide) rfl km1 rfl rfl (Nat.le_of_ble_eq_true rfl) ⟨Nat.le_of_ble_eq_true rfl, Nat.le_of_ble_eq_true rfl⟩ (c_put c1 (by show 0 < 10; omega)) (kc' := 0) (ks' := 0) (by omega) (by omega) (by decide) ?_
    rintro r σ2 ⟨rfl, d1, d2⟩
    have kt2 : h_K σ2 t = 9 := by rw [d2.2.1]; exact kt1
    have kf2 : h_K σ2 f = 3 := by rw [d2.2.1]; exact kf1
    have p5262 : h_P σ2 526 t = some mk := by rw [d2.2.2.1]; exact p5261
    have p5142 : h_P σ2 514 t = some f := by rw [d2.2.2.1]; exact p5141
    have i1302 : h_I σ2 130 f = nI s := by rw [d2.2.2.2.2.2.1 130 f (fun e => by cases e.1)]; exact i1301
    have i5232 : h_I σ2 523 t = nI n := by rw [d2.2.2.2.2.2.1 523 t (fun e => by cases e.1)]; exact i5231
    refine r_aload_n rfl rfl ?_
    (first | refine r_getPv rfl (by first | assumption | rfl) rfl (by assumption) ?_ | refine r_getP rfl (by first | assumption | rfl) rfl ?_)
    refine r_aload_n rfl rfl ?_
    (first | refine r_getIv rfl (by first | assumption | rfl) rfl (by assumption) ?_ | refine r_getI rfl (by first | assumption | rfl) rfl ?_)
    refine r_aload_n rfl rfl ?_
    (first | refine r_getPv rfl (by first | assumption | rfl) rfl (by assumption) ?_ | refine r_getP rfl (by first | assumption | rfl) rfl ?_)
    (first | refine r_getIv rfl (by first | assumption | rfl) rfl (by assumption) ?_ | refine r_getI rfl (by first | assumption | rfl) rfl ?_)
    refine r_callS (As := [_, _, _]) rfl (by decide) rfl rfl rfl (Nat.le_of_ble_eq_true rfl) ⟨Nat.le_of_ble_eq_true rfl, Nat.le_of_ble_eq_true rfl⟩ (c_putSign d1 hn hn2 hs (by show 1 + 8 ≤ 10; omega)) (kc' := 0) (ks' := 0) (by omega) (by omega) ?_
    rintro r σ3 ⟨rfl, e1, e2⟩
    have kt3 : h_K σ3 t = 9 := by rw [e2.2.1]; exact kt2
    have p5263 : h_P σ3 526 t = some mk := by rw [e2.2.2.1]; exact p5262
    refine r_aload_n rfl rfl ?_
    (first | refine r_getPv rfl (by first | assumption | rfl) rfl (by assumption) ?_ | refine r_getP rfl (by first | assumption | rfl) rfl ?_)
    refine r_bipush (v := nI 41) rfl (by decide) ?_
    refine r_callV (As := [_]) rfl (by decide) rfl e1.1 rfl rfl (Nat.le_of_ble_eq_true rfl) ⟨Nat.le_of_ble_eq_true rfl, Nat.le_of_ble_eq_true rfl⟩ (c_put e1 (by rw [List.length_append]; show 1 + _ < 10; omega)) (kc' := 0) (ks' := 0) (by omega) (by omega) (by decide) ?_
    rintro r τ ⟨rfl, l1, l2⟩
    refine r_goto rfl ?_
    refine r_vret rfl rfl ?_
    rw [← hQ]
    unfold mkS
    rw [if_pos q, if_pos q]
    exact ⟨rfl, l1, ((c2.tr d2).tr e2).tr l2⟩
/-- what stands ahead of the mark in a name -/
def pfS (j : Nat) (b : Option Nat) (zs : List Int32) : List Int32 := if 0 < j ∧ b ≠ none then zs ++ (if j = 1 then [b8 (nI 46)] else []) else []
theorem c_writeName {t f nm mk j : Nat} {bs : Option Nat} {ys zs ms : List Int32} (kt : h_K σ t = 9) (p527 : h_P σ 527 t = some nm) (p526 : h_P σ 526 t = some mk) (p514 : h_P σ 514 t = some f) (kf : h_K σ f = 3) (i131 : h_I σ 131 f = nI j) (p524 : h_P σ 524 t = bs) (hln : Ln σ nm 40 ys) (hmk : Ln σ mk 10 ms) (hne : mk ≠ nm) (hj : j < 3) (hz : zs.length ≤ 30)
    (hb : ∀ b, bs = some b → h_K σ b = 9 ∧ ∃ bn, h_P σ 527 b = some bn ∧ bn ≠ nm ∧ Ln σ bn 40 zs) (hm : (if j = 1 then 1 else 0) + ms.length ≤ 10) : Cn l D m_Numbering_writeName 0 0 [va_rf (some t)] σ (fun r τ => r = none ∧ Ln τ nm 40 (pfS j bs zs ++ ms) ∧ LF σ τ nm) := by
  have km := hln.1
  generalize hQ : (fun (r : Option Value) (τ : Hp) => r = none ∧ Ln τ nm 40 (pfS j bs zs ++ ms) ∧ LF σ τ nm) = Q
  refine Cn.of (by decide) (by repeat (first | exact ca_0 | refine ca_i ?_ | refine ca_r ?_)) (Nat.le_of_ble_eq_true rfl) ?_
  have fin : ∀ (τ : Hp) (ps : List Int32), Ln τ nm 40 ps → LF σ τ nm → ps = pfS j bs zs → ps.length + ms.length ≤ 40 → Gm l D m_Numbering_writeName 0 0 Q 59 [some (va_rf (some t))] [] τ 0 0 := by
    intro τ ps h1 h2 h3 h4
    have kt2 : h_K τ t = 9 := by rw [h2.2.1]; exact kt
    have p5262 : h_P τ 526 t = some mk := by rw [h2.2.2.1]; exact p526
    have p5272 : h_P τ 527 t = some nm := by rw [h2.2.2.1]; exact p527
    refine r_aload_n rfl rfl ?_
    (first | refine r_getPv rfl (by first | assumption | rfl) rfl (by assumption) ?_ | refine r_getP rfl (by first | assumption | rfl) rfl ?_)
    refine r_aload_n rfl rfl ?_
    (first | refine r_getPv rfl (by first | assumption | rfl) rfl (by assumption) ?_ | refine r_getP rfl (by first | assumption | rfl) rfl ?_)
    refine r_callV (As := [_]) rfl (by decide) rfl h1.1 rfl rfl (Nat.le_of_ble_eq_true rfl) ⟨Nat.le_of_ble_eq_true rfl, Nat.le_of_ble_eq_true rfl⟩ (c_putLine h1 (h2.keep hne hmk) h4) (kc' := 0) (ks' := 0) (by omega) (by omega) (by decide) ?_
    rintro r ρ ⟨rfl, l1, l2⟩
    refine r_vret rfl rfl ?_
    rw [← hQ, ← h3]
    exact ⟨rfl, l1, h2.tr l2⟩
  refine r_aload_n rfl rfl ?_
  (first | refine r_getPv rfl (by first | assumption | rfl) rfl (by assumption) ?_ | refine r_getP rfl (by first | assumption | rfl) rfl ?_)
  refine r_iconst (v := nI 0) rfl (by decide) ?_
  refine r_putI rfl (by first | assumption | rfl) rfl (by first | exact Or.inl rfl | exact Or.inr ⟨rfl, rfl⟩) (by first | rfl | decide | assumption) (by first | rfl | decide) ?_
  obtain ⟨c1, c2⟩ := hln.cut 0 (Nat.zero_le _)
  rw [List.take_zero] at c1
  generalize hσ1 : w_I σ 193 nm (nI 0) = σ1 at c1 c2 ⊢
  have kt1 : h_K σ1 t = 9 := by rw [c2.2.1]; exact kt
  have kf1 : h_K σ1 f = 3 := by rw [c2.2.1]; exact kf
  have p5241 : h_P σ1 524 t = bs := by rw [c2.2.2.1]; exact p524
  have p5271 : h_P σ1 527 t = some nm := by rw [c2.2.2.1]; exact p527
  have p5141 : h_P σ1 514 t = some f := by rw [c2.2.2.1]; exact p514
  have i1311 : h_I σ1 131 f = nI j := by rw [c2.2.2.2.2.2.1 131 f (fun e => by cases e.1)]; exact i131
  refine r_aload_n rfl rfl ?_
  (first | refine r_getPv rfl (by first | assumption | rfl) rfl (by assumption) ?_ | refine r_getP rfl (by first | assumption | rfl) rfl ?_)
  cases bs with
  | none =>
    refine r_ifnull rfl (fun _ => ?_) (fun _ hq => by cases hq)
    exact fin σ1 [] c1 c2 (by unfold pfS; rw [if_neg (fun w => w.2 rfl)]) (by show 0 + _ ≤ 40; omega)
  | some b =>
    obtain ⟨kb, bn, q1, q2, q3⟩ := hb b rfl
    refine r_ifnull rfl (fun hq => by cases hq) (fun _ _ => ?_)
    refine r_aload_n rfl rfl ?_
    (first | refine r_getPv rfl (by first | assumption | rfl) rfl (by assumption) ?_ | refine r_getP rfl (by first | assumption | rfl) rfl ?_)
    (first | refine r_getIv rfl (by first | assumption | rfl) rfl (by assumption) ?_ | refine r_getI rfl (by first | assumption | rfl) rfl ?_)
    by_cases hj0 : j = 0
    · subst hj0
      refine r_if_eq rfl (fun _ => ?_) (fun q => absurd rfl q)
      exact fin σ1 [] c1 c2 (by unfold pfS; rw [if_neg (fun w => Nat.lt_irrefl _ w.1)]) (by show 0 + _ ≤ 40; omega)
    · refine r_if_eq rfl (fun q => absurd ((nI_eq (by omega) (by omega)).mp (show nI j = nI 0 from q)) hj0) (fun _ => ?_)
      have kb1 : h_K σ1 b = 9 := by rw [c2.2.1]; exact kb
      have p527b : h_P σ1 527 b = some bn := by rw [c2.2.2.1]; exact q1
      refine r_aload_n rfl rfl ?_
      (first | refine r_getPv rfl (by first | assumption | rfl) rfl (by assumption) ?_ | refine r_getP rfl (by first | assumption | rfl) rfl ?_)
      refine r_aload_n rfl rfl ?_
      (first | refine r_getPv rfl (by first | assumption | rfl) rfl (by assumption) ?_ | refine r_getP rfl (by first | assumption | rfl) rfl ?_)
      (first | refine r_getPv rfl (by first | assumption | rfl) rfl (by assumption) ?_ | refine r_getP rfl (by first | assumption | rfl) rfl ?_)
      refine r_callV (As := [_]) rfl (by decide) rfl c1.1 rfl rfl (Nat.le_of_ble_eq_true rfl) ⟨Nat.le_of_ble_eq_true rfl, Nat.le_of_ble_eq_true rfl⟩ (c_putLine c1 (c2.keep q2 q3) (by show 0 + _ ≤ 40; omega)) (kc' := 0) (ks' := 0) (by omega) (by omega) (by decide) ?_
      rintro r σ2 ⟨rfl, d1, d2⟩
      rw [List.nil_append] at d1
      have kt2 : h_K σ2 t = 9 := by rw [d2.2.1]; exact kt1
      have kf2 : h_K σ2 f = 3 := by rw [d2.2.1]; exact kf1
      have p5272 : h_P σ2 527 t = some nm := by rw [d2.2.2.1]; exact p5271
      have p5142 : h_P σ2 514 t = some f := by rw [d2.2.2.1]; exact p5141
      have i1312 : h_I σ2 131 f = nI j := by rw [d2.2.2.2.2.2.1 131 f (fun e => by cases e.1)]; exact i1311
      refine r_aload_n rfl rfl ?_
      (first | refine r_getPv rfl (by first | assumption | rfl) rfl (by assumption) ?_ | refine r_getP rfl (by first | assumption | rfl) rfl ?_)
      (first | refine r_getIv rfl (by first | assumption | rfl) rfl (by assumption) ?_ | refine r_getI rfl (by first | assumption | rfl) rfl ?_)
      refine r_iconst (v := nI 1) rfl (by decide) ?_
      refine r_neN rfl (by omega) (by omega) (fun q => ?_) (fun q => ?_)
      · rw [if_neg q] at hm
        exact fin σ2 zs d1 (c2.tr d2) (by unfold pfS; rw [if_pos ⟨by omega, fun w => by cases w⟩, if_neg q, List.append_nil]) (by omega)
      · rw [if_pos q] at hm
        refine r_aload_n rfl rfl ?_
        (first | refine r_getPv rfl (by first | assumption | rfl) rfl (by assumption) ?_ | refine r_getP rfl (by first | assumption | rfl) rfl ?_)
        refine r_bipush (v := nI 46) rfl (by decide) ?_
        refine r_callV (As := [_]) rfl (by decide) rfl d1.1 rfl rfl (Nat.le_of_ble_eq_true rfl) ⟨Nat.le_of_ble_eq_true rfl, Nat.le_of_ble_eq_true rfl⟩ (c_put d1 (by omega)) (kc' := 0) (ks' := 0) (by omega) (by omega) (by decide) ?_
        rintro r σ3 ⟨rfl, e1, e2⟩
        exact fin σ3 _ e1 ((c2.tr d2).tr e2) (by unfold pfS; rw [if_pos ⟨by omega, fun w => by cases w⟩, if_pos q]) (by rw [List.length_append, List.length_singleton]; omega)
end NB
