/-! ===== the reference: how things are told ===== -/
/-- the word of kind k -/
def Wd (σ : Hp) (o k : Nat) (ws : List Int32) : Prop := h_X σ (o + 1 + 2) k = nI ws.length ∧ ws.length ≤ 10 ∧ ∀ i, i < ws.length → h_X σ (o + 1 + 1) (10 * k + i) = ws.getD i 0
/-- TOLD: the word and a blank, the number -/
def toldL (ws nm : List Int32) : List Int32 := (if ws.length = 0 then [] else ws ++ [nI 32]) ++ nm
theorem toldL_0 {ws nm : List Int32} (h : ws.length = 0) : toldL ws nm = nm := by
  unfold toldL
  rw [if_pos h, List.nil_append]
theorem toldL_1 {ws nm : List Int32} (h : ws.length ≠ 0) : toldL ws nm = ws ++ [nI 32] ++ nm := by
  unfold toldL
  rw [if_neg h]
theorem getD_app {xs ys : List Int32} {i : Nat} (h : i < xs.length) : (xs ++ ys).getD i 0 = xs.getD i 0 := by
  rw [List.getD_eq_getElem?_getD, List.getD_eq_getElem?_getD, List.getElem?_append_left h]
theorem getD_app2 {xs ys : List Int32} {i : Nat} (h : xs.length ≤ i) : (xs ++ ys).getD i 0 = ys.getD (i - xs.length) 0 := by
  rw [List.getD_eq_getElem?_getD, List.getD_eq_getElem?_getD, List.getElem?_append_right h]
section MC
variable {l : Launch} {D : DD} {σ : Hp} {o : Nat}
theorem c_M_toldSize {x k : Nat} {ws nm : List Int32} (hM : ML σ o) (hx : x < 120) (hk : h_X σ (o + 1 + 6) x = nI k) (hk2 : k < 6) (hw : Wd σ o k ws) (hn : Tx σ o 18 19 x nm) : Cn l D m_M_toldSize 0 0 [va_rf (some o), .int (nI x)] σ (fun r τ => r = some (.int (nI (toldL ws nm).length)) ∧ τ = σ) := by
  obtain ⟨w1, w2, w3⟩ := hw
  obtain ⟨n1, n2, n3⟩ := hn
  refine Cn.of (by decide) (by repeat (first | exact ca_0 | refine ca_i ?_ | refine ca_r ?_)) (Nat.le_of_ble_eq_true rfl) ?_
  refine r_aload_n rfl rfl ?_
  refine r_mg (j := 2) hM rfl rfl (by decide) ?_
  refine r_aload_n rfl rfl ?_
  refine r_mg (j := 6) hM rfl rfl (by decide) ?_
  refine r_iload_n rfl rfl ?_
  refine r_mi (j := 6) hM rfl rfl (by decide) (by first | rfl | assumption) (show _ < 120 by omega) ?_
  rw [hk]
  refine r_mi (j := 2) hM rfl rfl (by decide) rfl (show _ < 6 by omega) ?_
  rw [w1]
  refine r_if_le rfl (fun q => ?_) (fun q => ?_)
  · have h0 : ws.length = 0 := by
      rcases Nat.eq_zero_or_pos ws.length with w | w
      · exact w
      · exact absurd q (nI_nle w (by omega))
    refine r_iconst (v := nI 0) rfl (by decide) ?_
    refine r_aload_n rfl rfl ?_
    refine r_mg (j := 19) hM rfl rfl (by decide) ?_
    refine r_iload_n rfl rfl ?_
    refine r_mi (j := 19) hM rfl rfl (by decide) (by first | rfl | assumption) (show _ < 120 by omega) ?_
    rw [n1]
    (first | refine r_iaddN rfl ?_ | refine r_iadd rfl ?_)
    exact r_iret rfl rfl ⟨by rw [toldL_0 h0, Nat.zero_add], rfl⟩
  · have h0 : ws.length ≠ 0 := fun w => q (by rw [w]; decide)
    refine r_aload_n rfl rfl ?_
    refine r_mg (j := 2) hM rfl rfl (by decide) ?_
    refine r_aload_n rfl rfl ?_
    refine r_mg (j := 6) hM rfl rfl (by decide) ?_
    refine r_iload_n rfl rfl ?_
    refine r_mi (j := 6) hM rfl rfl (by decide) (by first | rfl | assumption) (show _ < 120 by omega) ?_
    rw [hk]
    refine r_mi (j := 2) hM rfl rfl (by decide) rfl (show _ < 6 by omega) ?_
    rw [w1]
    refine r_iconst (v := nI 1) rfl (by decide) ?_
    (first | refine r_iaddN rfl ?_ | refine r_iadd rfl ?_)
    refine r_goto rfl ?_
    refine r_aload_n rfl rfl ?_
    refine r_mg (j := 19) hM rfl rfl (by decide) ?_
    refine r_iload_n rfl rfl ?_
    refine r_mi (j := 19) hM rfl rfl (by decide) (by first | rfl | assumption) (show _ < 120 by omega) ?_
    rw [n1]
    (first | refine r_iaddN rfl ?_ | refine r_iadd rfl ?_)
    exact r_iret rfl rfl ⟨by rw [toldL_1 h0]; simp only [List.length_append, List.length_singleton], rfl⟩
theorem c_M_toldByte {x k i : Nat} {ws nm : List Int32} (hM : ML σ o) (hx : x < 120) (hk : h_X σ (o + 1 + 6) x = nI k) (hk2 : k < 6) (hw : Wd σ o k ws) (hn : Tx σ o 18 19 x nm) (hi : i < (toldL ws nm).length) : Cn l D m_M_toldByte 0 0 [va_rf (some o), .int (nI x), .int (nI i)] σ (fun r τ => r = some (.int ((toldL ws nm).getD i 0)) ∧ τ = σ) := by
  obtain ⟨w1, w2, w3⟩ := hw
  obtain ⟨n1, n2, n3⟩ := hn
  have hlen : (toldL ws nm).length ≤ 71 := by
    unfold toldL
    split <;> simp <;> omega
  refine Cn.of (by decide) (by repeat (first | exact ca_0 | refine ca_i ?_ | refine ca_r ?_)) (Nat.le_of_ble_eq_true rfl) ?_
  refine r_aload_n rfl rfl ?_
  refine r_mg (j := 2) hM rfl rfl (by decide) ?_
  refine r_aload_n rfl rfl ?_
  refine r_mg (j := 6) hM rfl rfl (by decide) ?_
  refine r_iload_n rfl rfl ?_
  refine r_mi (j := 6) hM rfl rfl (by decide) (by first | rfl | assumption) (show _ < 120 by omega) ?_
  rw [hk]
  refine r_mi (j := 2) hM rfl rfl (by decide) rfl (show _ < 6 by omega) ?_
  rw [w1]
  refine r_istore_n rfl (by decide) ?_
  refine r_iload_n rfl rfl ?_
  refine r_iload_n rfl rfl ?_
  refine r_geN rfl (by omega) (by omega) (fun q => ?_) (fun q => ?_)
  · refine r_iload_n rfl rfl ?_
    have tail : ∀ off, off = (if ws.length = 0 then 0 else ws.length + 1) → (toldL ws nm).getD i 0 = nm.getD (i - off) 0 → off ≤ i → i - off < nm.length → Gm l D m_M_toldByte 0 0 (fun r τ => r = some (.int ((toldL ws nm).getD i 0)) ∧ τ = σ) 67 [some (va_rf (some o)), some (.int (nI x)), some (.int (nI i)), some (.int (nI ws.length))] [.int (nI off), .int (nI (60 * x + i)), va_rf (some (o + 1 + 18))] σ 0 0 := by
      intro off ho he h1 h2
      refine r_isubN rfl (by omega) ?_
      refine r_mb (j := 18) hM rfl rfl (by decide) rfl (show _ < 7200 by omega) ?_
      refine r_iret rfl rfl ⟨?_, rfl⟩
      rw [he, ← n3 _ h2, show 60 * x + i - off = 60 * x + (i - off) by omega]
    have last : (ws.length = 0 ∨ ws.length < i) → Gm l D m_M_toldByte 0 0 (fun r τ => r = some (.int ((toldL ws nm).getD i 0)) ∧ τ = σ) 46 [some (va_rf (some o)), some (.int (nI x)), some (.int (nI i)), some (.int (nI ws.length))] [] σ 0 0 := by
      intro hc
      refine r_aload_n rfl rfl ?_
      refine r_mg (j := 18) hM rfl rfl (by decide) ?_
      refine r_bipush (v := nI 60) rfl (by decide) ?_
      refine r_iload_n rfl rfl ?_
      (first | refine r_imulN rfl ?_ | refine r_imul rfl ?_)
      refine r_iload_n rfl rfl ?_
      (first | refine r_iaddN rfl ?_ | refine r_iadd rfl ?_)
      refine r_iload_n rfl rfl ?_
      refine r_if_le rfl (fun q => ?_) (fun q => ?_)
      · have h0 : ws.length = 0 := by
          rcases Nat.eq_zero_or_pos ws.length with w | w
          · exact w
          · exact absurd q (nI_nle w (by omega))
        refine r_iconst (v := nI 0) rfl (by decide) ?_
        refine tail 0 (by rw [if_pos h0]) (by rw [toldL_0 h0, Nat.sub_zero]) (by omega) ?_
        rw [toldL_0 h0] at hi
        omega
      · have h0 : ws.length ≠ 0 := fun w => q (by rw [w]; decide)
        refine r_iload_n rfl rfl ?_
        refine r_iconst (v := nI 1) rfl (by decide) ?_
        (first | refine r_iaddN rfl ?_ | refine r_iadd rfl ?_)
        refine r_goto rfl ?_
        have h3 : ws.length + 1 ≤ i := by omega
        refine tail (ws.length + 1) (by rw [if_neg h0]) ?_ h3 ?_
        · rw [toldL_1 h0, getD_app2 (by simp; omega)]
          simp
        · rw [toldL_1 h0] at hi
          simp only [List.length_append, List.length_singleton] at hi
          omega
    refine r_if_le rfl (fun q2 => ?_) (fun q2 => ?_)
    · refine last (Or.inl ?_)
      rcases Nat.eq_zero_or_pos ws.length with w | w
      · exact w
      · exact absurd q2 (nI_nle w (by omega))
    have h0 : ws.length ≠ 0 := fun w => q2 (by rw [w]; decide)
    refine r_iload_n rfl rfl ?_
    refine r_iload_n rfl rfl ?_
    refine r_neN rfl (by omega) (by omega) (fun q3 => last (Or.inr (by omega))) (fun q3 => ?_)
    refine r_bipush (v := nI 32) rfl (by decide) ?_
    refine r_iret rfl rfl ⟨?_, rfl⟩
    rw [toldL_1 h0, getD_app (by simp; omega), getD_app2 (by omega), q3]
    simp
  · refine r_aload_n rfl rfl ?_
    refine r_mg (j := 1) hM rfl rfl (by decide) ?_
    refine r_bipush (v := nI 10) rfl (by decide) ?_
    refine r_aload_n rfl rfl ?_
    refine r_mg (j := 6) hM rfl rfl (by decide) ?_
    refine r_iload_n rfl rfl ?_
    refine r_mi (j := 6) hM rfl rfl (by decide) (by first | rfl | assumption) (show _ < 120 by omega) ?_
    rw [hk]
    (first | refine r_imulN rfl ?_ | refine r_imul rfl ?_)
    refine r_iload_n rfl rfl ?_
    (first | refine r_iaddN rfl ?_ | refine r_iadd rfl ?_)
    refine r_mb (j := 1) hM rfl rfl (by decide) rfl (show _ < 60 by omega) ?_
    refine r_iret rfl rfl ⟨?_, rfl⟩
    rw [w3 i q, toldL_1 (by omega), getD_app (by simp; omega), getD_app q]
theorem c_M_sameNumber {x y : Nat} {xs ys : List Int32} (hM : ML σ o) (hx : x < 120) (hy : y < 120) (h : Tx σ o 18 19 x xs) (g : Tx σ o 18 19 y ys) : Cn l D m_M_sameNumber 0 0 [va_rf (some o), .int (nI x), .int (nI y)] σ (fun r τ => r = some (.int (nI (decide (xs = ys)).toNat)) ∧ τ = σ) := by
  obtain ⟨h1, h2, h3⟩ := h
  obtain ⟨g1, g2, g3⟩ := g
  refine Cn.of (by decide) (by repeat (first | exact ca_0 | refine ca_i ?_ | refine ca_r ?_)) (Nat.le_of_ble_eq_true rfl) ?_
  refine r_aload_n rfl rfl ?_
  refine r_mg (j := 19) hM rfl rfl (by decide) ?_
  refine r_iload_n rfl rfl ?_
  refine r_mi (j := 19) hM rfl rfl (by decide) (by first | rfl | assumption) (show _ < 120 by omega) ?_
  refine r_aload_n rfl rfl ?_
  refine r_mg (j := 19) hM rfl rfl (by decide) ?_
  refine r_iload_n rfl rfl ?_
  refine r_mi (j := 19) hM rfl rfl (by decide) (by first | rfl | assumption) (show _ < 120 by omega) ?_
  rw [h1, g1]
  refine r_eqN rfl (by omega) (by omega) (fun q => ?_) (fun q => ?_)
  · refine r_iconst (v := nI 0) rfl (by decide) ?_
    refine r_istore_n rfl (by decide) ?_
    have loop : ∀ (d i : Nat), i + d = xs.length → (∀ q, q < i → xs.getD q 0 = ys.getD q 0) → Gm l D m_M_sameNumber 0 0 (fun r τ => r = some (.int (nI (decide (xs = ys)).toNat)) ∧ τ = σ) 19 [some (va_rf (some o)), some (.int (nI x)), some (.int (nI y)), some (.int (nI i))] [] σ 0 0 := by
      intro d
      induction d with
      | zero =>
        intro i hi hp
        refine r_iload_n rfl rfl ?_
        refine r_aload_n rfl rfl ?_
        refine r_mg (j := 19) hM rfl rfl (by decide) ?_
        refine r_iload_n rfl rfl ?_
        refine r_mi (j := 19) hM rfl rfl (by decide) (by first | rfl | assumption) (show _ < 120 by omega) ?_
        rw [h1]
        refine r_geN rfl (by omega) (by omega) (fun _ => ?_) (fun w => by omega)
        refine r_iconst (v := nI 1) rfl (by decide) ?_
        refine r_zret rfl rfl (by decide) ⟨?_, rfl⟩
        have e : xs = ys := by
          refine List.ext_getElem q (fun k a1 a2 => ?_)
          have := hp k (by omega)
          rw [getD_at a1, getD_at a2] at this
          exact this
        rw [decide_eq_true e]
        rfl
      | succ d ih =>
        intro i hi hp
        refine r_iload_n rfl rfl ?_
        refine r_aload_n rfl rfl ?_
        refine r_mg (j := 19) hM rfl rfl (by decide) ?_
        refine r_iload_n rfl rfl ?_
        refine r_mi (j := 19) hM rfl rfl (by decide) (by first | rfl | assumption) (show _ < 120 by omega) ?_
        rw [h1]
        refine r_geN rfl (by omega) (by omega) (fun w => by omega) (fun _ => ?_)
        refine r_aload_n rfl rfl ?_
        refine r_mg (j := 18) hM rfl rfl (by decide) ?_
        refine r_bipush (v := nI 60) rfl (by decide) ?_
        refine r_iload_n rfl rfl ?_
        (first | refine r_imulN rfl ?_ | refine r_imul rfl ?_)
        refine r_iload_n rfl rfl ?_
        (first | refine r_iaddN rfl ?_ | refine r_iadd rfl ?_)
        refine r_mb (j := 18) hM rfl rfl (by decide) (by first | rfl | assumption) (show _ < 7200 by omega) ?_
        refine r_aload_n rfl rfl ?_
        refine r_mg (j := 18) hM rfl rfl (by decide) ?_
        refine r_bipush (v := nI 60) rfl (by decide) ?_
        refine r_iload_n rfl rfl ?_
        (first | refine r_imulN rfl ?_ | refine r_imul rfl ?_)
        refine r_iload_n rfl rfl ?_
        (first | refine r_iaddN rfl ?_ | refine r_iadd rfl ?_)
        refine r_mb (j := 18) hM rfl rfl (by decide) (by first | rfl | assumption) (show _ < 7200 by omega) ?_
        rw [h3 i (by omega), g3 i (by omega)]
        refine r_icmp_eq rfl (fun w => ?_) (fun w => ?_)
        · refine r_iinc rfl rfl (nI_inc _) ?_
          refine r_goto rfl ?_
          refine ih (i + 1) (by omega) (fun k hk => ?_)
          by_cases e : k = i
          · rw [e]; exact w
          · exact hp k (by omega)
        · refine r_iconst (v := nI 0) rfl (by decide) ?_
          refine r_zret rfl rfl (by decide) ⟨?_, rfl⟩
          rw [decide_eq_false (fun e => w (by rw [e]))]
          rfl
    exact loop xs.length 0 (by omega) (fun k hk => by omega)
  · refine r_iconst (v := nI 0) rfl (by decide) ?_
    refine r_zret rfl rfl (by decide) ⟨?_, rfl⟩
    rw [decide_eq_false (fun e => q (by rw [e]))]
    rfl
theorem c_M_leadOf {x f n : Nat} (hM : ML σ o) (hn : h_I σ 711 o = nI n) (hn2 : n ≤ 120) (hs : foS (h_X σ (o + 1 + 7)) (h_X σ (o + 1 + 9)) f x) : Cn l D m_M_leadOf 0 0 [va_rf (some o), .int (nI x)] σ (fun r τ => r = some (.int (if isTh n (h_X σ (o + 1 + 7)) (nI (foE (h_X σ (o + 1 + 7)) (h_X σ (o + 1 + 9)) f x)) = true then nI (foE (h_X σ (o + 1 + 7)) (h_X σ (o + 1 + 9)) f x) else -1)) ∧ τ = σ) := by
  refine Cn.of (by decide) (by repeat (first | exact ca_0 | refine ca_i ?_ | refine ca_r ?_)) (Nat.le_of_ble_eq_true rfl) ?_
  refine r_aload_n rfl rfl ?_
  refine r_iload_n rfl rfl ?_
  refine r_callV (As := [_]) rfl (by decide) rfl hM.1 rfl rfl (Nat.le_of_ble_eq_true rfl) ⟨Nat.le_of_ble_eq_true rfl, Nat.le_of_ble_eq_true rfl⟩ (c_M_follow hM hs) (kc' := 0) (ks' := 0) (by omega) (by omega) (by decide) ?_
  rintro r τ ⟨rfl, rfl⟩
  refine r_istore_n rfl (by decide) ?_
  refine r_aload_n rfl rfl ?_
  refine r_iload_n rfl rfl ?_
  refine r_callV (As := [_]) rfl (by decide) rfl hM.1 rfl rfl (Nat.le_of_ble_eq_true rfl) ⟨Nat.le_of_ble_eq_true rfl, Nat.le_of_ble_eq_true rfl⟩ (c_M_isThere hM hn hn2) (kc' := 0) (ks' := 0) (by omega) (by omega) (by decide) ?_
  rintro r τ' ⟨rfl, rfl⟩
  refine r_ifeqB rfl (fun q => ?_) (fun q => ?_)
  · refine r_iconst (v := -1) rfl (by decide) ?_
    refine r_iret rfl rfl ⟨?_, rfl⟩
    rw [q]
    rfl
  · refine r_iload_n rfl rfl ?_
    refine r_goto rfl ?_
    refine r_iret rfl rfl ⟨?_, rfl⟩
    rw [if_pos q]
end MC
