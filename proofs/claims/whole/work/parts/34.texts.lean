/-! ===== the reference: texts of sixty bytes a thing, the line ===== -/
/-- thing x's text in the rows jT (bytes), jS (sizes) -/
def Tx (σ : Hp) (o jT jS x : Nat) (xs : List Int32) : Prop := h_X σ (o + 1 + jS) x = nI xs.length ∧ xs.length ≤ 60 ∧ ∀ i, i < xs.length → h_X σ (o + 1 + jT) (60 * x + i) = xs.getD i 0
/-- only thing x's text has changed there -/
def TF (σ τ : Hp) (o jT jS x : Nat) : Prop := ∃ T S, τ = w_X (w_X σ (o + 1 + jT) T) (o + 1 + jS) S ∧ (∀ i, ¬ (60 * x ≤ i ∧ i < 60 * x + 60) → T i = h_X σ (o + 1 + jT) i) ∧ ∀ z, z ≠ x → S z = h_X σ (o + 1 + jS) z
theorem TF.rf (σ : Hp) (o jT jS x : Nat) : TF σ σ o jT jS x := ⟨h_X σ (o + 1 + jT), h_X σ (o + 1 + jS), by rw [wX_self, wX_self], fun _ _ => rfl, fun _ _ => rfl⟩
theorem TF.tr {σ τ ρ : Hp} {o jT jS x : Nat} (hj : jT ≠ jS) (h : TF σ τ o jT jS x) (g : TF τ ρ o jT jS x) : TF σ ρ o jT jS x := by
  obtain ⟨T, S, rfl, h1, h2⟩ := h
  obtain ⟨T', S', rfl, g1, g2⟩ := g
  rw [hX_n _ _ (by omega), hX_w] at g1
  rw [hX_w] at g2
  refine ⟨T', S', ?_, fun i hi => (g1 i hi).trans (h1 i hi), fun z hz => (g2 z hz).trans (h2 z hz)⟩
  rw [wX_comm (w_X σ (o + 1 + jT) T) _ _ (show o + 1 + jS ≠ o + 1 + jT by omega), wX_same, wX_same]
theorem Tx.keep {σ τ : Hp} {o jT jS x z : Nat} {xs : List Int32} (hj : jT ≠ jS) (h : TF σ τ o jT jS x) (hz : z ≠ x) (g : Tx σ o jT jS z xs) : Tx τ o jT jS z xs := by
  obtain ⟨T, S, rfl, h1, h2⟩ := h
  obtain ⟨g1, g2, g3⟩ := g
  unfold Tx
  rw [hX_w, hX_n _ _ (by omega), hX_w]
  exact ⟨(h2 z hz).trans g1, g2, fun i hi => (h1 _ (by omega)).trans (g3 i hi)⟩
theorem Tx.put {σ : Hp} {o jT jS x : Nat} {xs : List Int32} {v : Int32} (hj : jT ≠ jS) (h : Tx σ o jT jS x xs) (hl : xs.length < 60) : Tx (w_X (w_X σ (o + 1 + jT) (upd (h_X σ (o + 1 + jT)) (60 * x + xs.length) v)) (o + 1 + jS) (upd (h_X σ (o + 1 + jS)) x (nI (xs.length + 1)))) o jT jS x (xs ++ [v]) ∧ TF σ (w_X (w_X σ (o + 1 + jT) (upd (h_X σ (o + 1 + jT)) (60 * x + xs.length) v)) (o + 1 + jS) (upd (h_X σ (o + 1 + jS)) x (nI (xs.length + 1)))) o jT jS x := by
  obtain ⟨g1, g2, g3⟩ := h
  refine ⟨?_, _, _, rfl, fun i hi => upd_n _ _ (by omega), fun z hz => upd_n _ _ hz⟩
  unfold Tx
  rw [hX_w, hX_n _ _ (by omega), hX_w]
  refine ⟨by rw [upd_s, List.length_append]; rfl, by simp; omega, fun i hi => ?_⟩
  simp only [List.length_append, List.length_cons, List.length_nil] at hi
  by_cases e : i = xs.length
  · rw [e, upd_s]
    simp [List.getD_eq_getElem?_getD]
  · rw [upd_n _ _ (by omega), g3 i (by omega), List.getD_eq_getElem?_getD, List.getD_eq_getElem?_getD, List.getElem?_append_left (by omega)]
section MC
variable {l : Launch} {D : DD} {σ : Hp} {o : Nat}
theorem c_M_signByte {x : Nat} {c : Int32} {xs : List Int32} (hM : ML σ o) (hx : x < 120) (h : Tx σ o 20 21 x xs) (hl : xs.length < 60) : Cn l D m_M_signByte 0 0 [va_rf (some o), .int (nI x), .int c] σ (fun r τ => r = none ∧ Tx τ o 20 21 x (xs ++ [b8 c]) ∧ TF σ τ o 20 21 x) := by
  have h1 := h.1
  refine Cn.of (by decide) (by repeat (first | exact ca_0 | refine ca_i ?_ | refine ca_r ?_)) (Nat.le_of_ble_eq_true rfl) ?_
  refine r_aload_n rfl rfl ?_
  refine r_mg (j := 20) hM rfl rfl (by decide) ?_
  refine r_bipush (v := nI 60) rfl (by decide) ?_
  refine r_iload_n rfl rfl ?_
  (first | refine r_imulN rfl ?_ | refine r_imul rfl ?_)
  refine r_aload_n rfl rfl ?_
  refine r_mg (j := 21) hM rfl rfl (by decide) ?_
  refine r_iload_n rfl rfl ?_
  refine r_mi (j := 21) hM rfl rfl (by decide) (by first | rfl | assumption) (show _ < 120 by omega) ?_
  rw [h1]
  (first | refine r_iaddN rfl ?_ | refine r_iadd rfl ?_)
  refine r_iload_n rfl rfl ?_
  refine r_i2b (v := b8 c) rfl rfl ?_
  refine r_mbs (j := 20) hM rfl rfl (by decide) rfl (show _ < 7200 by omega) (b8_nar c) (b8_fit c) ?_
  refine r_aload_n rfl rfl ?_
  refine r_mg (j := 21) hM rfl rfl (by decide) ?_
  refine r_iload_n rfl rfl ?_
  refine r_dup2 rfl (by first | rfl | exact rf_cat _) (by first | rfl | exact rf_cat _) ?_
  refine r_mi (j := 21) hM rfl rfl (by decide) (by first | rfl | assumption) (show _ < 120 by omega) ?_
  rw [hX_n _ _ (show o + 1 + 21 ≠ o + 1 + 20 by omega), h1]
  refine r_iconst (v := nI 1) rfl (by decide) ?_
  (first | refine r_iaddN rfl ?_ | refine r_iadd rfl ?_)
  refine r_mis (j := 21) hM rfl rfl (by decide) rfl (show _ < 120 by omega) ?_
  rw [hX_n _ _ (show o + 1 + 21 ≠ o + 1 + 20 by omega)]
  exact r_vret rfl rfl ⟨rfl, h.put (by decide) hl⟩
theorem c_M_numberByte {x : Nat} {c : Int32} {xs : List Int32} (hM : ML σ o) (hx : x < 120) (h : Tx σ o 18 19 x xs) (hl : xs.length < 60) : Cn l D m_M_numberByte 0 0 [va_rf (some o), .int (nI x), .int c] σ (fun r τ => r = none ∧ Tx τ o 18 19 x (xs ++ [b8 c]) ∧ TF σ τ o 18 19 x) := by
  have h1 := h.1
  refine Cn.of (by decide) (by repeat (first | exact ca_0 | refine ca_i ?_ | refine ca_r ?_)) (Nat.le_of_ble_eq_true rfl) ?_
  refine r_aload_n rfl rfl ?_
  refine r_mg (j := 18) hM rfl rfl (by decide) ?_
  refine r_bipush (v := nI 60) rfl (by decide) ?_
  refine r_iload_n rfl rfl ?_
  (first | refine r_imulN rfl ?_ | refine r_imul rfl ?_)
  refine r_aload_n rfl rfl ?_
  refine r_mg (j := 19) hM rfl rfl (by decide) ?_
  refine r_iload_n rfl rfl ?_
  refine r_mi (j := 19) hM rfl rfl (by decide) (by first | rfl | assumption) (show _ < 120 by omega) ?_
  rw [h1]
  (first | refine r_iaddN rfl ?_ | refine r_iadd rfl ?_)
  refine r_iload_n rfl rfl ?_
  refine r_i2b (v := b8 c) rfl rfl ?_
  refine r_mbs (j := 18) hM rfl rfl (by decide) rfl (show _ < 7200 by omega) (b8_nar c) (b8_fit c) ?_
  refine r_aload_n rfl rfl ?_
  refine r_mg (j := 19) hM rfl rfl (by decide) ?_
  refine r_iload_n rfl rfl ?_
  refine r_dup2 rfl (by first | rfl | exact rf_cat _) (by first | rfl | exact rf_cat _) ?_
  refine r_mi (j := 19) hM rfl rfl (by decide) (by first | rfl | assumption) (show _ < 120 by omega) ?_
  rw [hX_n _ _ (show o + 1 + 19 ≠ o + 1 + 18 by omega), h1]
  refine r_iconst (v := nI 1) rfl (by decide) ?_
  (first | refine r_iaddN rfl ?_ | refine r_iadd rfl ?_)
  refine r_mis (j := 19) hM rfl rfl (by decide) rfl (show _ < 120 by omega) ?_
  rw [hX_n _ _ (show o + 1 + 19 ≠ o + 1 + 18 by omega)]
  exact r_vret rfl rfl ⟨rfl, h.put (by decide) hl⟩
/-- the line holds xs -/
def Lb (σ : Hp) (o : Nat) (xs : List Int32) : Prop := h_I σ 741 o = nI xs.length ∧ xs.length ≤ 2000 ∧ ∀ i, i < xs.length → h_X σ (o + 1 + 30) i = xs.getD i 0
def LbF (σ τ : Hp) (o : Nat) : Prop := ∃ g v, τ = w_I (w_X σ (o + 1 + 30) g) 741 o v
theorem LbF.rf (σ : Hp) (o : Nat) : LbF σ σ o := ⟨h_X σ (o + 1 + 30), h_I σ 741 o, by
  rw [wX_self]
  unfold w_I
  have : u_2 (h_I σ) 741 o (h_I σ 741 o) = h_I σ := by
    funext f a
    unfold u_2
    by_cases e : f = 741 ∧ a = o
    · rw [if_pos e, e.1, e.2]
    · rw [if_neg e]
  rw [this]
  rfl⟩
theorem LbF.tr {τ ρ : Hp} (h : LbF σ τ o) (g : LbF τ ρ o) : LbF σ ρ o := by
  obtain ⟨a, v, rfl⟩ := h
  obtain ⟨b, w, rfl⟩ := g
  refine ⟨b, w, ?_⟩
  rw [wI_wX, wI_same, wI_wX, wX_same]
  exact (wI_wX _ _ _ _ _ _).symm
theorem c_M_lineByte {c : Int32} {xs : List Int32} (hM : ML σ o) (h : Lb σ o xs) (hl : xs.length < 2000) : Cn l D m_M_lineByte 0 0 [va_rf (some o), .int c] σ (fun r τ => r = none ∧ Lb τ o (xs ++ [b8 c]) ∧ LbF σ τ o) := by
  obtain ⟨h1, h2, h3⟩ := id h
  refine Cn.of (by decide) (by repeat (first | exact ca_0 | refine ca_i ?_ | refine ca_r ?_)) (Nat.le_of_ble_eq_true rfl) ?_
  refine r_aload_n rfl rfl ?_
  refine r_mg (j := 30) hM rfl rfl (by decide) ?_
  refine r_aload_n rfl rfl ?_
  (first | refine r_getIv rfl hM.1 rfl (by assumption) ?_ | refine r_getI rfl hM.1 rfl ?_)
  refine r_iload_n rfl rfl ?_
  refine r_i2b (v := b8 c) rfl rfl ?_
  refine r_mbs (j := 30) hM rfl rfl (by decide) rfl (show _ < 2000 by omega) (b8_nar c) (b8_fit c) ?_
  refine r_aload_n rfl rfl ?_
  refine r_dup rfl (by first | rfl | exact rf_cat _) ?_
  (first | refine r_getIv rfl hM.1 rfl (by assumption) ?_ | refine r_getI rfl hM.1 rfl ?_)
  refine r_iconst (v := nI 1) rfl (by decide) ?_
  (first | refine r_iaddN rfl ?_ | refine r_iadd rfl ?_)
  refine r_putI rfl hM.1 rfl (Or.inl rfl) (by first | rfl | decide) (by first | rfl | decide) ?_
  refine r_vret rfl rfl ⟨rfl, ⟨?_, by simp; omega, fun i hi => ?_⟩, _, _, rfl⟩
  · rw [hI_w, List.length_append]
    rfl
  · rw [hX_wI, hX_w]
    simp only [List.length_append, List.length_cons, List.length_nil] at hi
    by_cases e : i = xs.length
    · rw [e, upd_s]
      simp [List.getD_eq_getElem?_getD]
    · rw [upd_n _ _ e, h3 i (by omega), List.getD_eq_getElem?_getD, List.getD_eq_getElem?_getD, List.getElem?_append_left (by omega)]
/-- a byte of the tape, as the reference sees it: 0 behind the end -/
def seeB (xs : List Int32) (p : Nat) : Int32 := if p < xs.length then xs.getD p 0 &&& 255 else 0
theorem c_M_see {p : Nat} {xs : List Int32} (hM : ML σ o) (hz : h_I σ 749 o = nI xs.length) (hl : xs.length ≤ 600) (hp : p < 2 ^ 31) (hx : ∀ i, i < xs.length → h_X σ (o + 1 + 0) i = xs.getD i 0) : Cn l D m_M_see 0 0 [va_rf (some o), .int (nI p)] σ (fun r τ => r = some (.int (seeB xs p)) ∧ τ = σ) := by
  refine Cn.of (by decide) (by repeat (first | exact ca_0 | refine ca_i ?_ | refine ca_r ?_)) (Nat.le_of_ble_eq_true rfl) ?_
  refine r_iload_n rfl rfl ?_
  refine r_aload_n rfl rfl ?_
  (first | refine r_getIv rfl hM.1 rfl (by assumption) ?_ | refine r_getI rfl hM.1 rfl ?_)
  refine r_geN rfl hp (by omega) (fun q => ?_) (fun q => ?_)
  · refine r_iconst (v := nI 0) rfl (by decide) ?_
    exact r_iret rfl rfl ⟨by unfold seeB; rw [if_neg (by omega)]; rfl, rfl⟩
  · refine r_aload_n rfl rfl ?_
    refine r_mg (j := 0) hM rfl rfl (by decide) ?_
    refine r_iload_n rfl rfl ?_
    refine r_mb (j := 0) hM rfl rfl (by decide) (by first | rfl | assumption) (show _ < 600 by omega) ?_
    refine r_sipush (v := nI 255) rfl (by decide) ?_
    refine r_iand rfl ?_
    refine r_goto rfl ?_
    refine r_iret rfl rfl ⟨?_, rfl⟩
    unfold seeB
    rw [if_pos q, hx p q]
    rfl
def isR (b : Int32) : Bool := isL b || (decide (48 ≤ b) && decide (b ≤ 57)) || decide (b = 46) || decide (b = 40) || decide (b = 41)
theorem c_M_isOfRun {b : Int32} : Cn l D m_M_isOfRun 0 0 [.int b] σ (fun r τ => r = some (.int (nI (isR b).toNat)) ∧ τ = σ) := by
  have e48 : nI 48 = 48 := by decide
  have e57 : nI 57 = 57 := by decide
  have e46 : nI 46 = 46 := by decide
  have e40 : nI 40 = 40 := by decide
  have e41 : nI 41 = 41 := by decide
  refine Cn.of (by decide) (by repeat (first | exact ca_0 | refine ca_i ?_ | refine ca_r ?_)) (Nat.le_of_ble_eq_true rfl) ?_
  have yes : isR b = true → Gm l D m_M_isOfRun 0 0 (fun r τ => r = some (.int (nI (isR b).toNat)) ∧ τ = σ) 37 (en_L [.int b] 1) [] σ 0 0 := by
    intro h
    refine r_iconst (v := nI 1) rfl (by decide) ?_
    refine r_goto rfl ?_
    exact r_zret rfl rfl (by decide) ⟨by rw [h]; rfl, rfl⟩
  refine r_iload_n rfl rfl ?_
  refine r_callS (As := [_]) rfl (by decide) rfl rfl rfl (Nat.le_of_ble_eq_true rfl) ⟨Nat.le_of_ble_eq_true rfl, Nat.le_of_ble_eq_true rfl⟩ c_M_isLetter (kc' := 0) (ks' := 0) (by omega) (by omega) ?_
  rintro r τ ⟨rfl, rfl⟩
  refine r_ifneB rfl (fun q => yes (by unfold isR; rw [q]; rfl)) (fun q0 => ?_)
  have tail : ¬ (48 ≤ b ∧ b ≤ 57) → Gm l D m_M_isOfRun 0 0 (fun r τ' => r = some (.int (nI (isR b).toNat)) ∧ τ' = τ) 19 (en_L [.int b] 1) [] τ 0 0 := by
    intro hd
    have hd2 : (decide (48 ≤ b) && decide (b ≤ 57)) = false := by simpa using hd
    refine r_iload_n rfl rfl ?_
    refine r_bipush (v := nI 46) rfl (by decide) ?_
    refine r_icmp_eq rfl (fun q => yes (by unfold isR; rw [e46] at q; rw [decide_eq_true q]; simp)) (fun q1 => ?_)
    refine r_iload_n rfl rfl ?_
    refine r_bipush (v := nI 40) rfl (by decide) ?_
    refine r_icmp_eq rfl (fun q => yes (by unfold isR; rw [e40] at q; rw [decide_eq_true (p := b = 40) q]; simp)) (fun q2 => ?_)
    refine r_iload_n rfl rfl ?_
    refine r_bipush (v := nI 41) rfl (by decide) ?_
    refine r_icmp_ne rfl (fun q3 => ?_) (fun q => yes (by unfold isR; rw [e41] at q; rw [decide_eq_true (p := b = 41) q]; simp))
    rw [e46] at q1
    rw [e40] at q2
    rw [e41] at q3
    refine r_iconst (v := nI 0) rfl (by decide) ?_
    refine r_zret rfl rfl (by decide) ⟨?_, rfl⟩
    unfold isR
    rw [q0, hd2, decide_eq_false q1, decide_eq_false q2, decide_eq_false q3]
    rfl
  refine r_iload_n rfl rfl ?_
  refine r_bipush (v := nI 48) rfl (by decide) ?_
  refine r_icmp_lt rfl (fun q => ?_) (fun q => ?_)
  · rw [e48] at q
    exact tail (fun w => absurd w.1 (Int32.not_le.mpr q))
  · rw [e48] at q
    refine r_iload_n rfl rfl ?_
    refine r_bipush (v := nI 57) rfl (by decide) ?_
    refine r_icmp_le rfl (fun q2 => ?_) (fun q2 => ?_)
    · rw [e57] at q2
      exact yes (by unfold isR; rw [decide_eq_true (Int32.not_lt.mp q), decide_eq_true q2]; simp)
    · rw [e57] at q2
      exact tail (fun w => q2 w.2)
theorem c_M_tell {a b c d : Int32} {m : Nat} (hM : ML σ o) (hm : h_I σ 733 o = nI m) (hm2 : m < 100) : Cn l D m_M_tell 0 0 [va_rf (some o), .int a, .int b, .int c, .int d] σ (fun r τ => r = some (.int (nI m)) ∧ τ = w_I (w_X (w_X (w_X (w_X (w_X σ (o + 1 + 24) (upd (h_X σ (o + 1 + 24)) m a)) (o + 1 + 25) (upd (h_X σ (o + 1 + 25)) m b)) (o + 1 + 26) (upd (h_X σ (o + 1 + 26)) m c)) (o + 1 + 27) (upd (h_X σ (o + 1 + 27)) m d)) (o + 1 + 28) (upd (h_X σ (o + 1 + 28)) m (nI 0))) 733 o (nI (m + 1))) := by
  refine Cn.of (by decide) (by repeat (first | exact ca_0 | refine ca_i ?_ | refine ca_r ?_)) (Nat.le_of_ble_eq_true rfl) ?_
  refine r_aload_n rfl rfl ?_
  refine r_mg (j := 24) hM rfl rfl (by decide) ?_
  refine r_aload_n rfl rfl ?_
  (first | refine r_getIv rfl hM.1 rfl (by assumption) ?_ | refine r_getI rfl hM.1 rfl ?_)
  refine r_iload_n rfl rfl ?_
  refine r_mis (j := 24) hM rfl rfl (by decide) (by first | rfl | assumption) (show _ < 100 by omega) ?_
  refine r_aload_n rfl rfl ?_
  refine r_mg (j := 25) hM rfl rfl (by decide) ?_
  refine r_aload_n rfl rfl ?_
  (first | refine r_getIv rfl hM.1 rfl (by assumption) ?_ | refine r_getI rfl hM.1 rfl ?_)
  refine r_iload_n rfl rfl ?_
  refine r_mis (j := 25) hM rfl rfl (by decide) (by first | rfl | assumption) (show _ < 100 by omega) ?_
  refine r_aload_n rfl rfl ?_
  refine r_mg (j := 26) hM rfl rfl (by decide) ?_
  refine r_aload_n rfl rfl ?_
  (first | refine r_getIv rfl hM.1 rfl (by assumption) ?_ | refine r_getI rfl hM.1 rfl ?_)
  refine r_iload_n rfl rfl ?_
  refine r_mis (j := 26) hM rfl rfl (by decide) (by first | rfl | assumption) (show _ < 100 by omega) ?_
  refine r_aload_n rfl rfl ?_
  refine r_mg (j := 27) hM rfl rfl (by decide) ?_
  refine r_aload_n rfl rfl ?_
  (first | refine r_getIv rfl hM.1 rfl (by assumption) ?_ | refine r_getI rfl hM.1 rfl ?_)
  refine r_iload rfl rfl ?_
  refine r_mis (j := 27) hM rfl rfl (by decide) (by first | rfl | assumption) (show _ < 100 by omega) ?_
  refine r_aload_n rfl rfl ?_
  refine r_mg (j := 28) hM rfl rfl (by decide) ?_
  refine r_aload_n rfl rfl ?_
  (first | refine r_getIv rfl hM.1 rfl (by assumption) ?_ | refine r_getI rfl hM.1 rfl ?_)
  refine r_iconst (v := nI 0) rfl (by decide) ?_
  refine r_mis (j := 28) hM rfl rfl (by decide) (by first | rfl | assumption) (show _ < 100 by omega) ?_
  refine r_aload_n rfl rfl ?_
  refine r_dup rfl (by first | rfl | exact rf_cat _) ?_
  (first | refine r_getIv rfl hM.1 rfl (by assumption) ?_ | refine r_getI rfl hM.1 rfl ?_)
  refine r_iconst (v := nI 1) rfl (by decide) ?_
  (first | refine r_iaddN rfl ?_ | refine r_iadd rfl ?_)
  refine r_putI rfl hM.1 rfl (Or.inl rfl) (by first | rfl | decide) (by first | rfl | decide) ?_
  refine r_aload_n rfl rfl ?_
  refine r_getIv rfl hM.1 rfl (hI_w _ _ _ _) ?_
  refine r_iconst (v := nI 1) rfl (by decide) ?_
  refine r_isubN rfl (by omega) ?_
  refine r_iret rfl rfl ⟨rfl, ?_⟩
  simp only [hX_n _ _ (show o + 1 + 25 ≠ o + 1 + 24 by omega), hX_n _ _ (show o + 1 + 26 ≠ o + 1 + 25 by omega), hX_n _ _ (show o + 1 + 26 ≠ o + 1 + 24 by omega), hX_n _ _ (show o + 1 + 27 ≠ o + 1 + 26 by omega), hX_n _ _ (show o + 1 + 27 ≠ o + 1 + 25 by omega), hX_n _ _ (show o + 1 + 27 ≠ o + 1 + 24 by omega), hX_n _ _ (show o + 1 + 28 ≠ o + 1 + 27 by omega), hX_n _ _ (show o + 1 + 28 ≠ o + 1 + 26 by omega), hX_n _ _ (show o + 1 + 28 ≠ o + 1 + 25 by omega), hX_n _ _ (show o + 1 + 28 ≠ o + 1 + 24 by omega)]
end MC
