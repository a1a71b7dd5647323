/-! ===== the reference: the tree's methods ===== -/
def plUp (on pl : Nat → Int32) (v i : Int32) (k : Nat) : Nat → Int32 := fun y => if y < k ∧ on y = v ∧ i ≤ pl y then pl y + nI 1 else pl y
def plDn (on pl : Nat → Int32) (x k : Nat) : Nat → Int32 := fun y => if y < k ∧ on y = on x ∧ pl x < pl y then pl y - nI 1 else pl y
theorem plUp_0 (on pl : Nat → Int32) (v i : Int32) : plUp on pl v i 0 = pl := by
  funext y
  unfold plUp
  rw [if_neg (by omega)]
theorem plDn_0 (on pl : Nat → Int32) (x : Nat) : plDn on pl x 0 = pl := by
  funext y
  unfold plDn
  rw [if_neg (by omega)]
theorem plUp_n {on pl : Nat → Int32} {v i : Int32} {k : Nat} (h : ¬ (on k = v ∧ i ≤ pl k)) : plUp on pl v i (k + 1) = plUp on pl v i k := by
  funext y
  unfold plUp
  by_cases e : y = k
  · subst e
    rw [if_neg (fun q => h q.2), if_neg (fun q => h q.2)]
  · have : (y < k + 1 ∧ on y = v ∧ i ≤ pl y) ↔ (y < k ∧ on y = v ∧ i ≤ pl y) := ⟨fun q => ⟨by omega, q.2⟩, fun q => ⟨by omega, q.2⟩⟩
    simp only [this]
theorem plUp_y {on pl : Nat → Int32} {v i : Int32} {k : Nat} (h : on k = v ∧ i ≤ pl k) : plUp on pl v i (k + 1) = upd (plUp on pl v i k) k (pl k + nI 1) := by
  funext y
  unfold upd
  by_cases e : y = k
  · subst e
    rw [if_pos rfl]
    unfold plUp
    rw [if_pos ⟨by omega, h⟩]
  · rw [if_neg e]
    unfold plUp
    have : (y < k + 1 ∧ on y = v ∧ i ≤ pl y) ↔ (y < k ∧ on y = v ∧ i ≤ pl y) := ⟨fun q => ⟨by omega, q.2⟩, fun q => ⟨by omega, q.2⟩⟩
    simp only [this]
theorem plUp_k (on pl : Nat → Int32) (v i : Int32) (k : Nat) : plUp on pl v i k k = pl k := by
  unfold plUp
  rw [if_neg (by omega)]
theorem plDn_n {on pl : Nat → Int32} {x k : Nat} (h : ¬ (on k = on x ∧ pl x < pl k)) : plDn on pl x (k + 1) = plDn on pl x k := by
  funext y
  unfold plDn
  by_cases e : y = k
  · subst e
    rw [if_neg (fun q => h q.2), if_neg (fun q => h q.2)]
  · have : (y < k + 1 ∧ on y = on x ∧ pl x < pl y) ↔ (y < k ∧ on y = on x ∧ pl x < pl y) := ⟨fun q => ⟨by omega, q.2⟩, fun q => ⟨by omega, q.2⟩⟩
    simp only [this]
theorem plDn_y {on pl : Nat → Int32} {x k : Nat} (h : on k = on x ∧ pl x < pl k) : plDn on pl x (k + 1) = upd (plDn on pl x k) k (pl k - nI 1) := by
  funext y
  unfold upd
  by_cases e : y = k
  · subst e
    rw [if_pos rfl]
    unfold plDn
    rw [if_pos ⟨by omega, h⟩]
  · rw [if_neg e]
    unfold plDn
    have : (y < k + 1 ∧ on y = on x ∧ pl x < pl y) ↔ (y < k ∧ on y = on x ∧ pl x < pl y) := ⟨fun q => ⟨by omega, q.2⟩, fun q => ⟨by omega, q.2⟩⟩
    simp only [this]
theorem plDn_k (on pl : Nat → Int32) (x k : Nat) : plDn on pl x k k = pl k := by
  unfold plDn
  rw [if_neg (by omega)]
theorem plDn_x (on pl : Nat → Int32) (x k : Nat) : plDn on pl x k x = pl x := by
  unfold plDn
  rw [if_neg (fun q => Int32.lt_irrefl q.2.2)]
section MC
variable {l : Launch} {D : DD} {σ : Hp} {o : Nat}
theorem c_M_putIn {v i : Int32} {n x : Nat} (hM : ML σ o) (hn : h_I σ 711 o = nI n) (hn2 : n ≤ 120) (hx : x < 120) : Cn l D m_M_putIn 0 0 [va_rf (some o), .int (nI x), .int v, .int i] σ (fun r τ => r = none ∧ τ = w_X (w_X σ (o + 1 + 7) (upd (h_X σ (o + 1 + 7)) x v)) (o + 1 + 8) (upd (plUp (h_X σ (o + 1 + 7)) (h_X σ (o + 1 + 8)) v i n) x i)) := by
  refine Cn.of (by decide) (by repeat (first | exact ca_0 | refine ca_i ?_ | refine ca_r ?_)) (Nat.le_of_ble_eq_true rfl) ?_
  refine r_iconst (v := nI 0) rfl (by decide) ?_
  refine r_istore rfl (by decide) ?_
  generalize hon : h_X σ (o + 1 + 7) = on
  generalize hpl : h_X σ (o + 1 + 8) = pl
  have loop : ∀ (d k : Nat), k + d = n → Gm l D m_M_putIn 0 0 (fun r τ => r = none ∧ τ = w_X (w_X σ (o + 1 + 7) (upd on x v)) (o + 1 + 8) (upd (plUp on pl v i n) x i)) 3 [some (va_rf (some o)), some (.int (nI x)), some (.int v), some (.int i), some (.int (nI k))] [] (w_X σ (o + 1 + 8) (plUp on pl v i k)) 0 0 := by
    intro d
    induction d with
    | zero =>
      intro k hk
      refine r_iload rfl rfl ?_
      refine r_aload_n rfl rfl ?_
      (first | refine r_getIv rfl hM.1 rfl (by assumption) ?_ | refine r_getI rfl hM.1 rfl ?_)
      refine r_geN rfl (by omega) (by omega) (fun _ => ?_) (fun q => by omega)
      refine r_aload_n rfl rfl ?_
      refine r_mg (j := 7) hM rfl rfl (by decide) ?_
      refine r_iload_n rfl rfl ?_
      refine r_iload_n rfl rfl ?_
      refine r_mis (j := 7) hM rfl rfl (by decide) (by first | rfl | assumption) (show _ < 120 by omega) ?_
      refine r_aload_n rfl rfl ?_
      refine r_mg (j := 8) hM rfl rfl (by decide) ?_
      refine r_iload_n rfl rfl ?_
      refine r_iload_n rfl rfl ?_
      refine r_mis (j := 8) hM rfl rfl (by decide) (by first | rfl | assumption) (show _ < 120 by omega) ?_
      refine r_vret rfl rfl ⟨rfl, ?_⟩
      rw [show k = n by omega, hX_n σ _ (show o + 1 + 7 ≠ o + 1 + 8 by omega), hon, hX_n _ _ (show o + 1 + 8 ≠ o + 1 + 7 by omega), hX_w, wX_comm _ _ _ (by omega), wX_same, wX_comm σ _ _ (show o + 1 + 8 ≠ o + 1 + 7 by omega)]
    | succ d ih =>
      intro k hk
      refine r_iload rfl rfl ?_
      refine r_aload_n rfl rfl ?_
      (first | refine r_getIv rfl hM.1 rfl (by assumption) ?_ | refine r_getI rfl hM.1 rfl ?_)
      refine r_geN rfl (by omega) (by omega) (fun q => by omega) (fun _ => ?_)
      refine r_aload_n rfl rfl ?_
      refine r_mg (j := 7) hM rfl rfl (by decide) ?_
      refine r_iload rfl rfl ?_
      refine r_mi (j := 7) hM rfl rfl (by decide) (by first | rfl | assumption) (show _ < 120 by omega) ?_
      refine r_iload_n rfl rfl ?_
      rw [hX_n _ _ (by omega), hon]
      refine r_icmp_ne rfl (fun q => ?_) (fun q => ?_)
      · refine r_iinc rfl rfl (nI_inc _) ?_
        refine r_goto rfl ?_
        have e := ih (k + 1) (by omega)
        rw [plUp_n (fun w => q w.1)] at e
        exact e
      · refine r_aload_n rfl rfl ?_
        refine r_mg (j := 8) hM rfl rfl (by decide) ?_
        refine r_iload rfl rfl ?_
        refine r_mi (j := 8) hM rfl rfl (by decide) (by first | rfl | assumption) (show _ < 120 by omega) ?_
        refine r_iload_n rfl rfl ?_
        rw [hX_w, plUp_k]
        refine r_icmp_lt rfl (fun q2 => ?_) (fun q2 => ?_)
        · refine r_iinc rfl rfl (nI_inc _) ?_
          refine r_goto rfl ?_
          have e := ih (k + 1) (by omega)
          rw [plUp_n (fun w => absurd w.2 (Int32.not_le.mpr q2))] at e
          exact e
        · refine r_aload_n rfl rfl ?_
          refine r_mg (j := 8) hM rfl rfl (by decide) ?_
          refine r_iload rfl rfl ?_
          refine r_dup2 rfl (by first | rfl | exact rf_cat _) (by first | rfl | exact rf_cat _) ?_
          refine r_mi (j := 8) hM rfl rfl (by decide) (by first | rfl | assumption) (show _ < 120 by omega) ?_
          refine r_iconst (v := nI 1) rfl (by decide) ?_
          (first | refine r_iaddN rfl ?_ | refine r_iadd rfl ?_)
          refine r_mis (j := 8) hM rfl rfl (by decide) (by first | rfl | assumption) (show _ < 120 by omega) ?_
          refine r_iinc rfl rfl (nI_inc _) ?_
          refine r_goto rfl ?_
          have e := ih (k + 1) (by omega)
          rw [plUp_y ⟨q, Int32.not_lt.mp q2⟩] at e
          rw [wX_same, hX_w, plUp_k]
          exact e
  have e := loop n 0 (by omega)
  rw [plUp_0, ← hpl, wX_self] at e
  rw [← hpl]
  exact e
theorem c_M_takeOut {n x : Nat} (hM : ML σ o) (hn : h_I σ 711 o = nI n) (hn2 : n ≤ 120) (hx : x < 120) : Cn l D m_M_takeOut 0 0 [va_rf (some o), .int (nI x)] σ (fun r τ => r = none ∧ τ = w_X (w_X σ (o + 1 + 7) (upd (h_X σ (o + 1 + 7)) x (-9))) (o + 1 + 8) (plDn (h_X σ (o + 1 + 7)) (h_X σ (o + 1 + 8)) x n)) := by
  refine Cn.of (by decide) (by repeat (first | exact ca_0 | refine ca_i ?_ | refine ca_r ?_)) (Nat.le_of_ble_eq_true rfl) ?_
  refine r_iconst (v := nI 0) rfl (by decide) ?_
  refine r_istore_n rfl (by decide) ?_
  generalize hon : h_X σ (o + 1 + 7) = on
  generalize hpl : h_X σ (o + 1 + 8) = pl
  have loop : ∀ (d k : Nat), k + d = n → Gm l D m_M_takeOut 0 0 (fun r τ => r = none ∧ τ = w_X (w_X σ (o + 1 + 7) (upd on x (-9))) (o + 1 + 8) (plDn on pl x n)) 2 [some (va_rf (some o)), some (.int (nI x)), some (.int (nI k))] [] (w_X σ (o + 1 + 8) (plDn on pl x k)) 0 0 := by
    intro d
    induction d with
    | zero =>
      intro k hk
      refine r_iload_n rfl rfl ?_
      refine r_aload_n rfl rfl ?_
      (first | refine r_getIv rfl hM.1 rfl (by assumption) ?_ | refine r_getI rfl hM.1 rfl ?_)
      refine r_geN rfl (by omega) (by omega) (fun _ => ?_) (fun q => by omega)
      refine r_aload_n rfl rfl ?_
      refine r_mg (j := 7) hM rfl rfl (by decide) ?_
      refine r_iload_n rfl rfl ?_
      refine r_bipush (v := -9) rfl (by decide) ?_
      refine r_mis (j := 7) hM rfl rfl (by decide) (by first | rfl | assumption) (show _ < 120 by omega) ?_
      refine r_vret rfl rfl ⟨rfl, ?_⟩
      rw [show k = n by omega, hX_n _ _ (by omega), hon, wX_comm _ _ _ (by omega)]
    | succ d ih =>
      intro k hk
      refine r_iload_n rfl rfl ?_
      refine r_aload_n rfl rfl ?_
      (first | refine r_getIv rfl hM.1 rfl (by assumption) ?_ | refine r_getI rfl hM.1 rfl ?_)
      refine r_geN rfl (by omega) (by omega) (fun q => by omega) (fun _ => ?_)
      refine r_aload_n rfl rfl ?_
      refine r_mg (j := 7) hM rfl rfl (by decide) ?_
      refine r_iload_n rfl rfl ?_
      refine r_mi (j := 7) hM rfl rfl (by decide) (by first | rfl | assumption) (show _ < 120 by omega) ?_
      refine r_aload_n rfl rfl ?_
      refine r_mg (j := 7) hM rfl rfl (by decide) ?_
      refine r_iload_n rfl rfl ?_
      refine r_mi (j := 7) hM rfl rfl (by decide) (by first | rfl | assumption) (show _ < 120 by omega) ?_
      rw [hX_n _ _ (by omega), hon]
      refine r_icmp_ne rfl (fun q => ?_) (fun q => ?_)
      · refine r_iinc rfl rfl (nI_inc _) ?_
        refine r_goto rfl ?_
        have e := ih (k + 1) (by omega)
        rw [plDn_n (fun w => q w.1)] at e
        exact e
      · refine r_aload_n rfl rfl ?_
        refine r_mg (j := 8) hM rfl rfl (by decide) ?_
        refine r_iload_n rfl rfl ?_
        refine r_mi (j := 8) hM rfl rfl (by decide) (by first | rfl | assumption) (show _ < 120 by omega) ?_
        refine r_aload_n rfl rfl ?_
        refine r_mg (j := 8) hM rfl rfl (by decide) ?_
        refine r_iload_n rfl rfl ?_
        refine r_mi (j := 8) hM rfl rfl (by decide) (by first | rfl | assumption) (show _ < 120 by omega) ?_
        rw [hX_w, plDn_k, plDn_x]
        refine r_icmp_le rfl (fun q2 => ?_) (fun q2 => ?_)
        · refine r_iinc rfl rfl (nI_inc _) ?_
          refine r_goto rfl ?_
          have e := ih (k + 1) (by omega)
          rw [plDn_n (fun w => absurd q2 (Int32.not_le.mpr w.2))] at e
          exact e
        · refine r_aload_n rfl rfl ?_
          refine r_mg (j := 8) hM rfl rfl (by decide) ?_
          refine r_iload_n rfl rfl ?_
          refine r_dup2 rfl (by first | rfl | exact rf_cat _) (by first | rfl | exact rf_cat _) ?_
          refine r_mi (j := 8) hM rfl rfl (by decide) (by first | rfl | assumption) (show _ < 120 by omega) ?_
          refine r_iconst (v := nI 1) rfl (by decide) ?_
          refine r_isub rfl ?_
          refine r_mis (j := 8) hM rfl rfl (by decide) (by first | rfl | assumption) (show _ < 120 by omega) ?_
          refine r_iinc rfl rfl (nI_inc _) ?_
          refine r_goto rfl ?_
          have e := ih (k + 1) (by omega)
          rw [plDn_y ⟨q, Int32.not_le.mp q2⟩] at e
          rw [wX_same, hX_w, plDn_k]
          exact e
  have e := loop n 0 (by omega)
  rw [plDn_0, ← hpl, wX_self] at e
  rw [← hpl]
  exact e
/-- climbing from y until it is above all, or at top -/
def upS (on : Nat → Int32) (top : Int32) : Nat → Int32 → Prop
  | 0, _ => False
  | f + 1, y => y < 0 ∨ y = top ∨ ∃ q, q < 120 ∧ y = nI q ∧ upS on top f (on q)
def upE (on : Nat → Int32) (top : Int32) : Nat → Int32 → Int32
  | 0, y => y
  | f + 1, y => if y < 0 ∨ y = top then y else upE on top f (on y.toNatClampNeg)
theorem c_M_isBelow {v top : Int32} {f : Nat} (hM : ML σ o) (hs : upS (h_X σ (o + 1 + 7)) top f v) : Cn l D m_M_isBelow 0 0 [va_rf (some o), .int v, .int top] σ (fun r τ => r = some (.int (nI (decide (upE (h_X σ (o + 1 + 7)) top f v = top)).toNat)) ∧ τ = σ) := by
  refine Cn.of (by decide) (by repeat (first | exact ca_0 | refine ca_i ?_ | refine ca_r ?_)) (Nat.le_of_ble_eq_true rfl) ?_
  refine r_iload_n rfl rfl ?_
  refine r_istore_n rfl (by decide) ?_
  generalize hQ : (fun (r : Option Value) (τ : Hp) => r = some (.int (nI (decide (upE (h_X σ (o + 1 + 7)) top f v = top)).toNat)) ∧ τ = σ) = Q
  have fin : ∀ y, y = upE (h_X σ (o + 1 + 7)) top f v → Gm l D m_M_isBelow 0 0 Q 21 [some (va_rf (some o)), some (.int v), some (.int top), some (.int y)] [] σ 0 0 := by
    intro y hy
    refine r_iload_n rfl rfl ?_
    refine r_iload_n rfl rfl ?_
    refine r_icmp_ne rfl (fun q => ?_) (fun q => ?_)
    · refine r_iconst (v := nI 0) rfl (by decide) ?_
      refine r_zret rfl rfl (by decide) ?_
      rw [← hQ, ← hy, decide_eq_false q]
      exact ⟨rfl, rfl⟩
    · refine r_iconst (v := nI 1) rfl (by decide) ?_
      refine r_goto rfl ?_
      refine r_zret rfl rfl (by decide) ?_
      rw [← hQ, ← hy, decide_eq_true q]
      exact ⟨rfl, rfl⟩
  have loop : ∀ (g : Nat) (y : Int32), upS (h_X σ (o + 1 + 7)) top g y → upE (h_X σ (o + 1 + 7)) top g y = upE (h_X σ (o + 1 + 7)) top f v → Gm l D m_M_isBelow 0 0 Q 2 [some (va_rf (some o)), some (.int v), some (.int top), some (.int y)] [] σ 0 0 := by
    intro g
    induction g with
    | zero => intro y h; exact h.elim
    | succ g ih =>
      intro y h he
      rw [upE] at he
      refine r_iload_n rfl rfl ?_
      refine r_if_lt rfl (fun q => fin y (by rw [← he, if_pos (Or.inl q)])) (fun q1 => ?_)
      refine r_iload_n rfl rfl ?_
      refine r_iload_n rfl rfl ?_
      refine r_icmp_eq rfl (fun q => fin y (by rw [← he, if_pos (Or.inr q)])) (fun q2 => ?_)
      rcases h with h | h | ⟨q, hq, rfl, h⟩
      · exact absurd h q1
      · exact absurd h q2
      rw [if_neg (fun w => w.elim q1 q2), nI_clamp (by omega)] at he
      refine r_aload_n rfl rfl ?_
      refine r_mg (j := 7) hM rfl rfl (by decide) ?_
      refine r_iload_n rfl rfl ?_
      refine r_mi (j := 7) hM rfl rfl (by decide) (by first | rfl | assumption) (show _ < 120 by omega) ?_
      refine r_istore_n rfl (by decide) ?_
      refine r_goto rfl ?_
      exact ih _ h he
  exact loop f v hs rfl
def abS (on kd : Nat → Int32) (k : Int32) : Nat → Int32 → Prop
  | 0, _ => False
  | f + 1, y => y < 0 ∨ ∃ q, q < 120 ∧ y = nI q ∧ (kd q = k ∨ abS on kd k f (on q))
def abE (on kd : Nat → Int32) (k : Int32) : Nat → Int32 → Int32
  | 0, y => y
  | f + 1, y => if y < 0 ∨ kd y.toNatClampNeg = k then y else abE on kd k f (on y.toNatClampNeg)
theorem c_M_above {k : Int32} {x f : Nat} (hM : ML σ o) (hx : x < 120) (hs : abS (h_X σ (o + 1 + 7)) (h_X σ (o + 1 + 6)) k f (h_X σ (o + 1 + 7) x)) : Cn l D m_M_above 0 0 [va_rf (some o), .int (nI x), .int k] σ (fun r τ => r = some (.int (abE (h_X σ (o + 1 + 7)) (h_X σ (o + 1 + 6)) k f (h_X σ (o + 1 + 7) x))) ∧ τ = σ) := by
  refine Cn.of (by decide) (by repeat (first | exact ca_0 | refine ca_i ?_ | refine ca_r ?_)) (Nat.le_of_ble_eq_true rfl) ?_
  refine r_aload_n rfl rfl ?_
  refine r_mg (j := 7) hM rfl rfl (by decide) ?_
  refine r_iload_n rfl rfl ?_
  refine r_mi (j := 7) hM rfl rfl (by decide) (by first | rfl | assumption) (show _ < 120 by omega) ?_
  refine r_istore_n rfl (by decide) ?_
  generalize hQ : (fun (r : Option Value) (τ : Hp) => r = some (.int (abE (h_X σ (o + 1 + 7)) (h_X σ (o + 1 + 6)) k f (h_X σ (o + 1 + 7) x))) ∧ τ = σ) = Q
  have fin : ∀ y, y = abE (h_X σ (o + 1 + 7)) (h_X σ (o + 1 + 6)) k f (h_X σ (o + 1 + 7) x) → Gm l D m_M_above 0 0 Q 31 [some (va_rf (some o)), some (.int (nI x)), some (.int k), some (.int y)] [] σ 0 0 := by
    intro y hy
    refine r_iload_n rfl rfl ?_
    refine r_iret rfl rfl ?_
    rw [← hQ, ← hy]
    exact ⟨rfl, rfl⟩
  have loop : ∀ (g : Nat) (y : Int32), abS (h_X σ (o + 1 + 7)) (h_X σ (o + 1 + 6)) k g y → abE (h_X σ (o + 1 + 7)) (h_X σ (o + 1 + 6)) k g y = abE (h_X σ (o + 1 + 7)) (h_X σ (o + 1 + 6)) k f (h_X σ (o + 1 + 7) x) → Gm l D m_M_above 0 0 Q 7 [some (va_rf (some o)), some (.int (nI x)), some (.int k), some (.int y)] [] σ 0 0 := by
    intro g
    induction g with
    | zero => intro y h; exact h.elim
    | succ g ih =>
      intro y h he
      rw [abE] at he
      refine r_iload_n rfl rfl ?_
      refine r_if_lt rfl (fun q => fin y (by rw [← he, if_pos (Or.inl q)])) (fun q1 => ?_)
      rcases h with h | ⟨q, hq, rfl, h⟩
      · exact absurd h q1
      rw [nI_clamp (by omega)] at he
      refine r_aload_n rfl rfl ?_
      refine r_mg (j := 6) hM rfl rfl (by decide) ?_
      refine r_iload_n rfl rfl ?_
      refine r_mi (j := 6) hM rfl rfl (by decide) (by first | rfl | assumption) (show _ < 120 by omega) ?_
      refine r_iload_n rfl rfl ?_
      refine r_icmp_eq rfl (fun q => fin _ (by rw [← he, if_pos (Or.inr q)])) (fun q2 => ?_)
      rw [if_neg (fun w => w.elim q1 q2)] at he
      refine r_aload_n rfl rfl ?_
      refine r_mg (j := 7) hM rfl rfl (by decide) ?_
      refine r_iload_n rfl rfl ?_
      refine r_mi (j := 7) hM rfl rfl (by decide) (by first | rfl | assumption) (show _ < 120 by omega) ?_
      refine r_istore_n rfl (by decide) ?_
      refine r_goto rfl ?_
      exact ih _ (h.resolve_left q2) he
  exact loop f _ hs rfl
def foS (on into : Nat → Int32) : Nat → Nat → Prop
  | 0, _ => False
  | f + 1, q => q < 120 ∧ (on q ≠ -9 ∨ into q = -1 ∨ ∃ r, into q = nI r ∧ foS on into f r)
def foE (on into : Nat → Int32) : Nat → Nat → Nat
  | 0, q => q
  | f + 1, q => if on q ≠ -9 ∨ into q = -1 then q else foE on into f (into q).toNatClampNeg
theorem foS_lt {on into : Nat → Int32} : ∀ {f q : Nat}, foS on into f q → foE on into f q < 120
  | 0, _, h => h.elim
  | f + 1, q, h => by
    unfold foE
    by_cases e : on q ≠ -9 ∨ into q = -1
    · rw [if_pos e]
      exact h.1
    · rw [if_neg e]
      rcases h.2 with g | g | ⟨r, hr, g⟩
      · exact absurd (Or.inl g) e
      · exact absurd (Or.inr g) e
      · have hr2 : r < 120 := by
          cases f with
          | zero => exact g.elim
          | succ f => exact g.1
        rw [hr, nI_clamp (by omega)]
        exact foS_lt g
theorem c_M_follow {x f : Nat} (hM : ML σ o) (hs : foS (h_X σ (o + 1 + 7)) (h_X σ (o + 1 + 9)) f x) : Cn l D m_M_follow 0 0 [va_rf (some o), .int (nI x)] σ (fun r τ => r = some (.int (nI (foE (h_X σ (o + 1 + 7)) (h_X σ (o + 1 + 9)) f x))) ∧ τ = σ) := by
  refine Cn.of (by decide) (by repeat (first | exact ca_0 | refine ca_i ?_ | refine ca_r ?_)) (Nat.le_of_ble_eq_true rfl) ?_
  refine r_iload_n rfl rfl ?_
  refine r_istore_n rfl (by decide) ?_
  generalize hQ : (fun (r : Option Value) (τ : Hp) => r = some (.int (nI (foE (h_X σ (o + 1 + 7)) (h_X σ (o + 1 + 9)) f x))) ∧ τ = σ) = Q
  have fin : ∀ y, y = foE (h_X σ (o + 1 + 7)) (h_X σ (o + 1 + 9)) f x → Gm l D m_M_follow 0 0 Q 33 [some (va_rf (some o)), some (.int (nI x)), some (.int (nI y))] [] σ 0 0 := by
    intro y hy
    refine r_iload_n rfl rfl ?_
    refine r_iret rfl rfl ?_
    rw [← hQ, ← hy]
    exact ⟨rfl, rfl⟩
  have loop : ∀ (g y : Nat), foS (h_X σ (o + 1 + 7)) (h_X σ (o + 1 + 9)) g y → foE (h_X σ (o + 1 + 7)) (h_X σ (o + 1 + 9)) g y = foE (h_X σ (o + 1 + 7)) (h_X σ (o + 1 + 9)) f x → Gm l D m_M_follow 0 0 Q 2 [some (va_rf (some o)), some (.int (nI x)), some (.int (nI y))] [] σ 0 0 := by
    intro g
    induction g with
    | zero => intro y h; exact h.elim
    | succ g ih =>
      intro y h he
      rw [foE] at he
      have hy := h.1
      refine r_aload_n rfl rfl ?_
      refine r_mg (j := 7) hM rfl rfl (by decide) ?_
      refine r_iload_n rfl rfl ?_
      refine r_mi (j := 7) hM rfl rfl (by decide) (by first | rfl | assumption) (show _ < 120 by omega) ?_
      refine r_bipush (v := -9) rfl (by decide) ?_
      refine r_icmp_ne rfl (fun q => fin y (by rw [← he, if_pos (Or.inl q)])) (fun q1 => ?_)
      refine r_aload_n rfl rfl ?_
      refine r_mg (j := 9) hM rfl rfl (by decide) ?_
      refine r_iload_n rfl rfl ?_
      refine r_mi (j := 9) hM rfl rfl (by decide) (by first | rfl | assumption) (show _ < 120 by omega) ?_
      refine r_iconst (v := -1) rfl (by decide) ?_
      refine r_icmp_eq rfl (fun q => fin y (by rw [← he, if_pos (Or.inr q)])) (fun q2 => ?_)
      rcases h.2 with w | w | ⟨r, hr, w⟩
      · exact absurd q1 w
      · exact absurd w q2
      have hr2 : r < 120 := by
        cases g with
        | zero => exact w.elim
        | succ g => exact w.1
      rw [if_neg (fun z => z.elim (fun z => z q1) q2), hr, nI_clamp (by omega)] at he
      refine r_aload_n rfl rfl ?_
      refine r_mg (j := 9) hM rfl rfl (by decide) ?_
      refine r_iload_n rfl rfl ?_
      refine r_mi (j := 9) hM rfl rfl (by decide) (by first | rfl | assumption) (show _ < 120 by omega) ?_
      refine r_istore_n rfl (by decide) ?_
      refine r_goto rfl ?_
      rw [hr]
      exact ih r w he
  exact loop f x hs rfl
def oI (r : Option Nat) : Int32 := match r with
  | none => -1
  | some x => nI x
def chAt (n : Nat) (on pl : Nat → Int32) (v i : Int32) : Option Nat := (List.range n).find? (fun x => decide (on x = v) && decide (pl x = i))
theorem chAt_none {n : Nat} {on pl : Nat → Int32} {v i : Int32} (h : ∀ x, x < n → ¬ (on x = v ∧ pl x = i)) : chAt n on pl v i = none := by
  unfold chAt
  rw [List.find?_eq_none]
  intro x hx
  have := h x (List.mem_range.mp hx)
  simpa using this
theorem chAt_some {n x : Nat} {on pl : Nat → Int32} {v i : Int32} (hx : x < n) (h1 : on x = v ∧ pl x = i) (h : ∀ y, y < x → ¬ (on y = v ∧ pl y = i)) : chAt n on pl v i = some x := by
  unfold chAt
  rw [List.find?_eq_some_iff_getElem]
  refine ⟨by simp [h1.1, h1.2], x, by simpa using hx, by simp, fun j hj => ?_⟩
  have h2 := h j hj
  simp
  by_cases a1 : on j = v
  · exact Or.inr (fun a2 => h2 ⟨a1, a2⟩)
  · exact Or.inl a1
theorem c_M_childAt {v i : Int32} {n : Nat} (hM : ML σ o) (hn : h_I σ 711 o = nI n) (hn2 : n ≤ 120) : Cn l D m_M_childAt 0 0 [va_rf (some o), .int v, .int i] σ (fun r τ => r = some (.int (oI (chAt n (h_X σ (o + 1 + 7)) (h_X σ (o + 1 + 8)) v i))) ∧ τ = σ) := by
  refine Cn.of (by decide) (by repeat (first | exact ca_0 | refine ca_i ?_ | refine ca_r ?_)) (Nat.le_of_ble_eq_true rfl) ?_
  refine r_iconst (v := nI 0) rfl (by decide) ?_
  refine r_istore_n rfl (by decide) ?_
  have loop : ∀ (d k : Nat), k + d = n → (∀ x, x < k → ¬ (h_X σ (o + 1 + 7) x = v ∧ h_X σ (o + 1 + 8) x = i)) → Gm l D m_M_childAt 0 0 (fun r τ => r = some (.int (oI (chAt n (h_X σ (o + 1 + 7)) (h_X σ (o + 1 + 8)) v i))) ∧ τ = σ) 2 [some (va_rf (some o)), some (.int v), some (.int i), some (.int (nI k))] [] σ 0 0 := by
    intro d
    induction d with
    | zero =>
      intro k hk hp
      refine r_iload_n rfl rfl ?_
      refine r_aload_n rfl rfl ?_
      (first | refine r_getIv rfl hM.1 rfl (by assumption) ?_ | refine r_getI rfl hM.1 rfl ?_)
      refine r_geN rfl (by omega) (by omega) (fun _ => ?_) (fun q => by omega)
      refine r_iconst (v := -1) rfl (by decide) ?_
      exact r_iret rfl rfl ⟨by rw [chAt_none (fun x hx => hp x (by omega))]; rfl, rfl⟩
    | succ d ih =>
      intro k hk hp
      have no : ¬ (h_X σ (o + 1 + 7) k = v ∧ h_X σ (o + 1 + 8) k = i) → Gm l D m_M_childAt 0 0 (fun r τ => r = some (.int (oI (chAt n (h_X σ (o + 1 + 7)) (h_X σ (o + 1 + 8)) v i))) ∧ τ = σ) 32 [some (va_rf (some o)), some (.int v), some (.int i), some (.int (nI k))] [] σ 0 0 := by
        intro q
        refine r_iinc rfl rfl (nI_inc _) ?_
        refine r_goto rfl ?_
        refine ih (k + 1) (by omega) (fun x hx => ?_)
        by_cases e : x = k
        · rw [e]; exact q
        · exact hp x (by omega)
      refine r_iload_n rfl rfl ?_
      refine r_aload_n rfl rfl ?_
      (first | refine r_getIv rfl hM.1 rfl (by assumption) ?_ | refine r_getI rfl hM.1 rfl ?_)
      refine r_geN rfl (by omega) (by omega) (fun q => by omega) (fun _ => ?_)
      refine r_aload_n rfl rfl ?_
      refine r_mg (j := 7) hM rfl rfl (by decide) ?_
      refine r_iload_n rfl rfl ?_
      refine r_mi (j := 7) hM rfl rfl (by decide) (by first | rfl | assumption) (show _ < 120 by omega) ?_
      refine r_iload_n rfl rfl ?_
      refine r_icmp_ne rfl (fun q => no (fun w => q w.1)) (fun q1 => ?_)
      refine r_aload_n rfl rfl ?_
      refine r_mg (j := 8) hM rfl rfl (by decide) ?_
      refine r_iload_n rfl rfl ?_
      refine r_mi (j := 8) hM rfl rfl (by decide) (by first | rfl | assumption) (show _ < 120 by omega) ?_
      refine r_iload_n rfl rfl ?_
      refine r_icmp_ne rfl (fun q => no (fun w => q w.2)) (fun q2 => ?_)
      refine r_iload_n rfl rfl ?_
      exact r_iret rfl rfl ⟨by rw [chAt_some (x := k) (by omega) ⟨q1, q2⟩ hp]; rfl, rfl⟩
  exact loop n 0 (by omega) (fun x hx => by omega)
end MC
