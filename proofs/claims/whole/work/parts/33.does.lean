/-! ===== the reference: does, change ===== -/
def jnO (on : Nat → Int32) (x y : Nat) (k : Nat) : Nat → Int32 := fun z => if z < k ∧ on z = nI y then nI x else on z
def jnP (on pl : Nat → Int32) (y m : Nat) (k : Nat) : Nat → Int32 := fun z => if z < k ∧ on z = nI y then pl z + nI m else pl z
theorem jnO_0 (on : Nat → Int32) (x y : Nat) : jnO on x y 0 = on := by
  funext z
  unfold jnO
  rw [if_neg (by omega)]
theorem jnP_0 (on pl : Nat → Int32) (y m : Nat) : jnP on pl y m 0 = pl := by
  funext z
  unfold jnP
  rw [if_neg (by omega)]
theorem jn_iff {on : Nat → Int32} {y k z : Nat} (e : z ≠ k) : (z < k + 1 ∧ on z = nI y) ↔ (z < k ∧ on z = nI y) := ⟨fun q => ⟨by omega, q.2⟩, fun q => ⟨by omega, q.2⟩⟩
theorem jnO_n {on : Nat → Int32} {x y k : Nat} (h : ¬ on k = nI y) : jnO on x y (k + 1) = jnO on x y k := by
  funext z
  unfold jnO
  by_cases e : z = k
  · subst e
    rw [if_neg (fun q => h q.2), if_neg (fun q => h q.2)]
  · simp only [jn_iff e]
theorem jnP_n {on pl : Nat → Int32} {y m k : Nat} (h : ¬ on k = nI y) : jnP on pl y m (k + 1) = jnP on pl y m k := by
  funext z
  unfold jnP
  by_cases e : z = k
  · subst e
    rw [if_neg (fun q => h q.2), if_neg (fun q => h q.2)]
  · simp only [jn_iff e]
theorem jnO_y {on : Nat → Int32} {x y k : Nat} (h : on k = nI y) : jnO on x y (k + 1) = upd (jnO on x y k) k (nI x) := by
  funext z
  unfold upd
  by_cases e : z = k
  · subst e
    rw [if_pos rfl]
    unfold jnO
    rw [if_pos ⟨by omega, h⟩]
  · rw [if_neg e]
    unfold jnO
    simp only [jn_iff e]
theorem jnP_y {on pl : Nat → Int32} {y m k : Nat} (h : on k = nI y) : jnP on pl y m (k + 1) = upd (jnP on pl y m k) k (pl k + nI m) := by
  funext z
  unfold upd
  by_cases e : z = k
  · subst e
    rw [if_pos rfl]
    unfold jnP
    rw [if_pos ⟨by omega, h⟩]
  · rw [if_neg e]
    unfold jnP
    simp only [jn_iff e]
theorem jnO_k (on : Nat → Int32) (x y k : Nat) : jnO on x y k k = on k := by
  unfold jnO
  rw [if_neg (by omega)]
theorem jnP_k (on pl : Nat → Int32) (y m k : Nat) : jnP on pl y m k k = pl k := by
  unfold jnP
  rw [if_neg (by omega)]
section MC
variable {l : Launch} {D : DD} {σ : Hp} {o : Nat}
theorem c_M_does1 {v i : Int32} {n x : Nat} (hM : ML σ o) (hn : h_I σ 711 o = nI n) (hn2 : n ≤ 120) (hx : x < 120) : Cn l D m_M_does 0 0 [va_rf (some o), .int (nI 1), .int (nI x), .int v, .int i] σ (fun r τ => r = some (.int (nI x)) ∧ τ = w_X (w_X (w_I σ 721 o (nI 0)) (o + 1 + 7) (upd (h_X σ (o + 1 + 7)) x v)) (o + 1 + 8) (upd (plUp (h_X σ (o + 1 + 7)) (h_X σ (o + 1 + 8)) v i n) x i)) := by
  refine Cn.of (by decide) (by repeat (first | exact ca_0 | refine ca_i ?_ | refine ca_r ?_)) (Nat.le_of_ble_eq_true rfl) ?_
  refine r_aload_n rfl rfl ?_
  refine r_iconst (v := nI 0) rfl (by decide) ?_
  refine r_putI rfl hM.1 rfl (Or.inl rfl) (by first | rfl | decide) (by first | rfl | decide) ?_
  refine r_iload_n rfl rfl ?_
  refine r_iconst (v := nI 1) rfl (by decide) ?_
  refine r_icmp_ne rfl (fun q => absurd rfl q) (fun _ => ?_)
  refine r_aload_n rfl rfl ?_
  refine r_iload_n rfl rfl ?_
  refine r_iload_n rfl rfl ?_
  refine r_iload rfl rfl ?_
  refine r_callV (As := [_, _, _]) rfl (by decide) rfl hM.1 rfl rfl (Nat.le_of_ble_eq_true rfl) ⟨Nat.le_of_ble_eq_true rfl, Nat.le_of_ble_eq_true rfl⟩ (c_M_putIn (σ := w_I σ 721 o (nI 0)) hM ((hI_n _ _ (by decide)).trans hn) hn2 hx) (kc' := 0) (ks' := 0) (by omega) (by omega) (by decide) ?_
  rintro r τ ⟨rfl, rfl⟩
  refine r_iload_n rfl rfl ?_
  exact r_iret rfl rfl ⟨rfl, rfl⟩
theorem c_M_does2 {v i : Int32} {n x : Nat} (hM : ML σ o) (hn : h_I σ 711 o = nI n) (hn2 : n ≤ 120) (hx : x < 120) : Cn l D m_M_does 0 0 [va_rf (some o), .int (nI 2), .int (nI x), .int v, .int i] σ (fun r τ => r = some (.int (nI 0)) ∧ τ = w_X (w_X (w_I σ 721 o (nI 0)) (o + 1 + 7) (upd (upd (h_X σ (o + 1 + 7)) x (-9)) x v)) (o + 1 + 8) (upd (plUp (upd (h_X σ (o + 1 + 7)) x (-9)) (plDn (h_X σ (o + 1 + 7)) (h_X σ (o + 1 + 8)) x n) v i n) x i)) := by
  refine Cn.of (by decide) (by repeat (first | exact ca_0 | refine ca_i ?_ | refine ca_r ?_)) (Nat.le_of_ble_eq_true rfl) ?_
  refine r_aload_n rfl rfl ?_
  refine r_iconst (v := nI 0) rfl (by decide) ?_
  refine r_putI rfl hM.1 rfl (Or.inl rfl) (by first | rfl | decide) (by first | rfl | decide) ?_
  refine r_iload_n rfl rfl ?_
  refine r_iconst (v := nI 1) rfl (by decide) ?_
  refine r_icmp_ne rfl (fun _ => ?_) (fun q => absurd q (by decide))
  refine r_iload_n rfl rfl ?_
  refine r_iconst (v := nI 2) rfl (by decide) ?_
  refine r_icmp_ne rfl (fun q => absurd rfl q) (fun _ => ?_)
  refine r_aload_n rfl rfl ?_
  refine r_iload_n rfl rfl ?_
  refine r_callV (As := [_]) rfl (by decide) rfl hM.1 rfl rfl (Nat.le_of_ble_eq_true rfl) ⟨Nat.le_of_ble_eq_true rfl, Nat.le_of_ble_eq_true rfl⟩ (c_M_takeOut (σ := w_I σ 721 o (nI 0)) hM ((hI_n _ _ (by decide)).trans hn) hn2 hx) (kc' := 0) (ks' := 0) (by omega) (by omega) (by decide) ?_
  rintro r τ ⟨rfl, hτ⟩
  have hMt : ML τ o := by rw [hτ]; exact hM
  have hnt : h_I τ 711 o = nI n := by rw [hτ]; exact (hI_n σ (f := 721) (g := 711) (a := o) (b := o) (nI 0) (by decide)).trans hn
  have e7 : h_X τ (o + 1 + 7) = upd (h_X σ (o + 1 + 7)) x (-9) := by
    rw [hτ, hX_n _ _ (by omega), hX_w]
    rfl
  have e8 : h_X τ (o + 1 + 8) = plDn (h_X σ (o + 1 + 7)) (h_X σ (o + 1 + 8)) x n := by
    rw [hτ, hX_w]
    rfl
  refine r_aload_n rfl rfl ?_
  refine r_iload_n rfl rfl ?_
  refine r_iload_n rfl rfl ?_
  refine r_iload rfl rfl ?_
  refine r_callV (As := [_, _, _]) rfl (by decide) rfl hMt.1 rfl rfl (Nat.le_of_ble_eq_true rfl) ⟨Nat.le_of_ble_eq_true rfl, Nat.le_of_ble_eq_true rfl⟩ (c_M_putIn hMt hnt hn2 hx) (kc' := 0) (ks' := 0) (by omega) (by omega) (by decide) ?_
  rintro r ρ ⟨rfl, rfl⟩
  refine r_iconst (v := nI 0) rfl (by decide) ?_
  refine r_iret rfl rfl ⟨rfl, ?_⟩
  rw [e7, e8, hτ, wX_comm (w_X (w_I σ 721 o (nI 0)) (o + 1 + 7) _) _ _ (show o + 1 + 8 ≠ o + 1 + 7 by omega), wX_same, wX_same]
theorem c_M_does3 {n x : Nat} {B : Nat → Bool} {rk : Nat → Nat} {w v : Int32} (hM : ML σ o) (hn : h_I σ 711 o = nI n) (hn2 : n ≤ 120) (hx : x < n) (hBx : B x = true)
    (hw : ∀ y, y < n → h_X σ (o + 1 + 7) y = -9 ∧ B y = false ∨ h_X σ (o + 1 + 7) y = -1 ∧ (y = x ∨ B y = false) ∨ ∃ p, p < n ∧ h_X σ (o + 1 + 7) y = nI p ∧ h_X σ (o + 1 + 7) p ≠ -9 ∧ rk p < rk y ∧ (y = x ∨ B y = B p)) :
    Cn l D m_M_does 0 0 [va_rf (some o), .int (nI 3), .int (nI x), .int v, .int w] σ (fun r τ => r = some (.int (nI (cntB B n))) ∧ τ = w_X (w_X (w_I σ 721 o (nI 0)) (o + 1 + 7) (offB (h_X σ (o + 1 + 7)) B n)) (o + 1 + 8) (plDn (h_X σ (o + 1 + 7)) (h_X σ (o + 1 + 8)) x n)) := by
  refine Cn.of (by decide) (by repeat (first | exact ca_0 | refine ca_i ?_ | refine ca_r ?_)) (Nat.le_of_ble_eq_true rfl) ?_
  refine r_aload_n rfl rfl ?_
  refine r_iconst (v := nI 0) rfl (by decide) ?_
  refine r_putI rfl hM.1 rfl (Or.inl rfl) (by first | rfl | decide) (by first | rfl | decide) ?_
  refine r_iload_n rfl rfl ?_
  refine r_iconst (v := nI 1) rfl (by decide) ?_
  refine r_icmp_ne rfl (fun _ => ?_) (fun q => absurd q (by decide))
  refine r_iload_n rfl rfl ?_
  refine r_iconst (v := nI 2) rfl (by decide) ?_
  refine r_icmp_ne rfl (fun _ => ?_) (fun q => absurd q (by decide))
  refine r_iload_n rfl rfl ?_
  refine r_iconst (v := nI 3) rfl (by decide) ?_
  refine r_icmp_ne rfl (fun q => absurd rfl q) (fun _ => ?_)
  refine r_aload_n rfl rfl ?_
  refine r_iload_n rfl rfl ?_
  refine r_callV (As := [_]) rfl (by decide) rfl hM.1 rfl rfl (Nat.le_of_ble_eq_true rfl) ⟨Nat.le_of_ble_eq_true rfl, Nat.le_of_ble_eq_true rfl⟩ (c_M_takeAll (σ := w_I σ 721 o (nI 0)) hM ((hI_n _ _ (by decide)).trans hn) hn2 hx hBx hw) (kc' := 0) (ks' := 0) (by omega) (by omega) (by decide) ?_
  rintro r τ ⟨rfl, rfl⟩
  exact r_iret rfl rfl ⟨rfl, rfl⟩
theorem c_M_does4 {n x y : Nat} {w : Int32} (hM : ML σ o) (hn : h_I σ 711 o = nI n) (hn2 : n ≤ 120) (hx : x < 120) (hy : y < 120) :
    Cn l D m_M_does 0 0 [va_rf (some o), .int (nI 4), .int (nI x), .int (nI y), .int w] σ (fun r τ => r = some (.int (nI (cntB (fun z => decide (h_X σ (o + 1 + 7) z = nI x)) n + cntB (fun z => decide (h_X σ (o + 1 + 7) z = nI y)) n))) ∧
      τ = w_X (w_X (w_X (w_I σ 721 o (nI 0)) (o + 1 + 7) (upd (jnO (h_X σ (o + 1 + 7)) x y n) y (-9))) (o + 1 + 8) (plDn (jnO (h_X σ (o + 1 + 7)) x y n) (jnP (h_X σ (o + 1 + 7)) (h_X σ (o + 1 + 8)) y (cntB (fun z => decide (h_X σ (o + 1 + 7) z = nI x)) n) n) y n)) (o + 1 + 9) (upd (h_X σ (o + 1 + 9)) y (nI x))) := by
  refine Cn.of (by decide) (by repeat (first | exact ca_0 | refine ca_i ?_ | refine ca_r ?_)) (Nat.le_of_ble_eq_true rfl) ?_
  refine r_aload_n rfl rfl ?_
  refine r_iconst (v := nI 0) rfl (by decide) ?_
  refine r_putI rfl hM.1 rfl (Or.inl rfl) (by first | rfl | decide) (by first | rfl | decide) ?_
  refine r_iload_n rfl rfl ?_
  refine r_iconst (v := nI 1) rfl (by decide) ?_
  refine r_icmp_ne rfl (fun _ => ?_) (fun q => absurd q (by decide))
  refine r_iload_n rfl rfl ?_
  refine r_iconst (v := nI 2) rfl (by decide) ?_
  refine r_icmp_ne rfl (fun _ => ?_) (fun q => absurd q (by decide))
  refine r_iload_n rfl rfl ?_
  refine r_iconst (v := nI 3) rfl (by decide) ?_
  refine r_icmp_ne rfl (fun _ => ?_) (fun q => absurd q (by decide))
  generalize hon : h_X σ (o + 1 + 7) = on
  generalize hpl : h_X σ (o + 1 + 8) = pl
  generalize hin : h_X σ (o + 1 + 9) = into
  have hMs : ML (w_I σ 721 o (nI 0)) o := hM
  have hns : h_I (w_I σ 721 o (nI 0)) 711 o = nI n := (hI_n _ _ (by decide)).trans hn
  have hon : h_X (w_I σ 721 o (nI 0)) (o + 1 + 7) = on := hon
  have hpl : h_X (w_I σ 721 o (nI 0)) (o + 1 + 8) = pl := hpl
  have hin : h_X (w_I σ 721 o (nI 0)) (o + 1 + 9) = into := hin
  generalize w_I σ 721 o (nI 0) = ρ at hMs hns hon hpl hin
  have hM := hMs
  have hn := hns
  refine r_aload_n rfl rfl ?_
  refine r_iload_n rfl rfl ?_
  refine r_callV (As := [_]) rfl (by decide) rfl hM.1 rfl rfl (Nat.le_of_ble_eq_true rfl) ⟨Nat.le_of_ble_eq_true rfl, Nat.le_of_ble_eq_true rfl⟩ (c_M_hanging hM hn hn2) (kc' := 0) (ks' := 0) (by omega) (by omega) (by decide) ?_
  rintro r τ ⟨rfl, rfl⟩
  rw [hon]
  refine r_istore rfl (by decide) ?_
  refine r_aload_n rfl rfl ?_
  refine r_iload_n rfl rfl ?_
  refine r_callV (As := [_]) rfl (by decide) rfl hM.1 rfl rfl (Nat.le_of_ble_eq_true rfl) ⟨Nat.le_of_ble_eq_true rfl, Nat.le_of_ble_eq_true rfl⟩ (c_M_hanging hM hn hn2) (kc' := 0) (ks' := 0) (by omega) (by omega) (by decide) ?_
  rintro r τ ⟨rfl, rfl⟩
  rw [hon]
  generalize hmx : cntB (fun z => decide (on z = nI x)) n = mx
  generalize hmy : cntB (fun z => decide (on z = nI y)) n = my
  refine r_istore rfl (by decide) ?_
  refine r_iconst (v := nI 0) rfl (by decide) ?_
  refine r_istore rfl (by decide) ?_
  have loop : ∀ (d k : Nat), k + d = n → Gm l D m_M_does 0 0 (fun r τ' => r = some (.int (nI (mx + my))) ∧ τ' = w_X (w_X (w_X τ (o + 1 + 7) (upd (jnO on x y n) y (-9))) (o + 1 + 8) (plDn (jnO on x y n) (jnP on pl y mx n) y n)) (o + 1 + 9) (upd into y (nI x))) 68 [some (va_rf (some o)), some (.int (nI 4)), some (.int (nI x)), some (.int (nI y)), some (.int w), some (.int (nI mx)), some (.int (nI my)), some (.int (nI k))] [] (w_X (w_X τ (o + 1 + 7) (jnO on x y k)) (o + 1 + 8) (jnP on pl y mx k)) 0 0 := by
    intro d
    induction d with
    | zero =>
      intro k hk
      have hkn : k = n := by omega
      subst hkn
      refine r_iload rfl rfl ?_
      refine r_aload_n rfl rfl ?_
      (first | refine r_getIv rfl hM.1 rfl (by assumption) ?_ | refine r_getI rfl hM.1 rfl ?_)
      refine r_geN rfl (by omega) (by omega) (fun _ => ?_) (fun q => by omega)
      refine r_aload_n rfl rfl ?_
      refine r_iload_n rfl rfl ?_
      have hM2 : ML (w_X (w_X τ (o + 1 + 7) (jnO on x y k)) (o + 1 + 8) (jnP on pl y mx k)) o := hM
      refine r_callV (As := [_]) rfl (by decide) rfl hM2.1 rfl rfl (Nat.le_of_ble_eq_true rfl) ⟨Nat.le_of_ble_eq_true rfl, Nat.le_of_ble_eq_true rfl⟩ (c_M_takeOut hM2 hn hn2 hy) (kc' := 0) (ks' := 0) (by omega) (by omega) (by decide) ?_
      rintro r τ2 ⟨rfl, rfl⟩
      rw [hX_n _ _ (show o + 1 + 7 ≠ o + 1 + 8 by omega), hX_w, hX_w, wX_comm (w_X τ (o + 1 + 7) _) _ _ (show o + 1 + 8 ≠ o + 1 + 7 by omega), wX_same, wX_same]
      refine r_aload_n rfl rfl ?_
      refine r_mg (j := 9) hM rfl rfl (by decide) ?_
      refine r_iload_n rfl rfl ?_
      refine r_iload_n rfl rfl ?_
      refine r_mis (j := 9) hM rfl rfl (by decide) (by first | rfl | assumption) (show _ < 120 by omega) ?_
      refine r_iload rfl rfl ?_
      refine r_iload rfl rfl ?_
      (first | refine r_iaddN rfl ?_ | refine r_iadd rfl ?_)
      refine r_iret rfl rfl ⟨rfl, ?_⟩
      rw [hX_n _ _ (show o + 1 + 9 ≠ o + 1 + 8 by omega), hX_n _ _ (show o + 1 + 9 ≠ o + 1 + 7 by omega), hin]
    | succ d ih =>
      intro k hk
      refine r_iload rfl rfl ?_
      refine r_aload_n rfl rfl ?_
      (first | refine r_getIv rfl hM.1 rfl (by assumption) ?_ | refine r_getI rfl hM.1 rfl ?_)
      refine r_geN rfl (by omega) (by omega) (fun q => by omega) (fun _ => ?_)
      refine r_aload_n rfl rfl ?_
      refine r_mg (j := 7) hM rfl rfl (by decide) ?_
      refine r_iload rfl rfl ?_
      refine r_mi (j := 7) hM rfl rfl (by decide) (by first | rfl | assumption) (show _ < 120 by omega) ?_
      refine r_iload_n rfl rfl ?_
      rw [hX_n _ _ (show o + 1 + 7 ≠ o + 1 + 8 by omega), hX_w, jnO_k]
      refine r_icmp_eq rfl (fun q => ?_) (fun q => ?_)
      · refine r_aload_n rfl rfl ?_
        refine r_mg (j := 7) hM rfl rfl (by decide) ?_
        refine r_iload rfl rfl ?_
        refine r_iload_n rfl rfl ?_
        refine r_mis (j := 7) hM rfl rfl (by decide) (by first | rfl | assumption) (show _ < 120 by omega) ?_
        refine r_aload_n rfl rfl ?_
        refine r_mg (j := 8) hM rfl rfl (by decide) ?_
        refine r_iload rfl rfl ?_
        refine r_dup2 rfl (by first | rfl | exact rf_cat _) (by first | rfl | exact rf_cat _) ?_
        refine r_mi (j := 8) hM rfl rfl (by decide) (by first | rfl | assumption) (show _ < 120 by omega) ?_
        refine r_iload rfl rfl ?_
        (first | refine r_iaddN rfl ?_ | refine r_iadd rfl ?_)
        refine r_mis (j := 8) hM rfl rfl (by decide) (by first | rfl | assumption) (show _ < 120 by omega) ?_
        refine r_iinc rfl rfl (nI_inc _) ?_
        refine r_goto rfl ?_
        have e := ih (k + 1) (by omega)
        rw [jnO_y q, jnP_y q] at e
        rw [hX_n _ _ (show o + 1 + 7 ≠ o + 1 + 8 by omega), hX_w, hX_n _ _ (show o + 1 + 8 ≠ o + 1 + 7 by omega), hX_w, jnP_k, wX_comm (w_X τ (o + 1 + 7) _) _ _ (show o + 1 + 8 ≠ o + 1 + 7 by omega), wX_same, wX_same]
        exact e
      · refine r_goto rfl ?_
        refine r_iinc rfl rfl (nI_inc _) ?_
        refine r_goto rfl ?_
        have e := ih (k + 1) (by omega)
        rw [jnO_n q, jnP_n q] at e
        exact e
  have e := loop n 0 (by omega)
  rw [jnO_0, jnP_0, ← hon, ← hpl, wX_self, wX_self] at e
  rw [← hon, ← hpl]
  exact e
end MC
