/-! ===== the reference: numbers, scopes ===== -/
theorem b8_vb : ∀ j, j < 256 → b8 (vb_c j) = vb_c j := by decide +kernel
theorem fit_b8 {v : Int32} (h : fits .byte (.int v) = true) : b8 v = v := by
  obtain ⟨h1, h2⟩ : (-128 ≤ v) ∧ (v ≤ 127) := by
    have h3 : (decide (-128 ≤ v) && decide (v ≤ 127)) = true := h
    obtain ⟨a, b⟩ := okn h3
    exact ⟨of_decide_eq_true a, of_decide_eq_true b⟩
  obtain ⟨j, hj, -, rfl⟩ := bx_small (Int32.not_lt.mpr h1) (Int32.not_lt.mpr h2)
  exact b8_vb j hj
theorem take_app {xs : List Int32} {k : Nat} (h : k < xs.length) : xs.take k ++ [xs.getD k 0] = xs.take (k + 1) := by
  rw [getD_at h, List.take_append_getElem]
theorem nI_nn {b : Int32} (h : ¬ b < 0) : ∃ p, p < 2 ^ 31 ∧ b = nI p := nI_of h
/-- is y in the scope of x (scope s)? -/
def ssB (on kd : Nat → Int32) (s x y : Nat) : Bool := if s = 0 then decide (on x = on y) else if s = 1 then true else
  (decide (abE on kd (nI (s - 2)) 200 (on x) = -1) || (decide (nI y ≠ abE on kd (nI (s - 2)) 200 (on x)) && decide (upE on (abE on kd (nI (s - 2)) 200 (on x)) 200 (nI y) = abE on kd (nI (s - 2)) 200 (on x))))
/-- the BASE, by the one that would be it, and its text -/
def bsV (b : Int32) (nm : List Int32) : Int32 := if ¬ b < 0 ∧ 30 < nm.length then -1 else b
def nmV (j : Nat) (b : Int32) (nm sg : List Int32) : List Int32 := (if 0 < j ∧ ¬ b < 0 then nm ++ (if j = 1 then [b8 (nI 46)] else []) else []) ++ (if j = 2 then [b8 (nI 40)] else []) ++ sg ++ (if j = 2 then [b8 (nI 41)] else [])
theorem nmV_no {j : Nat} {b : Int32} {nm sg : List Int32} (h : ¬ (0 < j ∧ ¬ b < 0)) : nmV j b nm sg = (if j = 2 then [b8 (nI 40)] else []) ++ sg ++ (if j = 2 then [b8 (nI 41)] else []) := by
  unfold nmV
  rw [if_neg h, List.nil_append]
theorem nmV_y1 {j : Nat} {b : Int32} {nm sg : List Int32} (h : 0 < j ∧ ¬ b < 0) (h1 : j ≠ 1) : nmV j b nm sg = nm ++ (if j = 2 then [b8 (nI 40)] else []) ++ sg ++ (if j = 2 then [b8 (nI 41)] else []) := by
  unfold nmV
  rw [if_pos h, if_neg h1, List.append_nil]
theorem nmV_y2 {j : Nat} {b : Int32} {nm sg : List Int32} (h : 0 < j ∧ ¬ b < 0) (h1 : j = 1) : nmV j b nm sg = nm ++ [b8 (nI 46)] ++ (if j = 2 then [b8 (nI 40)] else []) ++ sg ++ (if j = 2 then [b8 (nI 41)] else []) := by
  unfold nmV
  rw [if_pos h, if_pos h1]
section MC
variable {l : Launch} {D : DD} {σ : Hp} {o : Nat}
theorem c_M_sameScope {x y k s : Nat} (hM : ML σ o) (hx : x < 120) (hy : y < 120) (hk : h_X σ (o + 1 + 6) x = nI k) (hk2 : k < 6) (hs : h_X σ (o + 1 + 3) k = nI s) (hs2 : s < 8) (ha : ∀ c, abS (h_X σ (o + 1 + 7)) (h_X σ (o + 1 + 6)) c 200 (h_X σ (o + 1 + 7) x)) (hu : ∀ t, upS (h_X σ (o + 1 + 7)) t 200 (nI y)) : Cn l D m_M_sameScope 0 0 [va_rf (some o), .int (nI x), .int (nI y)] σ (fun r τ => r = some (.int (nI (ssB (h_X σ (o + 1 + 7)) (h_X σ (o + 1 + 6)) s x y).toNat)) ∧ τ = σ) := by
  refine Cn.of (by decide) (by repeat (first | exact ca_0 | refine ca_i ?_ | refine ca_r ?_)) (Nat.le_of_ble_eq_true rfl) ?_
  refine r_aload_n rfl rfl ?_
  refine r_mg (j := 3) hM rfl rfl (by decide) ?_
  refine r_aload_n rfl rfl ?_
  refine r_mg (j := 6) hM rfl rfl (by decide) ?_
  refine r_iload_n rfl rfl ?_
  refine r_mi (j := 6) hM rfl rfl (by decide) rfl (show _ < 120 by omega) ?_
  rw [hk]
  refine r_mi (j := 3) hM rfl rfl (by decide) rfl (show _ < 6 by omega) ?_
  rw [hs]
  refine r_istore_n rfl (by decide) ?_
  refine r_iload_n rfl rfl ?_
  refine r_if_ne rfl (fun q => ?_) (fun q => ?_)
  · have hs0 : s ≠ 0 := fun e => q (by rw [e]; rfl)
    refine r_iload_n rfl rfl ?_
    refine r_iconst (v := nI 1) rfl (by decide) ?_
    refine r_neN rfl (by omega) (by omega) (fun q1 => ?_) (fun q1 => ?_)
    · refine r_aload_n rfl rfl ?_
      refine r_iload_n rfl rfl ?_
      refine r_iload_n rfl rfl ?_
      refine r_iconst (v := nI 2) rfl (by decide) ?_
      refine r_isubN rfl (by omega) ?_
      refine r_callV (As := [_, _]) rfl (by decide) rfl hM.1 rfl rfl (Nat.le_of_ble_eq_true rfl) ⟨Nat.le_of_ble_eq_true rfl, Nat.le_of_ble_eq_true rfl⟩ (c_M_above hM hx (ha _)) (kc' := 0) (ks' := 0) (by omega) (by omega) (by decide) ?_
      rintro r τ ⟨rfl, rfl⟩
      have e0 : ssB (h_X τ (o + 1 + 7)) (h_X τ (o + 1 + 6)) s x y = (decide (abE (h_X τ (o + 1 + 7)) (h_X τ (o + 1 + 6)) (nI (s - 2)) 200 (h_X τ (o + 1 + 7) x) = -1) || (decide (nI y ≠ abE (h_X τ (o + 1 + 7)) (h_X τ (o + 1 + 6)) (nI (s - 2)) 200 (h_X τ (o + 1 + 7) x)) && decide (upE (h_X τ (o + 1 + 7)) (abE (h_X τ (o + 1 + 7)) (h_X τ (o + 1 + 6)) (nI (s - 2)) 200 (h_X τ (o + 1 + 7) x)) 200 (nI y) = abE (h_X τ (o + 1 + 7)) (h_X τ (o + 1 + 6)) (nI (s - 2)) 200 (h_X τ (o + 1 + 7) x)))) := by
        unfold ssB
        rw [if_neg hs0, if_neg q1]
      rw [e0]
      generalize abE (h_X τ (o + 1 + 7)) (h_X τ (o + 1 + 6)) (nI (s - 2)) 200 (h_X τ (o + 1 + 7) x) = t
      refine r_istore rfl (by decide) ?_
      refine r_iload rfl rfl ?_
      refine r_iconst (v := -1) rfl (by decide) ?_
      refine r_icmp_eq rfl (fun q2 => ?_) (fun q2 => ?_)
      · refine r_iconst (v := nI 1) rfl (by decide) ?_
        refine r_goto rfl ?_
        refine r_zret rfl rfl (by decide) ⟨?_, rfl⟩
        rw [decide_eq_true q2]
        rfl
      · rw [decide_eq_false q2, Bool.false_or]
        refine r_iload_n rfl rfl ?_
        refine r_iload rfl rfl ?_
        refine r_icmp_eq rfl (fun q3 => ?_) (fun q3 => ?_)
        · refine r_iconst (v := nI 0) rfl (by decide) ?_
          refine r_zret rfl rfl (by decide) ⟨?_, rfl⟩
          rw [decide_eq_false (p := nI y ≠ t) (fun w => w q3)]
          rfl
        · rw [decide_eq_true (p := nI y ≠ t) q3, Bool.true_and]
          refine r_aload_n rfl rfl ?_
          refine r_iload_n rfl rfl ?_
          refine r_iload rfl rfl ?_
          refine r_callV (As := [_, _]) rfl (by decide) rfl hM.1 rfl rfl (Nat.le_of_ble_eq_true rfl) ⟨Nat.le_of_ble_eq_true rfl, Nat.le_of_ble_eq_true rfl⟩ (c_M_isBelow hM (hu t)) (kc' := 0) (ks' := 0) (by omega) (by omega) (by decide) ?_
          rintro r τ' ⟨rfl, rfl⟩
          refine r_ifeqB rfl (fun q4 => ?_) (fun q4 => ?_)
          · refine r_iconst (v := nI 0) rfl (by decide) ?_
            refine r_zret rfl rfl (by decide) ⟨?_, rfl⟩
            rw [q4]
            rfl
          · refine r_iconst (v := nI 1) rfl (by decide) ?_
            refine r_goto rfl ?_
            refine r_zret rfl rfl (by decide) ⟨?_, rfl⟩
            rw [q4]
            rfl
    · refine r_iconst (v := nI 1) rfl (by decide) ?_
      refine r_zret rfl rfl (by decide) ⟨?_, rfl⟩
      unfold ssB
      rw [if_neg hs0, if_pos q1]
      rfl
  · have hs0 : s = 0 := (nI_eq (by omega) (by omega)).mp (q.trans nI_0.symm)
    have e0 : ssB (h_X σ (o + 1 + 7)) (h_X σ (o + 1 + 6)) s x y = decide (h_X σ (o + 1 + 7) x = h_X σ (o + 1 + 7) y) := by
      unfold ssB
      rw [if_pos hs0]
    rw [e0]
    refine r_aload_n rfl rfl ?_
    refine r_mg (j := 7) hM rfl rfl (by decide) ?_
    refine r_iload_n rfl rfl ?_
    refine r_mi (j := 7) hM rfl rfl (by decide) (by first | rfl | assumption) (show _ < 120 by omega) ?_
    refine r_aload_n rfl rfl ?_
    refine r_mg (j := 7) hM rfl rfl (by decide) ?_
    refine r_iload_n rfl rfl ?_
    refine r_mi (j := 7) hM rfl rfl (by decide) (by first | rfl | assumption) (show _ < 120 by omega) ?_
    refine r_icmp_ne rfl (fun q2 => ?_) (fun q2 => ?_)
    · refine r_iconst (v := nI 0) rfl (by decide) ?_
      refine r_zret rfl rfl (by decide) ⟨?_, rfl⟩
      rw [decide_eq_false q2]
      rfl
    · refine r_iconst (v := nI 1) rfl (by decide) ?_
      refine r_goto rfl ?_
      refine r_zret rfl rfl (by decide) ⟨?_, rfl⟩
      rw [decide_eq_true q2]
      rfl
set_option maxHeartbeats 1000000 in
theorem c_M_makeNumber {x k s j : Nat} {b0 : Int32} {nm sg : List Int32} (hM : ML σ o) (hx : x < 120) (hk : h_X σ (o + 1 + 6) x = nI k) (hk2 : k < 6) (hs : h_X σ (o + 1 + 3) k = nI s) (hs2 : s < 8) (hj : h_X σ (o + 1 + 5) k = nI j) (hj2 : j < 3) (ha : 1 < s → abS (h_X σ (o + 1 + 7)) (h_X σ (o + 1 + 6)) (nI (s - 2)) 200 (h_X σ (o + 1 + 7) x))
    (hb0 : b0 = if 1 < s then abE (h_X σ (o + 1 + 7)) (h_X σ (o + 1 + 6)) (nI (s - 2)) 200 (h_X σ (o + 1 + 7) x) else h_X σ (o + 1 + 7) x) (hsg : Tx σ o 20 21 x sg) (hsl : sg.length ≤ 15) (hb : b0 < 0 ∨ ∃ p, p < 120 ∧ p ≠ x ∧ b0 = nI p ∧ Tx σ o 18 19 p nm) :
    Cn l D m_M_makeNumber 0 0 [va_rf (some o), .int (nI x)] σ (fun r τ => r = none ∧ Tx τ o 18 19 x (nmV j (bsV b0 nm) nm sg) ∧ TF (w_X σ (o + 1 + 17) (upd (h_X σ (o + 1 + 17)) x (bsV b0 nm))) τ o 18 19 x) := by
  generalize hQ : (fun (r : Option Value) (τ : Hp) => r = none ∧ Tx τ o 18 19 x (nmV j (bsV b0 nm) nm sg) ∧ TF (w_X σ (o + 1 + 17) (upd (h_X σ (o + 1 + 17)) x (bsV b0 nm))) τ o 18 19 x) = Q
  refine Cn.of (by decide) (by repeat (first | exact ca_0 | refine ca_i ?_ | refine ca_r ?_)) (Nat.le_of_ble_eq_true rfl) ?_
  refine g_fits (fun hfit _ _ => ?_)
  have main : Gm l D m_M_makeNumber 0 0 Q 34 [some (va_rf (some o)), some (.int (nI x)), some (.int (nI s)), none, none, none] [.int b0] σ 0 0 := by
    -- the base is settled
    have aft : Gm l D m_M_makeNumber 0 0 Q 52 [some (va_rf (some o)), some (.int (nI x)), some (.int (nI s)), some (.int (bsV b0 nm)), none, none] [] σ 0 0 := by
      generalize hbv : bsV b0 nm = bv at hQ
      have hbv2 : bv < 0 ∨ ∃ p, p < 120 ∧ p ≠ x ∧ bv = nI p ∧ Tx σ o 18 19 p nm ∧ nm.length ≤ 30 := by
        rw [← hbv]
        unfold bsV
        by_cases e : ¬ b0 < 0 ∧ 30 < nm.length
        · rw [if_pos e]
          exact Or.inl (by decide)
        · rw [if_neg e]
          rcases hb with hb | ⟨p, p1, p2, p3, p4⟩
          · exact Or.inl hb
          · refine Or.inr ⟨p, p1, p2, p3, p4, ?_⟩
            rcases Nat.lt_or_ge 30 nm.length with w | w
            · exact absurd ⟨by rw [p3]; exact nI_pos (by omega), w⟩ e
            · exact w
      refine r_aload_n rfl rfl ?_
      refine r_mg (j := 17) hM rfl rfl (by decide) ?_
      refine r_iload_n rfl rfl ?_
      refine r_iload_n rfl rfl ?_
      refine r_mis (j := 17) hM rfl rfl (by decide) (by first | rfl | assumption) (show _ < 120 by omega) ?_
      refine r_aload_n rfl rfl ?_
      refine r_mg (j := 19) hM rfl rfl (by decide) ?_
      refine r_iload_n rfl rfl ?_
      refine r_iconst (v := nI 0) rfl (by decide) ?_
      refine r_mis (j := 19) hM rfl rfl (by decide) (by first | rfl | assumption) (show _ < 120 by omega) ?_
      have hM1 : ML (w_X (w_X σ (o + 1 + 17) (upd (h_X σ (o + 1 + 17)) x bv)) (o + 1 + 19) (upd (h_X (w_X σ (o + 1 + 17) (upd (h_X σ (o + 1 + 17)) x bv)) (o + 1 + 19)) x (nI 0))) o := hM
      have hfit1 : ∀ a, h_K (w_X σ (o + 1 + 17) (upd (h_X σ (o + 1 + 17)) x bv)) a = 20 → a ≠ o + 1 + 17 → ∀ i, fits .byte (.int (h_X (w_X σ (o + 1 + 17) (upd (h_X σ (o + 1 + 17)) x bv)) a i)) = true := by
        intro a ha2 hne i
        rw [hX_n _ _ hne]
        exact hfit a ha2 i
      generalize hρ : w_X σ (o + 1 + 17) (upd (h_X σ (o + 1 + 17)) x bv) = ρ at hQ hM1 hfit1
      have hsg : Tx ρ o 20 21 x sg := by
        rw [← hρ]
        unfold Tx
        rw [hX_n _ _ (by omega), hX_n _ _ (by omega)]
        exact hsg
      have hk : h_X ρ (o + 1 + 6) x = nI k := by rw [← hρ, hX_n _ _ (by omega)]; exact hk
      have hj : h_X ρ (o + 1 + 5) k = nI j := by rw [← hρ, hX_n _ _ (by omega)]; exact hj
      have hMρ : ML ρ o := by rw [← hρ]; exact hM
      have hbv3 : bv < 0 ∨ ∃ p, p < 120 ∧ p ≠ x ∧ bv = nI p ∧ Tx ρ o 18 19 p nm ∧ nm.length ≤ 30 := by
        rcases hbv2 with w | ⟨p, p1, p2, p3, p4, p5⟩
        · exact Or.inl w
        · refine Or.inr ⟨p, p1, p2, p3, ?_, p5⟩
          rw [← hρ]
          unfold Tx
          rw [hX_n _ _ (by omega), hX_n _ _ (by omega)]
          exact p4
      have t0 : Tx (w_X ρ (o + 1 + 19) (upd (h_X ρ (o + 1 + 19)) x (nI 0))) o 18 19 x [] := by
        refine ⟨?_, by simp, fun i hi => by simp at hi⟩
        rw [hX_w, upd_s]
        rfl
      have f0 : TF ρ (w_X ρ (o + 1 + 19) (upd (h_X ρ (o + 1 + 19)) x (nI 0))) o 18 19 x := ⟨h_X ρ (o + 1 + 18), _, by rw [wX_self], fun _ _ => rfl, fun z hz => upd_n _ _ hz⟩
      generalize w_X ρ (o + 1 + 19) (upd (h_X ρ (o + 1 + 19)) x (nI 0)) = ρ0 at t0 f0 hM1
      have hM := hM1
      -- the end: a closing bracket
      have fin : ∀ (τ : Hp) (zs : List Int32) (z : Option Value), Tx τ o 18 19 x zs → TF ρ τ o 18 19 x → zs.length < 60 → zs ++ (if j = 2 then [b8 (nI 41)] else []) = nmV j bv nm sg → Gm l D m_M_makeNumber 0 0 Q 188 [some (va_rf (some o)), some (.int (nI x)), some (.int (nI s)), some (.int bv), some (.int (nI j)), z] [] τ 0 0 := by
        intro τ zs z t1 f1 hl he
        have hM := f1.ML hMρ
        refine r_iload rfl rfl ?_
        refine r_iconst (v := nI 2) rfl (by decide) ?_
        refine r_neN rfl (by omega) (by omega) (fun q => ?_) (fun q => ?_)
        · refine r_vret rfl rfl ?_
          rw [if_neg q, List.append_nil] at he
          rw [← hQ, ← he]
          exact ⟨rfl, t1, f1⟩
        · refine r_aload_n rfl rfl ?_
          refine r_iload_n rfl rfl ?_
          refine r_bipush (v := nI 41) rfl (by decide) ?_
          refine r_callV (As := [_, _]) rfl (by decide) rfl hM.1 rfl rfl (Nat.le_of_ble_eq_true rfl) ⟨Nat.le_of_ble_eq_true rfl, Nat.le_of_ble_eq_true rfl⟩ (c_M_numberByte hM hx t1 hl) (kc' := 0) (ks' := 0) (by omega) (by omega) (by decide) ?_
          rintro r τ2 ⟨rfl, t2, f2⟩
          refine r_vret rfl rfl ?_
          rw [if_pos q] at he
          rw [← hQ, ← he]
          exact ⟨rfl, t2, f1.tr (by decide) f2⟩
      -- the sign
      have sig : ∀ (zs : List Int32) (d i : Nat) (τ : Hp), i + d = sg.length → Tx τ o 18 19 x (zs ++ sg.take i) → TF ρ τ o 18 19 x → zs.length ≤ 35 → zs ++ sg ++ (if j = 2 then [b8 (nI 41)] else []) = nmV j bv nm sg → Gm l D m_M_makeNumber 0 0 Q 154 [some (va_rf (some o)), some (.int (nI x)), some (.int (nI s)), some (.int bv), some (.int (nI j)), some (.int (nI i))] [] τ 0 0 := by
        intro zs d
        induction d with
        | zero =>
          intro i τ hi t1 f1 hl he
          have hM := f1.ML hMρ
          have hsz : h_X τ (o + 1 + 21) x = nI sg.length := (congrFun (f1.row (b := o + 1 + 21) (by omega) (by omega)) x).trans hsg.1
          refine r_iload rfl rfl ?_
          refine r_aload_n rfl rfl ?_
          refine r_mg (j := 21) hM rfl rfl (by decide) ?_
          refine r_iload_n rfl rfl ?_
          refine r_mi (j := 21) hM rfl rfl (by decide) (by first | rfl | assumption) (show _ < 120 by omega) ?_
          rw [hsz]
          refine r_geN rfl (by omega) (by omega) (fun _ => ?_) (fun q => by omega)
          rw [show i = sg.length by omega, List.take_length] at t1
          exact fin τ _ _ t1 f1 (by simp; omega) he
        | succ d ih =>
          intro i τ hi t1 f1 hl he
          have hM := f1.ML hMρ
          have hsz : h_X τ (o + 1 + 21) x = nI sg.length := (congrFun (f1.row (b := o + 1 + 21) (by omega) (by omega)) x).trans hsg.1
          have htx : h_X τ (o + 1 + 20) (60 * x + i) = sg.getD i 0 := (congrFun (f1.row (b := o + 1 + 20) (by omega) (by omega)) _).trans (hsg.2.2 i (by omega))
          have hft : b8 (sg.getD i 0) = sg.getD i 0 := by
            rw [← hsg.2.2 i (by omega)]
            exact fit_b8 (hfit1 (o + 1 + 20) (hMρ.2 20 (by decide)).2.1 (by omega) _)
          refine r_iload rfl rfl ?_
          refine r_aload_n rfl rfl ?_
          refine r_mg (j := 21) hM rfl rfl (by decide) ?_
          refine r_iload_n rfl rfl ?_
          refine r_mi (j := 21) hM rfl rfl (by decide) (by first | rfl | assumption) (show _ < 120 by omega) ?_
          rw [hsz]
          refine r_geN rfl (by omega) (by omega) (fun q => by omega) (fun _ => ?_)
          refine r_aload_n rfl rfl ?_
          refine r_iload_n rfl rfl ?_
          refine r_aload_n rfl rfl ?_
          refine r_mg (j := 20) hM rfl rfl (by decide) ?_
          refine r_bipush (v := nI 60) rfl (by decide) ?_
          refine r_iload_n rfl rfl ?_
          (first | refine r_imulN rfl ?_ | refine r_imul rfl ?_)
          refine r_iload rfl rfl ?_
          (first | refine r_iaddN rfl ?_ | refine r_iadd rfl ?_)
          refine r_mb (j := 20) hM rfl rfl (by decide) (by first | rfl | assumption) (show _ < 7200 by omega) ?_
          rw [htx]
          refine r_callV (As := [_, _]) rfl (by decide) rfl hM.1 rfl rfl (Nat.le_of_ble_eq_true rfl) ⟨Nat.le_of_ble_eq_true rfl, Nat.le_of_ble_eq_true rfl⟩ (c_M_numberByte hM hx t1 (by simp; omega)) (kc' := 0) (ks' := 0) (by omega) (by omega) (by decide) ?_
          rintro r τ2 ⟨rfl, t2, f2⟩
          rw [hft, List.append_assoc, take_app (by omega)] at t2
          refine r_iinc rfl rfl (nI_inc _) ?_
          refine r_goto rfl ?_
          exact ih (i + 1) τ2 (by omega) t2 (f1.tr (by decide) f2) hl he
      -- an opening bracket
      have opn : ∀ (τ : Hp) (zs : List Int32) (z : Option Value), Tx τ o 18 19 x zs → TF ρ τ o 18 19 x → zs.length ≤ 31 → zs ++ (if j = 2 then [b8 (nI 40)] else []) ++ sg ++ (if j = 2 then [b8 (nI 41)] else []) = nmV j bv nm sg → Gm l D m_M_makeNumber 0 0 Q 138 [some (va_rf (some o)), some (.int (nI x)), some (.int (nI s)), some (.int bv), some (.int (nI j)), z] [] τ 0 0 := by
        intro τ zs z t1 f1 hl he
        have hM := f1.ML hMρ
        refine r_iload rfl rfl ?_
        refine r_iconst (v := nI 2) rfl (by decide) ?_
        refine r_neN rfl (by omega) (by omega) (fun q => ?_) (fun q => ?_)
        · refine r_iconst (v := nI 0) rfl (by decide) ?_
          refine r_istore rfl (by decide) ?_
          exact sig zs sg.length 0 τ (by omega) (by simpa using t1) f1 (by omega) (by simpa [q] using he)
        · refine r_aload_n rfl rfl ?_
          refine r_iload_n rfl rfl ?_
          refine r_bipush (v := nI 40) rfl (by decide) ?_
          refine r_callV (As := [_, _]) rfl (by decide) rfl hM.1 rfl rfl (Nat.le_of_ble_eq_true rfl) ⟨Nat.le_of_ble_eq_true rfl, Nat.le_of_ble_eq_true rfl⟩ (c_M_numberByte hM hx t1 (by omega)) (kc' := 0) (ks' := 0) (by omega) (by omega) (by decide) ?_
          rintro r τ2 ⟨rfl, t2, f2⟩
          refine r_iconst (v := nI 0) rfl (by decide) ?_
          refine r_istore rfl (by decide) ?_
          exact sig (zs ++ [b8 (nI 40)]) sg.length 0 τ2 (by omega) (by simpa using t2) (f1.tr (by decide) f2) (by simp; omega) (by simpa [q] using he)
      refine r_aload_n rfl rfl ?_
      refine r_mg (j := 5) hM rfl rfl (by decide) ?_
      refine r_aload_n rfl rfl ?_
      refine r_mg (j := 6) hM rfl rfl (by decide) ?_
      refine r_iload_n rfl rfl ?_
      refine r_mi (j := 6) hM rfl rfl (by decide) rfl (show _ < 120 by omega) ?_
      rw [(congrFun (f0.row (b := o + 1 + 6) (by omega) (by omega)) x).trans hk]
      refine r_mi (j := 5) hM rfl rfl (by decide) rfl (show _ < 6 by omega) ?_
      rw [(congrFun (f0.row (b := o + 1 + 5) (by omega) (by omega)) k).trans hj]
      refine r_istore rfl (by decide) ?_
      refine r_iload rfl rfl ?_
      refine r_if_le rfl (fun q => ?_) (fun q => ?_)
      · have hj0 : j = 0 := by
          rcases Nat.eq_zero_or_pos j with w | w
          · exact w
          · exact absurd q (nI_nle w (by omega))
        refine opn ρ0 [] _ t0 f0 (by simp) ?_
        rw [nmV_no (fun w => by omega)]
        rfl
      refine r_iload_n rfl rfl ?_
      have hj0 : 0 < j := by
        rcases Nat.eq_zero_or_pos j with w | w
        · rw [w] at q
          exact absurd (by decide) q
        · exact w
      refine r_if_lt rfl (fun q2 => ?_) (fun q2 => ?_)
      · refine opn ρ0 [] _ t0 f0 (by simp) ?_
        rw [nmV_no (fun w => w.2 q2)]
        rfl
      rcases hbv3 with w | ⟨p, p1, p2, rfl, p4, p5⟩
      · exact absurd w q2
      refine r_iconst (v := nI 0) rfl (by decide) ?_
      refine r_istore rfl (by decide) ?_
      have cp : ∀ (d i : Nat) (τ : Hp), i + d = nm.length → Tx τ o 18 19 x (nm.take i) → TF ρ τ o 18 19 x → Gm l D m_M_makeNumber 0 0 Q 91 [some (va_rf (some o)), some (.int (nI x)), some (.int (nI s)), some (.int (nI p)), some (.int (nI j)), some (.int (nI i))] [] τ 0 0 := by
        intro d
        induction d with
        | zero =>
          intro i τ hi t1 f1
          have hM := f1.ML hMρ
          have hp := Tx.keep (by decide) f1 p2 p4
          refine r_iload rfl rfl ?_
          refine r_aload_n rfl rfl ?_
          refine r_mg (j := 19) hM rfl rfl (by decide) ?_
          refine r_iload_n rfl rfl ?_
          refine r_mi (j := 19) hM rfl rfl (by decide) (by first | rfl | assumption) (show _ < 120 by omega) ?_
          rw [hp.1]
          refine r_geN rfl (by omega) (by omega) (fun _ => ?_) (fun q => by omega)
          rw [show i = nm.length by omega, List.take_length] at t1
          refine r_iload rfl rfl ?_
          refine r_iconst (v := nI 1) rfl (by decide) ?_
          refine r_neN rfl (by omega) (by omega) (fun q3 => ?_) (fun q3 => ?_)
          · refine opn τ nm _ t1 f1 (by omega) ?_
            rw [nmV_y1 ⟨hj0, q2⟩ q3]
          · refine r_aload_n rfl rfl ?_
            refine r_iload_n rfl rfl ?_
            refine r_bipush (v := nI 46) rfl (by decide) ?_
            refine r_callV (As := [_, _]) rfl (by decide) rfl hM.1 rfl rfl (Nat.le_of_ble_eq_true rfl) ⟨Nat.le_of_ble_eq_true rfl, Nat.le_of_ble_eq_true rfl⟩ (c_M_numberByte hM hx t1 (by omega)) (kc' := 0) (ks' := 0) (by omega) (by omega) (by decide) ?_
            rintro r τ2 ⟨rfl, t2, f2⟩
            refine opn τ2 _ _ t2 (f1.tr (by decide) f2) (by simp; omega) ?_
            rw [nmV_y2 ⟨hj0, q2⟩ q3]
        | succ d ih =>
          intro i τ hi t1 f1
          have hM := f1.ML hMρ
          have hp := Tx.keep (by decide) f1 p2 p4
          have htx : h_X τ (o + 1 + 18) (60 * p + i) = nm.getD i 0 := hp.2.2 i (by omega)
          have hft : b8 (nm.getD i 0) = nm.getD i 0 := by
            rw [← p4.2.2 i (by omega)]
            exact fit_b8 (hfit1 (o + 1 + 18) (hMρ.2 18 (by decide)).2.1 (by omega) _)
          refine r_iload rfl rfl ?_
          refine r_aload_n rfl rfl ?_
          refine r_mg (j := 19) hM rfl rfl (by decide) ?_
          refine r_iload_n rfl rfl ?_
          refine r_mi (j := 19) hM rfl rfl (by decide) (by first | rfl | assumption) (show _ < 120 by omega) ?_
          rw [hp.1]
          refine r_geN rfl (by omega) (by omega) (fun q => by omega) (fun _ => ?_)
          refine r_aload_n rfl rfl ?_
          refine r_iload_n rfl rfl ?_
          refine r_aload_n rfl rfl ?_
          refine r_mg (j := 18) hM rfl rfl (by decide) ?_
          refine r_bipush (v := nI 60) rfl (by decide) ?_
          refine r_iload_n rfl rfl ?_
          (first | refine r_imulN rfl ?_ | refine r_imul rfl ?_)
          refine r_iload rfl rfl ?_
          (first | refine r_iaddN rfl ?_ | refine r_iadd rfl ?_)
          refine r_mb (j := 18) hM rfl rfl (by decide) (by first | rfl | assumption) (show _ < 7200 by omega) ?_
          rw [htx]
          refine r_callV (As := [_, _]) rfl (by decide) rfl hM.1 rfl rfl (Nat.le_of_ble_eq_true rfl) ⟨Nat.le_of_ble_eq_true rfl, Nat.le_of_ble_eq_true rfl⟩ (c_M_numberByte hM hx t1 (by simp; omega)) (kc' := 0) (ks' := 0) (by omega) (by omega) (by decide) ?_
          rintro r τ2 ⟨rfl, t2, f2⟩
          rw [hft, take_app (by omega)] at t2
          refine r_iinc rfl rfl (nI_inc _) ?_
          refine r_goto rfl ?_
          exact ih (i + 1) τ2 (by omega) t2 (f1.tr (by decide) f2)
      exact cp nm.length 0 ρ0 (by omega) (by simpa using t0) f0
    refine r_istore_n rfl (by decide) ?_
    refine r_iload_n rfl rfl ?_
    refine r_if_lt rfl (fun q => ?_) (fun q => ?_)
    · have e : bsV b0 nm = b0 := by
        unfold bsV
        rw [if_neg (fun w => w.1 q)]
      rw [e] at aft
      exact aft
    rcases hb with hb | ⟨p, p1, p2, p3, p4⟩
    · exact absurd hb q
    refine r_aload_n rfl rfl ?_
    refine r_mg (j := 19) hM rfl rfl (by decide) ?_
    refine r_iload_n rfl rfl ?_
    refine r_mi (j := 19) hM rfl rfl (by decide) p3 (show _ < 120 by omega) ?_
    rw [p4.1]
    have h60 := p4.2.1
    refine r_bipush (v := nI 30) rfl (by decide) ?_
    refine r_leN rfl (by omega) (by omega) (fun q2 => ?_) (fun q2 => ?_)
    · have e : bsV b0 nm = b0 := by
        unfold bsV
        rw [if_neg (fun w => by omega)]
      rw [e] at aft
      exact aft
    · have e : bsV b0 nm = -1 := by
        unfold bsV
        rw [if_pos ⟨q, q2⟩]
      rw [e] at aft
      refine r_iconst (v := -1) rfl (by decide) ?_
      refine r_istore_n rfl (by decide) ?_
      exact aft
  refine r_aload_n rfl rfl ?_
  refine r_mg (j := 3) hM rfl rfl (by decide) ?_
  refine r_aload_n rfl rfl ?_
  refine r_mg (j := 6) hM rfl rfl (by decide) ?_
  refine r_iload_n rfl rfl ?_
  refine r_mi (j := 6) hM rfl rfl (by decide) rfl (show _ < 120 by omega) ?_
  rw [hk]
  refine r_mi (j := 3) hM rfl rfl (by decide) rfl (show _ < 6 by omega) ?_
  rw [hs]
  refine r_istore_n rfl (by decide) ?_
  refine r_iload_n rfl rfl ?_
  refine r_iconst (v := nI 1) rfl (by decide) ?_
  refine r_leN rfl (by omega) (by omega) (fun q => ?_) (fun q => ?_)
  · refine r_aload_n rfl rfl ?_
    refine r_mg (j := 7) hM rfl rfl (by decide) ?_
    refine r_iload_n rfl rfl ?_
    refine r_mi (j := 7) hM rfl rfl (by decide) (by first | rfl | assumption) (show _ < 120 by omega) ?_
    rw [if_neg (by omega)] at hb0
    rw [← hb0]
    exact main
  · refine r_aload_n rfl rfl ?_
    refine r_iload_n rfl rfl ?_
    refine r_iload_n rfl rfl ?_
    refine r_iconst (v := nI 2) rfl (by decide) ?_
    refine r_isubN rfl (by omega) ?_
    refine r_callV (As := [_, _]) rfl (by decide) rfl hM.1 rfl rfl (Nat.le_of_ble_eq_true rfl) ⟨Nat.le_of_ble_eq_true rfl, Nat.le_of_ble_eq_true rfl⟩ (c_M_above hM hx (ha q)) (kc' := 0) (ks' := 0) (by omega) (by omega) (by decide) ?_
    rintro r τ ⟨rfl, rfl⟩
    rw [if_pos q] at hb0
    rw [← hb0]
    refine r_goto rfl ?_
    exact main
end MC
