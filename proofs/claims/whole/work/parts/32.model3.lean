/-! ===== the reference: takeAll, does ===== -/
section MC
variable {l : Launch} {D : DD} {σ : Hp} {o : Nat}
theorem c_M_isLetter {b : Int32} : Cn l D m_M_isLetter 0 0 [.int b] σ (fun r τ => r = some (.int (nI (isL b).toNat)) ∧ τ = σ) := by
  have e97 : nI 97 = 97 := by decide
  have e122 : nI 122 = 122 := by decide
  have e65 : nI 65 = 65 := by decide
  have e90 : nI 90 = 90 := by decide
  refine Cn.of (by decide) (by repeat (first | exact ca_0 | refine ca_i ?_ | refine ca_r ?_)) (Nat.le_of_ble_eq_true rfl) ?_
  have yes : isL b = true → Gm l D m_M_isLetter 0 0 (fun r τ => r = some (.int (nI (isL b).toNat)) ∧ τ = σ) 24 (en_L [.int b] 1) [] σ 0 0 := by
    intro h
    refine r_iconst (v := nI 1) rfl (by decide) ?_
    refine r_goto rfl ?_
    exact r_zret rfl rfl (by decide) ⟨by rw [h]; rfl, rfl⟩
  have no : isL b = false → Gm l D m_M_isLetter 0 0 (fun r τ => r = some (.int (nI (isL b).toNat)) ∧ τ = σ) 28 (en_L [.int b] 1) [] σ 0 0 := by
    intro h
    refine r_iconst (v := nI 0) rfl (by decide) ?_
    exact r_zret rfl rfl (by decide) ⟨by rw [h]; rfl, rfl⟩
  have second : ¬ (65 ≤ b ∧ b ≤ 90) → Gm l D m_M_isLetter 0 0 (fun r τ => r = some (.int (nI (isL b).toNat)) ∧ τ = σ) 12 (en_L [.int b] 1) [] σ 0 0 := by
    intro h
    have h2 : isL b = (decide (97 ≤ b) && decide (b ≤ 122)) := by
      unfold isL
      rw [show (decide (65 ≤ b) && decide (b ≤ 90)) = false by simpa using h]
      simp
    refine r_iload_n rfl rfl ?_
    refine r_bipush (v := nI 97) rfl (by decide) ?_
    refine r_icmp_lt rfl (fun q => ?_) (fun q => ?_)
    · rw [e97] at q
      exact no (by rw [h2]; simp [Int32.not_le.mpr q])
    · rw [e97] at q
      refine r_iload_n rfl rfl ?_
      refine r_bipush (v := nI 122) rfl (by decide) ?_
      refine r_icmp_gt rfl (fun q2 => ?_) (fun q2 => ?_)
      · rw [e122] at q2
        exact no (by rw [h2]; simp [Int32.not_le.mpr q2])
      · rw [e122] at q2
        exact yes (by rw [h2]; simp [Int32.not_lt.mp q, Int32.not_lt.mp q2])
  refine r_iload_n rfl rfl ?_
  refine r_bipush (v := nI 65) rfl (by decide) ?_
  refine r_icmp_lt rfl (fun q => ?_) (fun q => ?_)
  · rw [e65] at q
    exact second (fun w => absurd w.1 (Int32.not_le.mpr q))
  · rw [e65] at q
    refine r_iload_n rfl rfl ?_
    refine r_bipush (v := nI 90) rfl (by decide) ?_
    refine r_icmp_le rfl (fun q2 => ?_) (fun q2 => ?_)
    · rw [e90] at q2
      exact yes (by unfold isL; simp [Int32.not_lt.mp q, q2])
    · rw [e90] at q2
      exact second (fun w => q2 w.2)
/-- what takeAll leaves of the row 'on': all of B is away -/
def offB (on : Nat → Int32) (B : Nat → Bool) (n : Nat) : Nat → Int32 := fun y => if y < n ∧ B y = true then -9 else on y
theorem neg_nI {v : Int32} (h : v = -9 ∨ v = -1) : v < 0 := by
  rcases h with rfl | rfl <;> decide
theorem cntB_lt {p q : Nat → Bool} {n y : Nat} (hpq : ∀ x, x < n → p x = true → q x = true) (hy : y < n) (h1 : p y = false) (h2 : q y = true) : cntB p n < cntB q n := by
  have mono : ∀ m, m ≤ n → cntB p m ≤ cntB q m := by
    intro m
    induction m with
    | zero => intro _; exact Nat.le_refl _
    | succ m ih =>
      intro hm
      have := ih (by omega)
      rw [cntB, cntB]
      cases hp : p m with
      | false => simp only [Bool.toNat_false]; omega
      | true => rw [hpq m (by omega) hp]; omega
  have : ∀ m, y < m → m ≤ n → cntB p m < cntB q m := by
    intro m
    induction m with
    | zero => intro h; omega
    | succ m ih =>
      intro h hm
      rw [cntB, cntB]
      by_cases e : y = m
      · subst e
        rw [h1, h2]
        have := mono y (by omega)
        simp only [Bool.toNat_false, Bool.toNat_true]
        omega
      · have := ih (by omega) (by omega)
        cases hp : p m with
        | false => simp only [Bool.toNat_false]; omega
        | true => rw [hpq m (by omega) hp]; omega
  exact this n hy (Nat.le_refl _)
theorem cntB_one {p q : Nat → Bool} {n y : Nat} (hy : y < n) (h1 : p y = false) (h2 : q y = true) (h : ∀ x, x < n → x ≠ y → p x = q x) : cntB q n = cntB p n + 1 := by
  have low : ∀ m, m ≤ y → cntB q m = cntB p m := by
    intro m
    induction m with
    | zero => intro _; rfl
    | succ m ih =>
      intro hm
      rw [cntB, cntB, ih (by omega), h m (by omega) (by omega)]
  have : ∀ m, y < m → m ≤ n → cntB q m = cntB p m + 1 := by
    intro m
    induction m with
    | zero => intro h; omega
    | succ m ih =>
      intro hm hm2
      rw [cntB, cntB]
      by_cases e : y = m
      · subst e
        rw [h1, h2, low y (Nat.le_refl _)]
        rfl
      · rw [ih (by omega) (by omega), h m (by omega) (fun q => e q.symm)]
        omega
  exact this n hy (Nat.le_refl _)
theorem cntB_0 (n : Nat) : cntB (fun _ => false) n = 0 := by
  induction n with
  | zero => rfl
  | succ n ih => rw [cntB, ih]; rfl
theorem cntB_congr {p q : Nat → Bool} {n : Nat} (h : ∀ x, x < n → p x = q x) : cntB p n = cntB q n := by
  induction n with
  | zero => rfl
  | succ n ih => rw [cntB, cntB, ih (fun x hx => h x (by omega)), h n (by omega)]
set_option maxHeartbeats 1000000 in
/-- all of B, which is x and what hangs below it, goes away -/
theorem c_M_takeAll {n x : Nat} {B : Nat → Bool} {rk : Nat → Nat} (hM : ML σ o) (hn : h_I σ 711 o = nI n) (hn2 : n ≤ 120) (hx : x < n) (hBx : B x = true)
    (hw : ∀ y, y < n → h_X σ (o + 1 + 7) y = -9 ∧ B y = false ∨ h_X σ (o + 1 + 7) y = -1 ∧ (y = x ∨ B y = false) ∨ ∃ p, p < n ∧ h_X σ (o + 1 + 7) y = nI p ∧ h_X σ (o + 1 + 7) p ≠ -9 ∧ rk p < rk y ∧ (y = x ∨ B y = B p)) :
    Cn l D m_M_takeAll 0 0 [va_rf (some o), .int (nI x)] σ (fun r τ => r = some (.int (nI (cntB B n))) ∧ τ = w_X (w_X σ (o + 1 + 7) (offB (h_X σ (o + 1 + 7)) B n)) (o + 1 + 8) (plDn (h_X σ (o + 1 + 7)) (h_X σ (o + 1 + 8)) x n)) := by
  refine Cn.of (by decide) (by repeat (first | exact ca_0 | refine ca_i ?_ | refine ca_r ?_)) (Nat.le_of_ble_eq_true rfl) ?_
  refine r_aload_n rfl rfl ?_
  refine r_iload_n rfl rfl ?_
  refine r_callV (As := [_]) rfl (by decide) rfl hM.1 rfl rfl (Nat.le_of_ble_eq_true rfl) ⟨Nat.le_of_ble_eq_true rfl, Nat.le_of_ble_eq_true rfl⟩ (c_M_takeOut hM hn hn2 (by omega)) (kc' := 0) (ks' := 0) (by omega) (by omega) (by decide) ?_
  rintro r τ ⟨rfl, rfl⟩
  generalize hon : h_X σ (o + 1 + 7) = on at hw ⊢
  generalize hpl : plDn on (h_X σ (o + 1 + 8)) x n = pl
  rw [wX_comm σ _ _ (show o + 1 + 7 ≠ o + 1 + 8 by omega), wX_comm σ _ _ (show o + 1 + 7 ≠ o + 1 + 8 by omega)]
  have hM' : ML (w_X σ (o + 1 + 8) pl) o := hM
  have hn' : h_I (w_X σ (o + 1 + 8) pl) 711 o = nI n := hn
  generalize w_X σ (o + 1 + 8) pl = ρ at hM' hn'
  have hM := hM'
  have hn := hn'
  refine r_iconst (v := nI 1) rfl (by decide) ?_
  refine r_istore_n rfl (by decide) ?_
  refine r_iconst (v := nI 1) rfl (by decide) ?_
  refine r_istore_n rfl (by decide) ?_
  -- cur: the row as it stands; c: how many are away by this call
  have fin : ∀ (cur : Nat → Int32), (∀ y, cur y = on y ∧ y ≠ x ∨ (y < n ∧ B y = true ∧ cur y = -9)) → (∀ y, y < n → ∀ p, p < n → cur y = nI p → cur p ≠ -9) → cur = offB on B n := by
    intro cur h1 h2
    have key : ∀ k y, rk y ≤ k → y < n → B y = true → cur y = -9 := by
      intro k
      induction k with
      | zero =>
        intro y hk hy hB
        rcases h1 y with ⟨q1, q2⟩ | ⟨-, -, q⟩
        · rcases hw y hy with ⟨w1, w2⟩ | ⟨w1, w2⟩ | ⟨p, p1, p2, p3, p4, p5⟩
          · rw [hB] at w2; cases w2
          · rcases w2 with w2 | w2
            · exact absurd w2 q2
            · rw [hB] at w2; cases w2
          · omega
        · exact q
      | succ k ih =>
        intro y hk hy hB
        rcases h1 y with ⟨q1, q2⟩ | ⟨-, -, q⟩
        · rcases hw y hy with ⟨w1, w2⟩ | ⟨w1, w2⟩ | ⟨p, p1, p2, p3, p4, p5⟩
          · rw [hB] at w2; cases w2
          · rcases w2 with w2 | w2
            · exact absurd w2 q2
            · rw [hB] at w2; cases w2
          · rcases p5 with p5 | p5
            · exact absurd p5 q2
            · have := ih p (by omega) p1 (by rw [← p5]; exact hB)
              exact absurd this (h2 y hy p p1 (q1.trans p2))
        · exact q
    funext y
    unfold offB
    by_cases e : y < n ∧ B y = true
    · rw [if_pos e]
      exact key (rk y) y (Nat.le_refl _) e.1 e.2
    · rw [if_neg e]
      rcases h1 y with ⟨q1, -⟩ | ⟨q1, q2, -⟩
      · exact q1
      · exact absurd ⟨q1, q2⟩ e
  have cnt : ∀ (cur : Nat → Int32), cur = offB on B n → cntB (fun y => decide (cur y = -9) && B y) n = cntB B n := by
    intro cur h
    refine cntB_congr (fun y hy => ?_)
    subst h
    unfold offB
    cases hB : B y with
    | false => simp
    | true => simp [hy]
  have loop : ∀ (m : Nat) (cur : Nat → Int32), n - cntB (fun y => decide (cur y = -9) && B y) n ≤ m → cur x = -9 → (∀ y, cur y = on y ∧ y ≠ x ∨ (y < n ∧ B y = true ∧ cur y = -9)) →
      ∀ z, Gm l D m_M_takeAll 0 0 (fun r τ => r = some (.int (nI (cntB B n))) ∧ τ = w_X ρ (o + 1 + 7) (offB on B n)) 9 [some (va_rf (some o)), some (.int (nI x)), some (.int (nI (cntB (fun y => decide (cur y = -9) && B y) n))), some (.int (nI 1)), z] [] (w_X ρ (o + 1 + 7) cur) 0 0 := by
    intro m
    induction m with
    | zero =>
      intro cur hm hx9 h1 z
      have h3 := cntB_le (fun y => decide (cur y = -9) && B y) n
      have hall : ∀ y, y < n → (decide (cur y = -9) && B y) = true := by
        intro y hy
        cases hq : (decide (cur y = -9) && B y) with
        | true => rfl
        | false =>
          exfalso
          have := cntB_lt (p := fun y => decide (cur y = -9) && B y) (q := fun _ => true) (n := n) (fun _ _ _ => rfl) hy hq rfl
          have := cntB_le (fun _ => true) n
          omega
      refine r_iload_n rfl rfl ?_
      refine r_if_eq rfl (fun q => absurd q (by decide)) (fun _ => ?_)
      refine r_iconst (v := nI 0) rfl (by decide) ?_
      refine r_istore_n rfl (by decide) ?_
      refine r_iconst (v := nI 0) rfl (by decide) ?_
      refine r_istore rfl (by decide) ?_
      have pass : ∀ (d k : Nat), k + d = n → Gm l D m_M_takeAll 0 0 (fun r τ => r = some (.int (nI (cntB B n))) ∧ τ = w_X ρ (o + 1 + 7) (offB on B n)) 18 [some (va_rf (some o)), some (.int (nI x)), some (.int (nI (cntB (fun y => decide (cur y = -9) && B y) n))), some (.int (nI 0)), some (.int (nI k))] [] (w_X ρ (o + 1 + 7) cur) 0 0 := by
        intro d
        induction d with
        | zero =>
          intro k hk
          refine r_iload rfl rfl ?_
          refine r_aload_n rfl rfl ?_
          (first | refine r_getIv rfl hM.1 rfl (by assumption) ?_ | refine r_getI rfl hM.1 rfl ?_)
          refine r_geN rfl (by omega) (by omega) (fun _ => ?_) (fun q => by omega)
          refine r_goto rfl ?_
          refine r_iload_n rfl rfl ?_
          refine r_if_eq rfl (fun _ => ?_) (fun q => absurd rfl q)
          refine r_iload_n rfl rfl ?_
          have hf := fin cur h1 (fun y hy p hp he => by
            have := okn (hall y hy)
            have := of_decide_eq_true this.1
            rw [he] at this
            exact absurd this (fun q => nI_pos (n := p) (by omega) (by rw [q]; decide)))
          exact r_iret rfl rfl ⟨by rw [cnt cur hf], by rw [hf]⟩
        | succ d ih =>
          intro k hk
          refine r_iload rfl rfl ?_
          refine r_aload_n rfl rfl ?_
          (first | refine r_getIv rfl hM.1 rfl (by assumption) ?_ | refine r_getI rfl hM.1 rfl ?_)
          refine r_geN rfl (by omega) (by omega) (fun q => by omega) (fun _ => ?_)
          refine r_aload_n rfl rfl ?_
          refine r_mg (j := 7) hM rfl rfl (by decide) ?_
          refine r_iload rfl rfl ?_
          refine r_mi (j := 7) hM rfl rfl (by decide) (by first | rfl | assumption) (show _ < 120 by omega) ?_
          rw [hX_w, of_decide_eq_true (okn (hall k (by omega))).1]
          refine r_if_lt rfl (fun _ => ?_) (fun q => absurd (by decide) q)
          refine r_iinc rfl rfl (nI_inc _) ?_
          refine r_goto rfl ?_
          exact ih (k + 1) (by omega)
      exact pass n 0 (by omega)
    | succ m ihm =>
      intro cur hm hx9 h1 z
      refine r_iload_n rfl rfl ?_
      refine r_if_eq rfl (fun q => absurd q (by decide)) (fun _ => ?_)
      refine r_iconst (v := nI 0) rfl (by decide) ?_
      refine r_istore_n rfl (by decide) ?_
      refine r_iconst (v := nI 0) rfl (by decide) ?_
      refine r_istore rfl (by decide) ?_
      have pass : ∀ (d k : Nat) (cr : Nat → Int32) (mo : Bool), k + d = n → cr x = -9 → (∀ y, cr y = on y ∧ y ≠ x ∨ (y < n ∧ B y = true ∧ cr y = -9)) → (mo = false → cr = cur ∧ ∀ y, y < k → ∀ p, p < n → cr y = nI p → cr p ≠ -9) → (mo = true → cntB (fun y => decide (cur y = -9) && B y) n < cntB (fun y => decide (cr y = -9) && B y) n) →
          Gm l D m_M_takeAll 0 0 (fun r τ => r = some (.int (nI (cntB B n))) ∧ τ = w_X ρ (o + 1 + 7) (offB on B n)) 18 [some (va_rf (some o)), some (.int (nI x)), some (.int (nI (cntB (fun y => decide (cr y = -9) && B y) n))), some (.int (nI mo.toNat)), some (.int (nI k))] [] (w_X ρ (o + 1 + 7) cr) 0 0 := by
        intro d
        induction d with
        | zero =>
          intro k cr mo hk g1 g2 g3 g4
          refine r_iload rfl rfl ?_
          refine r_aload_n rfl rfl ?_
          (first | refine r_getIv rfl hM.1 rfl (by assumption) ?_ | refine r_getI rfl hM.1 rfl ?_)
          refine r_geN rfl (by omega) (by omega) (fun _ => ?_) (fun q => by omega)
          refine r_goto rfl ?_
          cases mo with
          | true => exact ihm cr (by have := g4 rfl; omega) g1 g2 _
          | false =>
            refine r_iload_n rfl rfl ?_
            refine r_if_eq rfl (fun _ => ?_) (fun q => absurd rfl q)
            refine r_iload_n rfl rfl ?_
            have hf := fin cr g2 (fun y hy => (g3 rfl).2 y (by omega))
            exact r_iret rfl rfl ⟨by rw [cnt cr hf], by rw [hf]⟩
        | succ d ih =>
          intro k cr mo hk g1 g2 g3 g4
          have skip : (∀ p, p < n → cr k = nI p → cr p ≠ -9) → Gm l D m_M_takeAll 0 0 (fun r τ => r = some (.int (nI (cntB B n))) ∧ τ = w_X ρ (o + 1 + 7) (offB on B n)) 71 [some (va_rf (some o)), some (.int (nI x)), some (.int (nI (cntB (fun y => decide (cr y = -9) && B y) n))), some (.int (nI mo.toNat)), some (.int (nI k))] [] (w_X ρ (o + 1 + 7) cr) 0 0 := by
            intro hs
            refine r_iinc rfl rfl (nI_inc _) ?_
            refine r_goto rfl ?_
            refine ih (k + 1) cr mo (by omega) g1 g2 (fun q => ⟨(g3 q).1, fun y hy => ?_⟩) g4
            by_cases e : y = k
            · rw [e]; exact hs
            · exact (g3 q).2 y (by omega)
          refine r_iload rfl rfl ?_
          refine r_aload_n rfl rfl ?_
          (first | refine r_getIv rfl hM.1 rfl (by assumption) ?_ | refine r_getI rfl hM.1 rfl ?_)
          refine r_geN rfl (by omega) (by omega) (fun q => by omega) (fun _ => ?_)
          refine r_aload_n rfl rfl ?_
          refine r_mg (j := 7) hM rfl rfl (by decide) ?_
          refine r_iload rfl rfl ?_
          refine r_mi (j := 7) hM rfl rfl (by decide) (by first | rfl | assumption) (show _ < 120 by omega) ?_
          rw [hX_w]
          refine r_if_lt rfl (fun q => skip (fun p hp he => absurd q (by rw [he]; exact nI_pos (by omega)))) (fun q => ?_)
          obtain ⟨e1, e2⟩ : cr k = on k ∧ k ≠ x := by
            rcases g2 k with w | ⟨-, -, w⟩
            · exact w
            · rw [w] at q
              exact absurd (by decide) q
          obtain ⟨p, p1, p2, p3, p4, p5⟩ : ∃ p, p < n ∧ on k = nI p ∧ on p ≠ -9 ∧ rk p < rk k ∧ (k = x ∨ B k = B p) := by
            rcases hw k (by omega) with ⟨w, -⟩ | ⟨w, -⟩ | w
            · rw [e1, w] at q
              exact absurd (by decide) q
            · rw [e1, w] at q
              exact absurd (by decide) q
            · exact w
          refine r_aload_n rfl rfl ?_
          refine r_mg (j := 7) hM rfl rfl (by decide) ?_
          refine r_aload_n rfl rfl ?_
          refine r_mg (j := 7) hM rfl rfl (by decide) ?_
          refine r_iload rfl rfl ?_
          refine r_mi (j := 7) hM rfl rfl (by decide) (by first | rfl | assumption) (show _ < 120 by omega) ?_
          rw [hX_w, e1, p2]
          refine r_mi (j := 7) hM rfl rfl (by decide) rfl (show _ < 120 by omega) ?_
          refine r_bipush (v := -9) rfl (by decide) ?_
          rw [hX_w]
          refine r_icmp_eq rfl (fun q2 => ?_) (fun q2 => ?_)
          · have hBk : B k = true := by
              rcases p5 with p5 | p5
              · exact absurd p5 e2
              · rw [p5]
                rcases g2 p with ⟨w, -⟩ | ⟨-, w, -⟩
                · exact absurd (w.symm.trans q2) p3
                · exact w
            refine r_aload_n rfl rfl ?_
            refine r_mg (j := 7) hM rfl rfl (by decide) ?_
            refine r_iload rfl rfl ?_
            refine r_bipush (v := -9) rfl (by decide) ?_
            refine r_mis (j := 7) hM rfl rfl (by decide) (by first | rfl | assumption) (show _ < 120 by omega) ?_
            rw [wX_same, hX_w]
            refine r_iinc rfl rfl (nI_inc _) ?_
            refine r_iconst (v := nI 1) rfl (by decide) ?_
            refine r_istore_n rfl (by decide) ?_
            refine r_iinc rfl rfl (nI_inc _) ?_
            refine r_goto rfl ?_
            have hk9 : cr k ≠ -9 := fun w => by rw [w] at q; exact q (by decide)
            have c1 : cntB (fun y => decide (upd cr k (-9) y = -9) && B y) n = cntB (fun y => decide (cr y = -9) && B y) n + 1 := by
              refine cntB_one (y := k) (by omega) ?_ ?_ (fun w _ hw2 => ?_)
              · simp [hk9]
              · simp [upd_s, hBk]
              · show (decide (cr w = -9) && B w) = (decide (upd cr k (-9) w = -9) && B w)
                rw [upd_n _ _ hw2]
            have e := ih (k + 1) (upd cr k (-9)) true (by omega) (by rw [upd_n _ _ (fun w => e2 w.symm)]; exact g1) (fun y => ?_) (fun w => by cases w) (fun _ => ?_)
            · rw [c1] at e
              exact e
            · by_cases w : y = k
              · subst w
                exact Or.inr ⟨by omega, hBk, upd_s _ _ _⟩
              · rw [upd_n _ _ w]
                exact g2 y
            · rw [c1]
              cases mo with
              | true => have := g4 rfl; omega
              | false => rw [(g3 rfl).1]; omega
          · refine r_goto rfl ?_
            refine skip (fun p' hp' he => ?_)
            have : p' = p := (nI_eq (by omega) (by omega)).mp (he.symm.trans (e1.trans p2))
            rw [this]
            exact q2
      exact pass n 0 cur false (by omega) hx9 h1 (fun _ => ⟨rfl, fun y hy => by omega⟩) (fun w => by cases w)
  have c0 : cntB (fun y => decide (upd on x (-9) y = -9) && B y) n = 1 := by
    have := cntB_one (p := fun _ => false) (q := fun y => decide (upd on x (-9) y = -9) && B y) (n := n) (y := x) hx rfl (by simp [upd_s, hBx]) (fun w e hw2 => by
      show false = (decide (upd on x (-9) w = -9) && B w)
      rw [upd_n _ _ hw2]
      rcases hw w e with ⟨w1, w2⟩ | ⟨w1, w2⟩ | ⟨p, p1, p2, p3, p4, p5⟩
      · rw [w2, Bool.and_false]
      · rw [w1]; rfl
      · have : ¬ on w = -9 := fun q => nI_pos (n := p) (by omega) (by rw [← p2, q]; decide)
        simp [this])
    rw [this, cntB_0]
  have e := loop n (upd on x (-9)) (by omega) (upd_s _ _ _) (fun y => ?_) none
  · rw [c0] at e
    exact e
  · by_cases w : y = x
    · subst w
      exact Or.inr ⟨hx, hBx, upd_s _ _ _⟩
    · rw [upd_n _ _ w]
      exact Or.inl ⟨rfl, w⟩
end MC
