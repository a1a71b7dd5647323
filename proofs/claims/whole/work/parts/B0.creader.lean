/-! ===== the class: the reader's parts ===== -/
section RD
variable {l : Launch} {D : DD} {σ : Hp} {c B : Nat} {ow ad : Nat → Nat} {S : Sp}
theorem c_isOfNumber {b : Int32} : Cn l D m_Reader_isOfNumber 0 0 [.int b] σ (fun r τ => r = some (.int (nI (isR b).toNat)) ∧ τ = σ) := by
  generalize hQ : (fun (r : Option Value) (τ : Hp) => r = some (.int (nI (isR b).toNat)) ∧ τ = σ) = Q
  refine Cn.of (by decide) (by repeat (first | exact ca_0 | refine ca_i ?_ | refine ca_r ?_)) (Nat.le_of_ble_eq_true rfl) ?_
  have yes : isR b = true → Gm l D m_Reader_isOfNumber 0 0 Q 37 [some (.int b)] [] σ 0 0 := by
    intro e
    refine r_iconst (v := nI 1) rfl (by decide) ?_
    refine r_goto rfl ?_
    refine r_zret rfl rfl (by decide) ?_
    rw [← hQ, e]
    exact ⟨rfl, rfl⟩
  refine r_iload_n rfl rfl ?_
  refine r_callSN (As := [_]) (z := 118) rfl (by decide) rfl (by decide +kernel) rfl rfl (Nat.le_of_ble_eq_true rfl) ⟨Nat.le_of_ble_eq_true rfl, Nat.le_of_ble_eq_true rfl⟩ (c_isLetter) (kc' := 0) (ks' := 0) (by omega) (by omega) ?_
  rintro r σ ⟨rfl, rfl⟩
  cases h1 : isL b with
  | true => exact r_if_ne rfl (fun _ => yes (by unfold isR; rw [h1]; rfl)) (fun q => absurd q (by decide))
  | false =>
    refine r_if_ne rfl (fun q => absurd rfl q) (fun _ => ?_)
    have rest : (decide (48 ≤ b) && decide (b ≤ 57)) = false → Gm l D m_Reader_isOfNumber 0 0 Q 19 [some (.int b)] [] σ 0 0 := by
      intro h2
      refine r_iload_n rfl rfl ?_
      refine r_bipush (v := nI 46) rfl (by decide) ?_
      refine r_icmp_eq rfl (fun q => yes (by unfold isR; rw [h1, h2, decide_eq_true (show b = 46 from q)]; rfl)) (fun h3 => ?_)
      refine r_iload_n rfl rfl ?_
      refine r_bipush (v := nI 40) rfl (by decide) ?_
      refine r_icmp_eq rfl (fun q => yes (by unfold isR; rw [h1, h2, decide_eq_true (show b = 40 from q), Bool.or_true]; rfl)) (fun h4 => ?_)
      refine r_iload_n rfl rfl ?_
      refine r_bipush (v := nI 41) rfl (by decide) ?_
      refine r_icmp_ne rfl (fun h5 => ?_) (fun q => yes (by unfold isR; rw [decide_eq_true (show b = 41 from q), Bool.or_true]))
      refine r_iconst (v := nI 0) rfl (by decide) ?_
      refine r_zret rfl rfl (by decide) ?_
      rw [← hQ]
      refine ⟨?_, rfl⟩
      unfold isR
      rw [h1, h2, decide_eq_false (show ¬ b = 46 from h3), decide_eq_false (show ¬ b = 40 from h4), decide_eq_false (show ¬ b = 41 from h5)]
      rfl
    refine r_iload_n rfl rfl ?_
    refine r_bipush (v := nI 48) rfl (by decide) ?_
    refine r_icmp_lt rfl (fun q => rest ?_) (fun h6 => ?_)
    · rw [decide_eq_false (show ¬ (48 : Int32) ≤ b from Int32.not_le.mpr q), Bool.false_and]
    · have h6 : (48 : Int32) ≤ b := Int32.not_lt.mp h6
      refine r_iload_n rfl rfl ?_
      refine r_bipush (v := nI 57) rfl (by decide) ?_
      refine r_icmp_le rfl (fun q => yes ?_) (fun h7 => rest ?_)
      · unfold isR
        rw [decide_eq_true h6, decide_eq_true (show b ≤ 57 from q)]
        simp
      · rw [decide_eq_false (show ¬ b ≤ 57 from h7), Bool.and_false]
theorem ln_see {xs : List Int32} {p : Nat} (h : p < xs.length) (hl : xs.length < 2 ^ 31) : ln_at xs (nI p) = seeB xs p := by
  rw [ln_at_nI h hl]
  unfold seeB
  rw [if_pos h]
/-- the reader's cells, over which reading goes -/
theorem RCd.rdr (g : RCd ow σ c ad B S) : h_K σ (c + 41) = 7 ∧ h_P σ 384 (c + 41) = some (c + 1) ∧ h_P σ 385 (c + 41) = some (c + 3) ∧ h_P σ 386 (c + 41) = some (c + 42) ∧ h_K σ (c + 42) = 21 ∧ h_L σ (c + 42) = 200 ∧ h_K σ (c + 1) = 4 ∧ h_I σ 193 (c + 1) = nI (s_t S).length ∧ (s_t S).length ≤ 600 ∧ h_K σ (c + 3) = 10 ∧ h_P σ 576 (c + 3) = some (c + 4) ∧ h_K σ (c + 4) = 9 :=
  ⟨g.1.2.1.2.1 (41, 7) (by decide), g.1.2.1.2.2.1 (384, 41, 1) (by decide), g.1.2.1.2.2.1 (385, 41, 3) (by decide), g.1.2.1.2.2.1 (386, 41, 42) (by decide), g.1.2.1.2.1 (42, 21) (by decide), g.1.2.1.2.2.2.1 (42, 200) (by decide), g.1.2.2.2.2.1.1, g.1.2.2.2.2.1.2.2.1, g.1.2.2.2.2.1.2.2.2.2.2.1, g.1.2.1.2.1 (3, 10) (by decide), g.1.2.1.2.2.1 (576, 3, 4) (by decide), g.1.2.1.2.1 (4, 9) (by decide)⟩
theorem c_endOfRun {p : Nat} (g : RCd ow σ c ad B S) (hp : p < 2 ^ 20) : Cn l D m_Reader_endOfRun 0 0 [va_rf (some (c + 41)), .int (nI p)] σ (fun r τ => r = some (.int (nI (p + rnL (s_t S) p))) ∧ τ = σ) := by
  obtain ⟨k41, p384, p385, p386, k42, l42, k1, i193, hl, k3, p576, k4⟩ := g.rdr
  have lt := g.1.2.2.2.2.1
  obtain ⟨r1, r2⟩ := rn_spec (s_t S) p
  have hrl : rnL (s_t S) p ≤ (s_t S).length := by
    unfold rnL
    exact Nat.le_trans (List.takeWhile_sublist _).length_le (by rw [List.length_drop]; omega)
  generalize hQ : (fun (r : Option Value) (τ : Hp) => r = some (.int (nI (p + rnL (s_t S) p))) ∧ τ = σ) = Q
  refine Cn.of (by decide) (by repeat (first | exact ca_0 | refine ca_i ?_ | refine ca_r ?_)) (Nat.le_of_ble_eq_true rfl) ?_
  have loop : ∀ (d j : Nat), j + d = rnL (s_t S) p → Gm l D m_Reader_endOfRun 0 0 Q 2 [some (va_rf (some (c + 41))), some (.int (nI p)), some (.int (nI (p + j)))] [] σ 0 0 := by
    intro d
    induction d with
    | zero =>
      intro j hj
      have out : Gm l D m_Reader_endOfRun 0 0 Q 33 [some (va_rf (some (c + 41))), some (.int (nI p)), some (.int (nI (p + j)))] [] σ 0 0 := by
        refine r_iload_n rfl rfl ?_
        refine r_iret rfl rfl ?_
        rw [← hQ, show j = rnL (s_t S) p by omega]
        exact ⟨rfl, rfl⟩
      refine r_iload_n rfl rfl ?_
      refine r_aload_n rfl rfl ?_
      (first | refine r_getPv rfl (by first | assumption | rfl) rfl (by assumption) ?_ | refine r_getP rfl (by first | assumption | rfl) rfl ?_)
      (first | refine r_getIv rfl (by first | assumption | rfl) rfl (by assumption) ?_ | refine r_getI rfl (by first | assumption | rfl) rfl ?_)
      refine r_geN rfl (by omega) (by omega) (fun _ => out) (fun q => ?_)
      refine r_aload_n rfl rfl ?_
      (first | refine r_getPv rfl (by first | assumption | rfl) rfl (by assumption) ?_ | refine r_getP rfl (by first | assumption | rfl) rfl ?_)
      refine r_iload_n rfl rfl ?_
      refine r_callV (As := [_]) rfl (by decide) rfl k1 rfl rfl (Nat.le_of_ble_eq_true rfl) ⟨Nat.le_of_ble_eq_true rfl, Nat.le_of_ble_eq_true rfl⟩ (c_byteAt lt) (kc' := 0) (ks' := 0) (by omega) (by omega) (by decide) ?_
      rintro r σ ⟨rfl, rfl⟩
      rw [ln_see q (by omega)]
      refine r_callS (As := [_]) rfl (by decide) rfl rfl rfl (Nat.le_of_ble_eq_true rfl) ⟨Nat.le_of_ble_eq_true rfl, Nat.le_of_ble_eq_true rfl⟩ (c_isOfNumber) (kc' := 0) (ks' := 0) (by omega) (by omega) ?_
      rintro r σ ⟨rfl, rfl⟩
      rw [show p + j = p + rnL (s_t S) p by omega] at out ⊢
      rw [r2]
      exact r_if_eq rfl (fun _ => out) (fun q => absurd rfl q)
    | succ d ih =>
      intro j hj
      obtain ⟨q1, q2⟩ := r1 j (by omega)
      refine r_iload_n rfl rfl ?_
      refine r_aload_n rfl rfl ?_
      (first | refine r_getPv rfl (by first | assumption | rfl) rfl (by assumption) ?_ | refine r_getP rfl (by first | assumption | rfl) rfl ?_)
      (first | refine r_getIv rfl (by first | assumption | rfl) rfl (by assumption) ?_ | refine r_getI rfl (by first | assumption | rfl) rfl ?_)
      refine r_geN rfl (by omega) (by omega) (fun q => by omega) (fun _ => ?_)
      refine r_aload_n rfl rfl ?_
      (first | refine r_getPv rfl (by first | assumption | rfl) rfl (by assumption) ?_ | refine r_getP rfl (by first | assumption | rfl) rfl ?_)
      refine r_iload_n rfl rfl ?_
      refine r_callV (As := [_]) rfl (by decide) rfl k1 rfl rfl (Nat.le_of_ble_eq_true rfl) ⟨Nat.le_of_ble_eq_true rfl, Nat.le_of_ble_eq_true rfl⟩ (c_byteAt lt) (kc' := 0) (ks' := 0) (by omega) (by omega) (by decide) ?_
      rintro r σ ⟨rfl, rfl⟩
      rw [ln_see q1 (by omega)]
      refine r_callS (As := [_]) rfl (by decide) rfl rfl rfl (Nat.le_of_ble_eq_true rfl) ⟨Nat.le_of_ble_eq_true rfl, Nat.le_of_ble_eq_true rfl⟩ (c_isOfNumber) (kc' := 0) (ks' := 0) (by omega) (by omega) ?_
      rintro r σ ⟨rfl, rfl⟩
      rw [q2]
      refine r_if_eq rfl (fun q => absurd q (by decide)) (fun _ => ?_)
      refine r_iinc rfl rfl (nI_inc _) ?_
      refine r_goto rfl ?_
      exact ih (j + 1) (by omega)
  refine r_iload_n rfl rfl ?_
  refine r_istore_n rfl (by decide) ?_
  exact loop (rnL (s_t S) p) 0 (by omega)
def orK (fn : Option Nat) (b : Bool) (k : Nat) : Option Nat := match fn with
  | some y => some y
  | none => if b = true then some k else none
def lenK (S : Sp) (fn : Option Nat) : Nat := match fn with
  | some y => (s_w S y).length
  | none => 0
theorem find_s {f : Nat → Bool} (k : Nat) : (List.range (k + 1)).find? f = orK ((List.range k).find? f) (f k) k := by
  rw [List.range_succ, List.find?_append]
  cases (List.range k).find? f with
  | some y => rfl
  | none =>
    show [k].find? f = _
    rw [List.find?_cons]
    cases f k with
    | true => rfl
    | false => rfl
set_option maxHeartbeats 1000000 in
theorem c_kindAt {p : Nat} (g : RCd ow σ c ad B S) (hp : p ≤ (s_t S).length) : Cn l D m_Reader_kindAt 0 0 [va_rf (some (c + 41)), .int (nI p)] σ (fun r τ => r = some (.int (oI ((List.range 6).find? (fun k => stB (s_t S) (s_w S k) p)))) ∧ τ = σ) := by
  obtain ⟨k41, p384, p385, p386, k42, l42, k1, i193, hl, k3, p576, k4⟩ := g.rdr
  have hS := g.1.1
  have lt := g.1.2.2.2.2.1
  generalize hQ : (fun (r : Option Value) (τ : Hp) => r = some (.int (oI ((List.range 6).find? (fun k => stB (s_t S) (s_w S k) p)))) ∧ τ = σ) = Q
  refine Cn.of (by decide) (by repeat (first | exact ca_0 | refine ca_i ?_ | refine ca_r ?_)) (Nat.le_of_ble_eq_true rfl) ?_
  refine g_fits (fun hfit _ _ => ?_)
  have hb8 : ∀ v ∈ s_t S, b8 v = v := by
    intro v hv
    obtain ⟨j, hj, e⟩ := List.getElem_of_mem hv
    have h1 := lt.2.2.2.2.2.2.2 j hj
    rw [getD_at hj, e] at h1
    rw [← h1]
    exact fit_b8 (hfit _ lt.2.2.2.1 j)
  have loop : ∀ (d k : Nat) (w5 : Option Value), k + d = 6 → Gm l D m_Reader_kindAt 0 0 Q 7 [some (va_rf (some (c + 41))), some (.int (nI p)), some (.int (oI ((List.range k).find? (fun k => stB (s_t S) (s_w S k) p)))), some (.int (nI (lenK S ((List.range k).find? (fun k => stB (s_t S) (s_w S k) p))))), some (.int (nI k)), w5] [] σ 0 0 := by
    intro d
    induction d with
    | zero =>
      intro k w5 hk
      refine r_iload rfl rfl ?_
      refine r_bipush (v := nI 6) rfl (by decide) ?_
      refine r_geN rfl (by omega) (by omega) (fun _ => ?_) (fun q => by omega)
      refine r_iload_n rfl rfl ?_
      refine r_iret rfl rfl ?_
      rw [← hQ, show k = 6 by omega]
      exact ⟨rfl, rfl⟩
    | succ d ih =>
      intro k w5 hk
      have hk6 : k < 6 := by omega
      obtain ⟨f1, f2, -⟩ := g.1.2.1.form hk6
      have lw := (g.1.2.2.2.2.2.2.1 _ hk6).1
      have kw := lw.1
      have iw : h_I σ 193 (c + 18 + 3 * k) = nI (s_w S k).length := lw.2.2.1
      obtain ⟨w10, wL⟩ := hS.2.2.2.2.1 _ hk6
      have ih := ih (k + 1) (some (va_rf (some (c + 17 + 3 * k)))) (by omega)
      rw [find_s k] at ih
      refine r_iload rfl rfl ?_
      refine r_bipush (v := nI 6) rfl (by decide) ?_
      refine r_geN rfl (by omega) (by omega) (fun q => by omega) (fun _ => ?_)
      refine r_aload_n rfl rfl ?_
      (first | refine r_getPv rfl (by first | assumption | rfl) rfl (by assumption) ?_ | refine r_getP rfl (by first | assumption | rfl) rfl ?_)
      refine r_iload rfl rfl ?_
      refine r_callV (As := [_]) rfl (by decide) rfl k3 rfl rfl (Nat.le_of_ble_eq_true rfl) ⟨Nat.le_of_ble_eq_true rfl, Nat.le_of_ble_eq_true rfl⟩ (c_formOf g.1.2.1) (kc' := 0) (ks' := 0) (by omega) (by omega) (by decide) ?_
      rintro r σ ⟨rfl, rfl⟩
      rw [kiI_nI hk6]
      refine r_astore rfl (by decide) ?_
      refine r_aload rfl rfl ?_
      refine r_ifnull rfl (fun hq => by cases hq) (fun _ _ => ?_)
      show Gm l D m_Reader_kindAt 0 0 Q 30 [some (va_rf (some (c + 41))), some (.int (nI p)), some (.int (oI ((List.range k).find? (fun k => stB (s_t S) (s_w S k) p)))), some (.int (nI (lenK S ((List.range k).find? (fun k => stB (s_t S) (s_w S k) p))))), some (.int (nI k)), some (va_rf (some (c + 17 + 3 * k)))] [] σ 0 0
      -- what is found so far
      have hso : ∀ y, (List.range k).find? (fun k => stB (s_t S) (s_w S k) p) = some y → stB (s_t S) (s_w S y) p = true ∧ y < 6 := by
        intro y hy
        refine ⟨List.find?_some (p := fun k => stB (s_t S) (s_w S k) p) hy, ?_⟩
        have := List.mem_range.mp (List.mem_of_find?_eq_some hy)
        omega
      generalize hfn : (List.range k).find? (fun k => stB (s_t S) (s_w S k) p) = fn at ih hso ⊢
      have hmost : lenK S fn ≤ 10 := by
        cases fn with
        | none => exact Nat.zero_le _
        | some y => exact (hS.2.2.2.2.1 y (hso y rfl).2).1
      generalize hms : lenK S fn = most at hmost ⊢
      -- no better one at k
      have skip : (fn ≠ none ∨ stB (s_t S) (s_w S k) p = false) → Gm l D m_Reader_kindAt 0 0 Q 92 [some (va_rf (some (c + 41))), some (.int (nI p)), some (.int (oI fn)), some (.int (nI most)), some (.int (nI k)), some (va_rf (some (c + 17 + 3 * k)))] [] σ 0 0 := by
        intro h
        have e : orK fn (stB (s_t S) (s_w S k) p) k = fn := by
          cases fn with
          | some y => rfl
          | none =>
            rcases h with h | h
            · exact absurd rfl h
            · show (if stB (s_t S) (s_w S k) p = true then some k else none) = none
              rw [h, if_neg (by decide)]
        rw [e, hms] at ih
        refine r_iinc rfl rfl (nI_inc _) ?_
        refine r_goto rfl ?_
        exact ih
      refine r_aload rfl rfl ?_
      (first | refine r_getPv rfl (by first | assumption | rfl) rfl (by assumption) ?_ | refine r_getP rfl (by first | assumption | rfl) rfl ?_)
      (first | refine r_getIv rfl (by first | assumption | rfl) rfl (by assumption) ?_ | refine r_getI rfl (by first | assumption | rfl) rfl ?_)
      refine r_iload_n rfl rfl ?_
      refine r_leN rfl (by omega) (by omega) (fun q => skip ?_) (fun q => ?_)
      · cases fn with
        | some y => exact Or.inl (fun w => by cases w)
        | none =>
          have hms : 0 = most := hms
          refine Or.inr ?_
          unfold stB
          rw [decide_eq_false (show ¬ 0 < (s_w S k).length by omega), Bool.false_and, Bool.false_and]
      refine r_aload rfl rfl ?_
      (first | refine r_getPv rfl (by first | assumption | rfl) rfl (by assumption) ?_ | refine r_getP rfl (by first | assumption | rfl) rfl ?_)
      refine r_aload_n rfl rfl ?_
      (first | refine r_getPv rfl (by first | assumption | rfl) rfl (by assumption) ?_ | refine r_getP rfl (by first | assumption | rfl) rfl ?_)
      refine r_iload_n rfl rfl ?_
      refine r_callV (As := [_, _]) rfl (by decide) rfl kw rfl rfl (Nat.le_of_ble_eq_true rfl) ⟨Nat.le_of_ble_eq_true rfl, Nat.le_of_ble_eq_true rfl⟩ (c_standsIn lw lt hp) (kc' := 0) (ks' := 0) (by omega) (by omega) (by decide) ?_
      rintro r σ ⟨rfl, rfl⟩
      cases hpre : (s_w S k).isPrefixOf ((s_t S).drop p) with
      | false =>
        refine r_if_eq rfl (fun _ => skip (Or.inr ?_)) (fun q => absurd rfl q)
        unfold stB
        rw [hpre, Bool.and_false, Bool.false_and]
      | true =>
        refine r_if_eq rfl (fun q => absurd q (by decide)) (fun _ => ?_)
        have hlen := (pre_at.mp hpre).1
        rw [List.length_drop] at hlen
        refine r_aload_n rfl rfl ?_
        (first | refine r_getPv rfl (by first | assumption | rfl) rfl (by assumption) ?_ | refine r_getP rfl (by first | assumption | rfl) rfl ?_)
        refine r_iload_n rfl rfl ?_
        refine r_aload rfl rfl ?_
        (first | refine r_getPv rfl (by first | assumption | rfl) rfl (by assumption) ?_ | refine r_getP rfl (by first | assumption | rfl) rfl ?_)
        (first | refine r_getIv rfl (by first | assumption | rfl) rfl (by assumption) ?_ | refine r_getI rfl (by first | assumption | rfl) rfl ?_)
        (first | refine r_iaddN rfl ?_ | refine r_iadd rfl ?_)
        refine r_callV (As := [_]) rfl (by decide) rfl k1 rfl rfl (Nat.le_of_ble_eq_true rfl) ⟨Nat.le_of_ble_eq_true rfl, Nat.le_of_ble_eq_true rfl⟩ (c_byteAt lt) (kc' := 0) (ks' := 0) (by omega) (by omega) (by decide) ?_
        rintro r σ ⟨rfl, rfl⟩
        have esee : ln_at (s_t S) (nI (p + (s_w S k).length)) = 32 ↔ seeB (s_t S) (p + (s_w S k).length) = 32 := by
          by_cases h : p + (s_w S k).length < (s_t S).length
          · rw [ln_see h (by omega)]
          · unfold ln_at seeB
            rw [if_neg h, if_pos (Or.inr (nI_le (by omega) (by omega)))]
            exact ⟨fun w => absurd w (by decide), fun w => absurd w (by decide)⟩
        refine r_bipush (v := nI 32) rfl (by decide) ?_
        refine r_icmp_ne rfl (fun h => skip (Or.inr ?_)) (fun h => ?_)
        · unfold stB
          rw [decide_eq_false (fun w => h (esee.mpr w)), Bool.and_false]
        · have hst : stB (s_t S) (s_w S k) p = true := by
            unfold stB
            rw [hpre, decide_eq_true (show 0 < (s_w S k).length by omega), decide_eq_true (esee.mp h)]
            rfl
          have hno : fn = none := by
            cases fn with
            | none => rfl
            | some y =>
              have hms : (s_w S y).length = most := hms
              have := st_len hb8 wL (hS.2.2.2.2.1 y (hso y rfl).2).2 hst (hso y rfl).1
              omega
          subst hno
          have ih : Gm l D m_Reader_kindAt 0 0 Q 7 [some (va_rf (some (c + 41))), some (.int (nI p)), some (.int (oI (if stB (s_t S) (s_w S k) p = true then some k else none))), some (.int (nI (lenK S (if stB (s_t S) (s_w S k) p = true then some k else none)))), some (.int (nI (k + 1))), some (va_rf (some (c + 17 + 3 * k)))] [] σ 0 0 := ih
          rw [if_pos hst] at ih
          refine r_iload rfl rfl ?_
          refine r_istore_n rfl (by decide) ?_
          refine r_aload rfl rfl ?_
          (first | refine r_getPv rfl (by first | assumption | rfl) rfl (by assumption) ?_ | refine r_getP rfl (by first | assumption | rfl) rfl ?_)
          (first | refine r_getIv rfl (by first | assumption | rfl) rfl (by assumption) ?_ | refine r_getI rfl (by first | assumption | rfl) rfl ?_)
          refine r_istore_n rfl (by decide) ?_
          refine r_iinc rfl rfl (nI_inc _) ?_
          refine r_goto rfl ?_
          exact ih
  refine r_iconst (v := -1) rfl (by decide) ?_
  refine r_istore_n rfl (by decide) ?_
  refine r_iconst (v := nI 0) rfl (by decide) ?_
  refine r_istore_n rfl (by decide) ?_
  refine r_iconst (v := nI 0) rfl (by decide) ?_
  refine r_istore rfl (by decide) ?_
  exact loop 6 0 none (by omega)
theorem c_partFor {i x q st : Nat} (g : RCd ow σ c ad B S) (hi : t_h (s_T S) i = true) (hx : (ordT (s_T S))[q]? = some x) (hst : st ≤ (s_t S).length) : Cn l D m_Reader_partFor 0 0 [va_rf (some (c + 41)), va_rf (some (ad x)), .int (nI st), va_rf (some (ad i))] σ (fun r τ => r = some (.int (nI (pLn S i (s_t S) st x))) ∧ τ = σ) := by
  obtain ⟨k41, p384, p385, p386, k42, l42, k1, i193, hl, k3, p576, k4⟩ := g.rdr
  have hS := g.1.1
  have hW := hS.wf
  have lt := g.1.2.2.2.2.1
  have hxn := (ord_at hS hx).2.2.2.1
  have hin := hW.h_lt hi
  have kx := g.1.2.2.2.1.1 x (Or.inl hxn)
  have ki := g.1.2.2.2.1.1 i (Or.inl hin)
  obtain ⟨-, -, p524, lm, ln⟩ := g.2.2.2 q x hx
  obtain ⟨-, -, -, -, -, -, -, -, p526, p527, -⟩ := g.1.2.2.1.2.2.2 x hxn
  have ilm := lm.2.2.1
  have iln := ln.2.2.1
  have klm := lm.1
  have kln := ln.1
  generalize hQ : (fun (r : Option Value) (τ : Hp) => r = some (.int (nI (pLn S i (s_t S) st x))) ∧ τ = σ) = Q
  refine Cn.of (by decide) (by repeat (first | exact ca_0 | refine ca_i ?_ | refine ca_r ?_)) (Nat.le_of_ble_eq_true rfl) ?_
  refine r_aload_n rfl rfl ?_
  (first | refine r_getPv rfl (by first | assumption | rfl) rfl (by assumption) ?_ | refine r_getP rfl (by first | assumption | rfl) rfl ?_)
  refine r_aload_n rfl rfl ?_
  (first | refine r_getPv rfl (by first | assumption | rfl) rfl (by assumption) ?_ | refine r_getP rfl (by first | assumption | rfl) rfl ?_)
  refine r_iload_n rfl rfl ?_
  refine r_callV (As := [_, _]) rfl (by decide) rfl kln rfl rfl (Nat.le_of_ble_eq_true rfl) ⟨Nat.le_of_ble_eq_true rfl, Nat.le_of_ble_eq_true rfl⟩ (c_standsIn ln lt hst) (kc' := 0) (ks' := 0) (by omega) (by omega) (by decide) ?_
  rintro r σ ⟨rfl, rfl⟩
  cases hp : (n_n S x).isPrefixOf ((s_t S).drop st) with
  | true =>
    refine r_if_eq rfl (fun q => absurd q (by decide)) (fun _ => ?_)
    refine r_aload_n rfl rfl ?_
    (first | refine r_getPv rfl (by first | assumption | rfl) rfl (by assumption) ?_ | refine r_getP rfl (by first | assumption | rfl) rfl ?_)
    (first | refine r_getIv rfl (by first | assumption | rfl) rfl (by assumption) ?_ | refine r_getI rfl (by first | assumption | rfl) rfl ?_)
    refine r_iret rfl rfl ?_
    rw [← hQ]
    refine ⟨?_, rfl⟩
    unfold pLn
    rw [if_pos hp]
  | false =>
    refine r_if_eq rfl (fun _ => ?_) (fun q => absurd rfl q)
    have epl : pLn S i (s_t S) st x = if (near S i x && (mkX S x).isPrefixOf ((s_t S).drop st)) = true then (mkX S x).length else 0 := by
      unfold pLn
      rw [if_neg (by rw [hp]; decide)]
    have fin : ∀ bb, near S i x = bb → Gm l D m_Reader_partFor 0 0 Q 46 [some (va_rf (some (c + 41))), some (va_rf (some (ad x))), some (.int (nI st)), some (va_rf (some (ad i))), none] [.int (nI bb.toNat)] σ 0 0 := by
      intro bb hbb
      have zero : (near S i x && (mkX S x).isPrefixOf ((s_t S).drop st)) = false → Gm l D m_Reader_partFor 0 0 Q 78 [some (va_rf (some (c + 41))), some (va_rf (some (ad x))), some (.int (nI st)), some (va_rf (some (ad i))), some (.int (nI bb.toNat))] [] σ 0 0 := by
        intro e
        refine r_iconst (v := nI 0) rfl (by decide) ?_
        refine r_iret rfl rfl ?_
        rw [← hQ, epl, e]
        exact ⟨rfl, rfl⟩
      refine r_istore rfl (by decide) ?_
      refine r_iload rfl rfl ?_
      cases bb with
      | false => exact r_if_eq rfl (fun _ => zero (by rw [hbb, Bool.false_and])) (fun q => absurd rfl q)
      | true =>
        refine r_if_eq rfl (fun q => absurd q (by decide)) (fun _ => ?_)
        refine r_aload_n rfl rfl ?_
        (first | refine r_getPv rfl (by first | assumption | rfl) rfl (by assumption) ?_ | refine r_getP rfl (by first | assumption | rfl) rfl ?_)
        refine r_aload_n rfl rfl ?_
        (first | refine r_getPv rfl (by first | assumption | rfl) rfl (by assumption) ?_ | refine r_getP rfl (by first | assumption | rfl) rfl ?_)
        refine r_iload_n rfl rfl ?_
        refine r_callV (As := [_, _]) rfl (by decide) rfl klm rfl rfl (Nat.le_of_ble_eq_true rfl) ⟨Nat.le_of_ble_eq_true rfl, Nat.le_of_ble_eq_true rfl⟩ (c_standsIn lm lt hst) (kc' := 0) (ks' := 0) (by omega) (by omega) (by decide) ?_
        rintro r σ ⟨rfl, rfl⟩
        cases hpm : (mkX S x).isPrefixOf ((s_t S).drop st) with
        | false => exact r_if_eq rfl (fun _ => zero (by rw [hpm, Bool.and_false])) (fun q => absurd rfl q)
        | true =>
          refine r_if_eq rfl (fun q => absurd q (by decide)) (fun _ => ?_)
          refine r_aload_n rfl rfl ?_
          (first | refine r_getPv rfl (by first | assumption | rfl) rfl (by assumption) ?_ | refine r_getP rfl (by first | assumption | rfl) rfl ?_)
          (first | refine r_getIv rfl (by first | assumption | rfl) rfl (by assumption) ?_ | refine r_getI rfl (by first | assumption | rfl) rfl ?_)
          refine r_goto rfl ?_
          refine r_iret rfl rfl ?_
          rw [← hQ, epl, hbb, hpm]
          exact ⟨rfl, rfl⟩
    refine r_aload_n rfl rfl ?_
    (first | refine r_getPv rfl (by first | assumption | rfl) rfl (by assumption) ?_ | refine r_getP rfl (by first | assumption | rfl) rfl ?_)
    cases hnb : nbO S x with
    | none =>
      refine r_ifnull rfl (fun _ => ?_) (fun _ hq => by cases hq)
      refine r_iconst (v := nI 0) rfl (by decide) ?_
      exact fin false (by unfold near; rw [hnb])
    | some b =>
      have hbn := nbO_lt hS hx hnb
      have p524 : h_P σ 524 (ad x) = some (ad b) := by rw [p524, hnb]; rfl
      refine r_ifnull rfl (fun hq => by cases hq) (fun _ _ => ?_)
      refine r_aload_n rfl rfl ?_
      refine r_aload_n rfl rfl ?_
      (first | refine r_getPv rfl (by first | assumption | rfl) rfl (by assumption) ?_ | refine r_getP rfl (by first | assumption | rfl) rfl ?_)
      refine r_callV (As := [_]) rfl (by decide) rfl ki rfl rfl (Nat.le_of_ble_eq_true rfl) ⟨Nat.le_of_ble_eq_true rfl, Nat.le_of_ble_eq_true rfl⟩ (c_within g.1.2.2.2.1.cs hW (Or.inr hi) (Or.inl hbn)) (kc' := 0) (ks' := 0) (by omega) (by omega) (by decide) ?_
      rintro r σ ⟨rfl, rfl⟩
      have en : near S i x = bel (s_T S) b i := by unfold near; rw [hnb]
      cases hbl : bel (s_T S) b i with
      | true =>
        refine r_if_eq rfl (fun q => absurd q (by decide)) (fun _ => ?_)
        refine r_iconst (v := nI 1) rfl (by decide) ?_
        refine r_goto rfl ?_
        exact fin true (by rw [en, hbl])
      | false =>
        refine r_if_eq rfl (fun _ => ?_) (fun q => absurd rfl q)
        refine r_iconst (v := nI 0) rfl (by decide) ?_
        exact fin false (by rw [en, hbl])
end RD
