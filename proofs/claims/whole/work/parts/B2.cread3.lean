/-! ===== the class: findings are kept; read ===== -/
theorem cr_upd {G : Nat → Int32} {ds : List Fi} {n p e k mn : Nat} {fm : Option Nat} (hn : ds.length = n) (hcr : ∀ i f t k m q, i < 40 → ds[i]? = some (f, t, k, m, q) → G (5 * i) = nI f ∧ G (5 * i + 1) = nI t ∧ G (5 * i + 2) = nI k ∧ G (5 * i + 3) = nI m ∧ G (5 * i + 4) = oI q) {G5 : Nat → Int32} (h0 : G5 (n * 5) = nI p) (h1 : G5 (n * 5 + 1) = nI e) (h2 : G5 (n * 5 + 2) = nI k) (h3 : G5 (n * 5 + 3) = nI mn) (h4 : G5 (n * 5 + 4) = oI fm) (hk : ∀ j, j < n * 5 → G5 j = G j) :
    ∀ i f t k' m q, i < 40 → (ds ++ [(p, e, k, mn, fm)])[i]? = some (f, t, k', m, q) → G5 (5 * i) = nI f ∧ G5 (5 * i + 1) = nI t ∧ G5 (5 * i + 2) = nI k' ∧ G5 (5 * i + 3) = nI m ∧ G5 (5 * i + 4) = oI q := by
  intro i f t k' m q hi hq
  by_cases hil : i < ds.length
  · rw [List.getElem?_append_left hil] at hq
    obtain ⟨a1, a2, a3, a4, a5⟩ := hcr i f t k' m q hi hq
    rw [hk _ (by omega), hk _ (by omega), hk _ (by omega), hk _ (by omega), hk _ (by omega)]
    exact ⟨a1, a2, a3, a4, a5⟩
  · rw [List.getElem?_append_right (by omega)] at hq
    have hi2 : i - ds.length = 0 := by
      have := (List.getElem?_eq_some_iff.mp hq).1
      rw [List.length_singleton] at this
      omega
    rw [hi2] at hq
    have hq := Option.some.inj hq
    injection hq with q1 hq
    injection hq with q2 hq
    injection hq with q3 hq
    injection hq with q4 q5
    subst q1 q2 q3 q4 q5
    have ei : 5 * i = n * 5 := by omega
    rw [ei]
    exact ⟨h0, h1, h2, h3, h4⟩
section RD
variable {l : Launch} {D : DD} {σ : Hp} {c B : Nat} {ow ad : Nat → Nat} {S : Sp}
/-- what the stores of a finding's cells need -/
def KF (τ : Hp) (c n mn : Nat) (fm : Option Nat) : Prop := h_K τ (c + 41) = 7 ∧ h_K τ (c + 42) = 21 ∧ h_L τ (c + 42) = 200 ∧ h_P τ 386 (c + 41) = some (c + 42) ∧ h_I τ 387 (c + 41) = nI n ∧ h_I τ 389 (c + 41) = nI mn ∧ h_I τ 390 (c + 41) = oI fm
theorem KF.X {τ : Hp} {n mn : Nat} {fm : Option Nat} (h : KF τ c n mn fm) (g : Nat → Int32) : KF (w_X τ (c + 42) g) c n mn fm := h
theorem kf_0 {τ : Hp} {n p e k mn : Nat} {fm : Option Nat} {Q : Option Value → Hp → Prop} (h : KF τ c n mn fm) (hn : n < 40) (kk : Gm l D m_Reader_keepFinding 0 0 Q 37 [some (va_rf (some (c + 41))), some (.int (nI p)), some (.int (nI e)), some (.int (nI k)), some (.int (nI (n * 5)))] [] (w_X τ (c + 42) (upd (h_X τ (c + 42)) (n * 5) (nI p))) 0 0) : Gm l D m_Reader_keepFinding 0 0 Q 29 [some (va_rf (some (c + 41))), some (.int (nI p)), some (.int (nI e)), some (.int (nI k)), some (.int (nI (n * 5)))] [] τ 0 0 := by
  obtain ⟨k41, k42, l42, p386, i387, h389, h390⟩ := h
  refine r_aload_n rfl rfl ?_
  (first | refine r_getPv rfl (by first | assumption | rfl) rfl (by assumption) ?_ | refine r_getP rfl (by first | assumption | rfl) rfl ?_)
  refine r_iload rfl rfl ?_
  refine r_iload_n rfl rfl ?_
  exact r_iast rfl k42 rfl (by rw [l42]; omega) (by rw [l42]; decide) kk
theorem kf_1 {τ : Hp} {n p e k mn : Nat} {fm : Option Nat} {Q : Option Value → Hp → Prop} (h : KF τ c n mn fm) (hn : n < 40) (kk : Gm l D m_Reader_keepFinding 0 0 Q 47 [some (va_rf (some (c + 41))), some (.int (nI p)), some (.int (nI e)), some (.int (nI k)), some (.int (nI (n * 5)))] [] (w_X τ (c + 42) (upd (h_X τ (c + 42)) (n * 5 + 1) (nI e))) 0 0) : Gm l D m_Reader_keepFinding 0 0 Q 37 [some (va_rf (some (c + 41))), some (.int (nI p)), some (.int (nI e)), some (.int (nI k)), some (.int (nI (n * 5)))] [] τ 0 0 := by
  obtain ⟨k41, k42, l42, p386, i387, h389, h390⟩ := h
  refine r_aload_n rfl rfl ?_
  (first | refine r_getPv rfl (by first | assumption | rfl) rfl (by assumption) ?_ | refine r_getP rfl (by first | assumption | rfl) rfl ?_)
  refine r_iload rfl rfl ?_
  refine r_iconst (v := nI 1) rfl (by decide) ?_
  (first | refine r_iaddN rfl ?_ | refine r_iadd rfl ?_)
  refine r_iload_n rfl rfl ?_
  exact r_iast rfl k42 rfl (by rw [l42]; omega) (by rw [l42]; decide) kk
theorem kf_2 {τ : Hp} {n p e k mn : Nat} {fm : Option Nat} {Q : Option Value → Hp → Prop} (h : KF τ c n mn fm) (hn : n < 40) (kk : Gm l D m_Reader_keepFinding 0 0 Q 57 [some (va_rf (some (c + 41))), some (.int (nI p)), some (.int (nI e)), some (.int (nI k)), some (.int (nI (n * 5)))] [] (w_X τ (c + 42) (upd (h_X τ (c + 42)) (n * 5 + 2) (nI k))) 0 0) : Gm l D m_Reader_keepFinding 0 0 Q 47 [some (va_rf (some (c + 41))), some (.int (nI p)), some (.int (nI e)), some (.int (nI k)), some (.int (nI (n * 5)))] [] τ 0 0 := by
  obtain ⟨k41, k42, l42, p386, i387, h389, h390⟩ := h
  refine r_aload_n rfl rfl ?_
  (first | refine r_getPv rfl (by first | assumption | rfl) rfl (by assumption) ?_ | refine r_getP rfl (by first | assumption | rfl) rfl ?_)
  refine r_iload rfl rfl ?_
  refine r_iconst (v := nI 2) rfl (by decide) ?_
  (first | refine r_iaddN rfl ?_ | refine r_iadd rfl ?_)
  refine r_iload_n rfl rfl ?_
  exact r_iast rfl k42 rfl (by rw [l42]; omega) (by rw [l42]; decide) kk
theorem kf_3 {τ : Hp} {n p e k mn : Nat} {fm : Option Nat} {Q : Option Value → Hp → Prop} (h : KF τ c n mn fm) (hn : n < 40) (kk : Gm l D m_Reader_keepFinding 0 0 Q 70 [some (va_rf (some (c + 41))), some (.int (nI p)), some (.int (nI e)), some (.int (nI k)), some (.int (nI (n * 5)))] [] (w_X τ (c + 42) (upd (h_X τ (c + 42)) (n * 5 + 3) (nI mn))) 0 0) : Gm l D m_Reader_keepFinding 0 0 Q 57 [some (va_rf (some (c + 41))), some (.int (nI p)), some (.int (nI e)), some (.int (nI k)), some (.int (nI (n * 5)))] [] τ 0 0 := by
  obtain ⟨k41, k42, l42, p386, i387, h389, h390⟩ := h
  refine r_aload_n rfl rfl ?_
  (first | refine r_getPv rfl (by first | assumption | rfl) rfl (by assumption) ?_ | refine r_getP rfl (by first | assumption | rfl) rfl ?_)
  refine r_iload rfl rfl ?_
  refine r_iconst (v := nI 3) rfl (by decide) ?_
  (first | refine r_iaddN rfl ?_ | refine r_iadd rfl ?_)
  refine r_aload_n rfl rfl ?_
  (first | refine r_getIv rfl (by first | assumption | rfl) rfl (by assumption) ?_ | refine r_getI rfl (by first | assumption | rfl) rfl ?_)
  exact r_iast rfl k42 rfl (by rw [l42]; omega) (by rw [l42]; decide) kk
theorem kf_4 {τ : Hp} {n p e k mn : Nat} {fm : Option Nat} {Q : Option Value → Hp → Prop} (h : KF τ c n mn fm) (hn : n < 40) (kk : Gm l D m_Reader_keepFinding 0 0 Q 83 [some (va_rf (some (c + 41))), some (.int (nI p)), some (.int (nI e)), some (.int (nI k)), some (.int (nI (n * 5)))] [] (w_X τ (c + 42) (upd (h_X τ (c + 42)) (n * 5 + 4) (oI fm))) 0 0) : Gm l D m_Reader_keepFinding 0 0 Q 70 [some (va_rf (some (c + 41))), some (.int (nI p)), some (.int (nI e)), some (.int (nI k)), some (.int (nI (n * 5)))] [] τ 0 0 := by
  obtain ⟨k41, k42, l42, p386, i387, h389, h390⟩ := h
  refine r_aload_n rfl rfl ?_
  (first | refine r_getPv rfl (by first | assumption | rfl) rfl (by assumption) ?_ | refine r_getP rfl (by first | assumption | rfl) rfl ?_)
  refine r_iload rfl rfl ?_
  refine r_iconst (v := nI 4) rfl (by decide) ?_
  (first | refine r_iaddN rfl ?_ | refine r_iadd rfl ?_)
  refine r_aload_n rfl rfl ?_
  (first | refine r_getIv rfl (by first | assumption | rfl) rfl (by assumption) ?_ | refine r_getI rfl (by first | assumption | rfl) rfl ?_)
  exact r_iast rfl k42 rfl (by rw [l42]; omega) (by rw [l42]; decide) kk
set_option maxHeartbeats 1000000 in
theorem c_keepFinding {p e k mn : Nat} {fm : Option Nat} (g : RCd ow σ c ad B S) (hd : (s_d S).length ≤ 600) (h389 : h_I σ 389 (c + 41) = nI mn) (h390 : h_I σ 390 (c + 41) = oI fm) : Cn l D m_Reader_keepFinding 0 0 [va_rf (some (c + 41)), .int (nI p), .int (nI e), .int (nI k)] σ (fun r τ => r = none ∧ RCd ow τ c ad B (sD S (s_d S ++ [(p, e, k, mn, fm)])) ∧ Fm ow rdI [] [8] σ τ) := by
  obtain ⟨k41, p384, p385, p386, k42, l42, k1, i193, hl, k3, p576, k4⟩ := g.rdr
  obtain ⟨i387, -, hcr⟩ := g.1.2.2.2.2.2.2.2.2.2.2.2.1
  generalize hnd : (s_d S).length = n at i387 hd
  have o42 : ow (c + 42) = 8 := g.1.2.1.tag (q := (42, 8)) (by decide)
  generalize hQ : (fun (r : Option Value) (τ : Hp) => r = none ∧ RCd ow τ c ad B (sD S (s_d S ++ [(p, e, k, mn, fm)])) ∧ Fm ow rdI [] [8] σ τ) = Q
  refine Cn.of (by decide) (by repeat (first | exact ca_0 | refine ca_i ?_ | refine ca_r ?_)) (Nat.le_of_ble_eq_true rfl) ?_
  -- the end
  have fin : ∀ (τ : Hp) (w : Value), Fm ow rdI [] [8] σ τ → h_K τ (c + 41) = 7 → h_I τ 387 (c + 41) = nI n → (∀ i f t k' m q, i < 40 → (s_d S ++ [(p, e, k, mn, fm)])[i]? = some (f, t, k', m, q) → h_X τ (c + 42) (5 * i) = nI f ∧ h_X τ (c + 42) (5 * i + 1) = nI t ∧ h_X τ (c + 42) (5 * i + 2) = nI k' ∧ h_X τ (c + 42) (5 * i + 3) = nI m ∧ h_X τ (c + 42) (5 * i + 4) = oI q) → Gm l D m_Reader_keepFinding 0 0 Q 83 [some (va_rf (some (c + 41))), some (.int (nI p)), some (.int (nI e)), some (.int (nI k)), some w] [] τ 0 0 := by
    intro τ w h1 h2 h3 h4
    refine r_aload_n rfl rfl ?_
    refine r_dup rfl (by first | rfl | exact rf_cat _) ?_
    (first | refine r_getIv rfl (by first | assumption | rfl) rfl (by assumption) ?_ | refine r_getI rfl (by first | assumption | rfl) rfl ?_)
    refine r_iconst (v := nI 1) rfl (by decide) ?_
    (first | refine r_iaddN rfl ?_ | refine r_iadd rfl ?_)
    refine r_putI rfl (by first | assumption | rfl) rfl (by first | exact Or.inl rfl | exact Or.inr ⟨rfl, rfl⟩) (by first | rfl | decide | assumption) (by first | rfl | decide) ?_
    refine r_vret rfl rfl ?_
    have f2 : Fm ow rdI [] [8] σ (w_I τ 387 (c + 41) (nI (n + 1))) := h1.tr (Fm.I _ _ _ (by decide))
    rw [← hQ]
    refine ⟨rfl, g.rd f2 ⟨?_, ?_, h4⟩, f2⟩
    · show _ = nI (s_d S ++ [(p, e, k, mn, fm)]).length
      rw [hI_w, List.length_append, List.length_singleton, hnd]
    · show (s_d S ++ [(p, e, k, mn, fm)]).length ≤ 601
      rw [List.length_append, List.length_singleton]
      omega
  refine r_aload_n rfl rfl ?_
  (first | refine r_getIv rfl (by first | assumption | rfl) rfl (by assumption) ?_ | refine r_getI rfl (by first | assumption | rfl) rfl ?_)
  refine r_iconst (v := nI 5) rfl (by decide) ?_
  refine r_imulN rfl ?_
  refine r_istore rfl (by decide) ?_
  refine r_aload_n rfl rfl ?_
  (first | refine r_getIv rfl (by first | assumption | rfl) rfl (by assumption) ?_ | refine r_getI rfl (by first | assumption | rfl) rfl ?_)
  refine r_bipush (v := nI 40) rfl (by decide) ?_
  refine r_geN rfl (by omega) (by omega) (fun hge => ?_) (fun hlt => ?_)
  · refine fin σ _ (Fm.rf _ _ _ _ _) k41 i387 (fun i f t k' m q hi hq => ?_)
    rw [List.getElem?_append_left (by omega)] at hq
    exact hcr i f t k' m q hi hq
  · refine r_iload rfl rfl ?_
    refine r_iconst (v := nI 5) rfl (by decide) ?_
    (first | refine r_iaddN rfl ?_ | refine r_iadd rfl ?_)
    refine r_aload_n rfl rfl ?_
    (first | refine r_getPv rfl (by first | assumption | rfl) rfl (by assumption) ?_ | refine r_getP rfl (by first | assumption | rfl) rfl ?_)
    refine r_alen rfl (by omega) ?_
    rw [l42]
    refine r_gtN rfl (by omega) (by omega) (fun q => by omega) (fun _ => ?_)
    have h0 : KF σ c n mn fm := ⟨k41, k42, l42, p386, i387, h389, h390⟩
    refine kf_0 h0 hlt ?_
    generalize hσ1 : w_X σ (c + 42) (upd (h_X σ (c + 42)) (n * 5) (nI p)) = σ1
    have x1 : h_X σ1 (c + 42) = upd (h_X σ (c + 42)) (n * 5) (nI p) := by rw [← hσ1]; exact u1_s _ _ _
    have h1 : KF σ1 c n mn fm := by rw [← hσ1]; exact h0.X _
    have f1 : Fm ow rdI [] [8] σ σ1 := by rw [← hσ1]; exact Fm.X _ _ (by rw [o42]; decide)
    refine kf_1 h1 hlt ?_
    generalize hσ2 : w_X σ1 (c + 42) (upd (h_X σ1 (c + 42)) (n * 5 + 1) (nI e)) = σ2
    have x2 : h_X σ2 (c + 42) = upd (h_X σ1 (c + 42)) (n * 5 + 1) (nI e) := by rw [← hσ2]; exact u1_s _ _ _
    have h2 : KF σ2 c n mn fm := by rw [← hσ2]; exact h1.X _
    have f2 : Fm ow rdI [] [8] σ1 σ2 := by rw [← hσ2]; exact Fm.X _ _ (by rw [o42]; decide)
    refine kf_2 h2 hlt ?_
    generalize hσ3 : w_X σ2 (c + 42) (upd (h_X σ2 (c + 42)) (n * 5 + 2) (nI k)) = σ3
    have x3 : h_X σ3 (c + 42) = upd (h_X σ2 (c + 42)) (n * 5 + 2) (nI k) := by rw [← hσ3]; exact u1_s _ _ _
    have h3 : KF σ3 c n mn fm := by rw [← hσ3]; exact h2.X _
    have f3 : Fm ow rdI [] [8] σ2 σ3 := by rw [← hσ3]; exact Fm.X _ _ (by rw [o42]; decide)
    refine kf_3 h3 hlt ?_
    generalize hσ4 : w_X σ3 (c + 42) (upd (h_X σ3 (c + 42)) (n * 5 + 3) (nI mn)) = σ4
    have x4 : h_X σ4 (c + 42) = upd (h_X σ3 (c + 42)) (n * 5 + 3) (nI mn) := by rw [← hσ4]; exact u1_s _ _ _
    have h4 : KF σ4 c n mn fm := by rw [← hσ4]; exact h3.X _
    have f4 : Fm ow rdI [] [8] σ3 σ4 := by rw [← hσ4]; exact Fm.X _ _ (by rw [o42]; decide)
    refine kf_4 h4 hlt ?_
    generalize hσ5 : w_X σ4 (c + 42) (upd (h_X σ4 (c + 42)) (n * 5 + 4) (oI fm)) = σ5
    have x5 : h_X σ5 (c + 42) = upd (h_X σ4 (c + 42)) (n * 5 + 4) (oI fm) := by rw [← hσ5]; exact u1_s _ _ _
    have h5 : KF σ5 c n mn fm := by rw [← hσ5]; exact h4.X _
    have f5 : Fm ow rdI [] [8] σ4 σ5 := by rw [← hσ5]; exact Fm.X _ _ (by rw [o42]; decide)
    refine fin σ5 _ ((((f1.tr f2).tr f3).tr f4).tr f5) h5.1 h5.2.2.2.2.1 (cr_upd hnd hcr ?_ ?_ ?_ ?_ ?_ (fun j hj => ?_))
    · rw [x5, upd_n _ _ (by omega), x4, upd_n _ _ (by omega), x3, upd_n _ _ (by omega), x2, upd_n _ _ (by omega), x1, upd_s]
    · rw [x5, upd_n _ _ (by omega), x4, upd_n _ _ (by omega), x3, upd_n _ _ (by omega), x2, upd_s]
    · rw [x5, upd_n _ _ (by omega), x4, upd_n _ _ (by omega), x3, upd_s]
    · rw [x5, upd_n _ _ (by omega), x4, upd_s]
    · rw [x5, upd_s]
    · rw [x5, upd_n _ _ (by omega), x4, upd_n _ _ (by omega), x3, upd_n _ _ (by omega), x2, upd_n _ _ (by omega), x1, upd_n _ _ (by omega)]
theorem fdE_d (ds : List Fi) (i k : Nat) (rest : List Int32) : ∀ n, fdE (sD S ds) i k rest n = fdE S i k rest n
  | 0 => rfl
  | n + 1 => by
    show (if mnL S i k (rest.take (n + 1)) = [] then fdE (sD S ds) i k rest n else _) = _
    rw [fdE_d ds i k rest n]
    rfl
theorem fiA_d (ds : List Fi) (i : Nat) (xs : List Int32) (p k : Nat) : fiA (sD S ds) i xs p k = fiA S i xs p k := by
  unfold fiA
  rw [fdE_d]
  rfl
theorem kAt_eq {xs : List Int32} {p : Nat} (hS : SOk S) (hX : ∀ v ∈ xs, b8 v = v) (hl : (decide (p = 0) || !isL (seeB xs (p - 1))) = true) : kAt S xs p = match (List.range 6).find? (fun k => stB xs (s_w S k) p) with
    | none => none
    | some k => if 0 < rnL xs (p + (s_w S k).length + 1) then some k else none := by
  unfold kAt
  rw [if_pos hl]
  have hr : ∀ q, (0 < rnL xs q ↔ isR (seeB xs q) = true) := by
    intro q
    obtain ⟨r1, r2⟩ := rn_spec xs q
    constructor
    · intro h; exact (r1 0 h).2
    · intro h
      rcases Nat.eq_zero_or_pos (rnL xs q) with w | w
      · rw [w, Nat.add_zero, h] at r2; cases r2
      · exact w
  cases hf : (List.range 6).find? (fun k => stB xs (s_w S k) p) with
  | none =>
    rw [List.find?_eq_none] at hf ⊢
    intro k hk
    have := hf k hk
    simp only [Bool.and_eq_true, not_and]
    intro h
    exact absurd h this
  | some k =>
    have hk := List.mem_range.mp (List.mem_of_find?_eq_some hf)
    have hst : stB xs (s_w S k) p = true := List.find?_some (p := fun k => stB xs (s_w S k) p) hf
    have same : ∀ k', k' < 6 → stB xs (s_w S k') p = true → (s_w S k').length = (s_w S k).length := fun k' hk' h => st_len hX (hS.2.2.2.2.1 k' hk').2 (hS.2.2.2.2.1 k hk).2 h hst
    show _ = if 0 < rnL xs (p + (s_w S k).length + 1) then some k else none
    by_cases h0 : 0 < rnL xs (p + (s_w S k).length + 1)
    · rw [if_pos h0]
      have hR := (hr _).mp h0
      rw [← hf]
      have : ∀ k' ∈ List.range 6, (stB xs (s_w S k') p && isR (seeB xs (p + (s_w S k').length + 1))) = stB xs (s_w S k') p := by
        intro k' hk'
        cases h : stB xs (s_w S k') p with
        | false => rfl
        | true => rw [same k' (List.mem_range.mp hk') h, hR]; rfl
      rw [find_hd, find_hd, List.filter_congr this]
    · rw [if_neg h0]
      rw [List.find?_eq_none]
      intro k' hk'
      cases h : stB xs (s_w S k') p with
      | false => simp
      | true =>
        rw [same k' (List.mem_range.mp hk') h]
        intro hc
        rw [Bool.true_and] at hc
        exact h0 ((hr _).mpr hc)
set_option maxHeartbeats 1000000 in
theorem c_endOfFinding {p i : Nat} (g : RCd ow σ c ad B S) (hi : t_h (s_T S) i = true) (hp : p < (s_t S).length) (hd : (s_d S).length ≤ 600) : Cn l D m_Reader_endOfFinding 0 0 [va_rf (some (c + 41)), .int (nI p), va_rf (some (ad i))] σ (fun r τ => Fm ow rdI [] [8] σ τ ∧ ((kAt S (s_t S) p = none ∧ r = some (.int (nI p)) ∧ RCd ow τ c ad B S) ∨ ∃ k, kAt S (s_t S) p = some k ∧ r = some (.int (nI (fiA S i (s_t S) p k).2.1)) ∧ p < (fiA S i (s_t S) p k).2.1 ∧ (fiA S i (s_t S) p k).2.1 ≤ (s_t S).length ∧ RCd ow τ c ad B (sD S (s_d S ++ [fiA S i (s_t S) p k])))) := by
  obtain ⟨k41, p384, p385, p386, k42, l42, k1, i193, hl, k3, p576, k4⟩ := g.rdr
  have hS := g.1.1
  have lt := g.1.2.2.2.2.1
  generalize hQ : (fun (r : Option Value) (τ : Hp) => Fm ow rdI [] [8] σ τ ∧ ((kAt S (s_t S) p = none ∧ r = some (.int (nI p)) ∧ RCd ow τ c ad B S) ∨ ∃ k, kAt S (s_t S) p = some k ∧ r = some (.int (nI (fiA S i (s_t S) p k).2.1)) ∧ p < (fiA S i (s_t S) p k).2.1 ∧ (fiA S i (s_t S) p k).2.1 ≤ (s_t S).length ∧ RCd ow τ c ad B (sD S (s_d S ++ [fiA S i (s_t S) p k])))) = Q
  refine Cn.of (by decide) (by repeat (first | exact ca_0 | refine ca_i ?_ | refine ca_r ?_)) (Nat.le_of_ble_eq_true rfl) ?_
  refine g_fits (fun hfit _ _ => ?_)
  have hb8 : ∀ v ∈ s_t S, b8 v = v := by
    intro v hv
    obtain ⟨j, hj, e⟩ := List.getElem_of_mem hv
    have h1 := lt.2.2.2.2.2.2.2 j hj
    rw [getD_at hj, e] at h1
    rw [← h1]
    exact fit_b8 (hfit _ lt.2.2.2.1 j)
  have none_ : kAt S (s_t S) p = none → Q (some (.int (nI p))) σ := by
    intro e
    rw [← hQ]
    exact ⟨Fm.rf _ _ _ _ _, Or.inl ⟨e, rfl, g⟩⟩
  have cont : (decide (p = 0) || !isL (seeB (s_t S) (p - 1))) = true → Gm l D m_Reader_endOfFinding 0 0 Q 18 [some (va_rf (some (c + 41))), some (.int (nI p)), some (va_rf (some (ad i))), none, none, none, none, none] [] σ 0 0 := by
    intro hlb
    have ek := kAt_eq hS hb8 hlb
    refine r_aload_n rfl rfl ?_
    refine r_iload_n rfl rfl ?_
    refine r_callV (As := [_]) rfl (by decide) rfl k41 rfl rfl (Nat.le_of_ble_eq_true rfl) ⟨Nat.le_of_ble_eq_true rfl, Nat.le_of_ble_eq_true rfl⟩ (c_kindAt g (Nat.le_of_lt hp)) (kc' := 0) (ks' := 0) (by omega) (by omega) (by decide) ?_
    rintro r σ ⟨rfl, rfl⟩
    refine r_istore_n rfl (by decide) ?_
    refine r_aload_n rfl rfl ?_
    (first | refine r_getPv rfl (by first | assumption | rfl) rfl (by assumption) ?_ | refine r_getP rfl (by first | assumption | rfl) rfl ?_)
    refine r_iload_n rfl rfl ?_
    refine r_callV (As := [_]) rfl (by decide) rfl k3 rfl rfl (Nat.le_of_ble_eq_true rfl) ⟨Nat.le_of_ble_eq_true rfl, Nat.le_of_ble_eq_true rfl⟩ (c_formOf g.1.2.1) (kc' := 0) (ks' := 0) (by omega) (by omega) (by decide) ?_
    rintro r σ ⟨rfl, rfl⟩
    cases hf : (List.range 6).find? (fun k => stB (s_t S) (s_w S k) p) with
    | none =>
      rw [hf] at ek
      refine r_astore rfl (by decide) ?_
      refine r_aload rfl rfl ?_
      refine r_ifnonnull rfl (fun _ hq => by cases hq) (fun _ => ?_)
      refine r_iload_n rfl rfl ?_
      exact r_iret rfl rfl (none_ ek)
    | some k =>
      rw [hf] at ek
      have ek : kAt S (s_t S) p = if 0 < rnL (s_t S) (p + (s_w S k).length + 1) then some k else none := ek
      have hk6 := List.mem_range.mp (List.mem_of_find?_eq_some hf)
      have hst : stB (s_t S) (s_w S k) p = true := List.find?_some (p := fun k => stB (s_t S) (s_w S k) p) hf
      have hlen : p + (s_w S k).length + 1 ≤ (s_t S).length := by
        unfold stB at hst
        rw [Bool.and_eq_true] at hst
        have h32 := of_decide_eq_true hst.2
        unfold seeB at h32
        by_cases h : p + (s_w S k).length < (s_t S).length
        · omega
        · rw [if_neg h] at h32
          exact absurd h32 (by decide)
      have w10 := (hS.2.2.2.2.1 _ hk6).1
      obtain ⟨f1, f2, -⟩ := g.1.2.1.form hk6
      have lw := (g.1.2.2.2.2.2.2.1 _ hk6).1
      have kw := lw.1
      have iw : h_I σ 193 (c + 18 + 3 * k) = nI (s_w S k).length := lw.2.2.1
      show Gm l D m_Reader_endOfFinding 0 0 Q 32 [some (va_rf (some (c + 41))), some (.int (nI p)), some (va_rf (some (ad i))), some (.int (nI k)), none, none, none, none] [va_rf ((kiI (nI k)).map (fun k => c + 17 + 3 * k))] σ 0 0
      rw [kiI_nI hk6]
      refine r_astore rfl (by decide) ?_
      refine r_aload rfl rfl ?_
      refine r_ifnonnull rfl (fun _ _ => ?_) (fun hq => by cases hq)
      show Gm l D m_Reader_endOfFinding 0 0 Q 41 [some (va_rf (some (c + 41))), some (.int (nI p)), some (va_rf (some (ad i))), some (.int (nI k)), some (va_rf (some (c + 17 + 3 * k))), none, none, none] [] σ 0 0
      refine r_iload_n rfl rfl ?_
      refine r_aload rfl rfl ?_
      (first | refine r_getPv rfl (by first | assumption | rfl) rfl (by assumption) ?_ | refine r_getP rfl (by first | assumption | rfl) rfl ?_)
      (first | refine r_getIv rfl (by first | assumption | rfl) rfl (by assumption) ?_ | refine r_getI rfl (by first | assumption | rfl) rfl ?_)
      (first | refine r_iaddN rfl ?_ | refine r_iadd rfl ?_)
      refine r_iconst (v := nI 1) rfl (by decide) ?_
      (first | refine r_iaddN rfl ?_ | refine r_iadd rfl ?_)
      refine r_istore rfl (by decide) ?_
      refine r_aload_n rfl rfl ?_
      refine r_iload rfl rfl ?_
      generalize hst' : p + (s_w S k).length + 1 = st at *
      refine r_callV (As := [_]) rfl (by decide) rfl k41 rfl rfl (Nat.le_of_ble_eq_true rfl) ⟨Nat.le_of_ble_eq_true rfl, Nat.le_of_ble_eq_true rfl⟩ (c_endOfRun (p := st) g (by omega)) (kc' := 0) (ks' := 0) (by omega) (by omega) (by decide) ?_
      rintro r σ ⟨rfl, rfl⟩
      have hrl : st + rnL (s_t S) st ≤ (s_t S).length := by
        have : rnL (s_t S) st ≤ ((s_t S).drop st).length := by
          unfold rnL
          exact (List.takeWhile_sublist _).length_le
        rw [List.length_drop] at this
        omega
      refine r_istore rfl (by decide) ?_
      refine r_iload rfl rfl ?_
      refine r_iload rfl rfl ?_
      refine r_neN rfl (by omega) (by omega) (fun hne => ?_) (fun heq => ?_)
      · have h0 : 0 < rnL (s_t S) st := by omega
        rw [if_pos h0] at ek
        refine r_aload_n rfl rfl ?_
        refine r_iload rfl rfl ?_
        refine r_iload_n rfl rfl ?_
        refine r_aload_n rfl rfl ?_
        refine r_callV (As := [_, _, _]) rfl (by decide) rfl k41 rfl rfl (Nat.le_of_ble_eq_true rfl) ⟨Nat.le_of_ble_eq_true rfl, Nat.le_of_ble_eq_true rfl⟩ (c_findMeanings g hi hk6 hlen) (kc' := 0) (ks' := 0) (by omega) (by omega) (by decide) ?_
        rintro r σ1 ⟨rfl, q1, q2, q3, q4⟩
        have fd := fd_eq hS (i := i) (k := k) (xs := s_t S) (st := st)
        have hmle := fd_le S i k ((s_t S).drop st) (rnL (s_t S) st)
        rw [fd] at hmle
        have hmle : mxF (fLn S i k (s_t S) st) (ordT (s_T S)) ≤ rnL (s_t S) st := hmle
        have efi : fiA S i (s_t S) p k = (p, (if mxF (fLn S i k (s_t S) st) (ordT (s_T S)) = 0 then st + rnL (s_t S) st else st + mxF (fLn S i k (s_t S) st) (ordT (s_T S))), k, (wnF (fLn S i k (s_t S) st) (ordT (s_T S))).length, (wnF (fLn S i k (s_t S) st) (ordT (s_T S))).head?) := by
          unfold fiA
          rw [hst', fd]
        have g1 : RCd ow σ1 c ad B S := by
          refine g.rd (ds := s_d S) (q1.wide (by decide) (fun f q => by cases q) (fun f q => by cases q)) ?_
          exact CR.kp (S := S) (S' := S) q1 g.1.2.1 (by decide) (fun q => by cases q) rfl g.1.2.2.2.2.2.2.2.2.2.2.2.1
        have k411 : h_K σ1 (c + 41) = 7 := g1.1.2.1.2.1 (41, 7) (by decide)
        generalize hM : mxF (fLn S i k (s_t S) st) (ordT (s_T S)) = M at *
        generalize hWn : wnF (fLn S i k (s_t S) st) (ordT (s_T S)) = Wn at *
        have fin : ∀ e, e = (if M = 0 then st + rnL (s_t S) st else st + M) → Gm l D m_Reader_endOfFinding 0 0 Q 99 [some (va_rf (some (c + 41))), some (.int (nI p)), some (va_rf (some (ad i))), some (.int (nI k)), some (va_rf (some (c + 17 + 3 * k))), some (.int (nI st)), some (.int (nI (st + rnL (s_t S) st))), none] [.int (nI e)] σ1 0 0 := by
          intro e he
          have efi : fiA S i (s_t S) p k = (p, e, k, Wn.length, Wn.head?) := by rw [efi, he]
          have hpe : p < e ∧ e ≤ (s_t S).length := by
            rw [he]
            by_cases hm0 : M = 0
            · rw [if_pos hm0]; omega
            · rw [if_neg hm0]; omega
          refine r_istore rfl (by decide) ?_
          refine r_aload_n rfl rfl ?_
          refine r_iload_n rfl rfl ?_
          refine r_iload rfl rfl ?_
          refine r_iload_n rfl rfl ?_
          refine r_callV (As := [_, _, _]) rfl (by decide) rfl k411 rfl rfl (Nat.le_of_ble_eq_true rfl) ⟨Nat.le_of_ble_eq_true rfl, Nat.le_of_ble_eq_true rfl⟩ (c_keepFinding g1 hd q3 q4) (kc' := 0) (ks' := 0) (by omega) (by omega) (by decide) ?_
          rintro r σ2 ⟨rfl, u1, u2⟩
          refine r_iload rfl rfl ?_
          refine r_iret rfl rfl ?_
          rw [← hQ]
          refine ⟨(q1.wide (by decide) (fun f q => by cases q) (fun f q => by cases q)).tr u2, Or.inr ⟨k, ek, ?_, ?_, ?_, ?_⟩⟩
          · rw [efi]
          · rw [efi]; exact hpe.1
          · rw [efi]; exact hpe.2
          · rw [efi]; exact u1
        refine r_aload_n rfl rfl ?_
        (first | refine r_getIv rfl (by first | assumption | rfl) rfl (by assumption) ?_ | refine r_getI rfl (by first | assumption | rfl) rfl ?_)
        rcases Nat.eq_zero_or_pos M with hm0 | hm0
        · rw [hm0]
          refine r_if_le rfl (fun _ => ?_) (fun q => absurd (by decide) q)
          refine r_iload rfl rfl ?_
          exact fin _ (by rw [if_pos hm0])
        · refine r_if_le rfl (fun q => absurd (nI_lt hm0 (by omega)) (Int32.not_lt.mpr q)) (fun _ => ?_)
          refine r_iload rfl rfl ?_
          refine r_aload_n rfl rfl ?_
          (first | refine r_getIv rfl (by first | assumption | rfl) rfl (by assumption) ?_ | refine r_getI rfl (by first | assumption | rfl) rfl ?_)
          (first | refine r_iaddN rfl ?_ | refine r_iadd rfl ?_)
          refine r_goto rfl ?_
          exact fin _ (by rw [if_neg (by omega)])
      · rw [if_neg (by omega)] at ek
        refine r_iload_n rfl rfl ?_
        exact r_iret rfl rfl (none_ ek)
  -- is a letter ahead?
  have ahead : ∀ v, isL v = !(decide (p = 0) || !isL (seeB (s_t S) (p - 1))) → ln_at (s_t S) (nI p - nI 1) = v → Gm l D m_Reader_endOfFinding 0 0 Q 7 [some (va_rf (some (c + 41))), some (.int (nI p)), some (va_rf (some (ad i))), none, none, none, none, none] [.int (nI p - nI 1), va_rf (some (c + 1))] σ 0 0 := by
    intro v hv hln
    refine r_callV (As := [_]) rfl (by decide) rfl k1 rfl rfl (Nat.le_of_ble_eq_true rfl) ⟨Nat.le_of_ble_eq_true rfl, Nat.le_of_ble_eq_true rfl⟩ (c_byteAt lt) (kc' := 0) (ks' := 0) (by omega) (by omega) (by decide) ?_
    rintro r σ ⟨rfl, rfl⟩
    rw [hln]
    refine r_callSN (As := [_]) (z := 118) rfl (by decide) rfl (by decide +kernel) rfl rfl (Nat.le_of_ble_eq_true rfl) ⟨Nat.le_of_ble_eq_true rfl, Nat.le_of_ble_eq_true rfl⟩ (c_isLetter) (kc' := 0) (ks' := 0) (by omega) (by omega) ?_
    rintro r σ ⟨rfl, rfl⟩
    rw [hv]
    cases hh : (decide (p = 0) || !isL (seeB (s_t S) (p - 1))) with
    | true => exact r_if_eq rfl (fun _ => cont hh) (fun q => absurd rfl q)
    | false =>
      refine r_if_eq rfl (fun q => absurd q (by decide)) (fun _ => ?_)
      refine r_iload_n rfl rfl ?_
      refine r_iret rfl rfl (none_ ?_)
      unfold kAt
      rw [hh, if_neg (by decide)]
  refine r_aload_n rfl rfl ?_
  (first | refine r_getPv rfl (by first | assumption | rfl) rfl (by assumption) ?_ | refine r_getP rfl (by first | assumption | rfl) rfl ?_)
  refine r_iload_n rfl rfl ?_
  refine r_iconst (v := nI 1) rfl (by decide) ?_
  refine r_isub rfl ?_
  rcases Nat.eq_zero_or_pos p with h0 | h0
  · refine ahead (-1) ?_ ?_
    · rw [decide_eq_true h0, Bool.true_or]; decide
    · rw [h0]
      unfold ln_at
      rw [if_pos (Or.inl (by decide))]
  · refine ahead (seeB (s_t S) (p - 1)) ?_ ?_
    · rw [decide_eq_false (show ¬ p = 0 by omega), Bool.false_or, Bool.not_not]
    · have e : nI p - nI 1 = nI (p - 1) := by
        have h := nI_add (p - 1) 1
        rw [show p - 1 + 1 = p by omega] at h
        rw [← h, Int32.add_sub_cancel]
      rw [e, ln_see (by omega) (by omega)]
end RD
