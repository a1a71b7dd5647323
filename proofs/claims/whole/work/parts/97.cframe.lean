/-! ===== the class: frames, the cells that never change, the things' own cells ===== -/
/-- only the fields FI, FP, and rows and Lines whose owner is in RS, have changed; new cells may have come -/
def Fm (ow : Nat → Nat) (FI FP RS : List Nat) (σ τ : Hp) : Prop :=
  h_z σ ≤ h_z τ ∧ ∀ a, a < h_z σ → h_K τ a = h_K σ a ∧ h_L τ a = h_L σ a ∧ (∀ f, f ∉ FI → (f = 193 → ow a ∉ RS) → h_I τ f a = h_I σ f a) ∧ (∀ f, f ∉ FP → h_P τ f a = h_P σ f a) ∧ (ow a ∉ RS → h_X τ a = h_X σ a ∧ h_Y τ a = h_Y σ a)
section FM
variable {ow : Nat → Nat} {FI FP RS : List Nat} {σ τ ρ : Hp}
theorem Fm.rf (ow : Nat → Nat) (FI FP RS : List Nat) (σ : Hp) : Fm ow FI FP RS σ σ := ⟨Nat.le_refl _, fun _ _ => ⟨rfl, rfl, fun _ _ _ => rfl, fun _ _ => rfl, fun _ => ⟨rfl, rfl⟩⟩⟩
theorem Fm.tr (h : Fm ow FI FP RS σ τ) (g : Fm ow FI FP RS τ ρ) : Fm ow FI FP RS σ ρ := by
  refine ⟨Nat.le_trans h.1 g.1, fun a ha => ?_⟩
  obtain ⟨h1, h2, h3, h4, h5⟩ := h.2 a ha
  obtain ⟨g1, g2, g3, g4, g5⟩ := g.2 a (Nat.lt_of_lt_of_le ha h.1)
  exact ⟨g1.trans h1, g2.trans h2, fun f q w => (g3 f q w).trans (h3 f q w), fun f q => (g4 f q).trans (h4 f q), fun q => ⟨(g5 q).1.trans (h5 q).1, (g5 q).2.trans (h5 q).2⟩⟩
theorem Fm.wide {FI' FP' RS' : List Nat} (h : Fm ow FI FP RS σ τ) (h1 : ∀ f ∈ FI, f ∈ FI') (h2 : ∀ f ∈ FP, f ∈ FP') (h3 : ∀ f ∈ RS, f ∈ RS') : Fm ow FI' FP' RS' σ τ :=
  ⟨h.1, fun a ha => ⟨(h.2 a ha).1, (h.2 a ha).2.1, fun f q w => (h.2 a ha).2.2.1 f (fun z => q (h1 f z)) (fun e z => w e (h3 _ z)), fun f q => (h.2 a ha).2.2.2.1 f (fun z => q (h2 f z)), fun q => (h.2 a ha).2.2.2.2 (fun z => q (h3 _ z))⟩⟩
theorem Fm.I (σ : Hp) {f : Nat} (a : Nat) (v : Int32) (hf : f ∈ FI) : Fm ow FI FP RS σ (w_I σ f a v) :=
  ⟨Nat.le_refl _, fun b _ => ⟨rfl, rfl, fun g q _ => u2_n1 _ _ (fun e => q (e ▸ hf)), fun _ _ => rfl, fun _ => ⟨rfl, rfl⟩⟩⟩
theorem Fm.P (σ : Hp) {f : Nat} (a : Nat) (v : Option Nat) (hf : f ∈ FP) : Fm ow FI FP RS σ (w_P σ f a v) :=
  ⟨Nat.le_refl _, fun b _ => ⟨rfl, rfl, fun _ _ _ => rfl, fun g q => u2_n1 _ _ (fun e => q (e ▸ hf)), fun _ => ⟨rfl, rfl⟩⟩⟩
theorem Fm.X (σ : Hp) {a : Nat} (g : Nat → Int32) (ha : ow a ∈ RS) : Fm ow FI FP RS σ (w_X σ a g) :=
  ⟨Nat.le_refl _, fun b _ => ⟨rfl, rfl, fun _ _ _ => rfl, fun _ _ => rfl, fun q => ⟨u1_n _ _ (fun e => q (e ▸ ha)), rfl⟩⟩⟩
theorem Fm.Y (σ : Hp) {a : Nat} (g : Nat → Option Nat) (ha : ow a ∈ RS) : Fm ow FI FP RS σ (w_Y σ a g) :=
  ⟨Nat.le_refl _, fun b _ => ⟨rfl, rfl, fun _ _ _ => rfl, fun _ _ => rfl, fun q => ⟨rfl, u1_n _ _ (fun e => q (e ▸ ha))⟩⟩⟩
theorem Fm.L {a : Nat} (h : LF σ τ a) (h1 : ow a ∈ RS) (h2 : ow (a + 1) ∈ RS) : Fm ow FI FP RS σ τ := by
  obtain ⟨g1, g2, g3, g4, g5, g6, g7⟩ := h
  exact ⟨by rw [g1]; exact Nat.le_refl _, fun b _ => ⟨by rw [g2], by rw [g4], fun f _ w => g6 f b (fun e => w e.1 (e.2 ▸ h1)), fun f _ => by rw [g3], fun q => ⟨g7 b (fun e => q (e ▸ h2)), by rw [g5]⟩⟩⟩
theorem Fm.N {k : Nat} (h : NF σ τ k) : Fm ow FI FP RS σ τ :=
  ⟨by rw [h.1]; omega, fun a ha => ⟨(h.2 a ha).1, (h.2 a ha).2.2.2.1, fun f _ _ => (h.2 a ha).2.1 f, fun f _ => (h.2 a ha).2.2.1 f, fun _ => ⟨(h.2 a ha).2.2.2.2.1, (h.2 a ha).2.2.2.2.2⟩⟩⟩
/-- the owners of old cells alone matter -/
theorem Fm.own {ow' : Nat → Nat} (h : Fm ow FI FP RS σ τ) (e : ∀ a, a < h_z σ → ow' a = ow a) : Fm ow' FI FP RS σ τ :=
  ⟨h.1, fun a ha => by rw [e a ha]; exact h.2 a ha⟩
theorem Ln.kp {a cap : Nat} {xs : List Int32} (h : Fm ow FI FP RS σ τ) (ha : a + 1 < h_z σ) (h1 : ow a ∉ RS) (h2 : ow (a + 1) ∉ RS) (h3 : 192 ∉ FP) (h4 : 193 ∉ FI) (g : Ln σ a cap xs) : Ln τ a cap xs := by
  obtain ⟨b1, b2, b3, b4, -⟩ := h.2 a (by omega)
  obtain ⟨c1, c2, c3, c4, c5⟩ := h.2 (a + 1) ha
  unfold Ln at g ⊢
  rw [b1, b4 192 h3, b3 193 h4 (fun _ => h1), c1, c2, (c5 h2).1]
  exact g
theorem MFr.fm {rows flds : List Nat} {o : Nat} (h : MFr rows flds σ τ o) (hr : ∀ j ∈ rows, ow (o + 1 + j) = 0) (h193 : 193 ∉ flds) : Fm ow flds ([] : List Nat) [0] σ τ := by
  obtain ⟨g1, g2, g3, g4, g5, g6, g7⟩ := h
  refine ⟨by rw [g1]; exact Nat.le_refl _, fun a _ => ⟨by rw [g2], by rw [g4], fun f q _ => g6 f a (fun e => q e.2), fun f _ => by rw [g3], fun q => ⟨g7 a (fun j hj e => q (by rw [e, hr j hj]; exact List.mem_cons_self)), by rw [g5]⟩⟩⟩
end FM
/-! the cells that are made with the keeper at c -/
def cfK : List (Nat × Nat) := [(0, 11), (1, 4), (2, 20), (3, 10), (4, 9), (5, 3), (6, 4), (7, 20), (8, 21), (9, 4), (10, 20), (11, 4), (12, 20), (13, 4), (14, 20), (15, 35), (16, 32), (17, 3), (18, 4), (19, 20), (20, 3), (21, 4), (22, 20), (23, 3), (24, 4), (25, 20), (26, 3), (27, 4), (28, 20), (29, 3), (30, 4), (31, 20), (32, 3), (33, 4), (34, 20), (35, 6), (36, 21), (37, 30), (38, 34), (39, 8), (40, 31), (41, 7), (42, 21), (43, 4), (44, 20)]
def cfP : List (Nat × Nat × Nat) := [(640, 0, 1), (641, 0, 3), (642, 0, 35), (643, 0, 37), (645, 0, 38), (647, 0, 39), (648, 0, 40), (650, 0, 41), (651, 0, 43), (576, 3, 4), (577, 3, 15), (578, 3, 16), (514, 4, 5), (525, 4, 8), (526, 4, 9), (527, 4, 11), (528, 4, 13), (128, 5, 6), (128, 17, 18), (128, 20, 21), (128, 23, 24), (128, 26, 27), (128, 29, 30), (128, 32, 33), (321, 35, 4), (322, 35, 36), (448, 39, 4), (384, 41, 1), (385, 41, 3), (386, 41, 42)]
def cfL : List (Nat × Nat) := [(8, 6), (15, 120), (16, 6), (36, 6), (37, 200), (38, 100), (40, 8), (42, 200)]
/-- owners: 1 tape, 2 scratch, 3 words, 4 the things' numbers, 5 tally, 6 never changed, 7 the row of things, 8 the reader's cells, 9 the log's, 10 the mentions', 11 the editions' row -/
def cfO : List (Nat × Nat) := [(1, 1), (2, 1), (6, 3), (7, 3), (8, 6), (15, 7), (16, 6), (18, 3), (19, 3), (21, 3), (22, 3), (24, 3), (25, 3), (27, 3), (28, 3), (30, 3), (31, 3), (33, 3), (34, 3), (36, 5), (37, 9), (38, 10), (40, 11), (42, 8), (43, 2), (44, 2)]
def CF (ow : Nat → Nat) (σ : Hp) (c : Nat) : Prop := c + 45 ≤ h_z σ ∧ (∀ q ∈ cfK, h_K σ (c + q.1) = q.2) ∧ (∀ q ∈ cfP, h_P σ q.1 (c + q.2.1) = some (c + q.2.2)) ∧ (∀ q ∈ cfL, h_L σ (c + q.1) = q.2) ∧ (∀ q ∈ cfO, ow (c + q.1) = q.2) ∧ (∀ k, k < 6 → h_Y σ (c + 16) k = some (c + 17 + 3 * k)) ∧ h_I σ 512 (c + 4) = -1 ∧ h_I σ 513 (c + 4) = -1 ∧ h_X σ (c + 8) = fun _ => 0
theorem CF.kp {ow ow' : Nat → Nat} {FI FP RS : List Nat} {σ τ : Hp} {c : Nat} (h : Fm ow FI FP RS σ τ) (h1 : 512 ∉ FI) (h2 : 513 ∉ FI) (h3 : ∀ q ∈ cfP, q.1 ∉ FP) (h4 : 6 ∉ RS) (he : ∀ a, a < h_z σ → ow' a = ow a) (g : CF ow σ c) : CF ow' τ c := by
  obtain ⟨g1, g2, g3, g4, g5, g6, g7, g8, g9⟩ := g
  have kl : ∀ q ∈ cfK, q.1 < 45 := by decide
  have pl : ∀ q ∈ cfP, q.2.1 < 45 := by decide
  have ll : ∀ q ∈ cfL, q.1 < 45 := by decide
  have ol : ∀ q ∈ cfO, q.1 < 45 := by decide
  have z1 := h.1
  refine ⟨by omega, fun q hq => ?_, fun q hq => ?_, fun q hq => ?_, fun q hq => ?_, fun k hk => ?_, ?_, ?_, ?_⟩
  · have := kl q hq
    rw [(h.2 _ (by omega)).1]
    exact g2 q hq
  · have := pl q hq
    rw [(h.2 _ (by omega)).2.2.2.1 _ (h3 q hq)]
    exact g3 q hq
  · have := ll q hq
    rw [(h.2 _ (by omega)).2.1]
    exact g4 q hq
  · have := ol q hq
    rw [he _ (by omega)]
    exact g5 q hq
  · have e := g5 (16, 6) (by decide)
    rw [((h.2 (c + 16) (by omega)).2.2.2.2 (by rw [show ow (c + 16) = 6 from e]; exact h4)).2]
    exact g6 k hk
  · rw [(h.2 (c + 4) (by omega)).2.2.1 512 h1 (fun e => by cases e)]
    exact g7
  · rw [(h.2 (c + 4) (by omega)).2.2.1 513 h2 (fun e => by cases e)]
    exact g8
  · have e := g5 (8, 6) (by decide)
    rw [((h.2 (c + 8) (by omega)).2.2.2.2 (by rw [show ow (c + 8) = 6 from e]; exact h4)).1]
    exact g9
/-- the things' own cells -/
def TC (ow : Nat → Nat) (σ : Hp) (c n : Nat) (kd : Nat → Nat) (ad : Nat → Nat) : Prop :=
  h_I σ 579 (c + 3) = nI n ∧ ad 120 = c + 4 ∧ (∀ x y, x < n → y < n → x ≠ y → ad x + 8 ≤ ad y ∨ ad y + 8 ≤ ad x) ∧ ∀ x, x < n → h_Y σ (c + 15) x = some (ad x) ∧ c + 45 ≤ ad x ∧ ad x + 8 ≤ h_z σ ∧ h_I σ 512 (ad x) = nI x ∧ h_I σ 513 (ad x) = nI (kd x) ∧ kd x < 6 ∧ h_P σ 514 (ad x) = some (c + 17 + 3 * kd x) ∧
    h_P σ 525 (ad x) = some (ad x + 1) ∧ h_P σ 526 (ad x) = some (ad x + 2) ∧ h_P σ 527 (ad x) = some (ad x + 4) ∧ h_P σ 528 (ad x) = some (ad x + 6) ∧ h_K σ (ad x + 1) = 21 ∧ h_L σ (ad x + 1) = 6 ∧ (∀ j, 1 ≤ j → j < 8 → ow (ad x + j) = 4) ∧ (∃ xs, Ln σ (ad x + 2) 10 xs) ∧ (∃ xs, Ln σ (ad x + 4) 40 xs) ∧ ∃ xs, Ln σ (ad x + 6) 40 xs
/-- the lines are there, whatever stands in them -/
def LnK (σ τ : Hp) (a : Nat) : Prop := ∀ cap, (∃ xs, Ln σ a cap xs) → ∃ xs, Ln τ a cap xs
section TM
variable {l : Launch} {D : DD} {σ : Hp} {c n : Nat} {ow : Nat → Nat} {kd ad : Nat → Nat} {T : Tr} {S : Sp}
theorem c_formOf {v : Int32} (h : CF ow σ c) : Cn l D m_Tree_formOf 0 0 [va_rf (some (c + 3)), .int v] σ (fun r τ => r = some (va_rf ((kiI v).map (fun k => c + 17 + 3 * k))) ∧ τ = σ) := by
  have hk3 := h.2.1 (3, 10) (by decide)
  have hk16 := h.2.1 (16, 32) (by decide)
  have hp := h.2.2.1 (578, 3, 16) (by decide)
  have hl := h.2.2.2.1 (16, 6) (by decide)
  have hy := h.2.2.2.2.2.1
  have hp : h_P σ 578 (c + 3) = some (c + 16) := hp
  have hk16 : h_K σ (c + 16) = 32 := hk16
  have hk3 : h_K σ (c + 3) = 10 := hk3
  have hl : h_L σ (c + 16) = 6 := hl
  generalize hQ : (fun (r : Option Value) (τ : Hp) => r = some (va_rf ((kiI v).map (fun k => c + 17 + 3 * k))) ∧ τ = σ) = Q
  refine Cn.of (by decide) (by repeat (first | exact ca_0 | refine ca_i ?_ | refine ca_r ?_)) (Nat.le_of_ble_eq_true rfl) ?_
  have no : kiI v = none → Gm l D m_Tree_formOf 0 0 Q 22 [some (va_rf (some (c + 3))), some (.int v)] [] σ 0 0 := by
    intro hnone
    refine r_null rfl ?_
    refine r_aret rfl rfl ?_
    rw [← hQ]
    refine ⟨?_, rfl⟩
    rw [hnone]
    rfl
  refine r_iload_n rfl rfl ?_
  refine r_if_lt rfl (fun hlt => no ?_) (fun hge => ?_)
  · unfold kiI inB
    rw [decide_eq_false (p := (0 : Int32) ≤ v) (fun q => absurd hlt (Int32.not_lt.mpr q))]
    rfl
  obtain ⟨j, hj, rfl⟩ := nI_of hge
  refine r_iload_n rfl rfl ?_
  refine r_aload_n rfl rfl ?_
  (first | refine r_getPv rfl (by first | assumption | rfl) rfl (by assumption) ?_ | refine r_getP rfl (by first | assumption | rfl) rfl ?_)
  refine r_alen rfl (Or.inr (by rw [hk16]; decide)) ?_
  rw [hl]
  refine r_geN rfl (by omega) (by omega) (fun hjj => no ?_) (fun hjj => ?_)
  · cases hki : kiI (nI j) with
    | none => rfl
    | some q =>
      obtain ⟨e1, e2⟩ := kiI_some hki
      have := (nI_eq hj (by omega)).mp e1
      omega
  · refine r_aload_n rfl rfl ?_
    (first | refine r_getPv rfl (by first | assumption | rfl) rfl (by assumption) ?_ | refine r_getP rfl (by first | assumption | rfl) rfl ?_)
    refine r_iload_n rfl rfl ?_
    refine r_aald (t := 2) rfl hk16 (by decide) rfl (by rw [hl]; exact hjj) (by rw [hl]; decide) ?_
    rw [hy j hjj]
    refine r_goto rfl ?_
    refine r_aret rfl rfl ?_
    rw [← hQ]
    refine ⟨?_, rfl⟩
    rw [kiI_nI hjj]
    rfl
theorem c_numbered {v : Int32} (h : CF ow σ c) (ht : TC ow σ c (s_n S) kd ad) (hn : s_n S ≤ 120) : Cn l D m_Tree_numbered 0 0 [va_rf (some (c + 3)), .int v] σ (fun r τ => r = some (va_rf ((nuI S v).map ad)) ∧ τ = σ) := by
  have hk3 : h_K σ (c + 3) = 10 := h.2.1 (3, 10) (by decide)
  have hk15 : h_K σ (c + 15) = 35 := h.2.1 (15, 35) (by decide)
  have hp : h_P σ 577 (c + 3) = some (c + 15) := h.2.2.1 (577, 3, 15) (by decide)
  have hl : h_L σ (c + 15) = 120 := h.2.2.2.1 (15, 120) (by decide)
  have h579 := ht.1
  generalize hQ : (fun (r : Option Value) (τ : Hp) => r = some (va_rf ((nuI S v).map ad)) ∧ τ = σ) = Q
  refine Cn.of (by decide) (by repeat (first | exact ca_0 | refine ca_i ?_ | refine ca_r ?_)) (Nat.le_of_ble_eq_true rfl) ?_
  have no : (decide (0 ≤ v) && decide (v < nI (s_n S))) = false → Gm l D m_Tree_numbered 0 0 Q 30 [some (va_rf (some (c + 3))), some (.int v)] [] σ 0 0 := by
    intro hnone
    refine r_null rfl ?_
    refine r_aret rfl rfl ?_
    rw [← hQ]
    refine ⟨?_, rfl⟩
    unfold nuI
    rw [if_neg (by rw [hnone]; decide)]
    rfl
  refine r_iload_n rfl rfl ?_
  refine r_if_lt rfl (fun hlt => no ?_) (fun hge => ?_)
  · rw [decide_eq_false (p := (0 : Int32) ≤ v) (fun q => absurd hlt (Int32.not_lt.mpr q))]
    rfl
  obtain ⟨j, hj, rfl⟩ := nI_of hge
  refine r_iload_n rfl rfl ?_
  refine r_aload_n rfl rfl ?_
  (first | refine r_getIv rfl (by first | assumption | rfl) rfl (by assumption) ?_ | refine r_getI rfl (by first | assumption | rfl) rfl ?_)
  refine r_geN rfl (by omega) (by omega) (fun hjj => no ?_) (fun hjj => ?_)
  · rw [decide_eq_false (p := nI j < nI (s_n S)) (nI_nlt hjj (by omega)), Bool.and_false]
  · refine r_iload_n rfl rfl ?_
    refine r_aload_n rfl rfl ?_
    (first | refine r_getPv rfl (by first | assumption | rfl) rfl (by assumption) ?_ | refine r_getP rfl (by first | assumption | rfl) rfl ?_)
    refine r_alen rfl (Or.inr (by rw [hk15]; decide)) ?_
    rw [hl]
    refine r_geN rfl (by omega) (by omega) (fun hj2 => by omega) (fun _ => ?_)
    refine r_aload_n rfl rfl ?_
    (first | refine r_getPv rfl (by first | assumption | rfl) rfl (by assumption) ?_ | refine r_getP rfl (by first | assumption | rfl) rfl ?_)
    refine r_iload_n rfl rfl ?_
    refine r_aald (t := 5) rfl hk15 (by decide) rfl (by rw [hl]; omega) (by rw [hl]; decide) ?_
    rw [(ht.2.2.2 j hjj).1]
    refine r_goto rfl ?_
    refine r_aret rfl rfl ?_
    rw [← hQ]
    refine ⟨?_, rfl⟩
    unfold nuI
    rw [if_pos (by rw [decide_eq_true (nI_pos' hj), decide_eq_true (nI_lt hjj (by omega))]; rfl), nI_clamp hj]
    rfl
theorem nu_th {S : Sp} (hS : SOk S) (v : Int32) : thI S v = (match nuI S v with
    | none => none
    | some x => if t_h (s_T S) x = true then some x else none) := by
  have hn := hS.1
  by_cases hlt : v < 0
  · rw [isTh_none (isTh_neg hlt)]
    unfold nuI
    rw [if_neg (by rw [decide_eq_false (p := (0 : Int32) ≤ v) (fun q => absurd hlt (Int32.not_lt.mpr q)), Bool.false_and]; decide)]
  · obtain ⟨j, hj, rfl⟩ := nI_of hlt
    unfold thI nuI
    rw [isTh_T hS.wf hj, nI_clamp hj, decide_eq_true (nI_pos' hj), Bool.true_and]
    by_cases hjn : j < s_n S
    · rw [decide_eq_true hjn, Bool.true_and, if_pos (decide_eq_true (nI_lt hjn (by omega)))]
    · rw [decide_eq_false hjn, decide_eq_false (nI_nlt (by omega) hj)]
      rfl
theorem c_thereAs {v : Int32} (h : CF ow σ c) (ht : TC ow σ c (s_n S) kd ad) (hc : CT σ (s_n S) (s_T S) ad) (hS : SOk S) : Cn l D m_Tree_thereAs 0 0 [va_rf (some (c + 3)), .int v] σ (fun r τ => r = some (va_rf ((thI S v).map ad)) ∧ τ = σ) := by
  have hk3 : h_K σ (c + 3) = 10 := h.2.1 (3, 10) (by decide)
  have hth := nu_th hS v
  have hnu : ∀ x, nuI S v = some x → x < s_n S := by
    intro x hx
    unfold nuI at hx
    by_cases e : (decide (0 ≤ v) && decide (v < nI (s_n S))) = true
    · obtain ⟨y, y1, y2, y3⟩ := nuI_some hS.1 e
      unfold nuI at y3
      rw [y3] at hx
      have := Option.some.inj hx
      omega
    · rw [if_neg e] at hx; cases hx
  generalize hQ : (fun (r : Option Value) (τ : Hp) => r = some (va_rf ((thI S v).map ad)) ∧ τ = σ) = Q
  refine Cn.of (by decide) (by repeat (first | exact ca_0 | refine ca_i ?_ | refine ca_r ?_)) (Nat.le_of_ble_eq_true rfl) ?_
  refine r_aload_n rfl rfl ?_
  refine r_iload_n rfl rfl ?_
  refine r_callV (As := [_]) rfl (by decide) rfl hk3 rfl rfl (Nat.le_of_ble_eq_true rfl) ⟨Nat.le_of_ble_eq_true rfl, Nat.le_of_ble_eq_true rfl⟩ (c_numbered h ht hS.1) (kc' := 0) (ks' := 0) (by omega) (by omega) (by decide) ?_
  rintro r σ ⟨rfl, rfl⟩
  refine r_astore_n rfl (by decide) ?_
  refine r_aload_n rfl rfl ?_
  cases hnn : nuI S v with
  | none =>
    rw [hnn] at hth
    refine r_ifnull rfl (fun _ => ?_) (fun _ hq => by cases hq)
    refine r_null rfl ?_
    refine r_aret rfl rfl ?_
    rw [← hQ]
    refine ⟨?_, rfl⟩
    rw [hth]
    rfl
  | some x =>
    rw [hnn] at hth
    have hxn := hnu x hnn
    have hkx := hc.1 x (Or.inl hxn)
    have h519 := hc.2.2.2.2.2.2 x hxn
    refine r_ifnull rfl (fun hq => by cases hq) (fun _ _ => ?_)
    show Gm l D m_Tree_thereAs 0 0 Q 10 [some (va_rf (some (c + 3))), some (.int v), some (va_rf (some (ad x)))] [] σ 0 0
    refine r_aload_n rfl rfl ?_
    (first | refine r_getIv rfl (by first | assumption | rfl) rfl (by assumption) ?_ | refine r_getI rfl (by first | assumption | rfl) rfl ?_)
    refine r_ifeqB rfl (fun hb => ?_) (fun hb => ?_)
    · refine r_null rfl ?_
      refine r_aret rfl rfl ?_
      rw [← hQ]
      refine ⟨?_, rfl⟩
      rw [hth]
      show _ = some (va_rf (Option.map ad (if t_h (s_T S) x = true then some x else none)))
      rw [if_neg (by rw [hb]; decide)]
      rfl
    · refine r_aload_n rfl rfl ?_
      refine r_goto rfl ?_
      refine r_aret rfl rfl ?_
      rw [← hQ]
      refine ⟨?_, rfl⟩
      rw [hth]
      show _ = some (va_rf (Option.map ad (if t_h (s_T S) x = true then some x else none)))
      rw [if_pos hb]
      rfl
theorem c_hostOf {v : Int32} (h : CF ow σ c) (ht : TC ow σ c (s_n S) kd ad) (hc : CT σ (s_n S) (s_T S) ad) (hS : SOk S) : Cn l D m_Tree_hostOf 0 0 [va_rf (some (c + 3)), .int v] σ (fun r τ => r = some (va_rf ((hoI S v).map ad)) ∧ τ = σ) := by
  have hk3 : h_K σ (c + 3) = 10 := h.2.1 (3, 10) (by decide)
  have hp : h_P σ 576 (c + 3) = some (c + 4) := h.2.2.1 (576, 3, 4) (by decide)
  have h120 := ht.2.1
  refine Cn.of (by decide) (by repeat (first | exact ca_0 | refine ca_i ?_ | refine ca_r ?_)) (Nat.le_of_ble_eq_true rfl) ?_
  refine r_iload_n rfl rfl ?_
  refine r_iconst (v := -1) rfl (by decide) ?_
  refine r_icmp_ne rfl (fun hne => ?_) (fun heq => ?_)
  · refine r_aload_n rfl rfl ?_
    refine r_iload_n rfl rfl ?_
    refine r_callV (As := [_]) rfl (by decide) rfl hk3 rfl rfl (Nat.le_of_ble_eq_true rfl) ⟨Nat.le_of_ble_eq_true rfl, Nat.le_of_ble_eq_true rfl⟩ (c_thereAs h ht hc hS) (kc' := 0) (ks' := 0) (by omega) (by omega) (by decide) ?_
    rintro r σ ⟨rfl, rfl⟩
    refine r_aret rfl rfl ⟨?_, rfl⟩
    unfold hoI
    rw [if_neg hne]
  · refine r_aload_n rfl rfl ?_
    (first | refine r_getPv rfl (by first | assumption | rfl) rfl (by assumption) ?_ | refine r_getP rfl (by first | assumption | rfl) rfl ?_)
    refine r_goto rfl ?_
    refine r_aret rfl rfl ⟨?_, rfl⟩
    unfold hoI
    rw [if_pos heq]
    show _ = some (va_rf (some (ad 120)))
    rw [h120]
end TM
