/-! ===== the law's beginning ===== -/
def owL (c a : Nat) : Nat := if a < c then 0 else (cfO.lookup (a - c)).getD 0
theorem owL_at (c j : Nat) : owL c (c + j) = (cfO.lookup j).getD 0 := by
  unfold owL
  rw [if_neg (by omega), Nat.add_sub_cancel_left]
theorem owL_1 : ∀ q ∈ cfO, (cfO.lookup q.1).getD 0 = q.2 := by decide
theorem owL_2 : ∀ j, j < 40 → (cfO.lookup (46 + j)).getD 0 = 0 := by decide
section LS
variable {l : Launch} {D : DD}
theorem law_start (hL : d_L D ≤ 3072) (σ0 : Hp) : GL l D 0 [some (va_rf (some (d_b D))), none, none, none] [] σ0 600000 7302250 := by
  have h0 := Bd.start σ0
  generalize h_z σ0 = c at h0
  refine r_newB (kc' := 599999) (ks' := 7302238) (i := 0) h0 lf_0 rfl (by decide) (by decide) (by decide) (fun σ1 h1 => ?_)
  refine r_dup lf_3 (by first | rfl | exact rf_cat _) ?_
  refine r_callI (As := []) lf_4 (by decide) rfl rfl rfl (Nat.le_of_ble_eq_true rfl) ⟨Nat.le_of_ble_eq_true rfl, Nat.le_of_ble_eq_true rfl⟩ (c_bNK h1) (kc' := 599955) (ks' := 7300207) (by omega) (by omega) ?_
  rintro r σ2 ⟨rfl, h2⟩
  have z45 : h_z bNK = 45 := by decide +kernel
  have zz : h_z σ2 = c + 45 := by rw [h2.1, z45]
  have g2 : RC (owL c) σ2 c (fun _ => c + 4) 0 S0 := h2.rc (fun q hq => by rw [owL_at]; exact owL_1 q hq)
  refine r_astore_n lf_7 (by decide) ?_
  refine G.less (kc' := 599954 + 1) (ks' := 7300154 + 53) (by decide) (by decide) ?_
  refine r_new lf_8 (fun _ => ?_)
  rw [zz]
  refine r_dup lf_11 (by first | rfl | exact rf_cat _) ?_
  have ko : h_K (n_O σ2 12) (c + 45) = 12 := by
    show u_1 (h_K σ2) (h_z σ2) 12 (c + 45) = 12
    rw [zz, u1_s]
  refine r_callI (As := []) lf_12 (by decide) rfl rfl rfl (Nat.le_of_ble_eq_true rfl) ⟨Nat.le_of_ble_eq_true rfl, Nat.le_of_ble_eq_true rfl⟩ (c_M_init (σ := n_O σ2 12) (o := c + 45) ko (by show h_z σ2 + 1 = _; omega) (fun f => by
    show (if c + 45 = h_z σ2 then 0 else _) = _
    rw [if_pos zz.symm])) (kc' := 599914) (ks' := 7212210) (by omega) (by omega) ?_
  rintro r σ3 ⟨rfl, h3⟩
  refine r_astore_n lf_15 (by decide) ?_
  refine r_iconst (v := nI (6 * 0)) lf_16 (by decide) ?_
  refine r_istore_n lf_17 (by decide) ?_
  have hf : Fm (owL c) [] [] [0, 1, 2] σ2 σ3 := by
    obtain ⟨m1, -, -, -, m5⟩ := h3
    refine ⟨by omega, fun a ha => ?_⟩
    obtain ⟨q1, q2, q3, q4, q5, q6⟩ := m5 a (by omega)
    refine ⟨q1.trans (u1_n _ _ (by omega)), q4, fun f _ _ => (q2 f).trans (if_neg (by omega)), fun f _ => (q3 f).trans (if_neg (by omega)), fun _ => ⟨q5, q6⟩⟩
  have hf0 : Fm (owL c) [] [] ([] : List Nat) σ2 σ3 := by
    obtain ⟨m1, -, -, -, m5⟩ := h3
    refine ⟨by omega, fun a ha => ?_⟩
    obtain ⟨q1, q2, q3, q4, q5, q6⟩ := m5 a (by omega)
    refine ⟨q1.trans (u1_n _ _ (by omega)), q4, fun f _ _ => (q2 f).trans (if_neg (by omega)), fun f _ => (q3 f).trans (if_neg (by omega)), fun _ => ⟨q5, q6⟩⟩
  have kp : ∀ a cap xs, a + 1 < c + 45 → Ln σ2 a cap xs → Ln σ3 a cap xs := fun a cap xs ha hl => hl.kp hf0 (by omega) (fun q => by cases q) (fun q => by cases q) (fun q => by cases q) (fun q => by cases q)
  obtain ⟨xs, hx⟩ := g2.2.2.2.2.2.1
  have g3 : RC (owL c) σ3 c (fun _ => c + 4) 0 S0 := g2.kp12 (t := []) hf (fun f q => by cases q) (kp _ _ _ (by omega) g2.2.2.2.2.1) ⟨xs, kp _ _ _ (by omega) hx⟩ (by decide)
  have ho : ∀ j, j < 40 → owL c (c + 45 + 1 + j) = 0 := by
    intro j hj
    rw [show c + 45 + 1 + j = c + (46 + j) by omega, owL_at]
    exact owL_2 j hj
  have hE : EOk S0 := fun d hd => by cases hd
  have hz3 : c + 45 + 41 ≤ h_z σ3 := by rw [h3.1]; omega
  have hi : Iv σ3 c (c + 45) (200 * 0) := ⟨owL c, fun _ => c + 4, S0, g3, h3.rm, hE, hz3, ho⟩
  refine G.less (kc' := 484 * (d_L D / 6)) (ks' := 11700 * (d_L D / 6)) (by omega) (by omega) ?_
  exact law_loop hL (d_L D / 6) 0 σ3 (by omega) hi
end LS
