/-! ===== the class: a new one keeps the empty state ===== -/
section BC
variable {l : Launch} {D : DD} {σ0 τ : Hp} {c : Nat} {ow : Nat → Nat}
theorem Bd.rc (h : Bd σ0 τ c bNK) (ho : ∀ q ∈ cfO, ow (c + q.1) = q.2) : RC ow τ c (fun _ => c + 4) 0 S0 := by
  obtain ⟨hz, h1, -⟩ := h
  have z45 : h_z bNK = 45 := by decide +kernel
  have hI : ∀ j f v, j < 45 → h_K bNK j < 20 → h_I bNK f j = v → h_I τ f (c + j) = v := fun j f v a b e => (((h1 j (by omega)).2.1 b).1 f).trans e
  have hP : ∀ j f v, j < 45 → h_K bNK j < 20 → h_P bNK f j = v → h_P τ f (c + j) = v.map (fun i => c + i) := fun j f v a b e => (((h1 j (by omega)).2.1 b).2 f).trans (by rw [e])
  have hK : ∀ j v, j < 45 → h_K bNK j = v → h_K τ (c + j) = v := fun j v a e => (h1 j (by omega)).1.trans e
  have hL : ∀ j v, j < 45 → 20 ≤ h_K bNK j → h_L bNK j = v → h_L τ (c + j) = v := fun j v a b e => ((h1 j (by omega)).2.2 b).1.trans e
  have eK : ∀ q ∈ cfK, q.1 < 45 ∧ h_K bNK q.1 = q.2 := by decide +kernel
  have eP : ∀ q ∈ cfP, q.2.1 < 45 ∧ h_K bNK q.2.1 < 20 ∧ h_P bNK q.1 q.2.1 = some q.2.2 := by decide +kernel
  have eL : ∀ q ∈ cfL, q.1 < 45 ∧ 20 ≤ h_K bNK q.1 ∧ h_L bNK q.1 = q.2 := by decide +kernel
  have eY : ∀ k, k < 6 → h_Y bNK 16 k = some (17 + 3 * k) := by decide +kernel
  have ln : ∀ a m, a + 1 < 45 → h_K bNK a = 4 → h_P bNK 192 a = some (a + 1) → h_I bNK 193 a = 0 → h_K bNK (a + 1) = 20 → h_L bNK (a + 1) = m → m < 2 ^ 20 → Ln τ (c + a) m [] := fun a m q1 q2 q3 q4 q5 q6 q7 =>
    ⟨hK a 4 (by omega) q2, hP a 192 _ (by omega) (by omega) q3, hI a 193 0 (by omega) (by omega) q4, hK (a + 1) 20 (by omega) q5, hL (a + 1) m (by omega) (by omega) q6, Nat.zero_le _, q7, (fun i hi => by cases hi)⟩
  have k4 : h_K τ (c + 4) = 9 := hK 4 9 (by decide) (by decide +kernel)
  have p516 : h_P τ 516 (c + 4) = none := hP 4 516 none (by decide) (by decide +kernel) (by decide +kernel)
  have p515 : h_P τ 515 (c + 4) = none := hP 4 515 none (by decide) (by decide +kernel) (by decide +kernel)
  have p520 : h_P τ 520 (c + 4) = none := hP 4 520 none (by decide) (by decide +kernel) (by decide +kernel)
  have eo : ordT (s_T S0) = [] := by decide +kernel
  refine ⟨S0_ok, ⟨by omega, fun q hq => hK _ _ (eK q hq).1 (eK q hq).2, fun q hq => hP _ _ _ (eP q hq).1 (eP q hq).2.1 (eP q hq).2.2, fun q hq => hL _ _ (eL q hq).1 (eL q hq).2.1 (eL q hq).2.2, ho, fun k hk => ?_, hI 4 512 _ (by decide) (by decide +kernel) (by decide +kernel), hI 4 513 _ (by decide) (by decide +kernel) (by decide +kernel), ?_⟩, ⟨hI 3 579 _ (by decide) (by decide +kernel) (by decide +kernel), rfl, (fun x y hx => by cases hx), (fun x hx => by cases hx)⟩,
    ⟨fun x _ => k4, fun x y hx hy _ => ?_, fun x hx => p516, (fun x z _ hz => by cases hz), p515, (fun x hx => by cases hx), (fun x hx => by cases hx)⟩,
    ln 1 600 (by decide) (by decide +kernel) (by decide +kernel) (by decide +kernel) (by decide +kernel) (by decide +kernel) (by decide),
    ⟨[], ln 43 539 (by decide) (by decide +kernel) (by decide +kernel) (by decide +kernel) (by decide +kernel) (by decide +kernel) (by decide)⟩, fun k hk => ?_,
    Or.inr ⟨hI 35 320 _ (by decide) (by decide +kernel) (by decide +kernel), ?_, fun i x hx => ?_⟩, ⟨hI 0 644 _ (by decide) (by decide +kernel) (by decide +kernel), trivial⟩, ⟨hI 0 646 _ (by decide) (by decide +kernel) (by decide +kernel), (fun k q hq => by cases hq)⟩, ⟨hI 0 649 _ (by decide) (by decide +kernel) (by decide +kernel), (fun k q hq => by cases hq)⟩,
    ⟨hI 41 387 _ (by decide) (by decide +kernel) (by decide +kernel), by decide, (fun i f t k m q _ hq => by cases hq)⟩, ⟨0, hI 39 449 _ (by decide) (by decide +kernel) (by decide +kernel), Nat.le_refl _, (fun x hx => by cases hx)⟩⟩
  · rw [((h1 16 (by omega)).2.2 (by decide +kernel)).2.2 k, eY k hk]
    show some (c + (17 + 3 * k)) = some (c + 17 + 3 * k)
    rw [Nat.add_assoc]
  · rw [((h1 8 (by omega)).2.2 (by decide +kernel)).2.1]
    rfl
  · rcases hx with hx | hx
    · cases hx
    · rcases hy with hy | hy
      · cases hy
      · rw [hx, hy]
  · have eW : ∀ k, k < 6 → 18 + 3 * k + 1 < 45 ∧ h_K bNK (18 + 3 * k) = 4 ∧ h_P bNK 192 (18 + 3 * k) = some (18 + 3 * k + 1) ∧ h_I bNK 193 (18 + 3 * k) = 0 ∧ h_K bNK (18 + 3 * k + 1) = 20 ∧ h_L bNK (18 + 3 * k + 1) = 10 := by decide +kernel
    have eV : ∀ k, k < 6 → 17 + 3 * k < 45 ∧ h_K bNK (17 + 3 * k) < 20 ∧ h_I bNK 129 (17 + 3 * k) = 0 ∧ h_I bNK 130 (17 + 3 * k) = 0 ∧ h_I bNK 131 (17 + 3 * k) = 0 := by decide +kernel
    obtain ⟨w1, w2, w3, w4, w5, w6⟩ := eW k hk
    obtain ⟨v1, v2, v3, v4, v5⟩ := eV k hk
    rw [show c + 18 + 3 * k = c + (18 + 3 * k) by omega, show c + 17 + 3 * k = c + (17 + 3 * k) by omega]
    exact ⟨ln _ 10 w1 w2 w3 w4 w5 w6 (by decide), hI _ _ _ v1 v2 v3, hI _ _ _ v1 v2 v4, hI _ _ _ v1 v2 v5⟩
  · rw [eo]
    exact p520
  · rw [eo] at hx
    cases hx
end BC
