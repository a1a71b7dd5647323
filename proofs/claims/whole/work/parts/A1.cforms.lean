/-! ===== the class: form, word, finding, count ===== -/
section AB
variable {ow : Nat → Nat} {σ τ : Hp} {c B : Nat} {ad : Nat → Nat} {S : Sp}
/-- forms, words, tape may change; numbers may be stale -/
theorem RC.kpF {S' : Sp} {FI : List Nat} (g : RC ow σ c ad B S) (h : Fm ow FI [] [1, 2, 3] σ τ) (hF : ∀ f ∈ FI, f ∈ [129, 130, 131, 320]) (e1 : s_g S' = s_g S) (e2 : s_m S' = s_m S) (e3 : s_e S' = s_e S) (e4 : s_d S' = s_d S) (hS : SOk S') (hw : CW τ c S') (ht : Ln τ (c + 1) 600 (s_t S')) (hs : ∃ xs, Ln τ (c + 43) 539 xs) (hn : h_I τ 320 (c + 35) = nI 1 ∨ h_I τ 320 (c + 35) = nI 0 ∧ CN τ c ad S') : RC ow τ c ad B S' := by
  obtain ⟨g1, g2, g3, g4, g5, g6, g7, g8, g9, g10, g11, g12, g13⟩ := g
  have nf : ∀ f, f ∉ [129, 130, 131, 320] → f ∉ FI := fun f hf q => hf (hF f q)
  have en : s_n S' = s_n S := by unfold s_n; rw [e1]
  have ek : s_k S' = s_k S := by unfold s_k; rw [e1]
  have el : s_l S' = s_l S := by unfold s_l; rw [e1]
  have eT : s_T S' = s_T S := by unfold s_T; rw [el]
  have t0 : TC ow τ c (s_n S) (s_k S) ad := g3.kp h g2 (fun f hf => nf f (by simp only [List.mem_cons, List.not_mem_nil, or_false] at hf ⊢; omega)) (fun f _ q => by cases q) (by decide) (g3.lk h (by decide) (fun q => by cases q) (nf 193 (by decide))) (fun _ _ => rfl)
  refine ⟨hS, g2.kp h (nf _ (by decide)) (nf _ (by decide)) (fun q _ w => by cases w) (by decide) (fun _ _ => rfl), by rw [en, ek]; exact t0, by rw [en, eT]; exact g4.kp h g2 g3 g1.wf.w0 (nf _ (by decide)) (fun f _ q => by cases q), ht, hs, hw, hn, ?_, g10.kp h g2 (fun f hf => nf f (by simp only [List.mem_cons, List.not_mem_nil, or_false] at hf ⊢; omega)) (fun f _ q => by cases q) (by decide) (by decide) (fun _ _ => rfl) e2 (fun q _ _ => by unfold edT; rw [e3]), g11.kp h g2 (fun f hf => nf f (by simp only [List.mem_cons, List.not_mem_nil, or_false] at hf ⊢; omega)) (fun f _ q => by cases q) (by decide) (by decide) (fun _ _ => rfl) e3, g12.kp h g2 (nf _ (by decide)) (by decide) e4, by rw [en]; exact g13.kp h g2 g3 (fun f hf => nf f (by simp only [List.mem_cons, List.not_mem_nil, or_false] at hf ⊢; omega))⟩
  have := g9.kp h g2 (fun f hf => nf f (by simp only [List.mem_cons, List.not_mem_nil, or_false] at hf ⊢; omega)) (fun f _ q => by cases q) (by decide)
  unfold CL at this ⊢
  rw [el]
  exact this
theorem CF.form {k : Nat} (h : CF ow σ c) (hk : k < 6) : h_K σ (c + 17 + 3 * k) = 3 ∧ h_P σ 128 (c + 17 + 3 * k) = some (c + 18 + 3 * k) ∧ ow (c + 18 + 3 * k) = 3 ∧ ow (c + 18 + 3 * k + 1) = 3 := by
  obtain ⟨-, h1, h2, -, h3, -⟩ := h
  match k, hk with
  | 0, _ => exact ⟨h1 (17, 3) (by decide), h2 (128, 17, 18) (by decide), h3 (18, 3) (by decide), h3 (19, 3) (by decide)⟩
  | 1, _ => exact ⟨h1 (20, 3) (by decide), h2 (128, 20, 21) (by decide), h3 (21, 3) (by decide), h3 (22, 3) (by decide)⟩
  | 2, _ => exact ⟨h1 (23, 3) (by decide), h2 (128, 23, 24) (by decide), h3 (24, 3) (by decide), h3 (25, 3) (by decide)⟩
  | 3, _ => exact ⟨h1 (26, 3) (by decide), h2 (128, 26, 27) (by decide), h3 (27, 3) (by decide), h3 (28, 3) (by decide)⟩
  | 4, _ => exact ⟨h1 (29, 3) (by decide), h2 (128, 29, 30) (by decide), h3 (30, 3) (by decide), h3 (31, 3) (by decide)⟩
  | 5, _ => exact ⟨h1 (32, 3) (by decide), h2 (128, 32, 33) (by decide), h3 (33, 3) (by decide), h3 (34, 3) (by decide)⟩
  | k + 6, hk2 => omega
end AB
section NK
variable {l : Launch} {D : DD} {σ : Hp} {c B : Nat} {ow ad : Nat → Nat} {S : Sp}
theorem inB_lt {v : Int32} {m : Nat} (h : v < 0) : inB v 0 (nI m) = false := by
  unfold inB
  rw [decide_eq_false (p := (0 : Int32) ≤ v) (fun q => absurd h (Int32.not_lt.mpr q))]
  rfl
theorem inB_gt {v : Int32} {m : Nat} (h : ¬ v ≤ nI m) : inB v 0 (nI m) = false := by
  unfold inB
  rw [decide_eq_false h, Bool.and_false]
theorem inB_in {v : Int32} {m : Nat} (h1 : ¬ v < 0) (h2 : v ≤ nI m) : inB v 0 (nI m) = true := by
  unfold inB
  rw [decide_eq_true (Int32.not_lt.mp h1), decide_eq_true h2]
  rfl
set_option maxHeartbeats 1000000 in
theorem c_NK_form {k s y j : Int32} (g : RC ow σ c ad B S) : Cn l D m_NK_form 0 0 [va_rf (some c), .int k, .int s, .int y, .int j] σ (fun r τ => r = some (.int (a_form S k s y j).1) ∧ ∃ ow' ad', RC ow' τ c ad' (B + 200) (a_form S k s y j).2 ∧ CFm ow ow' σ τ) := by
  have k0 : h_K σ c = 11 := g.2.1.2.1 (0, 11) (by decide)
  have k3 : h_K σ (c + 3) = 10 := g.2.1.2.1 (3, 10) (by decide)
  have k35 : h_K σ (c + 35) = 6 := g.2.1.2.1 (35, 6) (by decide)
  have p641 : h_P σ 641 c = some (c + 3) := g.2.1.2.2.1 (641, 0, 3) (by decide)
  have p642 : h_P σ 642 c = some (c + 35) := g.2.1.2.2.1 (642, 0, 35) (by decide)
  have c7 : (7 : Int32) = nI 7 := rfl
  have c4 : (4 : Int32) = nI 4 := rfl
  have c2 : (2 : Int32) = nI 2 := rfl
  generalize hQ : (fun (r : Option Value) (τ : Hp) => r = some (.int (a_form S k s y j).1) ∧ ∃ ow' ad', RC ow' τ c ad' (B + 200) (a_form S k s y j).2 ∧ CFm ow ow' σ τ) = Q
  refine Cn.of (by decide) (by repeat (first | exact ca_0 | refine ca_i ?_ | refine ca_r ?_)) (Nat.le_of_ble_eq_true rfl) ?_
  have no : ∀ z5, (inB k 0 5 && inB s 0 7 && inB y 0 4 && inB j 0 2) = false → Gm l D m_NK_form 0 0 Q 45 [some (va_rf (some c)), some (.int k), some (.int s), some (.int y), some (.int j), z5] [] σ 0 0 := by
    intro z5 hb
    refine r_bipush (v := -2) rfl (by decide) ?_
    refine r_iret rfl rfl ?_
    rw [← hQ]
    unfold a_form
    rw [if_neg (by rw [hb]; decide)]
    exact ⟨rfl, ow, ad, g.more (by omega), CFm.rf _ _⟩
  refine r_aload_n rfl rfl ?_
  (first | refine r_getPv rfl (by first | assumption | rfl) rfl (by assumption) ?_ | refine r_getP rfl (by first | assumption | rfl) rfl ?_)
  refine r_iload_n rfl rfl ?_
  refine r_callV (As := [_]) rfl (by decide) rfl k3 rfl rfl (Nat.le_of_ble_eq_true rfl) ⟨Nat.le_of_ble_eq_true rfl, Nat.le_of_ble_eq_true rfl⟩ (c_formOf g.2.1) (kc' := 0) (ks' := 0) (by omega) (by omega) (by decide) ?_
  rintro r σ ⟨rfl, rfl⟩
  refine r_astore rfl (by decide) ?_
  refine r_aload rfl rfl ?_
  cases hki : kiI k with
  | none =>
    refine r_ifnull rfl (fun _ => no _ ?_) (fun _ hq => by cases hq)
    unfold kiI at hki
    by_cases hin : inB k 0 5 = true
    · rw [if_pos hin] at hki; cases hki
    · rw [Bool.eq_false_iff.mpr hin]; rfl
  | some q =>
    obtain ⟨rfl, hq6⟩ := kiI_some hki
    have hk5 : inB (nI q) 0 5 = true := inB_in (m := 5) (nI_pos (by omega)) (nI_le (by omega) (by omega))
    obtain ⟨kf, pf, -, -⟩ := g.2.1.form hq6
    refine r_ifnull rfl (fun hq => by cases hq) (fun _ _ => ?_)
    show Gm l D m_NK_form 0 0 Q 15 [some (va_rf (some c)), some (.int (nI q)), some (.int s), some (.int y), some (.int j), some (va_rf (some (c + 17 + 3 * q)))] [] σ 0 0
    refine r_iload_n rfl rfl ?_
    refine r_if_lt rfl (fun hlt => no _ (by rw [c7, inB_lt hlt]; simp)) (fun s1 => ?_)
    refine r_iload_n rfl rfl ?_
    refine r_bipush (v := nI 7) rfl (by decide) ?_
    refine r_icmp_gt rfl (fun hgt => no _ (by rw [c7, inB_gt (Int32.not_le.mpr hgt)]; simp)) (fun s2 => ?_)
    refine r_iload_n rfl rfl ?_
    refine r_if_lt rfl (fun hlt => no _ (by rw [c4, inB_lt hlt]; simp)) (fun y1 => ?_)
    refine r_iload_n rfl rfl ?_
    refine r_iconst (v := nI 4) rfl (by decide) ?_
    refine r_icmp_gt rfl (fun hgt => no _ (by rw [c4, inB_gt (Int32.not_le.mpr hgt)]; simp)) (fun y2 => ?_)
    refine r_iload rfl rfl ?_
    refine r_if_lt rfl (fun hlt => no _ (by rw [c2, inB_lt hlt]; simp)) (fun j1 => ?_)
    refine r_iload rfl rfl ?_
    refine r_iconst (v := nI 2) rfl (by decide) ?_
    refine r_icmp_le rfl (fun j2 => ?_) (fun hgt => no _ (by rw [c2, inB_gt hgt]; simp))
    have hall : (inB (nI q) 0 5 && inB s 0 7 && inB y 0 4 && inB j 0 2) = true := by
      rw [hk5, c7, inB_in s1 (Int32.not_lt.mp s2), c4, inB_in y1 (Int32.not_lt.mp y2), c2, inB_in j1 j2]
      rfl
    have ea : a_form S (nI q) s y j = (1, sF S (u_1 (s_f S) q (s.toNatClampNeg, y.toNatClampNeg, j.toNatClampNeg))) := by
      unfold a_form
      rw [if_pos hall, nI_clamp (by omega)]
    obtain ⟨s', hs, rfl⟩ := inB_nI (m := 7) (by omega) (inB_in s1 (Int32.not_lt.mp s2))
    obtain ⟨y', hy, rfl⟩ := inB_nI (m := 4) (by omega) (inB_in y1 (Int32.not_lt.mp y2))
    obtain ⟨j', hj, rfl⟩ := inB_nI (m := 2) (by omega) (inB_in j1 j2)
    rw [nI_clamp (by omega), nI_clamp (by omega), nI_clamp (by omega)] at ea
    refine r_aload rfl rfl ?_
    refine r_iload_n rfl rfl ?_
    refine r_putI rfl (by first | assumption | rfl) rfl (by first | exact Or.inl rfl | exact Or.inr ⟨rfl, rfl⟩) (by first | rfl | decide | assumption) (by first | rfl | decide) ?_
    refine r_aload rfl rfl ?_
    refine r_iload_n rfl rfl ?_
    refine r_putI rfl (by first | assumption | rfl) rfl (by first | exact Or.inl rfl | exact Or.inr ⟨rfl, rfl⟩) (by first | rfl | decide | assumption) (by first | rfl | decide) ?_
    refine r_aload rfl rfl ?_
    refine r_iload rfl rfl ?_
    refine r_putI rfl (by first | assumption | rfl) rfl (by first | exact Or.inl rfl | exact Or.inr ⟨rfl, rfl⟩) (by first | rfl | decide | assumption) (by first | rfl | decide) ?_
    refine r_aload_n rfl rfl ?_
    (first | refine r_getPv rfl (by first | assumption | rfl) rfl (by assumption) ?_ | refine r_getP rfl (by first | assumption | rfl) rfl ?_)
    refine r_iconst (v := nI 1) rfl (by decide) ?_
    refine r_putI rfl (by first | assumption | rfl) rfl (by first | exact Or.inl rfl | exact Or.inr ⟨rfl, rfl⟩) (by first | rfl | decide | assumption) (by first | rfl | decide) ?_
    refine r_iconst (v := nI 1) rfl (by decide) ?_
    refine r_iret rfl rfl ?_
    rw [← hQ]
    show _ = some (Value.int (a_form S (nI q) (nI s') (nI y') (nI j')).1) ∧ ∃ ow' ad', RC ow' _ c ad' (B + 200) (a_form S (nI q) (nI s') (nI y') (nI j')).2 ∧ _
    rw [ea]
    generalize hτ : w_I (w_I (w_I (w_I σ 129 (c + 17 + 3 * q) (nI s')) 130 (c + 17 + 3 * q) (nI y')) 131 (c + 17 + 3 * q) (nI j')) 320 (c + 35) (nI 1) = τ
    have hf : Fm ow [129, 130, 131, 320] [] [1, 2, 3] σ τ := by
      rw [← hτ]
      exact (((Fm.I _ _ _ (by decide)).tr (Fm.I _ _ _ (by decide))).tr (Fm.I _ _ _ (by decide))).tr (Fm.I _ _ _ (by decide))
    have hX : h_X τ = h_X σ ∧ h_K τ = h_K σ ∧ h_P τ = h_P σ ∧ h_L τ = h_L σ := by rw [← hτ]; exact ⟨rfl, rfl, rfl, rfl⟩
    have hLn : ∀ a cap xs, Ln σ a cap xs → Ln τ a cap xs := by
      intro a cap xs hln
      unfold Ln at hln ⊢
      rw [hX.1, hX.2.1, hX.2.2.1, hX.2.2.2]
      have : h_I τ 193 a = h_I σ 193 a := by
        rw [← hτ, hI_n _ _ (by decide), hI_n _ _ (by decide), hI_n _ _ (by decide), hI_n _ _ (by decide)]
      rw [this]
      exact hln
    have hI3 : ∀ f b, f ≠ 320 → f = 129 ∨ f = 130 ∨ f = 131 → b ≠ c + 17 + 3 * q → h_I τ f b = h_I σ f b := by
      intro f b hf0 hf1 hb
      have m2 : ∀ (π : Hp) (ff : Nat) (v : Int32), h_I (w_I π ff (c + 17 + 3 * q) v) f b = h_I π f b := fun π ff v => u2_n2 _ _ hb
      rw [← hτ, hI_n _ _ hf0, m2, m2, m2]
    have v129 : h_I τ 129 (c + 17 + 3 * q) = nI s' := by rw [← hτ, hI_n _ _ (by decide), hI_n _ _ (by decide), hI_n _ _ (by decide), hI_w]
    have v130 : h_I τ 130 (c + 17 + 3 * q) = nI y' := by rw [← hτ, hI_n _ _ (by decide), hI_n _ _ (by decide), hI_w]
    have v131 : h_I τ 131 (c + 17 + 3 * q) = nI j' := by rw [← hτ, hI_n _ _ (by decide), hI_w]
    have v320 : h_I τ 320 (c + 35) = nI 1 := by rw [← hτ, hI_w]
    obtain ⟨xs, g6⟩ := g.2.2.2.2.2.1
    refine ⟨rfl, ow, ad, (RC.kpF (S' := sF S (u_1 (s_f S) q (s', y', j'))) g hf (fun f hf => hf) rfl rfl rfl rfl (g.1.f (fun z hz => ?_)) (fun z hz => ?_) (hLn _ _ _ g.2.2.2.2.1) ⟨xs, hLn _ _ _ g6⟩ (Or.inl v320)).more (by omega), hf.wide (by decide) (by decide) (by decide), fun _ _ => rfl⟩
    · unfold f_c f_y f_j
      by_cases ez : z = q
      · rw [ez, u1_s]
        show s' < 8 ∧ y' < 5 ∧ j' < 3
        omega
      · rw [u1_n _ _ ez]; exact g.1.2.2.2.2.2.1 z hz
    · obtain ⟨w1, w2, w3, w4⟩ := g.2.2.2.2.2.2.1 z hz
      refine ⟨hLn _ _ _ w1, ?_⟩
      show _ = nI (f_c (u_1 (s_f S) q (s', y', j')) z) ∧ _ = nI (f_y (u_1 (s_f S) q (s', y', j')) z) ∧ _ = nI (f_j (u_1 (s_f S) q (s', y', j')) z)
      unfold f_c f_y f_j
      by_cases ez : z = q
      · rw [ez, u1_s, v129, v130, v131]
        exact ⟨rfl, rfl, rfl⟩
      · have hne : c + 17 + 3 * z ≠ c + 17 + 3 * q := by omega
        rw [u1_n _ _ ez, hI3 129 _ (by decide) (Or.inl rfl) hne, hI3 130 _ (by decide) (Or.inr (Or.inl rfl)) hne, hI3 131 _ (by decide) (Or.inr (Or.inr rfl)) hne]
        exact ⟨w2, w3, w4⟩
theorem c_NK_word {k : Int32} (g : RC ow σ c ad B S) : Cn l D m_NK_word 0 0 [va_rf (some c), .int k] σ (fun r τ => r = some (.int (a_word S k).1) ∧ ∃ ow' ad', RC ow' τ c ad' (B + 200) (a_word S k).2 ∧ CFm ow ow' σ τ) := by
  obtain ⟨k0, p0, o1, o2, ln, hl⟩ := g.tape
  have k3 : h_K σ (c + 3) = 10 := g.2.1.2.1 (3, 10) (by decide)
  have p641 : h_P σ 641 c = some (c + 3) := g.2.1.2.2.1 (641, 0, 3) (by decide)
  have k1 := ln.1
  have i1 := ln.2.2.1
  generalize hQ : (fun (r : Option Value) (τ : Hp) => r = some (.int (a_word S k).1) ∧ ∃ ow' ad', RC ow' τ c ad' (B + 200) (a_word S k).2 ∧ CFm ow ow' σ τ) = Q
  refine Cn.of (by decide) (by repeat (first | exact ca_0 | refine ca_i ?_ | refine ca_r ?_)) (Nat.le_of_ble_eq_true rfl) ?_
  have no : ∀ z2, (inB k 0 5 && decide ((s_t S).length ≤ 10) && (s_t S).all isL) = false → Gm l D m_NK_word 0 0 Q 57 [some (va_rf (some c)), some (.int k), z2, some (.int (-2))] [] σ 0 0 := by
    intro z2 hb
    obtain ⟨l1, l2⟩ := ln.cut 0 (Nat.zero_le _)
    rw [List.take_zero] at l1
    refine r_aload_n rfl rfl ?_
    (first | refine r_getPv rfl (by first | assumption | rfl) rfl (by assumption) ?_ | refine r_getP rfl (by first | assumption | rfl) rfl ?_)
    refine r_iconst (v := nI 0) rfl (by decide) ?_
    refine r_putI rfl (by first | assumption | rfl) rfl (by first | exact Or.inl rfl | exact Or.inr ⟨rfl, rfl⟩) (by first | rfl | decide | assumption) (by first | rfl | decide) ?_
    refine r_iload_n rfl rfl ?_
    refine r_iret rfl rfl ?_
    rw [← hQ]
    unfold a_word
    rw [if_neg (by rw [hb]; decide)]
    obtain ⟨r1, r2⟩ := g.tapeTo l2 l1 (by simp)
    exact ⟨rfl, ow, ad, r1.more (by omega), r2⟩
  refine r_aload_n rfl rfl ?_
  (first | refine r_getPv rfl (by first | assumption | rfl) rfl (by assumption) ?_ | refine r_getP rfl (by first | assumption | rfl) rfl ?_)
  refine r_iload_n rfl rfl ?_
  refine r_callV (As := [_]) rfl (by decide) rfl k3 rfl rfl (Nat.le_of_ble_eq_true rfl) ⟨Nat.le_of_ble_eq_true rfl, Nat.le_of_ble_eq_true rfl⟩ (c_formOf g.2.1) (kc' := 0) (ks' := 0) (by omega) (by omega) (by decide) ?_
  rintro r σ ⟨rfl, rfl⟩
  refine r_astore_n rfl (by decide) ?_
  refine r_bipush (v := -2) rfl (by decide) ?_
  refine r_istore_n rfl (by decide) ?_
  refine r_aload_n rfl rfl ?_
  cases hki : kiI k with
  | none =>
    refine r_ifnull rfl (fun _ => no _ ?_) (fun _ hq => by cases hq)
    unfold kiI at hki
    by_cases hin : inB k 0 5 = true
    · rw [if_pos hin] at hki; cases hki
    · rw [Bool.eq_false_iff.mpr hin]; rfl
  | some q =>
    obtain ⟨rfl, hq6⟩ := kiI_some hki
    have hk5 : inB (nI q) 0 5 = true := inB_in (m := 5) (nI_pos (by omega)) (nI_le (by omega) (by omega))
    obtain ⟨kf, pf, t1, t2⟩ := g.2.1.form hq6
    refine r_ifnull rfl (fun hq => by cases hq) (fun _ _ => ?_)
    show Gm l D m_NK_word 0 0 Q 16 [some (va_rf (some c)), some (.int (nI q)), some (va_rf (some (c + 17 + 3 * q))), some (.int (-2))] [] σ 0 0
    refine r_aload_n rfl rfl ?_
    (first | refine r_getPv rfl (by first | assumption | rfl) rfl (by assumption) ?_ | refine r_getP rfl (by first | assumption | rfl) rfl ?_)
    (first | refine r_getIv rfl (by first | assumption | rfl) rfl (by assumption) ?_ | refine r_getI rfl (by first | assumption | rfl) rfl ?_)
    refine r_bipush (v := nI 10) rfl (by decide) ?_
    refine r_gtN rfl (by omega) (by omega) (fun hgt => no _ (by rw [decide_eq_false (show ¬ (s_t S).length ≤ 10 by omega)]; simp)) (fun hle => ?_)
    refine r_aload_n rfl rfl ?_
    (first | refine r_getPv rfl (by first | assumption | rfl) rfl (by assumption) ?_ | refine r_getP rfl (by first | assumption | rfl) rfl ?_)
    refine r_callV (As := []) rfl (by decide) rfl k1 rfl rfl (Nat.le_of_ble_eq_true rfl) ⟨Nat.le_of_ble_eq_true rfl, Nat.le_of_ble_eq_true rfl⟩ (c_isLettersAlone ln) (kc' := 0) (ks' := 0) (by omega) (by omega) (by decide) ?_
    rintro r σ ⟨rfl, rfl⟩
    refine r_ifeqB rfl (fun hb => no _ (by rw [hb, Bool.and_false])) (fun hb => ?_)
    obtain ⟨w1, w2, w3, w4⟩ := g.2.2.2.2.2.2.1 q hq6
    have kw := w1.1
    refine r_aload_n rfl rfl ?_
    (first | refine r_getPv rfl (by first | assumption | rfl) rfl (by assumption) ?_ | refine r_getP rfl (by first | assumption | rfl) rfl ?_)
    refine r_aload_n rfl rfl ?_
    (first | refine r_getPv rfl (by first | assumption | rfl) rfl (by assumption) ?_ | refine r_getP rfl (by first | assumption | rfl) rfl ?_)
    refine r_callV (As := [_]) rfl (by decide) rfl kw rfl rfl (Nat.le_of_ble_eq_true rfl) ⟨Nat.le_of_ble_eq_true rfl, Nat.le_of_ble_eq_true rfl⟩ (c_setTo w1 ln (by omega) hle) (kc' := 0) (ks' := 0) (by omega) (by omega) (by decide) ?_
    rintro r τ ⟨rfl, ml, mf⟩
    have ln2 := mf.keep (by omega) ln
    have k0' : h_K τ c = 11 := by rw [mf.2.1]; exact k0
    have p0' : h_P τ 640 c = some (c + 1) := by rw [mf.2.2.1]; exact p0
    have k1' := ln2.1
    have i1' := ln2.2.2.1
    obtain ⟨l1, l2⟩ := ln2.cut 0 (Nat.zero_le _)
    rw [List.take_zero] at l1
    refine r_aload_n rfl rfl ?_
    (first | refine r_getPv rfl (by first | assumption | rfl) rfl (by assumption) ?_ | refine r_getP rfl (by first | assumption | rfl) rfl ?_)
    (first | refine r_getIv rfl (by first | assumption | rfl) rfl (by assumption) ?_ | refine r_getI rfl (by first | assumption | rfl) rfl ?_)
    refine r_istore_n rfl (by decide) ?_
    refine r_aload_n rfl rfl ?_
    (first | refine r_getPv rfl (by first | assumption | rfl) rfl (by assumption) ?_ | refine r_getP rfl (by first | assumption | rfl) rfl ?_)
    refine r_iconst (v := nI 0) rfl (by decide) ?_
    refine r_putI rfl (by first | assumption | rfl) rfl (by first | exact Or.inl rfl | exact Or.inr ⟨rfl, rfl⟩) (by first | rfl | decide | assumption) (by first | rfl | decide) ?_
    refine r_iload_n rfl rfl ?_
    refine r_iret rfl rfl ?_
    rw [← hQ]
    have ea : a_word S (nI q) = (nI (s_t S).length, sT (sW S (u_1 (s_w S) q (s_t S))) []) := by
      unfold a_word
      rw [if_pos (by rw [hk5, decide_eq_true hle, hb]; rfl), nI_clamp (by omega)]
    show _ = some (Value.int (a_word S (nI q)).1) ∧ ∃ ow' ad', RC ow' _ c ad' (B + 200) (a_word S (nI q)).2 ∧ _
    rw [ea]
    have hf1 : Fm ow [] [] [1, 2, 3] σ τ := Fm.L mf (by rw [t1]; decide) (by rw [t2]; decide)
    have hf2 : Fm ow [] [] [1, 2, 3] τ (w_I τ 193 (c + 1) (nI 0)) := Fm.L l2 (by rw [o1]; decide) (by rw [o2]; decide)
    have hf := hf1.tr hf2
    obtain ⟨xs, g6⟩ := g.2.2.2.2.2.1
    have z0 := g.2.1.1
    have ml2 := l2.keep (show c + 18 + 3 * q ≠ c + 1 by omega) ml
    refine ⟨rfl, ow, ad, (RC.kpF (S' := sT (sW S (u_1 (s_w S) q (s_t S))) []) g hf (fun f q => by cases q) rfl rfl rfl rfl ((g.1.w (fun z hz => ?_)).t (by simp)) (fun z hz => ?_) l1 ⟨xs, l2.keep (by omega) (mf.keep (by omega) g6)⟩ ?_).more (by omega), hf.wide (fun f q => by cases q) (fun f q => by cases q) (by decide), fun _ _ => rfl⟩
    · by_cases ez : z = q
      · rw [ez, u1_s]; exact ⟨hle, hb⟩
      · rw [u1_n _ _ ez]; exact g.1.2.2.2.2.1 z hz
    · obtain ⟨v1, v2, v3, v4⟩ := g.2.2.2.2.2.2.1 z hz
      have hI : ∀ ff b, ff ≠ 193 → h_I (w_I τ 193 (c + 1) (nI 0)) ff b = h_I σ ff b := fun ff b hff => (hI_n _ _ hff).trans (mf.2.2.2.2.2.1 ff b (fun e => hff e.1))
      refine ⟨?_, by rw [hI 129 _ (by decide)]; exact v2, by rw [hI 130 _ (by decide)]; exact v3, by rw [hI 131 _ (by decide)]; exact v4⟩
      show Ln _ _ _ (u_1 (s_w S) q (s_t S) z)
      by_cases ez : z = q
      · rw [ez, u1_s]; exact ml2
      · rw [u1_n _ _ ez]
        exact l2.keep (by omega) (mf.keep (by omega) v1)
    · have e320 : h_I (w_I τ 193 (c + 1) (nI 0)) 320 (c + 35) = h_I σ 320 (c + 35) := (hI_n _ _ (by decide)).trans (mf.2.2.2.2.2.1 320 _ (fun e => by cases e.1))
      rw [e320]
      rcases g.2.2.2.2.2.2.2.1 with hst | ⟨hst, hcn⟩
      · exact Or.inl hst
      · have hcn2 : CN (w_I τ 193 (c + 1) (nI 0)) c ad S := CN.kp hf g.2.1 g.1 g.2.2.1 (fun x hx => g.2.2.2.1.1 x (Or.inl hx)) (fun f _ q => by cases q) (fun f _ q => by cases q) (by decide) hcn
        exact Or.inr ⟨hst, hcn2⟩
theorem c_NK_find {i w : Int32} (g : RC ow σ c ad B S) : Cn l D m_NK_finding 0 0 [va_rf (some c), .int i, .int w] σ (fun r τ => r = some (.int (a_find S i w)) ∧ ∃ ow' ad', RC ow' τ c ad' (B + 200) S ∧ CFm ow ow' σ τ) := by
  have k0 : h_K σ c = 11 := g.2.1.2.1 (0, 11) (by decide)
  have k41 : h_K σ (c + 41) = 7 := g.2.1.2.1 (41, 7) (by decide)
  have k42 : h_K σ (c + 42) = 21 := g.2.1.2.1 (42, 21) (by decide)
  have l42 : h_L σ (c + 42) = 200 := g.2.1.2.2.2.1 (42, 200) (by decide)
  have p650 : h_P σ 650 c = some (c + 41) := g.2.1.2.2.1 (650, 0, 41) (by decide)
  have p386 : h_P σ 386 (c + 41) = some (c + 42) := g.2.1.2.2.1 (386, 41, 42) (by decide)
  obtain ⟨i387, hlen, hcr⟩ := g.2.2.2.2.2.2.2.2.2.2.2.1
  have cell : Cn l D m_Reader_cell 0 0 [va_rf (some (c + 41)), .int i, .int w] σ (fun r τ => r = some (.int (a_find S i w)) ∧ τ = σ) := by
    generalize hQ : (fun (r : Option Value) (τ : Hp) => r = some (.int (a_find S i w)) ∧ τ = σ) = Q
    refine Cn.of (by decide) (by repeat (first | exact ca_0 | refine ca_i ?_ | refine ca_r ?_)) (Nat.le_of_ble_eq_true rfl) ?_
    have no : a_find S i w = -10 → Gm l D m_Reader_cell 0 0 Q 31 [some (va_rf (some (c + 41))), some (.int i), some (.int w), none] [] σ 0 0 := by
      intro ea
      refine r_iconst (v := nI 0) rfl (by decide) ?_
      refine r_istore_n rfl (by decide) ?_
      refine r_iload_n rfl rfl ?_
      refine r_if_eq rfl (fun _ => ?_) (fun hne => absurd rfl hne)
      refine r_bipush (v := -10) rfl (by decide) ?_
      refine r_iret rfl rfl ?_
      rw [← hQ]
      exact ⟨by rw [ea], rfl⟩
    refine r_iload_n rfl rfl ?_
    refine r_if_lt rfl (fun hlt => no (by unfold a_find; rw [if_pos (Or.inl hlt)])) (fun hge => ?_)
    obtain ⟨z, hz, rfl⟩ := nI_of hge
    refine r_iload_n rfl rfl ?_
    refine r_aload_n rfl rfl ?_
    (first | refine r_getIv rfl (by first | assumption | rfl) rfl (by assumption) ?_ | refine r_getI rfl (by first | assumption | rfl) rfl ?_)
    refine r_geN rfl (by omega) (by omega) (fun hz1 => no ?_) (fun hz1 => ?_)
    · unfold a_find
      by_cases h40 : nI z < 0 ∨ nI 40 ≤ nI z
      · rw [if_pos h40]
      · rw [if_neg h40, nI_clamp hz, List.getElem?_eq_none (by omega)]
    refine r_iload_n rfl rfl ?_
    refine r_bipush (v := nI 40) rfl (by decide) ?_
    refine r_geN rfl (by omega) (by omega) (fun hz2 => no (by unfold a_find; rw [if_pos (Or.inr (nI_le hz2 (by omega)))])) (fun hz2 => ?_)
    obtain ⟨⟨f, t, k, m, p⟩, hq⟩ : ∃ q, (s_d S)[z]? = some q := ⟨_, List.getElem?_eq_getElem hz1⟩
    obtain ⟨v1, v2, v3, v4, v5⟩ := hcr z f t k m p hz2 hq
    have ea : a_find S (nI z) w = if w < 0 then -10 else fiV (f, t, k, m, p) w.toNatClampNeg := by
      unfold a_find
      rw [if_neg (fun z0 => z0.elim (nI_pos hz) (nI_ge hz2 (by omega))), nI_clamp hz, hq]
    refine r_iload_n rfl rfl ?_
    refine r_if_lt rfl (fun hlt => no (by rw [ea, if_pos hlt])) (fun hge2 => ?_)
    obtain ⟨u, hu, rfl⟩ := nI_of hge2
    rw [if_neg (nI_pos hu), nI_clamp hu] at ea
    refine r_iload_n rfl rfl ?_
    refine r_iconst (v := nI 5) rfl (by decide) ?_
    refine r_geN rfl (by omega) (by omega) (fun hu5 => no ?_) (fun hu5 => ?_)
    · rw [ea]
      match u, hu5 with
      | u + 5, _ => rfl
    refine r_iconst (v := nI 1) rfl (by decide) ?_
    refine r_goto rfl ?_
    refine r_istore_n rfl (by decide) ?_
    refine r_iload_n rfl rfl ?_
    refine r_if_eq rfl (fun heq => absurd heq (by decide)) (fun _ => ?_)
    refine r_aload_n rfl rfl ?_
    (first | refine r_getPv rfl (by first | assumption | rfl) rfl (by assumption) ?_ | refine r_getP rfl (by first | assumption | rfl) rfl ?_)
    refine r_iload_n rfl rfl ?_
    refine r_iconst (v := nI 5) rfl (by decide) ?_
    (first | refine r_imulN rfl ?_ | refine r_imul rfl ?_)
    refine r_iload_n rfl rfl ?_
    (first | refine r_iaddN rfl ?_ | refine r_iadd rfl ?_)
    refine r_iald rfl k42 rfl (by rw [l42]; omega) (by rw [l42]; decide) ?_
    refine r_goto rfl ?_
    refine r_iret rfl rfl ?_
    rw [← hQ]
    refine ⟨?_, rfl⟩
    rw [ea]
    rw [show z * 5 = 5 * z by omega]
    match u, hu5 with
    | 0, _ => rw [show h_X σ (c + 42) (5 * z + 0) = nI f from v1]; rfl
    | 1, _ => rw [v2]; rfl
    | 2, _ => rw [v3]; rfl
    | 3, _ => rw [v4]; rfl
    | 4, _ => rw [v5]; rfl
    | u + 5, h9 => omega
  refine Cn.of (by decide) (by repeat (first | exact ca_0 | refine ca_i ?_ | refine ca_r ?_)) (Nat.le_of_ble_eq_true rfl) ?_
  refine r_aload_n rfl rfl ?_
  (first | refine r_getPv rfl (by first | assumption | rfl) rfl (by assumption) ?_ | refine r_getP rfl (by first | assumption | rfl) rfl ?_)
  refine r_iload_n rfl rfl ?_
  refine r_iload_n rfl rfl ?_
  refine r_callV (As := [_, _]) rfl (by decide) rfl k41 rfl rfl (Nat.le_of_ble_eq_true rfl) ⟨Nat.le_of_ble_eq_true rfl, Nat.le_of_ble_eq_true rfl⟩ (cell) (kc' := 0) (ks' := 0) (by omega) (by omega) (by decide) ?_
  rintro r σ ⟨rfl, rfl⟩
  exact r_iret rfl rfl ⟨rfl, ow, ad, g.more (by omega), CFm.rf _ _⟩
end NK
