/-! ===== the class: the log and the tree may change; undo ===== -/
section AB
variable {ow : Nat → Nat} {σ τ : Hp} {c B : Nat} {ad : Nat → Nat} {S : Sp}
/-- the tree and the log may change; the numbers are stale then -/
theorem RC.kpL {lg : List En} {FI FP RS : List Nat} (g : RC ow σ c ad B S) (h : Fm ow FI FP RS σ τ) (hF : ∀ f ∈ FI, f ∈ [320, 519, 644]) (hP : ∀ f ∈ FP, f ∈ chP) (hR : ∀ f ∈ RS, f = 9) (hS : SOk (sG S (s_n S, s_k S, lg))) (ht : CT τ (s_n S) (rp lg) ad) (hl : CL τ c ad (sG S (s_n S, s_k S, lg))) (hn : h_I τ 320 (c + 35) = nI 1) : RC ow τ c ad B (sG S (s_n S, s_k S, lg)) ∧ CFm ow ow σ τ := by
  obtain ⟨g1, g2, g3, g4, g5, ⟨xs, g6⟩, g7, g8, g9, g10, g11, g12, g13⟩ := g
  have nf : ∀ f, f ∉ [320, 519, 644] → f ∉ FI := fun f hf q => hf (hF f q)
  have np : ∀ f, f ∉ chP → f ∉ FP := fun f hf q => hf (hP f q)
  have nr : ∀ f, f ≠ 9 → f ∉ RS := fun f hf q => hf (hR f q)
  have z0 := g2.1
  have o1 : ow (c + 1) = 1 := g2.tag (q := (1, 1)) (by decide)
  have o2 : ow (c + 2) = 1 := g2.tag (q := (2, 1)) (by decide)
  have o43 : ow (c + 43) = 2 := g2.tag (q := (43, 2)) (by decide)
  have o44 : ow (c + 44) = 2 := g2.tag (q := (44, 2)) (by decide)
  have nfl : ∀ L : List Nat, (∀ f ∈ L, f ∉ [320, 519, 644]) → ∀ f ∈ L, f ∉ FI := fun L hL f hf => nf f (hL f hf)
  have npl : ∀ L : List Nat, (∀ f ∈ L, f ∉ chP) → ∀ f ∈ L, f ∉ FP := fun L hL f hf => np f (hL f hf)
  have t0 : TC ow τ c (s_n S) (s_k S) ad := g3.kp h g2 (nfl _ (by decide)) (npl _ (by decide)) (nr _ (by decide)) (g3.lk h (nr _ (by decide)) (np _ (by decide)) (nf 193 (by decide))) (fun _ _ => rfl)
  have hcf : CF ow τ c := g2.kp h (nf _ (by decide)) (nf _ (by decide)) (fun q hq => np _ ((by decide : ∀ q ∈ cfP, q.1 ∉ chP) q hq)) (nr _ (by decide)) (fun _ _ => rfl)
  have h1 : Ln τ (c + 1) 600 (s_t S) := g5.kp h (by omega) (by rw [o1]; exact nr _ (by decide)) (by rw [show c + 1 + 1 = c + 2 by omega, o2]; exact nr _ (by decide)) (np _ (by decide)) (nf _ (by decide))
  have h2 : Ln τ (c + 43) 539 xs := g6.kp h (by omega) (by rw [o43]; exact nr _ (by decide)) (by rw [show c + 43 + 1 = c + 44 by omega, o44]; exact nr _ (by decide)) (np _ (by decide)) (nf _ (by decide))
  refine ⟨⟨hS, hcf, t0, ht, h1, ⟨xs, h2⟩, g7.kp h g2 (nfl _ (by decide)) (np _ (by decide)) (nr _ (by decide)) rfl rfl, Or.inl hn, hl, g10.kp h g2 (nfl _ (by decide)) (npl _ (by decide)) (nr _ (by decide)) (nr _ (by decide)) (fun _ _ => rfl) rfl (fun _ _ _ => rfl), g11.kp h g2 (nfl _ (by decide)) (npl _ (by decide)) (nr _ (by decide)) (nr _ (by decide)) (fun _ _ => rfl) rfl, g12.kp h g2 (nf _ (by decide)) (nr _ (by decide)) rfl, g13.kp h g2 g3 (nfl _ (by decide))⟩, h.wide (fun f q => (by decide : ∀ f ∈ [320, 519, 644], f ∈ cAI) f (hF f q)) (fun f q => (by decide : ∀ f ∈ chP, f ∈ cAP) f (hP f q)) (fun f q => by rw [hR f q]; decide), fun _ _ => rfl⟩
end AB
section NK
variable {l : Launch} {D : DD} {σ : Hp} {c B : Nat} {ow ad : Nat → Nat} {S : Sp}
set_option maxHeartbeats 1000000 in
theorem c_NK_undo (g : RC ow σ c ad B S) : Cn l D m_NK_undo 0 0 [va_rf (some c)] σ (fun r τ => r = some (.int (a_undo S).1) ∧ ∃ ow' ad', RC ow' τ c ad' (B + 200) (a_undo S).2 ∧ CFm ow ow' σ τ) := by
  have k0 : h_K σ c = 11 := g.2.1.2.1 (0, 11) (by decide)
  have k37 : h_K σ (c + 37) = 30 := g.2.1.2.1 (37, 30) (by decide)
  have k35 : h_K σ (c + 35) = 6 := g.2.1.2.1 (35, 6) (by decide)
  have p643 : h_P σ 643 c = some (c + 37) := g.2.1.2.2.1 (643, 0, 37) (by decide)
  have p642 : h_P σ 642 c = some (c + 35) := g.2.1.2.2.1 (642, 0, 35) (by decide)
  have l37 : h_L σ (c + 37) = 200 := g.2.1.2.2.2.1 (37, 200) (by decide)
  have z0 := g.2.1.1
  obtain ⟨i644, hcl⟩ := g.2.2.2.2.2.2.2.2.1
  have hS := g.1
  have hl := hS.2.2.2.1
  have hlog := hS.2.2.1
  have hct : CT σ (s_n S) (rp (s_l S)) ad := g.2.2.2.1
  generalize hQ : (fun (r : Option Value) (τ : Hp) => r = some (.int (a_undo S).1) ∧ ∃ ow' ad', RC ow' τ c ad' (B + 200) (a_undo S).2 ∧ CFm ow ow' σ τ) = Q
  refine Cn.of (by decide) (by repeat (first | exact ca_0 | refine ca_i ?_ | refine ca_r ?_)) (Nat.le_of_ble_eq_true rfl) ?_
  cases hlg : s_l S with
  | nil =>
    rw [hlg] at i644
    refine r_aload_n rfl rfl ?_
    (first | refine r_getIv rfl (by first | assumption | rfl) rfl (by assumption) ?_ | refine r_getI rfl (by first | assumption | rfl) rfl ?_)
    refine r_if_gt rfl (fun q => absurd q (by decide)) (fun _ => ?_)
    refine r_iconst (v := -1) rfl (by decide) ?_
    refine r_iret rfl rfl ?_
    rw [← hQ]
    unfold a_undo
    rw [hlg]
    exact ⟨rfl, ow, ad, g.more (by omega), CFm.rf _ _⟩
  | cons e lg =>
    rw [hlg] at i644 hcl hl hlog hct
    rw [List.length_cons] at i644 hl
    obtain ⟨hcl2, a, ha, hco⟩ := hcl
    have ea : a_undo S = (nI lg.length, sG S (s_n S, s_k S, lg)) := by
      unfold a_undo
      rw [hlg]
    refine r_aload_n rfl rfl ?_
    (first | refine r_getIv rfl (by first | assumption | rfl) rfl (by assumption) ?_ | refine r_getI rfl (by first | assumption | rfl) rfl ?_)
    refine r_if_gt rfl (fun _ => ?_) (fun q => absurd (nI_lt (show 0 < lg.length + 1 by omega) (by omega)) q)
    refine r_aload_n rfl rfl ?_
    refine r_dup rfl (by first | rfl | exact rf_cat _) ?_
    (first | refine r_getIv rfl (by first | assumption | rfl) rfl (by assumption) ?_ | refine r_getI rfl (by first | assumption | rfl) rfl ?_)
    refine r_iconst (v := nI 1) rfl (by decide) ?_
    refine r_isubN rfl (by omega) ?_
    rw [show lg.length + 1 - 1 = lg.length by omega]
    refine r_putI rfl (by first | assumption | rfl) rfl (by first | exact Or.inl rfl | exact Or.inr ⟨rfl, rfl⟩) (by first | rfl | decide | assumption) (by first | rfl | decide) ?_
    generalize hσ1 : w_I σ 644 c (nI lg.length) = σ1
    have hf1 : Fm ow [320, 519, 644] chP [9] σ σ1 := by rw [← hσ1]; exact Fm.I _ _ _ (by decide)
    have e1 : h_K σ1 = h_K σ ∧ h_P σ1 = h_P σ ∧ h_L σ1 = h_L σ ∧ h_Y σ1 = h_Y σ ∧ h_z σ1 = h_z σ := by rw [← hσ1]; exact ⟨rfl, rfl, rfl, rfl, rfl⟩
    have i1 : h_I σ1 644 c = nI lg.length := by rw [← hσ1]; exact hI_w _ _ _ _
    have hct1 : CT σ1 (s_n S) (rp (e :: lg)) ad := by
      have hfi : Fm ow [644] [] [] σ σ1 := by rw [← hσ1]; exact Fm.I _ _ _ (by decide)
      have := g.2.2.2.1.kp hfi g.2.1 g.2.2.1 g.1.wf.w0 (by decide) (by decide)
      rw [show s_T S = rp (e :: lg) by unfold s_T; rw [hlg]] at this
      exact this
    have hco1 : CO σ1 ad a e (rp lg) := hco.kp hf1 (by decide) (by decide)
    have k0' : h_K σ1 c = 11 := by rw [e1.1]; exact k0
    have k37' : h_K σ1 (c + 37) = 30 := by rw [e1.1]; exact k37
    have p643' : h_P σ1 643 c = some (c + 37) := by rw [e1.2.1]; exact p643
    have l37' : h_L σ1 (c + 37) = 200 := by rw [e1.2.2.1]; exact l37
    have ha' : h_Y σ1 (c + 37) lg.length = some a := by rw [e1.2.2.2.1]; exact ha
    refine r_aload_n rfl rfl ?_
    (first | refine r_getPv rfl (by first | assumption | rfl) rfl (by assumption) ?_ | refine r_getP rfl (by first | assumption | rfl) rfl ?_)
    refine r_aload_n rfl rfl ?_
    (first | refine r_getIv rfl (by first | assumption | rfl) rfl (by assumption) ?_ | refine r_getI rfl (by first | assumption | rfl) rfl ?_)
    refine r_aald (t := 0) rfl k37' (by decide) rfl (by rw [l37']; omega) (by rw [l37']; decide) ?_
    rw [ha']
    refine r_astore_n rfl (by decide) ?_
    refine r_aload_n rfl rfl ?_
    refine r_ifnull rfl (fun hq => by cases hq) (fun _ _ => ?_)
    refine r_aload_n rfl rfl ?_
    refine r_callV (As := []) rfl (by decide) rfl hco1.2.1 rfl rfl (Nat.le_of_ble_eq_true rfl) ⟨Nat.le_of_ble_eq_true rfl, Nat.le_of_ble_eq_true rfl⟩ (c_takeBack (ow := ow) hS.1 hlog hct1 hco1) (kc' := 0) (ks' := 0) (by omega) (by omega) (by decide) ?_
    rintro r τ ⟨rfl, hct2, hf2⟩
    have hf3 : Fm ow [320, 519, 644] chP [9] σ τ := hf1.tr (hf2.wide (by decide) (by decide) (by decide))
    have k0t : h_K τ c = 11 := by rw [(hf3.2 c (by omega)).1]; exact k0
    have k35t : h_K τ (c + 35) = 6 := by rw [(hf3.2 (c + 35) (by omega)).1]; exact k35
    have p642t : h_P τ 642 c = some (c + 35) := by rw [(hf3.2 c (by omega)).2.2.2.1 642 (by decide)]; exact p642
    have i644t : h_I τ 644 c = nI lg.length := by rw [(hf2.2 c (by rw [e1.2.2.2.2]; omega)).2.2.1 644 (by decide) (fun e => by cases e)]; exact i1
    refine r_aload_n rfl rfl ?_
    (first | refine r_getPv rfl (by first | assumption | rfl) rfl (by assumption) ?_ | refine r_getP rfl (by first | assumption | rfl) rfl ?_)
    refine r_iconst (v := nI 1) rfl (by decide) ?_
    refine r_putI rfl (by first | assumption | rfl) rfl (by first | exact Or.inl rfl | exact Or.inr ⟨rfl, rfl⟩) (by first | rfl | decide | assumption) (by first | rfl | decide) ?_
    generalize hρ : w_I τ 320 (c + 35) (nI 1) = ρ
    have hf4 : Fm ow [320] [] [] τ ρ := by rw [← hρ]; exact Fm.I _ _ _ (by decide)
    have kρ : h_K ρ c = 11 := by rw [← hρ]; exact k0t
    have iρ : h_I ρ 644 c = nI lg.length := by rw [← hρ]; exact (hI_n _ _ (by decide)).trans i644t
    have nρ : h_I ρ 320 (c + 35) = nI 1 := by rw [← hρ]; exact hI_w _ _ _ _
    have hct3 : CT ρ (s_n S) (rp lg) ad := by
      rw [← hρ]
      exact hct2.to rfl rfl rfl rfl (fun z hz => (hI_n _ _ (by decide)).trans (hct2.2.2.2.2.2.2 z hz))
    have hf5 : Fm ow [320, 519, 644] chP [] σ ρ := by
      refine Fm.tr ?_ (hf4.wide (by decide) (by decide) (by decide))
      refine Fm.tr (τ := σ1) ?_ (hf2.wide (by decide) (by decide) (by decide))
      rw [← hσ1]
      exact Fm.I _ _ _ (by decide)
    have hcg : CLg ρ c ad lg := hcl2.kp hf5 g.2.1 (by decide) (by decide) (by decide)
    refine r_aload_n rfl rfl ?_
    (first | refine r_getIv rfl (by first | assumption | rfl) rfl (by assumption) ?_ | refine r_getI rfl (by first | assumption | rfl) rfl ?_)
    refine r_iret rfl rfl ?_
    rw [← hQ]
    show _ = some (Value.int (a_undo S).1) ∧ ∃ ow' ad', RC ow' _ c ad' (B + 200) (a_undo S).2 ∧ _
    rw [ea]
    obtain ⟨r1, r2⟩ := g.kpL hf5 (by decide) (by decide) (fun f q => by cases q) (hS.g (Nat.le_refl _) hS.1 (fun _ _ => rfl) hS.2.1 hlog.1 (by omega)) hct3 ⟨iρ, hcg⟩ nρ
    exact ⟨rfl, ow, ad, r1.more (by omega), r2⟩
end NK
