/-! ===== the reference: a new one ===== -/
def MI (σ π : Hp) (o j : Nat) : Prop := h_z π = o + 1 + j ∧ h_K π o = 12 ∧ (∀ i, i < j → h_P π (mF i) o = some (o + 1 + i) ∧ h_K π (o + 1 + i) = mT i ∧ h_L π (o + 1 + i) = mN i ∧ h_X π (o + 1 + i) = fun _ => 0) ∧ (∀ f, h_I π f o = 0) ∧
  ∀ a, a < o → h_K π a = h_K σ a ∧ (∀ f, h_I π f a = h_I σ f a) ∧ (∀ f, h_P π f a = h_P σ f a) ∧ h_L π a = h_L σ a ∧ h_X π a = h_X σ a ∧ h_Y π a = h_Y σ a
theorem mF_inj : ∀ i, i < 40 → ∀ j, j < 40 → mF i = mF j → i = j := by decide +kernel
theorem MI.step {σ π : Hp} {o j : Nat} (h : MI σ π o j) (hj : j < 40) : MI σ (w_P (n_A π (mT j) (mN j)) (mF j) o (some (h_z π))) o (j + 1) := by
  obtain ⟨h1, h2, h3, h4, h5⟩ := h
  refine ⟨?_, ?_, fun i hi => ?_, h4, fun a ha => ?_⟩
  · show h_z π + 1 = _
    omega
  · show u_1 (h_K π) (h_z π) (mT j) o = 12
    rw [u1_n _ _ (by omega)]
    exact h2
  · by_cases e : i = j
    · subst e
      refine ⟨?_, ?_, ?_, ?_⟩
      · show u_2 (h_P π) (mF i) o (some (h_z π)) (mF i) o = _
        rw [u2_s, h1]
      · show u_1 (h_K π) (h_z π) (mT i) (o + 1 + i) = _
        rw [← h1, u1_s]
      · show u_1 (h_L π) (h_z π) (mN i) (o + 1 + i) = _
        rw [← h1, u1_s]
      · show u_1 (h_X π) (h_z π) (fun _ => 0) (o + 1 + i) = _
        rw [← h1, u1_s]
    · obtain ⟨g1, g2, g3, g4⟩ := h3 i (by omega)
      refine ⟨?_, ?_, ?_, ?_⟩
      · show u_2 (h_P π) (mF j) o (some (h_z π)) (mF i) o = _
        rw [u2_n1 _ _ (fun q => e (mF_inj i (by omega) j hj q))]
        exact g1
      · show u_1 (h_K π) (h_z π) (mT j) (o + 1 + i) = _
        rw [u1_n _ _ (by omega)]
        exact g2
      · show u_1 (h_L π) (h_z π) (mN j) (o + 1 + i) = _
        rw [u1_n _ _ (by omega)]
        exact g3
      · show u_1 (h_X π) (h_z π) (fun _ => 0) (o + 1 + i) = _
        rw [u1_n _ _ (by omega)]
        exact g4
  · obtain ⟨g1, g2, g3, g4, g5, g6⟩ := h5 a ha
    refine ⟨?_, g2, fun f => ?_, ?_, ?_, ?_⟩
    · show u_1 (h_K π) (h_z π) (mT j) a = _
      rw [u1_n _ _ (by omega)]
      exact g1
    · show u_2 (h_P π) (mF j) o (some (h_z π)) f a = _
      rw [u2_n2 _ _ (by omega)]
      exact g3 f
    · show u_1 (h_L π) (h_z π) (mN j) a = _
      rw [u1_n _ _ (by omega)]
      exact g4
    · show u_1 (h_X π) (h_z π) (fun _ => 0) a = _
      rw [u1_n _ _ (by omega)]
      exact g5
    · show u_1 (h_Y π) (h_z π) (fun _ => none) a = _
      rw [u1_n _ _ (by omega)]
      exact g6
section MC
variable {l : Launch} {D : DD} {σ : Hp} {o : Nat}
set_option maxRecDepth 100000 in
set_option maxHeartbeats 4000000 in
theorem c_M_init (hk : h_K σ o = 12) (hz : h_z σ = o + 1) (hI : ∀ f, h_I σ f o = 0) : Cn l D m_M_init 40 87944 [va_rf (some o)] σ (fun r τ => r = none ∧ MI σ τ o 40) := by
  have h0 : MI σ σ o 0 := ⟨hz, hk, fun i hi => (by omega), hI, fun a ha => ⟨rfl, fun _ => rfl, fun _ => rfl, rfl, rfl, rfl⟩⟩
  generalize hQ : (fun (r : Option Value) (τ : Hp) => r = none ∧ MI σ τ o 40) = Q
  refine Cn.of (by decide) (by repeat (first | exact ca_0 | refine ca_i ?_ | refine ca_r ?_)) (Nat.le_of_ble_eq_true rfl) ?_
  refine r_aload_n rfl rfl ?_
  refine r_objInit rfl (by decide) ⟨Nat.le_of_ble_eq_true rfl, Nat.le_of_ble_eq_true rfl⟩ ?_
  refine r_aload_n rfl rfl ?_
  refine r_sipush (v := nI 600) rfl (by decide) ?_
  refine r_newa (m' := 600) (kc := 39) (ks := 87344) rfl rfl (by decide) (fun _ => ?_)
  refine r_putP rfl (show u_1 (h_K σ) (h_z σ) _ o = 12 by rw [u1_n _ _ (by have := h0.1; omega)]; exact h0.2.1) rfl (Or.inr ⟨rfl, rfl⟩) ?_
  have h1 : MI σ (w_P (n_A σ (mT 0) 600) 704 o (some (h_z σ))) o 1 := MI.step h0 (by decide)
  change Gm l D m_M_init 40 87944 Q _ _ [] (w_P (n_A σ (mT 0) 600) 704 o (some (h_z σ))) _ _
  generalize w_P (n_A σ (mT 0) 600) 704 o (some (h_z σ)) = π1 at h1 ⊢
  refine r_aload_n rfl rfl ?_
  refine r_bipush (v := nI 60) rfl (by decide) ?_
  refine r_newa (m' := 60) (kc := 38) (ks := 87284) rfl rfl (by decide) (fun _ => ?_)
  refine r_putP rfl (show u_1 (h_K π1) (h_z π1) _ o = 12 by rw [u1_n _ _ (by have := h1.1; omega)]; exact h1.2.1) rfl (Or.inr ⟨rfl, rfl⟩) ?_
  have h2 : MI σ (w_P (n_A π1 (mT 1) 60) 706 o (some (h_z π1))) o 2 := MI.step h1 (by decide)
  change Gm l D m_M_init 40 87944 Q _ _ [] (w_P (n_A π1 (mT 1) 60) 706 o (some (h_z π1))) _ _
  generalize w_P (n_A π1 (mT 1) 60) 706 o (some (h_z π1)) = π2 at h2 ⊢
  clear h1
  refine r_aload_n rfl rfl ?_
  refine r_bipush (v := nI 6) rfl (by decide) ?_
  refine r_newa (m' := 6) (kc := 37) (ks := 87278) rfl rfl (by decide) (fun _ => ?_)
  refine r_putP rfl (show u_1 (h_K π2) (h_z π2) _ o = 12 by rw [u1_n _ _ (by have := h2.1; omega)]; exact h2.2.1) rfl (Or.inr ⟨rfl, rfl⟩) ?_
  have h3 : MI σ (w_P (n_A π2 (mT 2) 6) 707 o (some (h_z π2))) o 3 := MI.step h2 (by decide)
  change Gm l D m_M_init 40 87944 Q _ _ [] (w_P (n_A π2 (mT 2) 6) 707 o (some (h_z π2))) _ _
  generalize w_P (n_A π2 (mT 2) 6) 707 o (some (h_z π2)) = π3 at h3 ⊢
  clear h2
  refine r_aload_n rfl rfl ?_
  refine r_bipush (v := nI 6) rfl (by decide) ?_
  refine r_newa (m' := 6) (kc := 36) (ks := 87272) rfl rfl (by decide) (fun _ => ?_)
  refine r_putP rfl (show u_1 (h_K π3) (h_z π3) _ o = 12 by rw [u1_n _ _ (by have := h3.1; omega)]; exact h3.2.1) rfl (Or.inr ⟨rfl, rfl⟩) ?_
  have h4 : MI σ (w_P (n_A π3 (mT 3) 6) 708 o (some (h_z π3))) o 4 := MI.step h3 (by decide)
  change Gm l D m_M_init 40 87944 Q _ _ [] (w_P (n_A π3 (mT 3) 6) 708 o (some (h_z π3))) _ _
  generalize w_P (n_A π3 (mT 3) 6) 708 o (some (h_z π3)) = π4 at h4 ⊢
  clear h3
  refine r_aload_n rfl rfl ?_
  refine r_bipush (v := nI 6) rfl (by decide) ?_
  refine r_newa (m' := 6) (kc := 35) (ks := 87266) rfl rfl (by decide) (fun _ => ?_)
  refine r_putP rfl (show u_1 (h_K π4) (h_z π4) _ o = 12 by rw [u1_n _ _ (by have := h4.1; omega)]; exact h4.2.1) rfl (Or.inr ⟨rfl, rfl⟩) ?_
  have h5 : MI σ (w_P (n_A π4 (mT 4) 6) 709 o (some (h_z π4))) o 5 := MI.step h4 (by decide)
  change Gm l D m_M_init 40 87944 Q _ _ [] (w_P (n_A π4 (mT 4) 6) 709 o (some (h_z π4))) _ _
  generalize w_P (n_A π4 (mT 4) 6) 709 o (some (h_z π4)) = π5 at h5 ⊢
  clear h4
  refine r_aload_n rfl rfl ?_
  refine r_bipush (v := nI 6) rfl (by decide) ?_
  refine r_newa (m' := 6) (kc := 34) (ks := 87260) rfl rfl (by decide) (fun _ => ?_)
  refine r_putP rfl (show u_1 (h_K π5) (h_z π5) _ o = 12 by rw [u1_n _ _ (by have := h5.1; omega)]; exact h5.2.1) rfl (Or.inr ⟨rfl, rfl⟩) ?_
  have h6 : MI σ (w_P (n_A π5 (mT 5) 6) 710 o (some (h_z π5))) o 6 := MI.step h5 (by decide)
  change Gm l D m_M_init 40 87944 Q _ _ [] (w_P (n_A π5 (mT 5) 6) 710 o (some (h_z π5))) _ _
  generalize w_P (n_A π5 (mT 5) 6) 710 o (some (h_z π5)) = π6 at h6 ⊢
  clear h5
  refine r_aload_n rfl rfl ?_
  refine r_bipush (v := nI 120) rfl (by decide) ?_
  refine r_newa (m' := 120) (kc := 33) (ks := 87140) rfl rfl (by decide) (fun _ => ?_)
  refine r_putP rfl (show u_1 (h_K π6) (h_z π6) _ o = 12 by rw [u1_n _ _ (by have := h6.1; omega)]; exact h6.2.1) rfl (Or.inr ⟨rfl, rfl⟩) ?_
  have h7 : MI σ (w_P (n_A π6 (mT 6) 120) 712 o (some (h_z π6))) o 7 := MI.step h6 (by decide)
  change Gm l D m_M_init 40 87944 Q _ _ [] (w_P (n_A π6 (mT 6) 120) 712 o (some (h_z π6))) _ _
  generalize w_P (n_A π6 (mT 6) 120) 712 o (some (h_z π6)) = π7 at h7 ⊢
  clear h6
  refine r_aload_n rfl rfl ?_
  refine r_bipush (v := nI 120) rfl (by decide) ?_
  refine r_newa (m' := 120) (kc := 32) (ks := 87020) rfl rfl (by decide) (fun _ => ?_)
  refine r_putP rfl (show u_1 (h_K π7) (h_z π7) _ o = 12 by rw [u1_n _ _ (by have := h7.1; omega)]; exact h7.2.1) rfl (Or.inr ⟨rfl, rfl⟩) ?_
  have h8 : MI σ (w_P (n_A π7 (mT 7) 120) 713 o (some (h_z π7))) o 8 := MI.step h7 (by decide)
  change Gm l D m_M_init 40 87944 Q _ _ [] (w_P (n_A π7 (mT 7) 120) 713 o (some (h_z π7))) _ _
  generalize w_P (n_A π7 (mT 7) 120) 713 o (some (h_z π7)) = π8 at h8 ⊢
  clear h7
  refine r_aload_n rfl rfl ?_
  refine r_bipush (v := nI 120) rfl (by decide) ?_
  refine r_newa (m' := 120) (kc := 31) (ks := 86900) rfl rfl (by decide) (fun _ => ?_)
  refine r_putP rfl (show u_1 (h_K π8) (h_z π8) _ o = 12 by rw [u1_n _ _ (by have := h8.1; omega)]; exact h8.2.1) rfl (Or.inr ⟨rfl, rfl⟩) ?_
  have h9 : MI σ (w_P (n_A π8 (mT 8) 120) 714 o (some (h_z π8))) o 9 := MI.step h8 (by decide)
  change Gm l D m_M_init 40 87944 Q _ _ [] (w_P (n_A π8 (mT 8) 120) 714 o (some (h_z π8))) _ _
  generalize w_P (n_A π8 (mT 8) 120) 714 o (some (h_z π8)) = π9 at h9 ⊢
  clear h8
  refine r_aload_n rfl rfl ?_
  refine r_bipush (v := nI 120) rfl (by decide) ?_
  refine r_newa (m' := 120) (kc := 30) (ks := 86780) rfl rfl (by decide) (fun _ => ?_)
  refine r_putP rfl (show u_1 (h_K π9) (h_z π9) _ o = 12 by rw [u1_n _ _ (by have := h9.1; omega)]; exact h9.2.1) rfl (Or.inr ⟨rfl, rfl⟩) ?_
  have h10 : MI σ (w_P (n_A π9 (mT 9) 120) 715 o (some (h_z π9))) o 10 := MI.step h9 (by decide)
  change Gm l D m_M_init 40 87944 Q _ _ [] (w_P (n_A π9 (mT 9) 120) 715 o (some (h_z π9))) _ _
  generalize w_P (n_A π9 (mT 9) 120) 715 o (some (h_z π9)) = π10 at h10 ⊢
  clear h9
  refine r_aload_n rfl rfl ?_
  refine r_sipush (v := nI 200) rfl (by decide) ?_
  refine r_newa (m' := 200) (kc := 29) (ks := 86580) rfl rfl (by decide) (fun _ => ?_)
  refine r_putP rfl (show u_1 (h_K π10) (h_z π10) _ o = 12 by rw [u1_n _ _ (by have := h10.1; omega)]; exact h10.2.1) rfl (Or.inr ⟨rfl, rfl⟩) ?_
  have h11 : MI σ (w_P (n_A π10 (mT 10) 200) 717 o (some (h_z π10))) o 11 := MI.step h10 (by decide)
  change Gm l D m_M_init 40 87944 Q _ _ [] (w_P (n_A π10 (mT 10) 200) 717 o (some (h_z π10))) _ _
  generalize w_P (n_A π10 (mT 10) 200) 717 o (some (h_z π10)) = π11 at h11 ⊢
  clear h10
  refine r_aload_n rfl rfl ?_
  refine r_sipush (v := nI 200) rfl (by decide) ?_
  refine r_newa (m' := 200) (kc := 28) (ks := 86380) rfl rfl (by decide) (fun _ => ?_)
  refine r_putP rfl (show u_1 (h_K π11) (h_z π11) _ o = 12 by rw [u1_n _ _ (by have := h11.1; omega)]; exact h11.2.1) rfl (Or.inr ⟨rfl, rfl⟩) ?_
  have h12 : MI σ (w_P (n_A π11 (mT 11) 200) 718 o (some (h_z π11))) o 12 := MI.step h11 (by decide)
  change Gm l D m_M_init 40 87944 Q _ _ [] (w_P (n_A π11 (mT 11) 200) 718 o (some (h_z π11))) _ _
  generalize w_P (n_A π11 (mT 11) 200) 718 o (some (h_z π11)) = π12 at h12 ⊢
  clear h11
  refine r_aload_n rfl rfl ?_
  refine r_sipush (v := nI 200) rfl (by decide) ?_
  refine r_newa (m' := 200) (kc := 27) (ks := 86180) rfl rfl (by decide) (fun _ => ?_)
  refine r_putP rfl (show u_1 (h_K π12) (h_z π12) _ o = 12 by rw [u1_n _ _ (by have := h12.1; omega)]; exact h12.2.1) rfl (Or.inr ⟨rfl, rfl⟩) ?_
  have h13 : MI σ (w_P (n_A π12 (mT 12) 200) 719 o (some (h_z π12))) o 13 := MI.step h12 (by decide)
  change Gm l D m_M_init 40 87944 Q _ _ [] (w_P (n_A π12 (mT 12) 200) 719 o (some (h_z π12))) _ _
  generalize w_P (n_A π12 (mT 12) 200) 719 o (some (h_z π12)) = π13 at h13 ⊢
  clear h12
  refine r_aload_n rfl rfl ?_
  refine r_sipush (v := nI 200) rfl (by decide) ?_
  refine r_newa (m' := 200) (kc := 26) (ks := 85980) rfl rfl (by decide) (fun _ => ?_)
  refine r_putP rfl (show u_1 (h_K π13) (h_z π13) _ o = 12 by rw [u1_n _ _ (by have := h13.1; omega)]; exact h13.2.1) rfl (Or.inr ⟨rfl, rfl⟩) ?_
  have h14 : MI σ (w_P (n_A π13 (mT 13) 200) 720 o (some (h_z π13))) o 14 := MI.step h13 (by decide)
  change Gm l D m_M_init 40 87944 Q _ _ [] (w_P (n_A π13 (mT 13) 200) 720 o (some (h_z π13))) _ _
  generalize w_P (n_A π13 (mT 13) 200) 720 o (some (h_z π13)) = π14 at h14 ⊢
  clear h13
  refine r_aload_n rfl rfl ?_
  refine r_bipush (v := nI 120) rfl (by decide) ?_
  refine r_newa (m' := 120) (kc := 25) (ks := 85860) rfl rfl (by decide) (fun _ => ?_)
  refine r_putP rfl (show u_1 (h_K π14) (h_z π14) _ o = 12 by rw [u1_n _ _ (by have := h14.1; omega)]; exact h14.2.1) rfl (Or.inr ⟨rfl, rfl⟩) ?_
  have h15 : MI σ (w_P (n_A π14 (mT 14) 120) 722 o (some (h_z π14))) o 15 := MI.step h14 (by decide)
  change Gm l D m_M_init 40 87944 Q _ _ [] (w_P (n_A π14 (mT 14) 120) 722 o (some (h_z π14))) _ _
  generalize w_P (n_A π14 (mT 14) 120) 722 o (some (h_z π14)) = π15 at h15 ⊢
  clear h14
  refine r_aload_n rfl rfl ?_
  refine r_bipush (v := nI 120) rfl (by decide) ?_
  refine r_newa (m' := 120) (kc := 24) (ks := 85740) rfl rfl (by decide) (fun _ => ?_)
  refine r_putP rfl (show u_1 (h_K π15) (h_z π15) _ o = 12 by rw [u1_n _ _ (by have := h15.1; omega)]; exact h15.2.1) rfl (Or.inr ⟨rfl, rfl⟩) ?_
  have h16 : MI σ (w_P (n_A π15 (mT 15) 120) 723 o (some (h_z π15))) o 16 := MI.step h15 (by decide)
  change Gm l D m_M_init 40 87944 Q _ _ [] (w_P (n_A π15 (mT 15) 120) 723 o (some (h_z π15))) _ _
  generalize w_P (n_A π15 (mT 15) 120) 723 o (some (h_z π15)) = π16 at h16 ⊢
  clear h15
  refine r_aload_n rfl rfl ?_
  refine r_bipush (v := nI 120) rfl (by decide) ?_
  refine r_newa (m' := 120) (kc := 23) (ks := 85620) rfl rfl (by decide) (fun _ => ?_)
  refine r_putP rfl (show u_1 (h_K π16) (h_z π16) _ o = 12 by rw [u1_n _ _ (by have := h16.1; omega)]; exact h16.2.1) rfl (Or.inr ⟨rfl, rfl⟩) ?_
  have h17 : MI σ (w_P (n_A π16 (mT 16) 120) 725 o (some (h_z π16))) o 17 := MI.step h16 (by decide)
  change Gm l D m_M_init 40 87944 Q _ _ [] (w_P (n_A π16 (mT 16) 120) 725 o (some (h_z π16))) _ _
  generalize w_P (n_A π16 (mT 16) 120) 725 o (some (h_z π16)) = π17 at h17 ⊢
  clear h16
  refine r_aload_n rfl rfl ?_
  refine r_bipush (v := nI 120) rfl (by decide) ?_
  refine r_newa (m' := 120) (kc := 22) (ks := 85500) rfl rfl (by decide) (fun _ => ?_)
  refine r_putP rfl (show u_1 (h_K π17) (h_z π17) _ o = 12 by rw [u1_n _ _ (by have := h17.1; omega)]; exact h17.2.1) rfl (Or.inr ⟨rfl, rfl⟩) ?_
  have h18 : MI σ (w_P (n_A π17 (mT 17) 120) 726 o (some (h_z π17))) o 18 := MI.step h17 (by decide)
  change Gm l D m_M_init 40 87944 Q _ _ [] (w_P (n_A π17 (mT 17) 120) 726 o (some (h_z π17))) _ _
  generalize w_P (n_A π17 (mT 17) 120) 726 o (some (h_z π17)) = π18 at h18 ⊢
  clear h17
  refine r_aload_n rfl rfl ?_
  refine r_sipush (v := nI 7200) rfl (by decide) ?_
  refine r_newa (m' := 7200) (kc := 21) (ks := 78300) rfl rfl (by decide) (fun _ => ?_)
  refine r_putP rfl (show u_1 (h_K π18) (h_z π18) _ o = 12 by rw [u1_n _ _ (by have := h18.1; omega)]; exact h18.2.1) rfl (Or.inr ⟨rfl, rfl⟩) ?_
  have h19 : MI σ (w_P (n_A π18 (mT 18) 7200) 727 o (some (h_z π18))) o 19 := MI.step h18 (by decide)
  change Gm l D m_M_init 40 87944 Q _ _ [] (w_P (n_A π18 (mT 18) 7200) 727 o (some (h_z π18))) _ _
  generalize w_P (n_A π18 (mT 18) 7200) 727 o (some (h_z π18)) = π19 at h19 ⊢
  clear h18
  refine r_aload_n rfl rfl ?_
  refine r_bipush (v := nI 120) rfl (by decide) ?_
  refine r_newa (m' := 120) (kc := 20) (ks := 78180) rfl rfl (by decide) (fun _ => ?_)
  refine r_putP rfl (show u_1 (h_K π19) (h_z π19) _ o = 12 by rw [u1_n _ _ (by have := h19.1; omega)]; exact h19.2.1) rfl (Or.inr ⟨rfl, rfl⟩) ?_
  have h20 : MI σ (w_P (n_A π19 (mT 19) 120) 728 o (some (h_z π19))) o 20 := MI.step h19 (by decide)
  change Gm l D m_M_init 40 87944 Q _ _ [] (w_P (n_A π19 (mT 19) 120) 728 o (some (h_z π19))) _ _
  generalize w_P (n_A π19 (mT 19) 120) 728 o (some (h_z π19)) = π20 at h20 ⊢
  clear h19
  refine r_aload_n rfl rfl ?_
  refine r_sipush (v := nI 7200) rfl (by decide) ?_
  refine r_newa (m' := 7200) (kc := 19) (ks := 70980) rfl rfl (by decide) (fun _ => ?_)
  refine r_putP rfl (show u_1 (h_K π20) (h_z π20) _ o = 12 by rw [u1_n _ _ (by have := h20.1; omega)]; exact h20.2.1) rfl (Or.inr ⟨rfl, rfl⟩) ?_
  have h21 : MI σ (w_P (n_A π20 (mT 20) 7200) 729 o (some (h_z π20))) o 21 := MI.step h20 (by decide)
  change Gm l D m_M_init 40 87944 Q _ _ [] (w_P (n_A π20 (mT 20) 7200) 729 o (some (h_z π20))) _ _
  generalize w_P (n_A π20 (mT 20) 7200) 729 o (some (h_z π20)) = π21 at h21 ⊢
  clear h20
  refine r_aload_n rfl rfl ?_
  refine r_bipush (v := nI 120) rfl (by decide) ?_
  refine r_newa (m' := 120) (kc := 18) (ks := 70860) rfl rfl (by decide) (fun _ => ?_)
  refine r_putP rfl (show u_1 (h_K π21) (h_z π21) _ o = 12 by rw [u1_n _ _ (by have := h21.1; omega)]; exact h21.2.1) rfl (Or.inr ⟨rfl, rfl⟩) ?_
  have h22 : MI σ (w_P (n_A π21 (mT 21) 120) 730 o (some (h_z π21))) o 22 := MI.step h21 (by decide)
  change Gm l D m_M_init 40 87944 Q _ _ [] (w_P (n_A π21 (mT 21) 120) 730 o (some (h_z π21))) _ _
  generalize w_P (n_A π21 (mT 21) 120) 730 o (some (h_z π21)) = π22 at h22 ⊢
  clear h21
  refine r_aload_n rfl rfl ?_
  refine r_sipush (v := nI 7200) rfl (by decide) ?_
  refine r_newa (m' := 7200) (kc := 17) (ks := 63660) rfl rfl (by decide) (fun _ => ?_)
  refine r_putP rfl (show u_1 (h_K π22) (h_z π22) _ o = 12 by rw [u1_n _ _ (by have := h22.1; omega)]; exact h22.2.1) rfl (Or.inr ⟨rfl, rfl⟩) ?_
  have h23 : MI σ (w_P (n_A π22 (mT 22) 7200) 731 o (some (h_z π22))) o 23 := MI.step h22 (by decide)
  change Gm l D m_M_init 40 87944 Q _ _ [] (w_P (n_A π22 (mT 22) 7200) 731 o (some (h_z π22))) _ _
  generalize w_P (n_A π22 (mT 22) 7200) 731 o (some (h_z π22)) = π23 at h23 ⊢
  clear h22
  refine r_aload_n rfl rfl ?_
  refine r_bipush (v := nI 120) rfl (by decide) ?_
  refine r_newa (m' := 120) (kc := 16) (ks := 63540) rfl rfl (by decide) (fun _ => ?_)
  refine r_putP rfl (show u_1 (h_K π23) (h_z π23) _ o = 12 by rw [u1_n _ _ (by have := h23.1; omega)]; exact h23.2.1) rfl (Or.inr ⟨rfl, rfl⟩) ?_
  have h24 : MI σ (w_P (n_A π23 (mT 23) 120) 732 o (some (h_z π23))) o 24 := MI.step h23 (by decide)
  change Gm l D m_M_init 40 87944 Q _ _ [] (w_P (n_A π23 (mT 23) 120) 732 o (some (h_z π23))) _ _
  generalize w_P (n_A π23 (mT 23) 120) 732 o (some (h_z π23)) = π24 at h24 ⊢
  clear h23
  refine r_aload_n rfl rfl ?_
  refine r_bipush (v := nI 100) rfl (by decide) ?_
  refine r_newa (m' := 100) (kc := 15) (ks := 63440) rfl rfl (by decide) (fun _ => ?_)
  refine r_putP rfl (show u_1 (h_K π24) (h_z π24) _ o = 12 by rw [u1_n _ _ (by have := h24.1; omega)]; exact h24.2.1) rfl (Or.inr ⟨rfl, rfl⟩) ?_
  have h25 : MI σ (w_P (n_A π24 (mT 24) 100) 734 o (some (h_z π24))) o 25 := MI.step h24 (by decide)
  change Gm l D m_M_init 40 87944 Q _ _ [] (w_P (n_A π24 (mT 24) 100) 734 o (some (h_z π24))) _ _
  generalize w_P (n_A π24 (mT 24) 100) 734 o (some (h_z π24)) = π25 at h25 ⊢
  clear h24
  refine r_aload_n rfl rfl ?_
  refine r_bipush (v := nI 100) rfl (by decide) ?_
  refine r_newa (m' := 100) (kc := 14) (ks := 63340) rfl rfl (by decide) (fun _ => ?_)
  refine r_putP rfl (show u_1 (h_K π25) (h_z π25) _ o = 12 by rw [u1_n _ _ (by have := h25.1; omega)]; exact h25.2.1) rfl (Or.inr ⟨rfl, rfl⟩) ?_
  have h26 : MI σ (w_P (n_A π25 (mT 25) 100) 735 o (some (h_z π25))) o 26 := MI.step h25 (by decide)
  change Gm l D m_M_init 40 87944 Q _ _ [] (w_P (n_A π25 (mT 25) 100) 735 o (some (h_z π25))) _ _
  generalize w_P (n_A π25 (mT 25) 100) 735 o (some (h_z π25)) = π26 at h26 ⊢
  clear h25
  refine r_aload_n rfl rfl ?_
  refine r_bipush (v := nI 100) rfl (by decide) ?_
  refine r_newa (m' := 100) (kc := 13) (ks := 63240) rfl rfl (by decide) (fun _ => ?_)
  refine r_putP rfl (show u_1 (h_K π26) (h_z π26) _ o = 12 by rw [u1_n _ _ (by have := h26.1; omega)]; exact h26.2.1) rfl (Or.inr ⟨rfl, rfl⟩) ?_
  have h27 : MI σ (w_P (n_A π26 (mT 26) 100) 736 o (some (h_z π26))) o 27 := MI.step h26 (by decide)
  change Gm l D m_M_init 40 87944 Q _ _ [] (w_P (n_A π26 (mT 26) 100) 736 o (some (h_z π26))) _ _
  generalize w_P (n_A π26 (mT 26) 100) 736 o (some (h_z π26)) = π27 at h27 ⊢
  clear h26
  refine r_aload_n rfl rfl ?_
  refine r_bipush (v := nI 100) rfl (by decide) ?_
  refine r_newa (m' := 100) (kc := 12) (ks := 63140) rfl rfl (by decide) (fun _ => ?_)
  refine r_putP rfl (show u_1 (h_K π27) (h_z π27) _ o = 12 by rw [u1_n _ _ (by have := h27.1; omega)]; exact h27.2.1) rfl (Or.inr ⟨rfl, rfl⟩) ?_
  have h28 : MI σ (w_P (n_A π27 (mT 27) 100) 737 o (some (h_z π27))) o 28 := MI.step h27 (by decide)
  change Gm l D m_M_init 40 87944 Q _ _ [] (w_P (n_A π27 (mT 27) 100) 737 o (some (h_z π27))) _ _
  generalize w_P (n_A π27 (mT 27) 100) 737 o (some (h_z π27)) = π28 at h28 ⊢
  clear h27
  refine r_aload_n rfl rfl ?_
  refine r_bipush (v := nI 100) rfl (by decide) ?_
  refine r_newa (m' := 100) (kc := 11) (ks := 63040) rfl rfl (by decide) (fun _ => ?_)
  refine r_putP rfl (show u_1 (h_K π28) (h_z π28) _ o = 12 by rw [u1_n _ _ (by have := h28.1; omega)]; exact h28.2.1) rfl (Or.inr ⟨rfl, rfl⟩) ?_
  have h29 : MI σ (w_P (n_A π28 (mT 28) 100) 738 o (some (h_z π28))) o 29 := MI.step h28 (by decide)
  change Gm l D m_M_init 40 87944 Q _ _ [] (w_P (n_A π28 (mT 28) 100) 738 o (some (h_z π28))) _ _
  generalize w_P (n_A π28 (mT 28) 100) 738 o (some (h_z π28)) = π29 at h29 ⊢
  clear h28
  refine r_aload_n rfl rfl ?_
  refine r_sipush (v := nI 1200) rfl (by decide) ?_
  refine r_newa (m' := 1200) (kc := 10) (ks := 61840) rfl rfl (by decide) (fun _ => ?_)
  refine r_putP rfl (show u_1 (h_K π29) (h_z π29) _ o = 12 by rw [u1_n _ _ (by have := h29.1; omega)]; exact h29.2.1) rfl (Or.inr ⟨rfl, rfl⟩) ?_
  have h30 : MI σ (w_P (n_A π29 (mT 29) 1200) 739 o (some (h_z π29))) o 30 := MI.step h29 (by decide)
  change Gm l D m_M_init 40 87944 Q _ _ [] (w_P (n_A π29 (mT 29) 1200) 739 o (some (h_z π29))) _ _
  generalize w_P (n_A π29 (mT 29) 1200) 739 o (some (h_z π29)) = π30 at h30 ⊢
  clear h29
  refine r_aload_n rfl rfl ?_
  refine r_sipush (v := nI 2000) rfl (by decide) ?_
  refine r_newa (m' := 2000) (kc := 9) (ks := 59840) rfl rfl (by decide) (fun _ => ?_)
  refine r_putP rfl (show u_1 (h_K π30) (h_z π30) _ o = 12 by rw [u1_n _ _ (by have := h30.1; omega)]; exact h30.2.1) rfl (Or.inr ⟨rfl, rfl⟩) ?_
  have h31 : MI σ (w_P (n_A π30 (mT 30) 2000) 740 o (some (h_z π30))) o 31 := MI.step h30 (by decide)
  change Gm l D m_M_init 40 87944 Q _ _ [] (w_P (n_A π30 (mT 30) 2000) 740 o (some (h_z π30))) _ _
  generalize w_P (n_A π30 (mT 30) 2000) 740 o (some (h_z π30)) = π31 at h31 ⊢
  clear h30
  refine r_aload_n rfl rfl ?_
  refine r_bipush (v := nI 120) rfl (by decide) ?_
  refine r_newa (m' := 120) (kc := 8) (ks := 59720) rfl rfl (by decide) (fun _ => ?_)
  refine r_putP rfl (show u_1 (h_K π31) (h_z π31) _ o = 12 by rw [u1_n _ _ (by have := h31.1; omega)]; exact h31.2.1) rfl (Or.inr ⟨rfl, rfl⟩) ?_
  have h32 : MI σ (w_P (n_A π31 (mT 31) 120) 743 o (some (h_z π31))) o 32 := MI.step h31 (by decide)
  change Gm l D m_M_init 40 87944 Q _ _ [] (w_P (n_A π31 (mT 31) 120) 743 o (some (h_z π31))) _ _
  generalize w_P (n_A π31 (mT 31) 120) 743 o (some (h_z π31)) = π32 at h32 ⊢
  clear h31
  refine r_aload_n rfl rfl ?_
  refine r_ldc rfl rfl ?_
  refine r_newa (m' := 57600) (kc := 7) (ks := 2120) rfl (by decide) (by decide) (fun _ => ?_)
  refine r_putP rfl (show u_1 (h_K π32) (h_z π32) _ o = 12 by rw [u1_n _ _ (by have := h32.1; omega)]; exact h32.2.1) rfl (Or.inr ⟨rfl, rfl⟩) ?_
  have h33 : MI σ (w_P (n_A π32 (mT 32) 57600) 745 o (some (h_z π32))) o 33 := MI.step h32 (by decide)
  change Gm l D m_M_init 40 87944 Q _ _ [] (w_P (n_A π32 (mT 32) 57600) 745 o (some (h_z π32))) _ _
  generalize w_P (n_A π32 (mT 32) 57600) 745 o (some (h_z π32)) = π33 at h33 ⊢
  clear h32
  refine r_aload_n rfl rfl ?_
  refine r_sipush (v := nI 960) rfl (by decide) ?_
  refine r_newa (m' := 960) (kc := 6) (ks := 1160) rfl rfl (by decide) (fun _ => ?_)
  refine r_putP rfl (show u_1 (h_K π33) (h_z π33) _ o = 12 by rw [u1_n _ _ (by have := h33.1; omega)]; exact h33.2.1) rfl (Or.inr ⟨rfl, rfl⟩) ?_
  have h34 : MI σ (w_P (n_A π33 (mT 33) 960) 746 o (some (h_z π33))) o 34 := MI.step h33 (by decide)
  change Gm l D m_M_init 40 87944 Q _ _ [] (w_P (n_A π33 (mT 33) 960) 746 o (some (h_z π33))) _ _
  generalize w_P (n_A π33 (mT 33) 960) 746 o (some (h_z π33)) = π34 at h34 ⊢
  clear h33
  refine r_aload_n rfl rfl ?_
  refine r_sipush (v := nI 960) rfl (by decide) ?_
  refine r_newa (m' := 960) (kc := 5) (ks := 200) rfl rfl (by decide) (fun _ => ?_)
  refine r_putP rfl (show u_1 (h_K π34) (h_z π34) _ o = 12 by rw [u1_n _ _ (by have := h34.1; omega)]; exact h34.2.1) rfl (Or.inr ⟨rfl, rfl⟩) ?_
  have h35 : MI σ (w_P (n_A π34 (mT 34) 960) 747 o (some (h_z π34))) o 35 := MI.step h34 (by decide)
  change Gm l D m_M_init 40 87944 Q _ _ [] (w_P (n_A π34 (mT 34) 960) 747 o (some (h_z π34))) _ _
  generalize w_P (n_A π34 (mT 34) 960) 747 o (some (h_z π34)) = π35 at h35 ⊢
  clear h34
  refine r_aload_n rfl rfl ?_
  refine r_bipush (v := nI 40) rfl (by decide) ?_
  refine r_newa (m' := 40) (kc := 4) (ks := 160) rfl rfl (by decide) (fun _ => ?_)
  refine r_putP rfl (show u_1 (h_K π35) (h_z π35) _ o = 12 by rw [u1_n _ _ (by have := h35.1; omega)]; exact h35.2.1) rfl (Or.inr ⟨rfl, rfl⟩) ?_
  have h36 : MI σ (w_P (n_A π35 (mT 35) 40) 750 o (some (h_z π35))) o 36 := MI.step h35 (by decide)
  change Gm l D m_M_init 40 87944 Q _ _ [] (w_P (n_A π35 (mT 35) 40) 750 o (some (h_z π35))) _ _
  generalize w_P (n_A π35 (mT 35) 40) 750 o (some (h_z π35)) = π36 at h36 ⊢
  clear h35
  refine r_aload_n rfl rfl ?_
  refine r_bipush (v := nI 40) rfl (by decide) ?_
  refine r_newa (m' := 40) (kc := 3) (ks := 120) rfl rfl (by decide) (fun _ => ?_)
  refine r_putP rfl (show u_1 (h_K π36) (h_z π36) _ o = 12 by rw [u1_n _ _ (by have := h36.1; omega)]; exact h36.2.1) rfl (Or.inr ⟨rfl, rfl⟩) ?_
  have h37 : MI σ (w_P (n_A π36 (mT 36) 40) 751 o (some (h_z π36))) o 37 := MI.step h36 (by decide)
  change Gm l D m_M_init 40 87944 Q _ _ [] (w_P (n_A π36 (mT 36) 40) 751 o (some (h_z π36))) _ _
  generalize w_P (n_A π36 (mT 36) 40) 751 o (some (h_z π36)) = π37 at h37 ⊢
  clear h36
  refine r_aload_n rfl rfl ?_
  refine r_bipush (v := nI 40) rfl (by decide) ?_
  refine r_newa (m' := 40) (kc := 2) (ks := 80) rfl rfl (by decide) (fun _ => ?_)
  refine r_putP rfl (show u_1 (h_K π37) (h_z π37) _ o = 12 by rw [u1_n _ _ (by have := h37.1; omega)]; exact h37.2.1) rfl (Or.inr ⟨rfl, rfl⟩) ?_
  have h38 : MI σ (w_P (n_A π37 (mT 37) 40) 752 o (some (h_z π37))) o 38 := MI.step h37 (by decide)
  change Gm l D m_M_init 40 87944 Q _ _ [] (w_P (n_A π37 (mT 37) 40) 752 o (some (h_z π37))) _ _
  generalize w_P (n_A π37 (mT 37) 40) 752 o (some (h_z π37)) = π38 at h38 ⊢
  clear h37
  refine r_aload_n rfl rfl ?_
  refine r_bipush (v := nI 40) rfl (by decide) ?_
  refine r_newa (m' := 40) (kc := 1) (ks := 40) rfl rfl (by decide) (fun _ => ?_)
  refine r_putP rfl (show u_1 (h_K π38) (h_z π38) _ o = 12 by rw [u1_n _ _ (by have := h38.1; omega)]; exact h38.2.1) rfl (Or.inr ⟨rfl, rfl⟩) ?_
  have h39 : MI σ (w_P (n_A π38 (mT 38) 40) 753 o (some (h_z π38))) o 39 := MI.step h38 (by decide)
  change Gm l D m_M_init 40 87944 Q _ _ [] (w_P (n_A π38 (mT 38) 40) 753 o (some (h_z π38))) _ _
  generalize w_P (n_A π38 (mT 38) 40) 753 o (some (h_z π38)) = π39 at h39 ⊢
  clear h38
  refine r_aload_n rfl rfl ?_
  refine r_bipush (v := nI 40) rfl (by decide) ?_
  refine r_newa (m' := 40) (kc := 0) (ks := 0) rfl rfl (by decide) (fun _ => ?_)
  refine r_putP rfl (show u_1 (h_K π39) (h_z π39) _ o = 12 by rw [u1_n _ _ (by have := h39.1; omega)]; exact h39.2.1) rfl (Or.inr ⟨rfl, rfl⟩) ?_
  have h40 : MI σ (w_P (n_A π39 (mT 39) 40) 754 o (some (h_z π39))) o 40 := MI.step h39 (by decide)
  change Gm l D m_M_init 40 87944 Q _ _ [] (w_P (n_A π39 (mT 39) 40) 754 o (some (h_z π39))) _ _
  generalize w_P (n_A π39 (mT 39) 40) 754 o (some (h_z π39)) = π40 at h40 ⊢
  clear h39
  refine r_vret rfl rfl ?_
  rw [← hQ]
  exact ⟨rfl, h40⟩
def S0 : Sp := ([], fun _ => [], fun _ => (0, 0, 0), (0, fun _ => 0, []), [], [], [])
theorem S0_ok : SOk S0 := ⟨by decide, fun x hx => (by cases hx), trivial, by decide, fun k hk => ⟨Nat.zero_le 10, rfl⟩, fun k hk => ⟨(by decide : 0 < 8), (by decide : 0 < 5), (by decide : 0 < 3)⟩, by decide, by decide, by decide, fun i k f e m hm => (by cases hm), fun d hd => (by cases hd)⟩
theorem MI.rm {τ : Hp} (h : MI σ τ o 40) : RM τ o S0 := by
  obtain ⟨h1, h2, h3, h4, -⟩ := h
  have hx : ∀ j, j < 40 → h_X τ (o + 1 + j) = fun _ => 0 := fun j hj => (h3 j hj).2.2.2
  refine ⟨⟨h2, fun j hj => ⟨(h3 j hj).1, (h3 j hj).2.1, (h3 j hj).2.2.1⟩⟩, S0_ok, ⟨h4 705, by decide, fun i hi => (by cases hi)⟩, fun k hk => ⟨by rw [hx 2 (by decide)]; rfl, Nat.zero_le 10, fun i hi => (by cases hi)⟩, fun k hk => ?_, ⟨⟨h4 711, ?_, fun x hx => (by cases hx), fun x _ => rfl, ?_, fun p hp i z hz => ?_, fun x hx => (by cases hx)⟩, h4 716, fun k e hk => ?_⟩, Or.inr (h4 721), ⟨h4 733, fun q i k f e m hq => (by cases hq)⟩, ⟨h4 744, fun e d hd => (by cases hd)⟩, ⟨h4 748, fun i f t k m q _ hq => (by cases hq)⟩⟩
  · rw [hx 3 (by decide), hx 4 (by decide), hx 5 (by decide)]
    exact ⟨rfl, rfl, rfl⟩
  · rw [hx 6 (by decide)]
    rfl
  · rw [hx 7 (by decide)]
    funext x
    rfl
  · cases i <;> cases hz
  · cases k <;> cases hk
end MC
