/-! ===== the class: new Forms, new Things ===== -/
/-- k cells are new; of the old ones only these fields of a have changed -/
def NW (FI FP : List Nat) (a : Nat) (σ τ : Hp) (k : Nat) : Prop := h_z τ = h_z σ + k ∧ ∀ b, b < h_z σ → h_K τ b = h_K σ b ∧ h_L τ b = h_L σ b ∧ h_X τ b = h_X σ b ∧ h_Y τ b = h_Y σ b ∧ (∀ f, ¬ (b = a ∧ f ∈ FI) → h_I τ f b = h_I σ f b) ∧ ∀ f, ¬ (b = a ∧ f ∈ FP) → h_P τ f b = h_P σ f b
section NW
variable {FI FP : List Nat} {a : Nat} {σ τ ρ : Hp} {k m : Nat}
theorem NW.tr (h : NW FI FP a σ τ k) (g : NW FI FP a τ ρ m) : NW FI FP a σ ρ (k + m) := by
  refine ⟨by rw [g.1, h.1]; omega, fun b hb => ?_⟩
  obtain ⟨h1, h2, h3, h4, h5, h6⟩ := h.2 b hb
  obtain ⟨g1, g2, g3, g4, g5, g6⟩ := g.2 b (by rw [h.1]; omega)
  exact ⟨g1.trans h1, g2.trans h2, g3.trans h3, g4.trans h4, fun f q => (g5 f q).trans (h5 f q), fun f q => (g6 f q).trans (h6 f q)⟩
theorem NW.wide {FI' FP' : List Nat} (h : NW FI FP a σ τ k) (h1 : ∀ f ∈ FI, f ∈ FI') (h2 : ∀ f ∈ FP, f ∈ FP') : NW FI' FP' a σ τ k :=
  ⟨h.1, fun b hb => ⟨(h.2 b hb).1, (h.2 b hb).2.1, (h.2 b hb).2.2.1, (h.2 b hb).2.2.2.1, fun f q => (h.2 b hb).2.2.2.2.1 f (fun e => q ⟨e.1, h1 f e.2⟩), fun f q => (h.2 b hb).2.2.2.2.2 f (fun e => q ⟨e.1, h2 f e.2⟩)⟩⟩
theorem NW.rf (FI FP : List Nat) (a : Nat) (σ : Hp) : NW FI FP a σ σ 0 := ⟨rfl, fun _ _ => ⟨rfl, rfl, rfl, rfl, fun _ _ => rfl, fun _ _ => rfl⟩⟩
theorem NW.I (σ : Hp) {f : Nat} (v : Int32) (hf : f ∈ FI) : NW FI FP a σ (w_I σ f a v) 0 := ⟨rfl, fun b _ => ⟨rfl, rfl, rfl, rfl, fun g q => by
    show u_2 (h_I σ) f a v g b = _
    unfold u_2
    rw [if_neg (fun (e : g = f ∧ b = a) => q ⟨e.2, e.1 ▸ hf⟩)], fun _ _ => rfl⟩⟩
theorem NW.P (σ : Hp) {f : Nat} (v : Option Nat) (hf : f ∈ FP) : NW FI FP a σ (w_P σ f a v) 0 := ⟨rfl, fun b _ => ⟨rfl, rfl, rfl, rfl, fun _ _ => rfl, fun g q => by
    show u_2 (h_P σ) f a v g b = _
    unfold u_2
    rw [if_neg (fun (e : g = f ∧ b = a) => q ⟨e.2, e.1 ▸ hf⟩)]⟩⟩
theorem NW.A (σ : Hp) (t n : Nat) : NW FI FP a σ (n_A σ t n) 1 := ⟨rfl, fun b hb => ⟨u1_n _ _ (by omega), u1_n _ _ (by omega), u1_n _ _ (by omega), u1_n _ _ (by omega), fun _ _ => rfl, fun _ _ => rfl⟩⟩
theorem NW.O (σ : Hp) (t : Nat) : NW FI FP a σ (n_O σ t) 1 := ⟨rfl, fun b hb => ⟨u1_n _ _ (by omega), rfl, rfl, rfl, fun f _ => if_neg (by omega), fun f _ => if_neg (by omega)⟩⟩
theorem Ln.nw {b cap : Nat} {xs : List Int32} (h : NW FI FP a σ τ k) (hb : b + 1 < h_z σ) (hba : b ≠ a) (g : Ln σ b cap xs) : Ln τ b cap xs := by
  obtain ⟨h1, h2, h3, h4, h5, h6⟩ := h.2 b (by omega)
  obtain ⟨g1, g2, g3, g4, g5, g6⟩ := h.2 (b + 1) hb
  unfold Ln at g ⊢
  rw [h1, h6 192 (fun e => hba e.1), h5 193 (fun e => hba e.1), g1, g2, g3]
  exact g
/-- a new Line, put into a field of a -/
theorem ln_new {f n : Nat} (hf : f ∈ FP) (ha : a < h_z σ) (hn : n < 2 ^ 20) (hf2 : f ≠ 192) : NW FI FP a σ (w_P (w_P (n_A (n_O σ 4) 20 n) 192 (h_z σ) (some (h_z σ + 1))) f a (some (h_z σ))) 2 ∧ Ln (w_P (w_P (n_A (n_O σ 4) 20 n) 192 (h_z σ) (some (h_z σ + 1))) f a (some (h_z σ))) (h_z σ) n [] ∧ h_P (w_P (w_P (n_A (n_O σ 4) 20 n) 192 (h_z σ) (some (h_z σ + 1))) f a (some (h_z σ))) f a = some (h_z σ) := by
  refine ⟨⟨rfl, fun b hb => ⟨?_, ?_, ?_, ?_, fun g q => ?_, fun g q => ?_⟩⟩, ⟨?_, ?_, ?_, ?_, ?_, Nat.zero_le _, hn, fun i hi => (by cases hi)⟩, hP_w _ _ _ _⟩
  · show u_1 (u_1 (h_K σ) (h_z σ) 4) (h_z σ + 1) 20 b = _
    rw [u1_n _ _ (by omega), u1_n _ _ (by omega)]
  · show u_1 (h_L σ) (h_z σ + 1) n b = _
    rw [u1_n _ _ (by omega)]
  · show u_1 (h_X σ) (h_z σ + 1) (fun _ => 0) b = _
    rw [u1_n _ _ (by omega)]
  · show u_1 (h_Y σ) (h_z σ + 1) (fun _ => none) b = _
    rw [u1_n _ _ (by omega)]
  · show (if b = h_z σ then 0 else h_I σ g b) = _
    rw [if_neg (by omega)]
  · show u_2 (u_2 (fun f a => if a = h_z σ then none else h_P σ f a) 192 (h_z σ) (some (h_z σ + 1))) f a (some (h_z σ)) g b = _
    unfold u_2
    rw [if_neg (fun (e : g = f ∧ b = a) => q ⟨e.2, e.1 ▸ hf⟩), if_neg (fun (e : g = 192 ∧ b = h_z σ) => by omega)]
    show (if b = h_z σ then none else h_P σ g b) = _
    rw [if_neg (by omega)]
  · show u_1 (u_1 (h_K σ) (h_z σ) 4) (h_z σ + 1) 20 (h_z σ) = _
    rw [u1_n _ _ (by omega), u1_s]
  · rw [hP_n _ _ hf2.symm, hP_w]
  · show (if h_z σ = h_z σ then 0 else _) = _
    rw [if_pos rfl]
    rfl
  · show u_1 (u_1 (h_K σ) (h_z σ) 4) (h_z σ + 1) 20 (h_z σ + 1) = _
    rw [u1_s]
  · show u_1 (h_L σ) (h_z σ + 1) n (h_z σ + 1) = _
    rw [u1_s]
end NW
section CM
variable {l : Launch} {D : DD} {σ : Hp} {a : Nat}
theorem c_Form_init (hk : h_K σ a = 3) (ha : a < h_z σ) : Cn l D m_Form_init 2 12 [va_rf (some a)] σ (fun r τ => r = none ∧ NW ([] : List Nat) [128] a σ τ 2 ∧ Ln τ (h_z σ) 10 [] ∧ h_P τ 128 a = some (h_z σ)) := by
  refine Cn.of (by decide) (by repeat (first | exact ca_0 | refine ca_i ?_ | refine ca_r ?_)) (Nat.le_of_ble_eq_true rfl) ?_
  refine r_aload_n rfl rfl ?_
  refine r_objInit rfl (Nat.le_of_ble_eq_true rfl) ⟨Nat.le_of_ble_eq_true rfl, Nat.le_of_ble_eq_true rfl⟩ ?_
  refine r_aload_n rfl rfl ?_
  refine r_new (kc := 1) (ks := 10) rfl (fun _ => ?_) |> G.less (by omega) (by show 10 + 2 ≤ _; omega)
  refine r_dup rfl (by first | rfl | exact rf_cat _) ?_
  refine r_bipush (v := nI 10) rfl (by decide) ?_
  refine r_callI (As := [_]) rfl (by decide) rfl rfl rfl (Nat.le_of_ble_eq_true rfl) ⟨Nat.le_of_ble_eq_true rfl, Nat.le_of_ble_eq_true rfl⟩ (c_Line_init (n := 10) (show u_1 (h_K σ) (h_z σ) 4 (h_z σ) = 4 from u1_s _ _ _) (by decide)) (kc' := 0) (ks' := 0) (by omega) (by omega) ?_
  rintro r τ ⟨rfl, rfl, -⟩
  obtain ⟨l1, l2, l3⟩ := ln_new (σ := σ) (a := a) (FI := []) (FP := [128]) (f := 128) (n := 10) (by decide) ha (by decide) (by decide)
  refine r_putP rfl (show u_1 (u_1 (h_K σ) (h_z σ) 4) (h_z σ + 1) 20 a = 3 by rw [u1_n _ _ (by omega), u1_n _ _ (by omega)]; exact hk) rfl (Or.inr ⟨rfl, rfl⟩) ?_
  exact r_vret rfl rfl ⟨rfl, l1, l2, l3⟩
set_option maxHeartbeats 1000000 in
theorem c_Thing_init {num kk : Int32} {fo : Option Nat} (hk : h_K σ a = 9) (ha : a < h_z σ) : Cn l D m_Thing_init 7 102 [va_rf (some a), .int num, .int kk, va_rf fo] σ (fun r τ => r = none ∧ NW [512, 513, 521] [514, 525, 526, 527, 528] a σ τ 7 ∧ h_I τ 512 a = num ∧ h_I τ 513 a = kk ∧ h_I τ 521 a = -1 ∧ h_P τ 514 a = fo ∧ h_P τ 525 a = some (h_z σ) ∧ h_P τ 526 a = some (h_z σ + 1) ∧ h_P τ 527 a = some (h_z σ + 3) ∧ h_P τ 528 a = some (h_z σ + 5) ∧ h_K τ (h_z σ) = 21 ∧ h_L τ (h_z σ) = 6 ∧ h_X τ (h_z σ) = (fun _ => 0) ∧ Ln τ (h_z σ + 1) 10 [] ∧ Ln τ (h_z σ + 3) 40 [] ∧ Ln τ (h_z σ + 5) 40 []) := by
  generalize hQ : (fun (r : Option Value) (τ : Hp) => r = none ∧ NW [512, 513, 521] [514, 525, 526, 527, 528] a σ τ 7 ∧ h_I τ 512 a = num ∧ h_I τ 513 a = kk ∧ h_I τ 521 a = -1 ∧ h_P τ 514 a = fo ∧ h_P τ 525 a = some (h_z σ) ∧ h_P τ 526 a = some (h_z σ + 1) ∧ h_P τ 527 a = some (h_z σ + 3) ∧ h_P τ 528 a = some (h_z σ + 5) ∧ h_K τ (h_z σ) = 21 ∧ h_L τ (h_z σ) = 6 ∧ h_X τ (h_z σ) = (fun _ => 0) ∧ Ln τ (h_z σ + 1) 10 [] ∧ Ln τ (h_z σ + 3) 40 [] ∧ Ln τ (h_z σ + 5) 40 []) = Q
  refine Cn.of (by decide) (by repeat (first | exact ca_0 | refine ca_i ?_ | refine ca_r ?_)) (Nat.le_of_ble_eq_true rfl) ?_
  refine r_aload_n rfl rfl ?_
  refine r_objInit rfl (Nat.le_of_ble_eq_true rfl) ⟨Nat.le_of_ble_eq_true rfl, Nat.le_of_ble_eq_true rfl⟩ ?_
  refine r_aload_n rfl rfl ?_
  refine r_iconst (v := -1) rfl (by decide) ?_
  refine r_putI rfl (by first | assumption | rfl) rfl (by first | exact Or.inl rfl | exact Or.inr ⟨rfl, rfl⟩) (by first | rfl | decide | assumption) (by first | rfl | decide) ?_
  refine r_aload_n rfl rfl ?_
  refine r_bipush (v := nI 6) rfl (by decide) ?_
  refine r_newa (m' := 6) (kc := 6) (ks := 96) rfl rfl (by decide) (fun _ => ?_)
  have hk1 : h_K (n_A (w_I σ 521 a (-1)) 21 6) a = 9 := (u1_n _ _ (show a ≠ h_z σ by omega)).trans hk
  refine r_putP rfl hk1 rfl (Or.inr ⟨rfl, rfl⟩) ?_
  have n1 : NW [512, 513, 521] [514, 525, 526, 527, 528] a σ (w_P (n_A (w_I σ 521 a (-1)) 21 6) 525 a (some (h_z σ))) 1 := ((NW.I σ _ (by decide)).tr (NW.A _ 21 6)).tr (NW.P _ _ (by decide))
  have i1 : h_I (w_P (n_A (w_I σ 521 a (-1)) 21 6) 525 a (some (h_z σ))) 521 a = -1 := hI_w _ _ _ _
  have p1 : h_P (w_P (n_A (w_I σ 521 a (-1)) 21 6) 525 a (some (h_z σ))) 525 a = some (h_z σ) := hP_w _ _ _ _
  have q1 : h_K (w_P (n_A (w_I σ 521 a (-1)) 21 6) 525 a (some (h_z σ))) (h_z σ) = 21 ∧ h_L (w_P (n_A (w_I σ 521 a (-1)) 21 6) 525 a (some (h_z σ))) (h_z σ) = 6 ∧ h_X (w_P (n_A (w_I σ 521 a (-1)) 21 6) 525 a (some (h_z σ))) (h_z σ) = fun _ => 0 := ⟨u1_s _ _ _, u1_s _ _ _, u1_s _ _ _⟩
  change Gm l D m_Thing_init 7 102 Q _ _ _ (w_P (n_A (w_I σ 521 a (-1)) 21 6) 525 a (some (h_z σ))) _ _
  generalize w_P (n_A (w_I σ 521 a (-1)) 21 6) 525 a (some (h_z σ)) = σ1 at n1 i1 p1 q1 ⊢
  have z1 := n1.1
  have hk1 : h_K σ1 a = 9 := by rw [(n1.2 a ha).1]; exact hk
  -- mark
  refine r_aload_n rfl rfl ?_
  refine r_new (kc := 5) (ks := 94) rfl (fun _ => ?_) |> G.less (by omega) (by show 94 + 2 ≤ _; omega)
  refine r_dup rfl (by first | rfl | exact rf_cat _) ?_
  refine r_bipush (v := nI 10) rfl (by decide) ?_
  refine r_callI (As := [_]) rfl (by decide) rfl rfl rfl (Nat.le_of_ble_eq_true rfl) ⟨Nat.le_of_ble_eq_true rfl, Nat.le_of_ble_eq_true rfl⟩ (c_Line_init (n := 10) (show u_1 (h_K σ1) (h_z σ1) 4 (h_z σ1) = 4 from u1_s _ _ _) (by decide)) (kc' := 4) (ks' := 84) (by omega) (by omega) ?_
  rintro r τ ⟨rfl, rfl, -⟩
  obtain ⟨l0, l2, l3⟩ := ln_new (σ := σ1) (a := a) (FI := []) (FP := [514, 525, 526, 527, 528]) (f := 526) (n := 10) (by decide) (by omega) (by decide) (by decide)
  refine r_putP rfl (show u_1 (u_1 (h_K σ1) (h_z σ1) 4) (h_z σ1 + 1) 20 a = 9 by rw [u1_n _ _ (by omega), u1_n _ _ (by omega)]; exact hk1) rfl (Or.inr ⟨rfl, rfl⟩) ?_
  change Gm l D m_Thing_init 7 102 Q _ _ _ (w_P (w_P (n_A (n_O σ1 4) 20 10) 192 (h_z σ1) (some (h_z σ1 + 1))) 526 a (some (h_z σ1))) _ _
  have p525 : h_P (w_P (w_P (n_A (n_O σ1 4) 20 10) 192 (h_z σ1) (some (h_z σ1 + 1))) 526 a (some (h_z σ1))) 525 a = some (h_z σ) := by
    rw [hP_n _ _ (by decide), hP_n _ _ (by decide)]
    show (if a = h_z σ1 then none else h_P σ1 525 a) = _
    rw [if_neg (by omega)]
    exact p1
  generalize w_P (w_P (n_A (n_O σ1 4) 20 10) 192 (h_z σ1) (some (h_z σ1 + 1))) 526 a (some (h_z σ1)) = σ2 at l0 l2 l3 p525 ⊢
  have l1 : NW [512, 513, 521] [514, 525, 526, 527, 528] a σ1 σ2 2 := l0.wide (by decide) (by decide)
  have z2 := l1.1
  have hk2 : h_K σ2 a = 9 := by rw [(l1.2 a (by omega)).1]; exact hk1
  -- name
  refine r_aload_n rfl rfl ?_
  refine r_new (kc := 3) (ks := 82) rfl (fun _ => ?_) |> G.less (by omega) (by show 82 + 2 ≤ _; omega)
  refine r_dup rfl (by first | rfl | exact rf_cat _) ?_
  refine r_bipush (v := nI 40) rfl (by decide) ?_
  refine r_callI (As := [_]) rfl (by decide) rfl rfl rfl (Nat.le_of_ble_eq_true rfl) ⟨Nat.le_of_ble_eq_true rfl, Nat.le_of_ble_eq_true rfl⟩ (c_Line_init (n := 40) (show u_1 (h_K σ2) (h_z σ2) 4 (h_z σ2) = 4 from u1_s _ _ _) (by decide)) (kc' := 2) (ks' := 42) (by omega) (by omega) ?_
  rintro r τ ⟨rfl, rfl, -⟩
  obtain ⟨m0, m2, m3⟩ := ln_new (σ := σ2) (a := a) (FI := []) (FP := [514, 525, 526, 527, 528]) (f := 527) (n := 40) (by decide) (by omega) (by decide) (by decide)
  refine r_putP rfl (show u_1 (u_1 (h_K σ2) (h_z σ2) 4) (h_z σ2 + 1) 20 a = 9 by rw [u1_n _ _ (by omega), u1_n _ _ (by omega)]; exact hk2) rfl (Or.inr ⟨rfl, rfl⟩) ?_
  change Gm l D m_Thing_init 7 102 Q _ _ _ (w_P (w_P (n_A (n_O σ2 4) 20 40) 192 (h_z σ2) (some (h_z σ2 + 1))) 527 a (some (h_z σ2))) _ _
  have pold : ∀ f, f ≠ 527 → f ≠ 192 → h_P (w_P (w_P (n_A (n_O σ2 4) 20 40) 192 (h_z σ2) (some (h_z σ2 + 1))) 527 a (some (h_z σ2))) f a = h_P σ2 f a := by
    intro f hf1 hf2
    rw [hP_n _ _ hf1, hP_n _ _ hf2]
    show (if a = h_z σ2 then none else h_P σ2 f a) = _
    rw [if_neg (by omega)]
  generalize w_P (w_P (n_A (n_O σ2 4) 20 40) 192 (h_z σ2) (some (h_z σ2 + 1))) 527 a (some (h_z σ2)) = σ3 at m0 m2 m3 pold ⊢
  have m1 : NW [512, 513, 521] [514, 525, 526, 527, 528] a σ2 σ3 2 := m0.wide (by decide) (by decide)
  have z3 := m1.1
  have hk3 : h_K σ3 a = 9 := by rw [(m1.2 a (by omega)).1]; exact hk2
  -- before
  refine r_aload_n rfl rfl ?_
  refine r_new (kc := 1) (ks := 40) rfl (fun _ => ?_) |> G.less (by omega) (by show 40 + 2 ≤ _; omega)
  refine r_dup rfl (by first | rfl | exact rf_cat _) ?_
  refine r_bipush (v := nI 40) rfl (by decide) ?_
  refine r_callI (As := [_]) rfl (by decide) rfl rfl rfl (Nat.le_of_ble_eq_true rfl) ⟨Nat.le_of_ble_eq_true rfl, Nat.le_of_ble_eq_true rfl⟩ (c_Line_init (n := 40) (show u_1 (h_K σ3) (h_z σ3) 4 (h_z σ3) = 4 from u1_s _ _ _) (by decide)) (kc' := 0) (ks' := 0) (by omega) (by omega) ?_
  rintro r τ ⟨rfl, rfl, -⟩
  obtain ⟨b0, b2, b3⟩ := ln_new (σ := σ3) (a := a) (FI := []) (FP := [514, 525, 526, 527, 528]) (f := 528) (n := 40) (by decide) (by omega) (by decide) (by decide)
  refine r_putP rfl (show u_1 (u_1 (h_K σ3) (h_z σ3) 4) (h_z σ3 + 1) 20 a = 9 by rw [u1_n _ _ (by omega), u1_n _ _ (by omega)]; exact hk3) rfl (Or.inr ⟨rfl, rfl⟩) ?_
  change Gm l D m_Thing_init 7 102 Q _ _ _ (w_P (w_P (n_A (n_O σ3 4) 20 40) 192 (h_z σ3) (some (h_z σ3 + 1))) 528 a (some (h_z σ3))) _ _
  have pold2 : ∀ f, f ≠ 528 → f ≠ 192 → h_P (w_P (w_P (n_A (n_O σ3 4) 20 40) 192 (h_z σ3) (some (h_z σ3 + 1))) 528 a (some (h_z σ3))) f a = h_P σ3 f a := by
    intro f hf1 hf2
    rw [hP_n _ _ hf1, hP_n _ _ hf2]
    show (if a = h_z σ3 then none else h_P σ3 f a) = _
    rw [if_neg (by omega)]
  have iold2 : ∀ f, h_I (w_P (w_P (n_A (n_O σ3 4) 20 40) 192 (h_z σ3) (some (h_z σ3 + 1))) 528 a (some (h_z σ3))) f a = h_I σ3 f a := by
    intro f
    show (if a = h_z σ3 then 0 else h_I σ3 f a) = _
    rw [if_neg (by omega)]
  generalize w_P (w_P (n_A (n_O σ3 4) 20 40) 192 (h_z σ3) (some (h_z σ3 + 1))) 528 a (some (h_z σ3)) = σ4 at b0 b2 b3 pold2 iold2 ⊢
  have b1 : NW [512, 513, 521] [514, 525, 526, 527, 528] a σ3 σ4 2 := b0.wide (by decide) (by decide)
  have z4 := b1.1
  have hk4 : h_K σ4 a = 9 := by rw [(b1.2 a (by omega)).1]; exact hk3
  refine r_aload_n rfl rfl ?_
  refine r_iload_n rfl rfl ?_
  refine r_putI rfl (by first | assumption | rfl) rfl (by first | exact Or.inl rfl | exact Or.inr ⟨rfl, rfl⟩) (by first | rfl | decide | assumption) (by first | rfl | decide) ?_
  refine r_aload_n rfl rfl ?_
  refine r_iload_n rfl rfl ?_
  refine r_putI rfl (by first | assumption | rfl) rfl (by first | exact Or.inl rfl | exact Or.inr ⟨rfl, rfl⟩) (by first | rfl | decide | assumption) (by first | rfl | decide) ?_
  refine r_aload_n rfl rfl ?_
  refine r_aload_n rfl rfl ?_
  refine r_putP rfl (by first | assumption | rfl) rfl (by first | exact Or.inl rfl | exact Or.inr ⟨rfl, rfl⟩) ?_
  refine r_vret rfl rfl ?_
  rw [← hQ]
  have nf : NW [512, 513, 521] [514, 525, 526, 527, 528] a σ4 (w_P (w_I (w_I σ4 512 a num) 513 a kk) 514 a fo) 0 := ((NW.I σ4 _ (by decide)).tr (NW.I _ _ (by decide))).tr (NW.P _ _ (by decide))
  have nall := (((n1.tr l1).tr m1).tr b1).tr nf
  have n24 := (m1.tr b1).tr nf
  have n14 := (l1.tr m1).tr (b1.tr nf)
  refine ⟨rfl, nall, ?_, ?_, ?_, ?_, ?_, ?_, ?_, ?_, ?_, ?_, ?_, ?_, ?_, ?_⟩
  · show h_I (w_I (w_I σ4 512 a num) 513 a kk) 512 a = _
    rw [hI_n _ _ (by decide), hI_w]
  · show h_I (w_I (w_I σ4 512 a num) 513 a kk) 513 a = _
    rw [hI_w]
  · show h_I (w_I (w_I σ4 512 a num) 513 a kk) 521 a = _
    rw [hI_n _ _ (by decide), hI_n _ _ (by decide), iold2, (m0.2 a (by omega)).2.2.2.2.1 521 (fun e => by cases e.2), (l0.2 a (by omega)).2.2.2.2.1 521 (fun e => by cases e.2)]
    exact i1
  · exact hP_w _ _ _ _
  · rw [hP_n _ _ (by decide)]
    show h_P σ4 525 a = _
    rw [pold2 525 (by decide) (by decide), pold 525 (by decide) (by decide)]
    exact p525
  · rw [hP_n _ _ (by decide)]
    show h_P σ4 526 a = _
    rw [pold2 526 (by decide) (by decide), pold 526 (by decide) (by decide), l3, z1]
  · rw [hP_n _ _ (by decide)]
    show h_P σ4 527 a = _
    rw [pold2 527 (by decide) (by decide), m3, z2, z1]
  · rw [hP_n _ _ (by decide)]
    show h_P σ4 528 a = _
    rw [b3, z3, z2, z1]
  · rw [(n14.2 (h_z σ) (by omega)).1]
    exact q1.1
  · rw [(n14.2 (h_z σ) (by omega)).2.1]
    exact q1.2.1
  · rw [(n14.2 (h_z σ) (by omega)).2.2.1]
    exact q1.2.2
  · have := Ln.nw n24 (by omega) (by omega) l2
    rw [z1] at this
    exact this
  · have := Ln.nw (b1.tr nf) (by omega) (by omega) m2
    rw [z2, z1] at this
    exact this
  · have := Ln.nw nf (by omega) (by omega) b2
    rw [z3, z2, z1] at this
    exact this
end CM
