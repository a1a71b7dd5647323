/-! ===== the class: edition ===== -/
section ED
variable {l : Launch} {D : DD} {σ : Hp} {c B : Nat} {ow ad : Nat → Nat} {S : Sp}
theorem c_Edition_init {n : Nat} (hn : n ≤ 120) : Cn l D m_Edition_init 2 (2 * n) [va_rf (some (h_z σ)), .int (nI n)] (n_O σ 2) (fun r τ => r = none ∧ Fm ow [] [] [] σ τ ∧ h_z τ = h_z σ + 3 ∧ h_K τ (h_z σ) = 2 ∧ h_P τ 64 (h_z σ) = some (h_z σ + 1) ∧ h_P τ 65 (h_z σ) = some (h_z σ + 2) ∧ h_K τ (h_z σ + 1) = 33 ∧ h_K τ (h_z σ + 2) = 33 ∧ h_L τ (h_z σ + 1) = n ∧ h_L τ (h_z σ + 2) = n ∧ (∀ x, h_Y τ (h_z σ + 1) x = none) ∧ ∀ x, h_Y τ (h_z σ + 2) x = none) := by
  generalize hσ0 : n_O σ 2 = σ0
  have f0 : Fm ow [] [] [] σ σ0 := by rw [← hσ0]; exact Fm.nwO _ _
  have kA : h_K σ0 (h_z σ) = 2 := by rw [← hσ0]; exact u1_s _ _ _
  have zA : h_z σ0 = h_z σ + 1 := by rw [← hσ0]; rfl
  generalize hA : h_z σ = A at kA zA
  have emax : (if nI n < nI 0 then nI 0 else nI n) = nI n := if_neg (nI_pos (by omega))
  refine Cn.of (by decide) (by repeat (first | exact ca_0 | refine ca_i ?_ | refine ca_r ?_)) (Nat.le_of_ble_eq_true rfl) ?_
  refine r_aload_n rfl rfl ?_
  refine r_objInit rfl (Nat.le_of_ble_eq_true rfl) ⟨Nat.le_of_ble_eq_true rfl, Nat.le_of_ble_eq_true rfl⟩ ?_
  refine r_aload_n rfl rfl ?_
  refine r_iload_n rfl rfl ?_
  refine r_iconst (v := nI 0) rfl (by decide) ?_
  refine r_callS (As := [_, _]) rfl (by decide) rfl rfl rfl (Nat.le_of_ble_eq_true rfl) ⟨Nat.le_of_ble_eq_true rfl, Nat.le_of_ble_eq_true rfl⟩ (c_max) (kc' := 2) (ks' := (2*n)) (by omega) (by omega) ?_
  rintro r σ0 ⟨rfl, rfl⟩
  rw [emax]
  refine r_anew (t := 3) (m' := n) (kc := 1) (ks := n) rfl (by decide) rfl (by omega) (fun _ => ?_) |> G.less (by omega) (by omega)
  have hk1 : h_K (n_A σ0 33 n) A = 2 := (u1_n _ _ (show A ≠ h_z σ0 by omega)).trans kA
  refine r_putP rfl hk1 rfl (Or.inr ⟨rfl, rfl⟩) ?_
  generalize hσ1 : w_P (n_A σ0 (30 + 3) n) 64 A (some (h_z σ0)) = σ1
  have f1 : Fm ow [] [] [] σ σ1 := by rw [← hσ1]; exact (f0.tr (Fm.nwA _ _ _)).nwP (by omega) _ _
  have k1 : h_K σ1 A = 2 := by rw [← hσ1]; exact hk1
  have z1 : h_z σ1 = A + 2 := by rw [← hσ1]; show h_z σ0 + 1 = _; omega
  have p1 : h_P σ1 64 A = some (A + 1) := by rw [← hσ1, hP_w, zA]
  have kr1 : h_K σ1 (A + 1) = 33 := by rw [← hσ1, ← zA]; exact u1_s _ _ _
  have lr1 : h_L σ1 (A + 1) = n := by rw [← hσ1, ← zA]; exact u1_s _ _ _
  have yr1 : ∀ x, h_Y σ1 (A + 1) x = none := by
    intro x
    rw [← hσ1, ← zA]
    show u_1 (h_Y σ0) (h_z σ0) (fun _ => none) (h_z σ0) x = none
    rw [u1_s]
  refine r_aload_n rfl rfl ?_
  refine r_iload_n rfl rfl ?_
  refine r_iconst (v := nI 0) rfl (by decide) ?_
  refine r_callS (As := [_, _]) rfl (by decide) rfl rfl rfl (Nat.le_of_ble_eq_true rfl) ⟨Nat.le_of_ble_eq_true rfl, Nat.le_of_ble_eq_true rfl⟩ (c_max) (kc' := 1) (ks' := n) (by omega) (by omega) ?_
  rintro r σ1 ⟨rfl, rfl⟩
  rw [emax]
  refine r_anew (t := 3) (m' := n) (kc := 0) (ks := 0) rfl (by decide) rfl (by omega) (fun _ => ?_) |> G.less (by omega) (by omega)
  have hk2 : h_K (n_A σ1 33 n) A = 2 := (u1_n _ _ (show A ≠ h_z σ1 by omega)).trans k1
  refine r_putP rfl hk2 rfl (Or.inr ⟨rfl, rfl⟩) ?_
  refine r_vret rfl rfl ⟨rfl, (f1.tr (Fm.nwA _ _ _)).nwP (by omega) _ _, ?_⟩
  refine ⟨by show h_z σ1 + 1 = _; omega, hk2, ?_, ?_, ?_, ?_, ?_, ?_, fun x => ?_, fun x => ?_⟩
  · rw [hP_n _ _ (by decide)]; exact p1
  · rw [hP_w, z1]
  · show u_1 (h_K σ1) (h_z σ1) 33 (A + 1) = _
    rw [u1_n _ _ (by omega)]; exact kr1
  · rw [← z1]; exact u1_s _ _ _
  · show u_1 (h_L σ1) (h_z σ1) n (A + 1) = _
    rw [u1_n _ _ (by omega)]; exact lr1
  · rw [← z1]; exact u1_s _ _ _
  · show u_1 (h_Y σ1) (h_z σ1) (fun _ => none) (A + 1) x = _
    rw [u1_n _ _ (by omega)]; exact yr1 x
  · rw [← z1]
    show u_1 (h_Y σ1) (h_z σ1) (fun _ => none) (h_z σ1) x = _
    rw [u1_s]
theorem c_Edition_keep {E x p p' n : Nat} (kE : h_K σ E = 2) (p64 : h_P σ 64 E = some (E + 1)) (p65 : h_P σ 65 E = some (E + 2)) (k1 : h_K σ (E + 1) = 33) (k2 : h_K σ (E + 2) = 33) (l1 : h_L σ (E + 1) = n) (l2 : h_L σ (E + 2) = n) (hx : x < n) (hn : n ≤ 120) (kp : h_K σ p = 4) (kp' : h_K σ p' = 4) : Cn l D m_Edition_keep 0 0 [va_rf (some E), .int (nI x), va_rf (some p), va_rf (some p')] σ (fun r τ => r = none ∧ τ = w_Y (w_Y σ (E + 1) (u_1 (h_Y σ (E + 1)) x (some p))) (E + 2) (u_1 (h_Y σ (E + 2)) x (some p'))) := by
  refine Cn.of (by decide) (by repeat (first | exact ca_0 | refine ca_i ?_ | refine ca_r ?_)) (Nat.le_of_ble_eq_true rfl) ?_
  refine r_iload_n rfl rfl ?_
  refine r_if_lt rfl (fun q => absurd q (nI_pos (by omega))) (fun _ => ?_)
  refine r_iload_n rfl rfl ?_
  refine r_aload_n rfl rfl ?_
  (first | refine r_getPv rfl (by first | assumption | rfl) rfl (by assumption) ?_ | refine r_getP rfl (by first | assumption | rfl) rfl ?_)
  refine r_alen rfl (Or.inr (by rw [k1]; decide)) ?_
  rw [l1]
  refine r_geN rfl (by omega) (by omega) (fun q => by omega) (fun _ => ?_)
  refine r_iload_n rfl rfl ?_
  refine r_aload_n rfl rfl ?_
  (first | refine r_getPv rfl (by first | assumption | rfl) rfl (by assumption) ?_ | refine r_getP rfl (by first | assumption | rfl) rfl ?_)
  refine r_alen rfl (Or.inr (by rw [k2]; decide)) ?_
  rw [l2]
  refine r_geN rfl (by omega) (by omega) (fun q => by omega) (fun _ => ?_)
  refine r_aload_n rfl rfl ?_
  (first | refine r_getPv rfl (by first | assumption | rfl) rfl (by assumption) ?_ | refine r_getP rfl (by first | assumption | rfl) rfl ?_)
  refine r_iload_n rfl rfl ?_
  refine r_aload_n rfl rfl ?_
  refine r_aast (t := 3) rfl k1 (by decide) rfl (by rw [l1]; exact hx) (by rw [l1]; omega) (fun b hb => by cases hb; exact kp) ?_
  generalize hσ1 : w_Y σ (E + 1) (u_1 (h_Y σ (E + 1)) x (some p)) = σ1
  have kE1 : h_K σ1 E = 2 := by rw [← hσ1]; exact kE
  have p651 : h_P σ1 65 E = some (E + 2) := by rw [← hσ1]; exact p65
  have k21 : h_K σ1 (E + 2) = 33 := by rw [← hσ1]; exact k2
  have l21 : h_L σ1 (E + 2) = n := by rw [← hσ1]; exact l2
  have y21 : h_Y σ1 (E + 2) = h_Y σ (E + 2) := by rw [← hσ1]; exact u1_n _ _ (by omega)
  refine r_aload_n rfl rfl ?_
  (first | refine r_getPv rfl (by first | assumption | rfl) rfl (by assumption) ?_ | refine r_getP rfl (by first | assumption | rfl) rfl ?_)
  refine r_iload_n rfl rfl ?_
  refine r_aload_n rfl rfl ?_
  refine r_aast (t := 3) rfl k21 (by decide) rfl (by rw [l21]; exact hx) (by rw [l21]; omega) (fun b hb => by cases hb; rw [← hσ1]; exact kp') ?_
  rw [y21]
  exact r_vret rfl rfl ⟨rfl, by rw [← hσ1]⟩
/-- an edition that is being made at E, over σ1; m things are told -/
def EB (ow : Nat → Nat) (σ1 τ : Hp) (c : Nat) (S : Sp) (m : Nat) : Prop :=
  Fm ow [] [] [2] σ1 τ ∧ h_z σ1 + 3 ≤ h_z τ ∧ h_K τ (h_z σ1) = 2 ∧ h_P τ 64 (h_z σ1) = some (h_z σ1 + 1) ∧ h_P τ 65 (h_z σ1) = some (h_z σ1 + 2) ∧ h_K τ (h_z σ1 + 1) = 33 ∧ h_K τ (h_z σ1 + 2) = 33 ∧ h_L τ (h_z σ1 + 1) = s_n S ∧ h_L τ (h_z σ1 + 2) = s_n S ∧ (∃ xs, Ln τ (c + 43) 539 xs) ∧
  ∀ x, x < s_n S → ((∃ q, q < m ∧ (ordT (s_T S))[q]? = some x) → ∃ p p', h_Y τ (h_z σ1 + 1) x = some p ∧ h_Y τ (h_z σ1 + 2) x = some p' ∧ h_z σ1 + 3 ≤ p ∧ p + 1 < h_z τ ∧ Ln τ p (tdT S x).length (tdT S x) ∧ h_z σ1 + 3 ≤ p' ∧ p' + 1 < h_z τ ∧ Ln τ p' (n_n S x).length (n_n S x)) ∧
    ((∀ q, q < m → (ordT (s_T S))[q]? ≠ some x) → h_Y τ (h_z σ1 + 1) x = none ∧ h_Y τ (h_z σ1 + 2) x = none)
theorem RCd.kp2 {τ : Hp} {xs : List Int32} (g : RCd ow σ c ad B S) (h : Fm ow [] [] [2] σ τ) (hl : Ln τ (c + 43) 539 xs) : RCd ow τ c ad B S := by
  obtain ⟨hS, gF, gT, gC, -⟩ := id g.1
  have z0 := gF.1
  have o1 : ow (c + 1) = 1 := gF.tag (q := (1, 1)) (by decide)
  have o2 : ow (c + 2) = 1 := gF.tag (q := (2, 1)) (by decide)
  have g1 := RC.kp12 (FI := []) (t := s_t S) g.1 (h.wide (fun f q => by cases q) (fun f q => by cases q) (by decide)) (fun f q => by cases q) (g.1.2.2.2.2.1.kp h (by omega) (by rw [o1]; decide) (by rw [show c + 1 + 1 = c + 2 by omega, o2]; decide) (fun q => by cases q) (fun q => by cases q)) ⟨xs, hl⟩ g.1.1.2.2.2.2.2.2.1
  refine ⟨g1, ?_, g.2.2.kp h gF hS gT (fun x hx => gC.1 x (Or.inl hx)) (fun f _ q => by cases q) (fun f _ q => by cases q) (by decide)⟩
  rw [(h.2 (c + 35) (by omega)).2.2.1 320 (fun q => by cases q) (fun e => by cases e)]
  exact g.2.1
theorem NF.ln {τ : Hp} {k a cap : Nat} {xs : List Int32} (h : NF σ τ k) (ha : a + 1 < h_z σ) (g : Ln σ a cap xs) : Ln τ a cap xs := by
  obtain ⟨h1, h2, h3, h4, h5, h6⟩ := h.2 a (by omega)
  obtain ⟨g1, g2, g3, g4, g5, g6⟩ := h.2 (a + 1) ha
  unfold Ln at g ⊢
  rw [h1, h3, h2, g1, g4, g5]
  exact g
set_option maxHeartbeats 2000000 in
theorem ed_step {m x kc ks : Nat} {σ1 τ : Hp} {Q : Option Value → Hp → Prop} (g : RCd ow σ1 c ad B S) (hx : (ordT (s_T S))[m]? = some x) (hE : EB ow σ1 τ c S m) (kk : ∀ ρ, EB ow σ1 ρ c S (m + 1) → Gm l D m_NK_edition 483 11642 Q 45 [some (va_rf (some c)), some (va_rf (some (h_z σ1))), some (va_rf (((ordT (s_T S))[m + 1]?).map ad))] [] ρ kc ks) : Gm l D m_NK_edition 483 11642 Q 49 [some (va_rf (some c)), some (va_rf (some (h_z σ1))), some (va_rf (some (ad x)))] [] τ (kc + 4) (ks + 95) := by
  have hS := g.1.1
  obtain ⟨-, -, hxt, hxn, -⟩ := ord_at hS hx
  obtain ⟨e1, e2, e3, e4, e5, e6, e7, e8, e9, ⟨xs, e10⟩, e11⟩ := hE
  have gt := g.kp2 e1 e10
  have z1 := g.1.2.1.1
  have k0 : h_K τ c = 11 := gt.1.2.1.2.1 (0, 11) (by decide)
  have p651 : h_P τ 651 c = some (c + 43) := gt.1.2.1.2.2.1 (651, 0, 43) (by decide)
  have k43 := e10.1
  have t51 := (td_ok hS hxn).1
  have n40 := (n_ok hS x).1
  refine r_aload_n rfl rfl ?_
  (first | refine r_getPv rfl (by first | assumption | rfl) rfl (by assumption) ?_ | refine r_getP rfl (by first | assumption | rfl) rfl ?_)
  refine r_iconst (v := nI 0) rfl (by decide) ?_
  refine r_putI rfl (by first | assumption | rfl) rfl (by first | exact Or.inl rfl | exact Or.inr ⟨rfl, rfl⟩) (by first | rfl | decide | assumption) (by first | rfl | decide) ?_
  obtain ⟨c1, c2⟩ := e10.cut 0 (Nat.zero_le _)
  rw [List.take_zero] at c1
  generalize hτa : w_I τ 193 (c + 43) (nI 0) = τa at c1 c2 ⊢
  obtain ⟨ga, fa⟩ := gt.scr c2 c1
  have k0a : h_K τa c = 11 := ga.1.2.1.2.1 (0, 11) (by decide)
  have p651a : h_P τa 651 c = some (c + 43) := ga.1.2.1.2.2.1 (651, 0, 43) (by decide)
  have kxa := ga.1.2.2.2.1.1 x (Or.inl hxn)
  refine r_aload_n rfl rfl ?_
  refine r_aload_n rfl rfl ?_
  (first | refine r_getPv rfl (by first | assumption | rfl) rfl (by assumption) ?_ | refine r_getP rfl (by first | assumption | rfl) rfl ?_)
  refine r_callV (As := [_]) rfl (by decide) rfl kxa rfl rfl (Nat.le_of_ble_eq_true rfl) ⟨Nat.le_of_ble_eq_true rfl, Nat.le_of_ble_eq_true rfl⟩ (c_tellC ga hxt c1 (by show 0 + 60 ≤ 539; omega)) (kc' := (kc+4)) (ks' := (ks+95)) (by omega) (by omega) (by decide) ?_
  rintro r τb ⟨rfl, d1, d2⟩
  rw [List.nil_append] at d1
  obtain ⟨gb, fb⟩ := ga.scr d2 d1
  have lfb := c2.tr d2
  have k0b : h_K τb c = 11 := gb.1.2.1.2.1 (0, 11) (by decide)
  have p651b : h_P τb 651 c = some (c + 43) := gb.1.2.1.2.2.1 (651, 0, 43) (by decide)
  have kxb := gb.1.2.2.2.1.1 x (Or.inl hxn)
  have i512b := (gb.1.2.2.1.2.2.2 x hxn).2.2.2.1
  refine r_aload_n rfl rfl ?_
  refine r_aload_n rfl rfl ?_
  (first | refine r_getIv rfl (by first | assumption | rfl) rfl (by assumption) ?_ | refine r_getI rfl (by first | assumption | rfl) rfl ?_)
  refine r_aload_n rfl rfl ?_
  (first | refine r_getPv rfl (by first | assumption | rfl) rfl (by assumption) ?_ | refine r_getP rfl (by first | assumption | rfl) rfl ?_)
  refine r_callV (As := []) rfl (by decide) rfl d1.1 rfl rfl (Nat.le_of_ble_eq_true rfl) ⟨Nat.le_of_ble_eq_true rfl, Nat.le_of_ble_eq_true rfl⟩ (c_copy d1) (kc' := (kc+2)) (ks' := (ks+42)) (by omega) (by omega) (by decide) ?_
  rintro r τc ⟨rfl, p1, p2⟩
  have zb : h_z τb = h_z τ := lfb.1
  have zc := p2.1
  have hxz := TN.lt gb.1.2.1 gb.1.2.2.1 (Or.inl hxn)
  obtain ⟨-, t2, t3, -, -, -, -, -, -, p527, -⟩ := gb.1.2.2.1.2.2.2 x hxn
  have kxc : h_K τc (ad x) = 9 := by rw [(p2.2 _ hxz).1]; exact kxb
  have p527c : h_P τc 527 (ad x) = some (ad x + 4) := by rw [(p2.2 _ hxz).2.2.1]; exact p527
  have hnm := (gb.2.2.2 m x hx).2.2.2.2
  have hnmc : Ln τc (ad x + 4) 40 (n_n S x) := p2.ln (by omega) hnm
  refine r_aload_n rfl rfl ?_
  (first | refine r_getPv rfl (by first | assumption | rfl) rfl (by assumption) ?_ | refine r_getP rfl (by first | assumption | rfl) rfl ?_)
  refine r_callV (As := []) rfl (by decide) rfl hnmc.1 rfl rfl (Nat.le_of_ble_eq_true rfl) ⟨Nat.le_of_ble_eq_true rfl, Nat.le_of_ble_eq_true rfl⟩ (c_copy hnmc) (kc' := kc) (ks' := ks) (by omega) (by omega) (by decide) ?_
  rintro r τd ⟨rfl, q1, q2⟩
  have zd := q2.1
  generalize hE' : h_z σ1 = E at *
  have pd : Ln τd (h_z τb) (tdT S x).length (tdT S x) := q2.ln (by omega) p1
  have old : ∀ a, a < h_z τ → h_K τd a = h_K τ a ∧ (∀ f, h_P τd f a = h_P τ f a) ∧ h_L τd a = h_L τ a ∧ h_Y τd a = h_Y τ a := by
    intro a ha
    obtain ⟨u1, u2, u3, u4, u5, u6⟩ := p2.2 a (by omega)
    obtain ⟨v1, v2, v3, v4, v5, v6⟩ := q2.2 a (by omega)
    exact ⟨by rw [v1, u1, lfb.2.1], fun f => by rw [v3, u3, lfb.2.2.1], by rw [v4, u4, lfb.2.2.2.1], by rw [v6, u6, lfb.2.2.2.2.1]⟩
  have lnO : ∀ a cap ys, E + 3 ≤ a → a + 1 < h_z τ → Ln τ a cap ys → Ln τd a cap ys := fun a cap ys h1 h2 h3 => q2.ln (by omega) (p2.ln (by omega) (lfb.keep (by omega) h3))
  have fd : Fm ow [] [] [2] σ1 τd := by
    refine e1.tr (Fm.tr (τ := τb) ?_ (Fm.tr (τ := τc) (Fm.N p2) (Fm.N q2)))
    exact fa.tr fb
  have sc : Ln τd (c + 43) 539 (tdT S x) := q2.ln (by omega) (p2.ln (by omega) d1)
  have kEd : h_K τd E = 2 := by rw [(old E (by omega)).1]; exact e3
  refine r_callV (As := [_, _, _]) rfl (by decide) rfl kEd rfl rfl (Nat.le_of_ble_eq_true rfl) ⟨Nat.le_of_ble_eq_true rfl, Nat.le_of_ble_eq_true rfl⟩ (c_Edition_keep (E := E) (x := x) (n := s_n S) (by rw [(old E (by omega)).1]; exact e3) (by rw [(old E (by omega)).2.1]; exact e4) (by rw [(old E (by omega)).2.1]; exact e5) (by rw [(old (E + 1) (by omega)).1]; exact e6) (by rw [(old (E + 2) (by omega)).1]; exact e7) (by rw [(old (E + 1) (by omega)).2.2.1]; exact e8) (by rw [(old (E + 2) (by omega)).2.2.1]; exact e9) hxn hS.1 pd.1 q1.1) (kc' := kc) (ks' := ks) (by omega) (by omega) (by decide) ?_
  rintro r ρ ⟨rfl, hρ⟩
  have lnR : ∀ a cap ys, Ln τd a cap ys → Ln ρ a cap ys := by
    intro a cap ys q
    rw [hρ]
    exact q
  have y1 : h_Y ρ (E + 1) = u_1 (h_Y τ (E + 1)) x (some (h_z τb)) := by
    rw [hρ, ← (old (E + 1) (by omega)).2.2.2]
    exact (u1_n _ _ (by omega)).trans (u1_s _ _ _)
  have y2 : h_Y ρ (E + 2) = u_1 (h_Y τ (E + 2)) x (some (h_z τc)) := by
    rw [hρ, ← (old (E + 2) (by omega)).2.2.2]
    exact u1_s _ _ _
  have zr : h_z ρ = h_z τd := by rw [hρ]; rfl
  have eKr : h_K ρ = h_K τd := by rw [hρ]; rfl
  have ePr : h_P ρ = h_P τd := by rw [hρ]; rfl
  have eLr : h_L ρ = h_L τd := by rw [hρ]; rfl
  have fr : Fm ow [] [] [2] σ1 ρ := by rw [hρ]; exact (fd.nwY (by omega) _).nwY (by omega) _
  have hEr : EB ow σ1 ρ c S (m + 1) := by
    unfold EB
    rw [hE']
    refine ⟨fr, by omega, by rw [eKr, (old E (by omega)).1]; exact e3, by rw [ePr, (old E (by omega)).2.1]; exact e4, by rw [ePr, (old E (by omega)).2.1]; exact e5, by rw [eKr, (old (E + 1) (by omega)).1]; exact e6, by rw [eKr, (old (E + 2) (by omega)).1]; exact e7, by rw [eLr, (old (E + 1) (by omega)).2.2.1]; exact e8, by rw [eLr, (old (E + 2) (by omega)).2.2.1]; exact e9, ⟨_, lnR _ _ _ sc⟩, fun y hy => ⟨fun ⟨q, hq, hqy⟩ => ?_, fun hno => ?_⟩⟩
    · by_cases e : y = x
      · subst e
        exact ⟨h_z τb, h_z τc, by rw [y1, u1_s], by rw [y2, u1_s], by omega, by omega, lnR _ _ _ pd, by omega, by omega, lnR _ _ _ q1⟩
      · have hqm : q ≠ m := fun w => by rw [w, hx] at hqy; exact e (Option.some.inj hqy).symm
        obtain ⟨p, p', w1, w2, w3, w4, w5, w6, w7, w8⟩ := (e11 y hy).1 ⟨q, by omega, hqy⟩
        exact ⟨p, p', by rw [y1, u1_n _ _ e]; exact w1, by rw [y2, u1_n _ _ e]; exact w2, w3, by omega, lnR _ _ _ (lnO _ _ _ w3 w4 w5), w6, by omega, lnR _ _ _ (lnO _ _ _ w6 w7 w8)⟩
    · have e : y ≠ x := fun w => hno m (by omega) (by rw [w]; exact hx)
      obtain ⟨w1, w2⟩ := (e11 y hy).2 (fun q hq => hno q (by omega))
      exact ⟨by rw [y1, u1_n _ _ e]; exact w1, by rw [y2, u1_n _ _ e]; exact w2⟩
  have gr := g.kp2 fr (lnR _ _ _ sc)
  have kxr := gr.1.2.2.2.1.1 x (Or.inl hxn)
  have nxr := gr.nx.2 m x hx
  have kk := kk ρ hEr
  refine r_aload_n rfl rfl ?_
  (first | refine r_getPv rfl (by first | assumption | rfl) rfl (by assumption) ?_ | refine r_getP rfl (by first | assumption | rfl) rfl ?_)
  refine r_astore_n rfl (by decide) ?_
  refine r_goto rfl ?_
  exact kk
/-- only the editions have changed -/
theorem RC.kpE {τ : Hp} {ow' : Nat → Nat} {es : List Ed} (g : RC ow σ c ad B S) (h : Fm ow [649] [] [2, 11] σ τ) (he : ∀ a, a < h_z σ → ow' a = ow a) (hS : SOk (sE S (s_e S ++ es))) (hs : ∃ xs, Ln τ (c + 43) 539 xs) (hm : CE ow' τ c (sE S (s_e S ++ es))) : RC ow' τ c ad B (sE S (s_e S ++ es)) := by
  obtain ⟨g1, g2, g3, g4, g5, g6, g7, g8, g9, g10, g11, g12, g13⟩ := g
  have z0 := g2.1
  have o1 : ow (c + 1) = 1 := g2.tag (q := (1, 1)) (by decide)
  have o2 : ow (c + 2) = 1 := g2.tag (q := (2, 1)) (by decide)
  have np : ∀ L : List Nat, ∀ f ∈ L, f ∉ ([] : List Nat) := fun L f _ q => by cases q
  refine ⟨hS, g2.kp h (by decide) (by decide) (fun q _ w => by cases w) (by decide) he, g3.kp h g2 (by decide) (np _) (by decide) (g3.lk h (by decide) (fun q => by cases q) (by decide)) he, g4.kp h g2 g3 g1.wf.w0 (by decide) (np _), g5.kp h (by omega) (by rw [o1]; decide) (by rw [show c + 1 + 1 = c + 2 by omega, o2]; decide) (by decide) (by decide), hs, g7.kp h g2 (by decide) (by decide) (by decide) rfl rfl, ?_, CL.kp (S := S) h g2 (by decide) (np _) (by decide) g9, CM.kp (S := S) (S' := sE S (s_e S ++ es)) h g2 (by decide) (np _) (by decide) (by decide) he rfl (fun q hq h4 => ?_) g10, hm, g12.kp h g2 (by decide) (by decide) rfl, g13.kp h g2 g3 (by decide)⟩
  · rw [(h.2 (c + 35) (by omega)).2.2.1 320 (by decide) (fun e => by cases e)]
    rcases g8 with g8 | ⟨g8, g8'⟩
    · exact Or.inl g8
    · have hcn : CN τ c ad S := CN.kp h g2 g1 g3 (fun x hx => g4.1 x (Or.inl hx)) (by decide) (np _) (by decide) g8'
      exact Or.inr ⟨g8, hcn⟩
  · obtain ⟨i, k, f, e, m⟩ := q
    obtain ⟨-, d, d1, -⟩ := (g1.2.2.2.2.2.2.2.2.2.1 i k f e m hq).2.2.2.2.2.2.1 h4
    have hel : e < (s_e S).length := (List.getElem?_eq_some_iff.mp d1).1
    unfold edT
    show (match (s_e S ++ es)[e]? with | none => [] | some d => match d f with | none => [] | some t => t.1) = _
    rw [List.getElem?_append_left hel]
    rfl
def owE (ow : Nat → Nat) (A : Nat) : Nat → Nat := fun a => if A ≤ a then 6 else ow a
set_option maxHeartbeats 2000000 in
theorem c_NK_edition (g0 : RC ow σ c ad B S) : Cn l D m_NK_edition 483 11642 [va_rf (some c)] σ (fun r τ => r = some (.int (a_edit S).1) ∧ ∃ ow' ad', RC ow' τ c ad' (B + 200) (a_edit S).2 ∧ CFm ow ow' σ τ) := by
  have hS := g0.1
  have hW := hS.wf
  have hn := hS.1
  have hel := hS.2.2.2.2.2.2.2.2.1
  have hll := ord_len hW
  have k0 : h_K σ c = 11 := g0.2.1.2.1 (0, 11) (by decide)
  have k35 : h_K σ (c + 35) = 6 := g0.2.1.2.1 (35, 6) (by decide)
  have p642 : h_P σ 642 c = some (c + 35) := g0.2.1.2.2.1 (642, 0, 35) (by decide)
  have i649 : h_I σ 649 c = nI (s_e S).length := g0.2.2.2.2.2.2.2.2.2.2.1.1
  generalize hQ : (fun (r : Option Value) (τ : Hp) => r = some (.int (a_edit S).1) ∧ ∃ ow' ad', RC ow' τ c ad' (B + 200) (a_edit S).2 ∧ CFm ow ow' σ τ) = Q
  refine Cn.of (by decide) (by repeat (first | exact ca_0 | refine ca_i ?_ | refine ca_r ?_)) (Nat.le_of_ble_eq_true rfl) ?_
  refine r_aload_n rfl rfl ?_
  (first | refine r_getIv rfl (by first | assumption | rfl) rfl (by assumption) ?_ | refine r_getI rfl (by first | assumption | rfl) rfl ?_)
  refine r_bipush (v := nI 8) rfl (by decide) ?_
  refine r_ltN rfl (by omega) (by omega) (fun hlt => ?_) (fun hge => ?_)
  · refine r_aload_n rfl rfl ?_
    (first | refine r_getPv rfl (by first | assumption | rfl) rfl (by assumption) ?_ | refine r_getP rfl (by first | assumption | rfl) rfl ?_)
    refine r_callV (As := []) rfl (by decide) rfl k35 rfl rfl (Nat.le_of_ble_eq_true rfl) ⟨Nat.le_of_ble_eq_true rfl, Nat.le_of_ble_eq_true rfl⟩ (c_renew g0) (kc' := 483) (ks' := 11642) (by omega) (by omega) (by decide) ?_
    rintro r σ1 ⟨rfl, g, f1, -⟩
    have fw : Fm ow cAI cAP cAR σ σ1 := f1.wide (by decide) (by decide) (by decide)
    have z1 := g.1.2.1.1
    refine r_new (kc := 482) (ks := 11640) rfl (fun _ => ?_) |> G.less (by omega) (by show 11640 + 2 ≤ _; omega)
    have gO := g.1.still (τ := n_O σ1 2) (Fm.nwO _ _)
    have k0O : h_K (n_O σ1 2) c = 11 := gO.2.1.2.1 (0, 11) (by decide)
    have k3O : h_K (n_O σ1 2) (c + 3) = 10 := gO.2.1.2.1 (3, 10) (by decide)
    have p641O : h_P (n_O σ1 2) 641 c = some (c + 3) := gO.2.1.2.2.1 (641, 0, 3) (by decide)
    have i579O : h_I (n_O σ1 2) 579 (c + 3) = nI (s_n S) := gO.2.2.1.1
    show Gm l D m_NK_edition 483 11642 Q 22 [some (va_rf (some c)), none, none] [va_rf (some (h_z σ1))] (n_O σ1 2) 482 11640
    refine r_dup rfl (by first | rfl | exact rf_cat _) ?_
    refine r_aload_n rfl rfl ?_
    (first | refine r_getPv rfl (by first | assumption | rfl) rfl (by assumption) ?_ | refine r_getP rfl (by first | assumption | rfl) rfl ?_)
    (first | refine r_getIv rfl (by first | assumption | rfl) rfl (by assumption) ?_ | refine r_getI rfl (by first | assumption | rfl) rfl ?_)
    refine r_callI (As := [_]) rfl (by decide) rfl rfl rfl (Nat.le_of_ble_eq_true rfl) ⟨Nat.le_of_ble_eq_true rfl, Nat.le_of_ble_eq_true rfl⟩ (c_Edition_init (ow := ow) hn) (kc' := 480) (ks' := 11400) (by omega) (by omega) ?_
    rintro r τ0 ⟨rfl, a1, a2, a3, a4, a5, a6, a7, a8, a9, a10, a11⟩
    obtain ⟨xs, hxs⟩ := g.1.2.2.2.2.2.1
    have hxs0 : Ln τ0 (c + 43) 539 xs := hxs.kp a1 (by omega) (fun q => by cases q) (fun q => by cases q) (fun q => by cases q) (fun q => by cases q)
    have hE0 : EB ow σ1 τ0 c S 0 := ⟨a1.wide (fun f q => by cases q) (fun f q => by cases q) (fun f q => by cases q), by omega, a3, a4, a5, a6, a7, a8, a9, ⟨xs, hxs0⟩, fun x hx => ⟨fun ⟨q, hq, _⟩ => by omega, fun _ => ⟨a10 x, a11 x⟩⟩⟩
    have loop : ∀ (d m : Nat) (τ : Hp), m + d = (ordT (s_T S)).length → EB ow σ1 τ c S m → Gm l D m_NK_edition 483 11642 Q 45 [some (va_rf (some c)), some (va_rf (some (h_z σ1))), some (va_rf (((ordT (s_T S))[m]?).map ad))] [] τ (4 * d) (95 * d) := by
      intro d
      induction d with
      | zero =>
        intro m τ hm hE
        obtain ⟨e1, e2, e3, e4, e5, e6, e7, e8, e9, ⟨ys, e10⟩, e11⟩ := hE
        have gt := g.kp2 e1 e10
        have k0t : h_K τ c = 11 := gt.1.2.1.2.1 (0, 11) (by decide)
        have k40t : h_K τ (c + 40) = 31 := gt.1.2.1.2.1 (40, 31) (by decide)
        have l40t : h_L τ (c + 40) = 8 := gt.1.2.1.2.2.2.1 (40, 8) (by decide)
        have p648t : h_P τ 648 c = some (c + 40) := gt.1.2.1.2.2.1 (648, 0, 40) (by decide)
        have i649t : h_I τ 649 c = nI (s_e S).length := gt.1.2.2.2.2.2.2.2.2.2.2.1.1
        have o40 : ow (c + 40) = 11 := g.1.2.1.tag (q := (40, 11)) (by decide)
        rw [List.getElem?_eq_none (by omega)]
        refine r_aload_n rfl rfl ?_
        refine r_ifnull rfl (fun _ => ?_) (fun _ hq => by cases hq)
        refine r_aload_n rfl rfl ?_
        (first | refine r_getPv rfl (by first | assumption | rfl) rfl (by assumption) ?_ | refine r_getP rfl (by first | assumption | rfl) rfl ?_)
        refine r_aload_n rfl rfl ?_
        (first | refine r_getIv rfl (by first | assumption | rfl) rfl (by assumption) ?_ | refine r_getI rfl (by first | assumption | rfl) rfl ?_)
        refine r_aload_n rfl rfl ?_
        refine r_aast (t := 1) rfl k40t (by decide) rfl (by rw [l40t]; exact hlt) (by rw [l40t]; decide) (fun b hb => by cases hb; exact e3) ?_
        generalize hτ1 : w_Y τ (c + 40) (u_1 (h_Y τ (c + 40)) (s_e S).length (some (h_z σ1))) = τ1
        have k0t1 : h_K τ1 c = 11 := by rw [← hτ1]; exact k0t
        have i649t1 : h_I τ1 649 c = nI (s_e S).length := by rw [← hτ1]; exact i649t
        refine r_aload_n rfl rfl ?_
        refine r_dup rfl (by first | rfl | exact rf_cat _) ?_
        (first | refine r_getIv rfl (by first | assumption | rfl) rfl (by assumption) ?_ | refine r_getI rfl (by first | assumption | rfl) rfl ?_)
        refine r_iconst (v := nI 1) rfl (by decide) ?_
        (first | refine r_iaddN rfl ?_ | refine r_iadd rfl ?_)
        refine r_putI rfl (by first | assumption | rfl) rfl (by first | exact Or.inl rfl | exact Or.inr ⟨rfl, rfl⟩) (by first | rfl | decide | assumption) (by first | rfl | decide) ?_
        generalize hτ2 : w_I τ1 649 c (nI ((s_e S).length + 1)) = τ2
        have k0t2 : h_K τ2 c = 11 := by rw [← hτ2]; exact k0t1
        have i649t2 : h_I τ2 649 c = nI ((s_e S).length + 1) := by rw [← hτ2]; exact hI_w _ _ _ _
        refine r_aload_n rfl rfl ?_
        (first | refine r_getIv rfl (by first | assumption | rfl) rfl (by assumption) ?_ | refine r_getI rfl (by first | assumption | rfl) rfl ?_)
        refine r_iconst (v := nI 1) rfl (by decide) ?_
        refine r_isubN rfl (by omega) ?_
        rw [show (s_e S).length + 1 - 1 = (s_e S).length by omega]
        refine r_iret rfl rfl ?_
        have f02 : Fm ow [649] [] [2, 11] τ τ2 := by rw [← hτ2, ← hτ1]; exact (Fm.Y _ _ (by rw [o40]; decide)).tr (Fm.I _ _ _ (by decide))
        have f12 : Fm ow [649] [] [2, 11] σ1 τ2 := (e1.wide (fun f q => by cases q) (fun f q => by cases q) (by decide)).tr f02
        have eY : h_Y τ2 (c + 40) = u_1 (h_Y τ (c + 40)) (s_e S).length (some (h_z σ1)) := by rw [← hτ2, ← hτ1]; exact u1_s _ _ _
        have eYn : ∀ b, b ≠ c + 40 → h_Y τ2 b = h_Y τ b := fun b hb => by rw [← hτ2, ← hτ1]; exact u1_n _ _ hb
        have eK : h_K τ2 = h_K τ := by rw [← hτ2, ← hτ1]; rfl
        have eP : h_P τ2 = h_P τ := by rw [← hτ2, ← hτ1]; rfl
        have eL : h_L τ2 = h_L τ := by rw [← hτ2, ← hτ1]; rfl
        have ez : h_z τ2 = h_z τ := by rw [← hτ2, ← hτ1]; rfl
        have lnE : ∀ a cap ws, Ln τ a cap ws → Ln τ2 a cap ws := by
          intro a cap ws q
          have eX : h_X τ2 = h_X τ := by rw [← hτ2, ← hτ1]; rfl
          have eI : ∀ b, h_I τ2 193 b = h_I τ 193 b := fun b => by rw [← hτ2, hI_n _ _ (by decide), ← hτ1]; rfl
          unfold Ln at q ⊢
          rw [eK, eP, eL, eX, eI]
          exact q
        have ea : a_edit S = (nI (s_e S).length, sE S (s_e S ++ [edN S])) := by unfold a_edit; rw [if_neg (by omega)]
        have he : ∀ a, a < h_z σ1 → owE ow (h_z σ1) a = ow a := fun a ha => if_neg (by omega)
        rw [← hQ]
        show _ = some (Value.int (a_edit S).1) ∧ ∃ ow' ad', RC ow' τ2 c ad' (B + 200) (a_edit S).2 ∧ _
        rw [ea]
        refine ⟨rfl, owE ow (h_z σ1), ad, RC.more (B := B) (g.1.kpE f12 he (hS.e hlt) ⟨ys, lnE _ _ _ e10⟩ ⟨?_, fun k d hd => ?_⟩) (by omega), fw.tr (f12.wide (by decide) (fun f q => by cases q) (by decide)), fun a ha => he a (by have := f1.1; omega)⟩
        · show _ = nI (s_e S ++ [edN S]).length
          rw [i649t2, List.length_append, List.length_singleton]
        · have hd : (s_e S ++ [edN S])[k]? = some d := hd
          by_cases hk : k < (s_e S).length
          · rw [List.getElem?_append_left hk] at hd
            obtain ⟨a, b1, b2⟩ := g.1.2.2.2.2.2.2.2.2.2.2.1.2 k d hd
            refine ⟨a, ?_, b2.kp f12 (by decide) (fun f _ q => by cases q) (by decide) he⟩
            rw [eY, u1_n _ _ (by omega), ((e1.2 (c + 40) (by omega)).2.2.2.2 (by rw [o40]; decide)).2]
            exact b1
          · rw [List.getElem?_append_right (by omega)] at hd
            have hk2 : k - (s_e S).length = 0 := by
              have := (List.getElem?_eq_some_iff.mp hd).1
              rw [List.length_singleton] at this
              omega
            rw [hk2] at hd
            have hd : edN S = d := Option.some.inj hd
            subst hd
            refine ⟨h_z σ1, by rw [eY, show k = (s_e S).length by omega, u1_s], by omega, by rw [eK]; exact e3, h_z σ1 + 1, h_z σ1 + 2, s_n S, by rw [eP]; exact e4, by rw [eP]; exact e5, by omega, by omega, if_pos (by omega), if_pos (by omega), by rw [eK]; exact e6, by rw [eK]; exact e7, by rw [eL]; exact e8, by rw [eL]; exact e9, hn, fun x hx => ?_, fun x hx => ?_⟩
            · unfold edN
              rw [if_neg (fun w => by have := hW.h_lt w; omega)]
            · rw [eYn _ (by omega), eYn _ (by omega)]
              unfold edN
              by_cases ht : t_h (s_T S) x = true
              · rw [if_pos ht]
                refine ⟨(fun w => by cases w), fun td nm w => ?_⟩
                have w := Option.some.inj w
                injection w with w1 w2
                subst w1 w2
                obtain ⟨q1, -, q3⟩ := idx_at ((ord_mem hW).mpr ht)
                obtain ⟨p, p', v1, v2, v3, v4, v5, v6, v7, v8⟩ := (e11 x hx).1 ⟨_, by omega, q3⟩
                exact ⟨p, p', v1, v2, ⟨by omega, if_pos (by omega), if_pos (by omega), lnE _ _ _ v5⟩, ⟨by omega, if_pos (by omega), if_pos (by omega), lnE _ _ _ v8⟩⟩
              · rw [if_neg ht]
                refine ⟨fun _ => (e11 x hx).2 (fun q _ hq => ht (ord_at hS hq).2.2.1), fun td nm w => by cases w⟩
      | succ d ih =>
        intro m τ hm hE
        obtain ⟨x, hx⟩ : ∃ x, (ordT (s_T S))[m]? = some x := ⟨_, List.getElem?_eq_getElem (by omega)⟩
        rw [hx]
        refine r_aload_n rfl rfl ?_
        refine r_ifnull rfl (fun hq => by cases hq) (fun _ _ => ?_)
        exact G.less (kc' := 4 * d + 4) (ks' := 95 * d + 95) (by omega) (by omega) (ed_step g hx hE (fun ρ hρ => ih (m + 1) ρ (by omega) hρ))
    have gt0 := g.kp2 hE0.1 hxs0
    have k00 : h_K τ0 c = 11 := gt0.1.2.1.2.1 (0, 11) (by decide)
    have k30 : h_K τ0 (c + 3) = 10 := gt0.1.2.1.2.1 (3, 10) (by decide)
    have k40 : h_K τ0 (c + 4) = 9 := gt0.1.2.1.2.1 (4, 9) (by decide)
    have p6410 : h_P τ0 641 c = some (c + 3) := gt0.1.2.1.2.2.1 (641, 0, 3) (by decide)
    have p5760 : h_P τ0 576 (c + 3) = some (c + 4) := gt0.1.2.1.2.2.1 (576, 3, 4) (by decide)
    have p5200 := gt0.nx.1
    refine r_astore_n rfl (by decide) ?_
    refine r_aload_n rfl rfl ?_
    (first | refine r_getPv rfl (by first | assumption | rfl) rfl (by assumption) ?_ | refine r_getP rfl (by first | assumption | rfl) rfl ?_)
    (first | refine r_getPv rfl (by first | assumption | rfl) rfl (by assumption) ?_ | refine r_getP rfl (by first | assumption | rfl) rfl ?_)
    (first | refine r_getPv rfl (by first | assumption | rfl) rfl (by assumption) ?_ | refine r_getP rfl (by first | assumption | rfl) rfl ?_)
    refine r_astore_n rfl (by decide) ?_
    exact G.less (by omega) (by omega) (loop (ordT (s_T S)).length 0 τ0 (by omega) hE0)
  · refine r_bipush (v := -3) rfl (by decide) ?_
    refine r_iret rfl rfl ?_
    have ea : a_edit S = (-3, S) := by unfold a_edit; rw [if_pos (by omega)]
    rw [← hQ]
    show _ = some (Value.int (a_edit S).1) ∧ ∃ ow' ad', RC ow' σ c ad' (B + 200) (a_edit S).2 ∧ _
    rw [ea]
    exact ⟨rfl, ow, ad, g0.more (by omega), CFm.rf _ _⟩
end ED
