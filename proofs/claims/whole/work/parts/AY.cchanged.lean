/-! ===== the class: changed ===== -/
theorem cntB_ext {p : Nat → Bool} {n : Nat} : ∀ (m : Nat), n ≤ m → (∀ x, n ≤ x → x < m → p x = false) → cntB p m = cntB p n := by
  intro m
  induction m with
  | zero => intro h _; rw [show n = 0 by omega]
  | succ m ih =>
    intro h hp
    by_cases e : n = m + 1
    · rw [e]
    · rw [cntB_f (hp m (by omega) (by omega)), Nat.add_zero]
      exact ih (by omega) (fun x h1 h2 => hp x h1 (by omega))
section ED
variable {l : Launch} {D : DD} {σ : Hp} {c B : Nat} {ow ad : Nat → Nat} {S : Sp}
theorem c_isStillTold {x p : Nat} {td : List Int32} (g : RCd ow σ c ad B S) (hx : x < s_n S) (hp : LnI ow σ p td) : Cn l D m_NK_isStillTold 0 0 [va_rf (some c), va_rf (some (ad x)), va_rf (some p)] σ (fun r τ => r = some (.int (nI (match ldo (s_T S) x with
    | none => false
    | some y => decide (tdT S y = td)).toNat)) ∧ RCd ow τ c ad B S ∧ Fm ow ([] : List Nat) [] [2] σ τ) := by
  have hS := g.1.1
  have k0 : h_K σ c = 11 := g.1.2.1.2.1 (0, 11) (by decide)
  have k43 : h_K σ (c + 43) = 4 := g.1.2.1.2.1 (43, 4) (by decide)
  have p651 : h_P σ 651 c = some (c + 43) := g.1.2.1.2.2.1 (651, 0, 43) (by decide)
  have kx := g.1.2.2.2.1.1 x (Or.inl hx)
  have o43 : ow (c + 43) = 2 := g.1.2.1.tag (q := (43, 2)) (by decide)
  generalize hQ : (fun (r : Option Value) (τ : Hp) => r = some (.int (nI (match ldo (s_T S) x with
    | none => false
    | some y => decide (tdT S y = td)).toNat)) ∧ RCd ow τ c ad B S ∧ Fm ow ([] : List Nat) [] [2] σ τ) = Q
  refine Cn.of (by decide) (by repeat (first | exact ca_0 | refine ca_i ?_ | refine ca_r ?_)) (Nat.le_of_ble_eq_true rfl) ?_
  refine r_aload_n rfl rfl ?_
  refine r_callV (As := []) rfl (by decide) rfl kx rfl rfl (Nat.le_of_ble_eq_true rfl) ⟨Nat.le_of_ble_eq_true rfl, Nat.le_of_ble_eq_true rfl⟩ (c_leadTC g.1 hx) (kc' := 0) (ks' := 0) (by omega) (by omega) (by decide) ?_
  rintro r σ ⟨rfl, rfl⟩
  refine r_astore_n rfl (by decide) ?_
  refine r_aload_n rfl rfl ?_
  cases hld : ldo (s_T S) x with
  | none =>
    refine r_ifnonnull rfl (fun _ hq => by cases hq) (fun _ => ?_)
    refine r_iconst (v := nI 0) rfl (by decide) ?_
    refine r_zret rfl rfl (by decide) ?_
    rw [← hQ]
    refine ⟨?_, g, Fm.rf _ _ _ _ _⟩
    rw [hld]
    rfl
  | some y =>
    have hyt := (ldo_lt hS hld).2.1
    have hyn := (ldo_lt hS hld).1
    refine r_ifnonnull rfl (fun _ _ => ?_) (fun hq => by cases hq)
    show Gm l D m_NK_isStillTold 0 0 Q 11 [some (va_rf (some c)), some (va_rf (some (ad x))), some (va_rf (some p)), some (va_rf (some (ad y)))] [] σ 0 0
    obtain ⟨xs, hxs⟩ := g.1.2.2.2.2.2.1
    refine r_aload_n rfl rfl ?_
    (first | refine r_getPv rfl (by first | assumption | rfl) rfl (by assumption) ?_ | refine r_getP rfl (by first | assumption | rfl) rfl ?_)
    refine r_iconst (v := nI 0) rfl (by decide) ?_
    refine r_putI rfl (by first | assumption | rfl) rfl (by first | exact Or.inl rfl | exact Or.inr ⟨rfl, rfl⟩) (by first | rfl | decide | assumption) (by first | rfl | decide) ?_
    obtain ⟨c1, c2⟩ := hxs.cut 0 (Nat.zero_le _)
    rw [List.take_zero] at c1
    generalize hσ1 : w_I σ 193 (c + 43) (nI 0) = σ1 at c1 c2 ⊢
    obtain ⟨g1, f1⟩ := g.scr c2 c1
    have k01 : h_K σ1 c = 11 := g1.1.2.1.2.1 (0, 11) (by decide)
    have p6511 : h_P σ1 651 c = some (c + 43) := g1.1.2.1.2.2.1 (651, 0, 43) (by decide)
    have ky := g1.1.2.2.2.1.1 y (Or.inl hyn)
    refine r_aload_n rfl rfl ?_
    refine r_aload_n rfl rfl ?_
    (first | refine r_getPv rfl (by first | assumption | rfl) rfl (by assumption) ?_ | refine r_getP rfl (by first | assumption | rfl) rfl ?_)
    refine r_callV (As := [_]) rfl (by decide) rfl ky rfl rfl (Nat.le_of_ble_eq_true rfl) ⟨Nat.le_of_ble_eq_true rfl, Nat.le_of_ble_eq_true rfl⟩ (c_tellC g1 hyt c1 (by show 0 + 60 ≤ 539; omega)) (kc' := 0) (ks' := 0) (by omega) (by omega) (by decide) ?_
    rintro r σ2 ⟨rfl, d1, d2⟩
    rw [List.nil_append] at d1
    obtain ⟨g2, f2⟩ := g1.scr d2 d1
    have k02 : h_K σ2 c = 11 := g2.1.2.1.2.1 (0, 11) (by decide)
    have p6512 : h_P σ2 651 c = some (c + 43) := g2.1.2.1.2.2.1 (651, 0, 43) (by decide)
    have hp2 : Ln σ2 p td.length td := (c2.tr d2).keep (fun e => by have h6 := hp.2.1; rw [e, o43] at h6; omega) hp.2.2.2
    refine r_aload_n rfl rfl ?_
    (first | refine r_getPv rfl (by first | assumption | rfl) rfl (by assumption) ?_ | refine r_getP rfl (by first | assumption | rfl) rfl ?_)
    refine r_aload_n rfl rfl ?_
    refine r_callV (As := [_]) rfl (by decide) rfl d1.1 rfl rfl (Nat.le_of_ble_eq_true rfl) ⟨Nat.le_of_ble_eq_true rfl, Nat.le_of_ble_eq_true rfl⟩ (c_isSame d1 hp2) (kc' := 0) (ks' := 0) (by omega) (by omega) (by decide) ?_
    rintro r σ2 ⟨rfl, rfl⟩
    refine r_zret rfl rfl (nar_B _) ?_
    rw [← hQ]
    refine ⟨?_, g2, f1.tr f2⟩
    rw [hld]
set_option maxHeartbeats 1000000 in
theorem c_NK_changed {v : Int32} (g0 : RC ow σ c ad B S) : Cn l D m_NK_changed 0 0 [va_rf (some c), .int v] σ (fun r τ => r = some (.int (a_chan S v)) ∧ ∃ ow' ad', RC ow' τ c ad' (B + 200) S ∧ CFm ow ow' σ τ) := by
  have hS := g0.1
  have hn := hS.1
  have k0 : h_K σ c = 11 := g0.2.1.2.1 (0, 11) (by decide)
  have k35 : h_K σ (c + 35) = 6 := g0.2.1.2.1 (35, 6) (by decide)
  have p642 : h_P σ 642 c = some (c + 35) := g0.2.1.2.2.1 (642, 0, 35) (by decide)
  generalize hQ : (fun (r : Option Value) (τ : Hp) => r = some (.int (a_chan S v)) ∧ ∃ ow' ad', RC ow' τ c ad' (B + 200) S ∧ CFm ow ow' σ τ) = Q
  refine Cn.of (by decide) (by repeat (first | exact ca_0 | refine ca_i ?_ | refine ca_r ?_)) (Nat.le_of_ble_eq_true rfl) ?_
  refine r_aload_n rfl rfl ?_
  refine r_iload_n rfl rfl ?_
  refine r_callV (As := [_]) rfl (by decide) rfl k0 rfl rfl (Nat.le_of_ble_eq_true rfl) ⟨Nat.le_of_ble_eq_true rfl, Nat.le_of_ble_eq_true rfl⟩ (c_editionOf g0) (kc' := 0) (ks' := 0) (by omega) (by omega) (by decide) ?_
  rintro r σ ⟨rfl, hed⟩
  rcases hed with ⟨hnone, rfl⟩ | ⟨d, a, hsome, hdm, rfl, hce⟩
  · refine r_astore_n rfl (by decide) ?_
    refine r_aload_n rfl rfl ?_
    refine r_ifnonnull rfl (fun _ hq => by cases hq) (fun _ => ?_)
    refine r_bipush (v := -2) rfl (by decide) ?_
    refine r_iret rfl rfl ?_
    rw [← hQ]
    refine ⟨?_, ow, ad, g0.more (by omega), CFm.rf _ _⟩
    unfold a_chan
    rw [hnone]
  · refine r_astore_n rfl (by decide) ?_
    refine r_aload_n rfl rfl ?_
    refine r_ifnonnull rfl (fun _ _ => ?_) (fun hq => by cases hq)
    refine r_aload_n rfl rfl ?_
    (first | refine r_getPv rfl (by first | assumption | rfl) rfl (by assumption) ?_ | refine r_getP rfl (by first | assumption | rfl) rfl ?_)
    refine r_callV (As := []) rfl (by decide) rfl k35 rfl rfl (Nat.le_of_ble_eq_true rfl) ⟨Nat.le_of_ble_eq_true rfl, Nat.le_of_ble_eq_true rfl⟩ (c_renew g0) (kc' := 0) (ks' := 0) (by omega) (by omega) (by decide) ?_
    rintro r σ1 ⟨rfl, g1, f1, -⟩
    have fw : Fm ow cAI cAP cAR σ σ1 := f1.wide (by decide) (by decide) (by decide)
    have hce1 : CE1 ow σ1 a d := hce.kp f1 (by decide) (by decide) (by decide) (fun _ _ => rfl)
    have ea : a_chan S v = nI (cntB (chB S d) (s_n S)) := by
      unfold a_chan
      rw [hsome]
      show nI (cntB (chB S d) 120) = _
      rw [cntB_ext (n := s_n S) 120 hn (fun x h1 h2 => ?_)]
      unfold chB
      cases hdx : d x with
      | none => rfl
      | some t =>
        have := (hS.2.2.2.2.2.2.2.2.2.2 d hdm x t.1 t.2 hdx).1
        omega
    have loop : ∀ (dd x : Nat) (τ : Hp) (w5 w6 : Option Value), x + dd = s_n S → RCd ow τ c ad B S → Fm ow [] [] [2] σ1 τ → Gm l D m_NK_changed 0 0 Q 25 [some (va_rf (some c)), some (.int v), some (va_rf (some a)), some (.int (nI (cntB (chB S d) x))), some (.int (nI x)), w5, w6] [] τ 0 0 := by
      intro dd
      induction dd with
      | zero =>
        intro x τ w5 w6 hx g fr
        have k0t : h_K τ c = 11 := g.1.2.1.2.1 (0, 11) (by decide)
        have k3t : h_K τ (c + 3) = 10 := g.1.2.1.2.1 (3, 10) (by decide)
        have p641t : h_P τ 641 c = some (c + 3) := g.1.2.1.2.2.1 (641, 0, 3) (by decide)
        have i579t : h_I τ 579 (c + 3) = nI (s_n S) := g.1.2.2.1.1
        refine r_iload rfl rfl ?_
        refine r_aload_n rfl rfl ?_
        (first | refine r_getPv rfl (by first | assumption | rfl) rfl (by assumption) ?_ | refine r_getP rfl (by first | assumption | rfl) rfl ?_)
        (first | refine r_getIv rfl (by first | assumption | rfl) rfl (by assumption) ?_ | refine r_getI rfl (by first | assumption | rfl) rfl ?_)
        refine r_geN rfl (by omega) (by omega) (fun _ => ?_) (fun w => by omega)
        refine r_iload_n rfl rfl ?_
        refine r_iret rfl rfl ?_
        rw [← hQ]
        refine ⟨?_, g.out (by omega) (fw.tr (fr.wide (fun f q => by cases q) (fun f q => by cases q) (by decide)))⟩
        rw [ea, show x = s_n S by omega]
      | succ dd ih =>
        intro x τ w5 w6 hx g fr
        have hxn : x < s_n S := by omega
        have k0t : h_K τ c = 11 := g.1.2.1.2.1 (0, 11) (by decide)
        have k3t : h_K τ (c + 3) = 10 := g.1.2.1.2.1 (3, 10) (by decide)
        have p641t : h_P τ 641 c = some (c + 3) := g.1.2.1.2.2.1 (641, 0, 3) (by decide)
        have i579t : h_I τ 579 (c + 3) = nI (s_n S) := g.1.2.2.1.1
        have hcet : CE1 ow τ a d := hce1.kp fr (fun q => by cases q) (fun f _ q => by cases q) (by decide) (fun _ _ => rfl)
        have kat := hcet.2.1
        have enu : nuI S (nI x) = some x := by
          unfold nuI
          rw [if_pos (by rw [decide_eq_true (nI_pos' (show x < 2 ^ 31 by omega)), decide_eq_true (nI_lt hxn (by omega))]; rfl), nI_clamp (by omega)]
        have skip : ∀ (ρ : Hp) (u5 u6 : Option Value), RCd ow ρ c ad B S → Fm ow [] [] [2] σ1 ρ → chB S d x = false → Gm l D m_NK_changed 0 0 Q 80 [some (va_rf (some c)), some (.int v), some (va_rf (some a)), some (.int (nI (cntB (chB S d) x))), some (.int (nI x)), u5, u6] [] ρ 0 0 := by
          intro ρ u5 u6 q1 q2 q3
          have := ih (x + 1) ρ u5 u6 (by omega) q1 q2
          rw [cntB_f q3, Nat.add_zero] at this
          refine r_iinc rfl rfl (nI_inc _) ?_
          refine r_goto rfl ?_
          exact this
        refine r_iload rfl rfl ?_
        refine r_aload_n rfl rfl ?_
        (first | refine r_getPv rfl (by first | assumption | rfl) rfl (by assumption) ?_ | refine r_getP rfl (by first | assumption | rfl) rfl ?_)
        (first | refine r_getIv rfl (by first | assumption | rfl) rfl (by assumption) ?_ | refine r_getI rfl (by first | assumption | rfl) rfl ?_)
        refine r_geN rfl (by omega) (by omega) (fun w => by omega) (fun _ => ?_)
        refine r_aload_n rfl rfl ?_
        (first | refine r_getPv rfl (by first | assumption | rfl) rfl (by assumption) ?_ | refine r_getP rfl (by first | assumption | rfl) rfl ?_)
        refine r_iload rfl rfl ?_
        refine r_callV (As := [_]) rfl (by decide) rfl k3t rfl rfl (Nat.le_of_ble_eq_true rfl) ⟨Nat.le_of_ble_eq_true rfl, Nat.le_of_ble_eq_true rfl⟩ (c_numbered g.1.2.1 g.1.2.2.1 hn) (kc' := 0) (ks' := 0) (by omega) (by omega) (by decide) ?_
        rintro r τ ⟨rfl, rfl⟩
        rw [enu]
        refine r_astore rfl (by decide) ?_
        refine r_aload_n rfl rfl ?_
        refine r_iload rfl rfl ?_
        refine r_callV (As := [_]) rfl (by decide) rfl kat rfl rfl (Nat.le_of_ble_eq_true rfl) ⟨Nat.le_of_ble_eq_true rfl, Nat.le_of_ble_eq_true rfl⟩ (c_toldOf hcet) (kc' := 0) (ks' := 0) (by omega) (by omega) (by decide) ?_
        rintro r τ ⟨rfl, hto⟩
        rcases hto with ⟨hv, rfl⟩ | ⟨y, td, nm, p, hy1, hy2, hy3, rfl, hy5⟩
        · have hdn : d x = none := by
            rcases hv with hv | ⟨y, q1, q2, q3⟩
            · exact absurd hv (nI_pos (by omega))
            · rw [(nI_eq (by omega) q2).mp q1]; exact q3
          refine r_astore rfl (by decide) ?_
          refine r_aload rfl rfl ?_
          refine r_ifnull rfl (fun hq => by cases hq) (fun _ _ => ?_)
          refine r_aload rfl rfl ?_
          refine r_ifnull rfl (fun _ => skip τ _ _ g fr (by unfold chB; rw [hdn])) (fun _ hq => by cases hq)
        · have hxy : x = y := (nI_eq (by omega) (by omega)).mp hy1
          subst hxy
          refine r_astore rfl (by decide) ?_
          refine r_aload rfl rfl ?_
          refine r_ifnull rfl (fun hq => by cases hq) (fun _ _ => ?_)
          refine r_aload rfl rfl ?_
          refine r_ifnull rfl (fun hq => by cases hq) (fun _ _ => ?_)
          refine r_aload_n rfl rfl ?_
          refine r_aload rfl rfl ?_
          refine r_aload rfl rfl ?_
          refine r_callV (As := [_, _]) rfl (by decide) rfl k0t rfl rfl (Nat.le_of_ble_eq_true rfl) ⟨Nat.le_of_ble_eq_true rfl, Nat.le_of_ble_eq_true rfl⟩ (c_isStillTold g hxn hy5) (kc' := 0) (ks' := 0) (by omega) (by omega) (by decide) ?_
          rintro r ρ ⟨rfl, g2, f2⟩
          have fr2 := fr.tr f2
          have ech : chB S d x = !(match ldo (s_T S) x with
              | none => false
              | some y => decide (tdT S y = td)) := by
            unfold chB
            rw [hy3]
            show (match ldo (s_T S) x with | none => true | some y => decide (td ≠ tdT S y)) = _
            cases ldo (s_T S) x with
            | none => rfl
            | some y =>
              show decide (td ≠ tdT S y) = !decide (tdT S y = td)
              by_cases e : tdT S y = td
              · simp [e]
              · rw [decide_eq_false e, decide_eq_true (show td ≠ tdT S y from fun w => e w.symm)]; rfl
          generalize (match ldo (s_T S) x with
              | none => false
              | some y => decide (tdT S y = td)) = bb at ech ⊢
          cases bb with
          | true => exact r_if_ne rfl (fun _ => skip ρ _ _ g2 fr2 ech) (fun q => absurd q (by decide))
          | false =>
            refine r_if_ne rfl (fun q => absurd rfl q) (fun _ => ?_)
            have := ih (x + 1) ρ (some (va_rf (some (ad x)))) (some (va_rf (some p))) (by omega) g2 fr2
            rw [cntB_t ech] at this
            refine r_iinc rfl rfl (nI_inc _) ?_
            refine r_iinc rfl rfl (nI_inc _) ?_
            refine r_goto rfl ?_
            exact this
    refine r_iconst (v := nI 0) rfl (by decide) ?_
    refine r_istore_n rfl (by decide) ?_
    refine r_iconst (v := nI 0) rfl (by decide) ?_
    refine r_istore rfl (by decide) ?_
    exact loop (s_n S) 0 σ1 none none (by omega) g1 (Fm.rf _ _ _ _ _)
end ED
