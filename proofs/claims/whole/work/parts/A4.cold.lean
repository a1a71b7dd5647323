/-! ===== the class: leads, old, countGone ===== -/
section NK
variable {l : Launch} {D : DD} {σ : Hp} {c B : Nat} {ow ad : Nat → Nat} {S : Sp}
theorem nuI_lt {v : Int32} {x : Nat} (hn : s_n S ≤ 120) (h : nuI S v = some x) : x < s_n S ∧ v = nI x := by
  unfold nuI at h
  by_cases e : (decide (0 ≤ v) && decide (v < nI (s_n S))) = true
  · obtain ⟨y, y1, y2, y3⟩ := nuI_some hn e
    unfold nuI at y3
    rw [y3] at h
    have := Option.some.inj h
    subst this
    exact ⟨y1, y2⟩
  · rw [if_neg e] at h; cases h
theorem haI_nu (hS : SOk S) {e v : Int32} (h : nuI S v = none) : haI S e v = none := by
  cases hh : haI S e v with
  | none => rfl
  | some t =>
    obtain ⟨p, z, d, td, nm, rfl, rfl, h3, h4, h5, -, -⟩ := haI_some hS (e := e) (x := v) (by rw [hh]; rfl)
    unfold nuI at h
    have := hS.1
    rw [if_pos (by rw [decide_eq_true (nI_pos' (by omega)), decide_eq_true (nI_lt h5 (by omega))]; rfl)] at h
    cases h
theorem c_NK_leads {e x : Int32} (g : RC ow σ c ad B S) : Cn l D m_NK_leads 0 0 [va_rf (some c), .int e, .int x] σ (fun r τ => r = some (.int (a_leads S e x)) ∧ ∃ ow' ad', RC ow' τ c ad' (B + 200) S ∧ CFm ow ow' σ τ) := by
  have k0 : h_K σ c = 11 := g.2.1.2.1 (0, 11) (by decide)
  have k3 : h_K σ (c + 3) = 10 := g.2.1.2.1 (3, 10) (by decide)
  have p641 : h_P σ 641 c = some (c + 3) := g.2.1.2.2.1 (641, 0, 3) (by decide)
  have hn := g.1.1
  have fin : ∃ ow' ad', RC ow' σ c ad' (B + 200) S ∧ CFm ow ow' σ σ := ⟨ow, ad, g.more (by omega), CFm.rf _ _⟩
  generalize hQ : (fun (r : Option Value) (τ : Hp) => r = some (.int (a_leads S e x)) ∧ ∃ ow' ad', RC ow' τ c ad' (B + 200) S ∧ CFm ow ow' σ τ) = Q
  refine Cn.of (by decide) (by repeat (first | exact ca_0 | refine ca_i ?_ | refine ca_r ?_)) (Nat.le_of_ble_eq_true rfl) ?_
  have no : ∀ z3 z4, haI S e x = none → Gm l D m_NK_leads 0 0 Q 33 [some (va_rf (some c)), some (.int e), some (.int x), z3, z4] [] σ 0 0 := by
    intro z3 z4 hh
    refine r_bipush (v := -2) rfl (by decide) ?_
    refine r_iret rfl rfl ?_
    rw [← hQ]
    unfold a_leads
    rw [hh]
    exact ⟨rfl, fin⟩
  refine r_aload_n rfl rfl ?_
  refine r_iload_n rfl rfl ?_
  refine r_callV (As := [_]) rfl (by decide) rfl k0 rfl rfl (Nat.le_of_ble_eq_true rfl) ⟨Nat.le_of_ble_eq_true rfl, Nat.le_of_ble_eq_true rfl⟩ (c_editionOf g) (kc' := 0) (ks' := 0) (by omega) (by omega) (by decide) ?_
  rintro r σ ⟨rfl, hed⟩
  have hrf : ∃ z, r = some (va_rf z) := by
    rcases hed with ⟨-, rfl⟩ | ⟨d, a, -, -, rfl, -⟩
    · exact ⟨_, rfl⟩
    · exact ⟨_, rfl⟩
  rcases hed with ⟨hnone, rfl⟩ | ⟨d, a, hsome, -, rfl, hce⟩
  · have hh : haI S e x = none := by
      unfold haI
      unfold edI at hnone
      by_cases ee : e < 0
      · rw [if_pos (Or.inl ee)]
      · by_cases xx : x < 0
        · rw [if_pos (Or.inr xx)]
        · rw [if_neg (fun q => q.elim ee xx)]
          rw [if_neg ee] at hnone
          rw [hnone]
    refine r_astore_n rfl (by decide) ?_
    refine r_aload_n rfl rfl ?_
    (first | refine r_getPv rfl (by first | assumption | rfl) rfl (by assumption) ?_ | refine r_getP rfl (by first | assumption | rfl) rfl ?_)
    refine r_iload_n rfl rfl ?_
    refine r_callV (As := [_]) rfl (by decide) rfl k3 rfl rfl (Nat.le_of_ble_eq_true rfl) ⟨Nat.le_of_ble_eq_true rfl, Nat.le_of_ble_eq_true rfl⟩ (c_numbered g.2.1 g.2.2.1 hn) (kc' := 0) (ks' := 0) (by omega) (by omega) (by decide) ?_
    rintro r σ ⟨rfl, rfl⟩
    refine r_astore rfl (by decide) ?_
    refine r_aload_n rfl rfl ?_
    refine r_ifnull rfl (fun _ => no _ _ hh) (fun _ hq => by cases hq)
  · refine r_astore_n rfl (by decide) ?_
    refine r_aload_n rfl rfl ?_
    (first | refine r_getPv rfl (by first | assumption | rfl) rfl (by assumption) ?_ | refine r_getP rfl (by first | assumption | rfl) rfl ?_)
    refine r_iload_n rfl rfl ?_
    refine r_callV (As := [_]) rfl (by decide) rfl k3 rfl rfl (Nat.le_of_ble_eq_true rfl) ⟨Nat.le_of_ble_eq_true rfl, Nat.le_of_ble_eq_true rfl⟩ (c_numbered g.2.1 g.2.2.1 hn) (kc' := 0) (ks' := 0) (by omega) (by omega) (by decide) ?_
    rintro r σ ⟨rfl, rfl⟩
    refine r_astore rfl (by decide) ?_
    refine r_aload_n rfl rfl ?_
    refine r_ifnull rfl (fun hq => by cases hq) (fun _ _ => ?_)
    refine r_aload rfl rfl ?_
    cases hnu : nuI S x with
    | none => exact r_ifnull rfl (fun _ => no _ _ (haI_nu g.1 hnu)) (fun _ hq => by cases hq)
    | some z =>
      obtain ⟨zn, rfl⟩ := nuI_lt hn hnu
      have hke := hce.2.1
      refine r_ifnull rfl (fun hq => by cases hq) (fun _ _ => ?_)
      have hhd : haI S e (nI z) = d z := by
        unfold haI
        unfold edI at hsome
        by_cases ee : e < 0
        · rw [if_pos ee] at hsome; cases hsome
        · rw [if_neg ee] at hsome
          rw [if_neg (fun q => q.elim ee (nI_pos (by omega))), hsome, nI_clamp (by omega)]
      show Gm l D m_NK_leads 0 0 Q 25 [some (va_rf (some c)), some (.int e), some (.int (nI z)), some (va_rf (some a)), some (va_rf (some (ad z)))] [] σ 0 0
      refine r_aload_n rfl rfl ?_
      refine r_iload_n rfl rfl ?_
      refine r_callV (As := [_]) rfl (by decide) rfl hke rfl rfl (Nat.le_of_ble_eq_true rfl) ⟨Nat.le_of_ble_eq_true rfl, Nat.le_of_ble_eq_true rfl⟩ (c_toldOf hce) (kc' := 0) (ks' := 0) (by omega) (by omega) (by decide) ?_
      rintro r σ ⟨rfl, hto⟩
      rcases hto with ⟨hv, rfl⟩ | ⟨y, td, nm, p, hy1, hy2, hy3, rfl, -⟩
      · have hdn : d z = none := by
          rcases hv with hv | ⟨y, hy1, hy2, hy3⟩
          · exact absurd hv (nI_pos (by omega))
          · rw [(nI_eq (by omega) hy2).mp hy1]; exact hy3
        exact r_ifnonnull rfl (fun _ hq => by cases hq) (fun _ => no _ _ (by rw [hhd, hdn]))
      · have hzy : z = y := (nI_eq (by omega) (by omega)).mp hy1
        subst hzy
        refine r_ifnonnull rfl (fun _ _ => ?_) (fun hq => by cases hq)
        have kz := g.2.2.2.1.1 z (Or.inl zn)
        refine r_aload rfl rfl ?_
        refine r_callV (As := []) rfl (by decide) rfl kz rfl rfl (Nat.le_of_ble_eq_true rfl) ⟨Nat.le_of_ble_eq_true rfl, Nat.le_of_ble_eq_true rfl⟩ (c_leadTC g zn) (kc' := 0) (ks' := 0) (by omega) (by omega) (by decide) ?_
        rintro r σ ⟨rfl, rfl⟩
        refine r_callS (As := [_]) rfl (by decide) rfl rfl rfl (Nat.le_of_ble_eq_true rfl) ⟨Nat.le_of_ble_eq_true rfl, Nat.le_of_ble_eq_true rfl⟩ (c_numberOf g (fun y hy => (ldo_lt g.1 hy).1)) (kc' := 0) (ks' := 0) (by omega) (by omega) ?_
        rintro r σ ⟨rfl, rfl⟩
        refine r_iret rfl rfl ?_
        rw [← hQ]
        refine ⟨?_, fin⟩
        unfold a_leads
        rw [hhd, hy3, nI_clamp (by omega)]
theorem old_rng (hS : SOk S) {d : Ed} (hd : d ∈ s_e S) (k : Nat) : (List.range 120).find? (oldB S d k) = (List.range (s_n S)).find? (oldB S d k) := by
  have hn := hS.1
  have hout : ∀ z, s_n S ≤ z → oldB S d k z = false := by
    intro z hz
    unfold oldB
    cases hdz : d z with
    | none => rfl
    | some t =>
      obtain ⟨td, nm⟩ := t
      have := (hS.2.2.2.2.2.2.2.2.2.2 d hd z td nm hdz).1
      omega
  cases h1 : (List.range (s_n S)).find? (oldB S d k) with
  | some y =>
    have := List.find?_range_eq_some.mp h1
    rw [List.find?_range_eq_some]
    exact ⟨this.1, List.mem_range.mpr (by have := List.mem_range.mp this.2.1; omega), this.2.2⟩
  | none =>
    refine find_none (fun z hz => ?_)
    by_cases hzn : z < s_n S
    · have := List.find?_range_eq_none.mp h1 z hzn
      simpa using this
    · exact hout z (by omega)
theorem c_firstNamed {a k : Nat} {d : Ed} (g : RC ow σ c ad B S) (hce : CE1 ow σ a d) (hd : d ∈ s_e S) (hk : k < 6) : Cn l D m_NK_firstNamed 0 0 [va_rf (some c), va_rf (some a), .int (nI k)] σ (fun r τ => r = some (.int (oI ((List.range 120).find? (oldB S d k)))) ∧ τ = σ) := by
  have k0 : h_K σ c = 11 := g.2.1.2.1 (0, 11) (by decide)
  have k3 : h_K σ (c + 3) = 10 := g.2.1.2.1 (3, 10) (by decide)
  have p641 : h_P σ 641 c = some (c + 3) := g.2.1.2.2.1 (641, 0, 3) (by decide)
  obtain ⟨-, p0, -, -, ln, -⟩ := g.tape
  have i579 : h_I σ 579 (c + 3) = nI (s_n S) := g.2.2.1.1
  have hn := g.1.1
  have hke := hce.2.1
  rw [old_rng g.1 hd]
  generalize hQ : (fun (r : Option Value) (τ : Hp) => r = some (.int (oI ((List.range (s_n S)).find? (oldB S d k)))) ∧ τ = σ) = Q
  refine Cn.of (by decide) (by repeat (first | exact ca_0 | refine ca_i ?_ | refine ca_r ?_)) (Nat.le_of_ble_eq_true rfl) ?_
  refine r_iconst (v := nI 0) rfl (by decide) ?_
  refine r_istore_n rfl (by decide) ?_
  have lp : ∀ (dd x : Nat) (z4 z5 : Option Value), x + dd = s_n S → (∀ z, z < x → oldB S d k z = false) → Gm l D m_NK_firstNamed 0 0 Q 2 [some (va_rf (some c)), some (va_rf (some a)), some (.int (nI k)), some (.int (nI x)), z4, z5] [] σ 0 0 := by
    intro dd
    induction dd with
    | zero =>
      intro x z4 z5 hx hno
      refine r_iload_n rfl rfl ?_
      refine r_aload_n rfl rfl ?_
      (first | refine r_getPv rfl (by first | assumption | rfl) rfl (by assumption) ?_ | refine r_getP rfl (by first | assumption | rfl) rfl ?_)
      (first | refine r_getIv rfl (by first | assumption | rfl) rfl (by assumption) ?_ | refine r_getI rfl (by first | assumption | rfl) rfl ?_)
      refine r_geN rfl (by omega) (by omega) (fun _ => ?_) (fun hlt => by omega)
      refine r_iconst (v := -1) rfl (by decide) ?_
      refine r_iret rfl rfl ?_
      rw [← hQ]
      refine ⟨?_, rfl⟩
      rw [find_none (fun z hz => hno z (by omega))]
      rfl
    | succ dd ih =>
      intro x z4 z5 hx hno
      have hxn : x < s_n S := by omega
      have skip : ∀ z4 z5, oldB S d k x = false → Gm l D m_NK_firstNamed 0 0 Q 63 [some (va_rf (some c)), some (va_rf (some a)), some (.int (nI k)), some (.int (nI x)), z4, z5] [] σ 0 0 := by
        intro z4 z5 hb
        refine r_iinc rfl rfl (nI_inc _) ?_
        refine r_goto rfl ?_
        refine ih (x + 1) _ _ (by omega) (fun z hz => ?_)
        by_cases ez : z = x
        · rw [ez]; exact hb
        · exact hno z (by omega)
      have hnu : nuI S (nI x) = some x := by
        unfold nuI
        rw [if_pos (by rw [decide_eq_true (nI_pos' (by omega)), decide_eq_true (nI_lt hxn (by omega))]; rfl), nI_clamp (by omega)]
      have kx := g.2.2.2.1.1 x (Or.inl hxn)
      have i513 := (g.2.2.1.2.2.2 x hxn).2.2.2.2.1
      have hk6 := g.1.2.1 x hxn
      refine r_iload_n rfl rfl ?_
      refine r_aload_n rfl rfl ?_
      (first | refine r_getPv rfl (by first | assumption | rfl) rfl (by assumption) ?_ | refine r_getP rfl (by first | assumption | rfl) rfl ?_)
      (first | refine r_getIv rfl (by first | assumption | rfl) rfl (by assumption) ?_ | refine r_getI rfl (by first | assumption | rfl) rfl ?_)
      refine r_geN rfl (by omega) (by omega) (fun hge => by omega) (fun _ => ?_)
      refine r_aload_n rfl rfl ?_
      (first | refine r_getPv rfl (by first | assumption | rfl) rfl (by assumption) ?_ | refine r_getP rfl (by first | assumption | rfl) rfl ?_)
      refine r_iload_n rfl rfl ?_
      refine r_callV (As := [_]) rfl (by decide) rfl k3 rfl rfl (Nat.le_of_ble_eq_true rfl) ⟨Nat.le_of_ble_eq_true rfl, Nat.le_of_ble_eq_true rfl⟩ (c_numbered g.2.1 g.2.2.1 hn) (kc' := 0) (ks' := 0) (by omega) (by omega) (by decide) ?_
      rintro r σ ⟨rfl, rfl⟩
      rw [hnu]
      refine r_astore rfl (by decide) ?_
      refine r_aload_n rfl rfl ?_
      refine r_iload_n rfl rfl ?_
      refine r_callV (As := [_]) rfl (by decide) rfl hke rfl rfl (Nat.le_of_ble_eq_true rfl) ⟨Nat.le_of_ble_eq_true rfl, Nat.le_of_ble_eq_true rfl⟩ (c_nameOf hce) (kc' := 0) (ks' := 0) (by omega) (by omega) (by decide) ?_
      rintro r σ ⟨rfl, hto⟩
      rcases hto with ⟨hv, rfl⟩ | ⟨y, td, nm, p, hy1, hy2, hy3, rfl, hln⟩
      · have hdn : d x = none := by
          rcases hv with hv | ⟨y, hy1, hy2, hy3⟩
          · exact absurd hv (nI_pos (by omega))
          · rw [(nI_eq (by omega) hy2).mp hy1]; exact hy3
        refine r_astore rfl (by decide) ?_
        refine r_aload rfl rfl ?_
        refine r_ifnull rfl (fun hq => by cases hq) (fun _ _ => ?_)
        refine r_aload rfl rfl ?_
        exact r_ifnull rfl (fun _ => skip _ _ (by unfold oldB; rw [hdn])) (fun _ hq => by cases hq)
      · have hxy : x = y := (nI_eq (by omega) (by omega)).mp hy1
        subst hxy
        have eb : oldB S d k x = (decide (s_k S x = k) && decide (nm = s_t S)) := by unfold oldB; rw [hy3]
        refine r_astore rfl (by decide) ?_
        refine r_aload rfl rfl ?_
        refine r_ifnull rfl (fun hq => by cases hq) (fun _ _ => ?_)
        refine r_aload rfl rfl ?_
        refine r_ifnull rfl (fun hq => by cases hq) (fun _ _ => ?_)
        show Gm l D m_NK_firstNamed 0 0 Q 40 [some (va_rf (some c)), some (va_rf (some a)), some (.int (nI k)), some (.int (nI x)), some (va_rf (some (ad x))), some (va_rf (some p))] [] σ 0 0
        refine r_aload rfl rfl ?_
        (first | refine r_getIv rfl (by first | assumption | rfl) rfl (by assumption) ?_ | refine r_getI rfl (by first | assumption | rfl) rfl ?_)
        refine r_iload_n rfl rfl ?_
        refine r_neN rfl (by omega) (by omega) (fun hne => skip _ _ (by rw [eb, decide_eq_false hne]; rfl)) (fun heq => ?_)
        rw [decide_eq_true heq, Bool.true_and] at eb
        have kp := hln.2.2.2.1
        refine r_aload rfl rfl ?_
        refine r_aload_n rfl rfl ?_
        (first | refine r_getPv rfl (by first | assumption | rfl) rfl (by assumption) ?_ | refine r_getP rfl (by first | assumption | rfl) rfl ?_)
        refine r_callV (As := [_]) rfl (by decide) rfl kp rfl rfl (Nat.le_of_ble_eq_true rfl) ⟨Nat.le_of_ble_eq_true rfl, Nat.le_of_ble_eq_true rfl⟩ (c_isSame hln.2.2.2 ln) (kc' := 0) (ks' := 0) (by omega) (by omega) (by decide) ?_
        rintro r σ ⟨rfl, rfl⟩
        refine r_ifeqB rfl (fun hb => skip _ _ (by rw [eb, hb])) (fun hb => ?_)
        refine r_iload_n rfl rfl ?_
        refine r_iret rfl rfl ?_
        rw [← hQ]
        refine ⟨?_, rfl⟩
        rw [find_step hxn hno (by rw [eb, hb])]
        rfl
  exact lp (s_n S) 0 none none (by omega) (fun z hz => by omega)
theorem c_NK_old {e k : Int32} (g : RC ow σ c ad B S) : Cn l D m_NK_old 0 0 [va_rf (some c), .int e, .int k] σ (fun r τ => r = some (.int (a_old S e k).1) ∧ ∃ ow' ad', RC ow' τ c ad' (B + 200) (a_old S e k).2 ∧ CFm ow ow' σ τ) := by
  have k3 : h_K σ (c + 3) = 10 := g.2.1.2.1 (3, 10) (by decide)
  have p641 : h_P σ 641 c = some (c + 3) := g.2.1.2.2.1 (641, 0, 3) (by decide)
  obtain ⟨k0, p0, o1, o2, ln, hl⟩ := g.tape
  have k1 := ln.1
  generalize hQ : (fun (r : Option Value) (τ : Hp) => r = some (.int (a_old S e k).1) ∧ ∃ ow' ad', RC ow' τ c ad' (B + 200) (a_old S e k).2 ∧ CFm ow ow' σ τ) = Q
  refine Cn.of (by decide) (by repeat (first | exact ca_0 | refine ca_i ?_ | refine ca_r ?_)) (Nat.le_of_ble_eq_true rfl) ?_
  have fin : ∀ (z3 : Option Value) (u : Int32), u = (a_old S e k).1 → Gm l D m_NK_old 0 0 Q 32 [some (va_rf (some c)), some (.int e), some (.int k), z3, none] [.int u] σ 0 0 := by
    intro z3 u hu
    obtain ⟨l1, l2⟩ := ln.cut 0 (Nat.zero_le _)
    rw [List.take_zero] at l1
    refine r_istore rfl (by decide) ?_
    refine r_aload_n rfl rfl ?_
    (first | refine r_getPv rfl (by first | assumption | rfl) rfl (by assumption) ?_ | refine r_getP rfl (by first | assumption | rfl) rfl ?_)
    refine r_iconst (v := nI 0) rfl (by decide) ?_
    refine r_putI rfl (by first | assumption | rfl) rfl (by first | exact Or.inl rfl | exact Or.inr ⟨rfl, rfl⟩) (by first | rfl | decide | assumption) (by first | rfl | decide) ?_
    refine r_iload rfl rfl ?_
    refine r_iret rfl rfl ?_
    rw [← hQ]
    obtain ⟨r1, r2⟩ := g.tapeTo l2 l1 (by simp)
    exact ⟨by rw [hu], ow, ad, r1.more (by omega), r2⟩
  have no : ∀ z3, (a_old S e k).1 = -2 → Gm l D m_NK_old 0 0 Q 21 [some (va_rf (some c)), some (.int e), some (.int k), z3, none] [] σ 0 0 := by
    intro z3 hu
    refine r_bipush (v := -2) rfl (by decide) ?_
    refine r_goto rfl ?_
    exact fin z3 _ hu.symm
  refine r_aload_n rfl rfl ?_
  refine r_iload_n rfl rfl ?_
  refine r_callV (As := [_]) rfl (by decide) rfl k0 rfl rfl (Nat.le_of_ble_eq_true rfl) ⟨Nat.le_of_ble_eq_true rfl, Nat.le_of_ble_eq_true rfl⟩ (c_editionOf g) (kc' := 0) (ks' := 0) (by omega) (by omega) (by decide) ?_
  rintro r σ ⟨rfl, hed⟩
  rcases hed with ⟨hnone, rfl⟩ | ⟨d, a, hsome, hdm, rfl, hce⟩
  · refine r_astore_n rfl (by decide) ?_
    refine r_aload_n rfl rfl ?_
    exact r_ifnull rfl (fun _ => no _ (by unfold a_old; rw [hnone])) (fun _ hq => by cases hq)
  · refine r_astore_n rfl (by decide) ?_
    refine r_aload_n rfl rfl ?_
    refine r_ifnull rfl (fun hq => by cases hq) (fun _ _ => ?_)
    refine r_aload_n rfl rfl ?_
    (first | refine r_getPv rfl (by first | assumption | rfl) rfl (by assumption) ?_ | refine r_getP rfl (by first | assumption | rfl) rfl ?_)
    refine r_iload_n rfl rfl ?_
    refine r_callV (As := [_]) rfl (by decide) rfl k3 rfl rfl (Nat.le_of_ble_eq_true rfl) ⟨Nat.le_of_ble_eq_true rfl, Nat.le_of_ble_eq_true rfl⟩ (c_formOf g.2.1) (kc' := 0) (ks' := 0) (by omega) (by omega) (by decide) ?_
    rintro r σ ⟨rfl, rfl⟩
    cases hki : kiI k with
    | none => exact r_ifnonnull rfl (fun _ hq => by cases hq) (fun _ => no _ (by unfold a_old; rw [hsome, hki]))
    | some q =>
      obtain ⟨rfl, q6⟩ := kiI_some hki
      refine r_ifnonnull rfl (fun _ _ => ?_) (fun hq => by cases hq)
      refine r_aload_n rfl rfl ?_
      refine r_aload_n rfl rfl ?_
      refine r_iload_n rfl rfl ?_
      refine r_callV (As := [_, _]) rfl (by decide) rfl k0 rfl rfl (Nat.le_of_ble_eq_true rfl) ⟨Nat.le_of_ble_eq_true rfl, Nat.le_of_ble_eq_true rfl⟩ (c_firstNamed g hce hdm q6) (kc' := 0) (ks' := 0) (by omega) (by omega) (by decide) ?_
      rintro r σ ⟨rfl, rfl⟩
      exact fin _ _ (by unfold a_old; rw [hsome, hki])
end NK
