/-! ===== the class: mention, frozen ===== -/
section NK
variable {l : Launch} {D : DD} {σ : Hp} {c B : Nat} {ow ad : Nat → Nat} {S : Sp}
set_option maxHeartbeats 2000000 in
theorem c_NK_mention {i k f : Int32} (g : RC ow σ c ad B S) : Cn l D m_NK_mention 2 7 [va_rf (some c), .int i, .int k, .int f] σ (fun r τ => r = some (.int (a_ment S i k f).1) ∧ ∃ ow' ad', RC ow' τ c ad' (B + 200) (a_ment S i k f).2 ∧ CFm ow ow' σ τ) := by
  have k0 : h_K σ c = 11 := g.2.1.2.1 (0, 11) (by decide)
  have k3 : h_K σ (c + 3) = 10 := g.2.1.2.1 (3, 10) (by decide)
  have p641 : h_P σ 641 c = some (c + 3) := g.2.1.2.2.1 (641, 0, 3) (by decide)
  have z0 := g.2.1.1
  have hS := g.1
  have hW := hS.wf
  have hn := hS.1
  have hct := g.2.2.2.1
  generalize hQ : (fun (r : Option Value) (τ : Hp) => r = some (.int (a_ment S i k f).1) ∧ ∃ ow' ad', RC ow' τ c ad' (B + 200) (a_ment S i k f).2 ∧ CFm ow ow' σ τ) = Q
  refine Cn.of (by decide) (by repeat (first | exact ca_0 | refine ca_i ?_ | refine ca_r ?_)) (Nat.le_of_ble_eq_true rfl) ?_
  have no : ∀ (u v w x : Option Value), a_ment S i k f = (-2, S) → Gm l D m_NK_mention 2 7 Q 98 [some (va_rf (some c)), some (.int i), some (.int k), some (.int f), u, v, w, x, none] [] σ 2 7 := by
    intro u v w x e
    refine r_bipush (v := -2) rfl (by decide) ?_
    refine r_iret rfl rfl ?_
    rw [← hQ]
    show _ = some (Value.int (a_ment S i k f).1) ∧ ∃ ow' ad', RC ow' σ c ad' (B + 200) (a_ment S i k f).2 ∧ _
    rw [e]
    exact ⟨rfl, ow, ad, g.more (by omega), CFm.rf _ _⟩
  refine r_aload_n rfl rfl ?_
  (first | refine r_getPv rfl (by first | assumption | rfl) rfl (by assumption) ?_ | refine r_getP rfl (by first | assumption | rfl) rfl ?_)
  refine r_iload_n rfl rfl ?_
  refine r_callV (As := [_]) rfl (by decide) rfl k3 rfl rfl (Nat.le_of_ble_eq_true rfl) ⟨Nat.le_of_ble_eq_true rfl, Nat.le_of_ble_eq_true rfl⟩ (c_thereAs g.2.1 g.2.2.1 hct hS) (kc' := 2) (ks' := 7) (by omega) (by omega) (by decide) ?_
  rintro r σ ⟨rfl, rfl⟩
  refine r_astore rfl (by decide) ?_
  refine r_iload_n rfl rfl ?_
  by_cases hk0 : k = 0
  · subst hk0
    refine r_if_ne rfl (fun q => absurd rfl q) (fun _ => ?_)
    refine r_iconst (v := nI 1) rfl (by decide) ?_
    refine r_goto rfl ?_
    refine r_istore rfl (by decide) ?_
    refine r_iload_n rfl rfl ?_
    refine r_iconst (v := nI 2) rfl (by decide) ?_
    refine r_icmp_eq rfl (fun q => absurd q (by decide)) (fun _ => ?_)
    refine r_iload_n rfl rfl ?_
    refine r_iconst (v := nI 3) rfl (by decide) ?_
    refine r_icmp_ne rfl (fun _ => ?_) (fun q => absurd q (by decide))
    refine r_iconst (v := nI 0) rfl (by decide) ?_
    refine r_istore rfl (by decide) ?_
    refine r_iload rfl rfl ?_
    refine r_if_eq rfl (fun q => absurd q (by decide)) (fun _ => ?_)
    refine r_aload_n rfl rfl ?_
    (first | refine r_getPv rfl (by first | assumption | rfl) rfl (by assumption) ?_ | refine r_getP rfl (by first | assumption | rfl) rfl ?_)
    refine r_iload_n rfl rfl ?_
    refine r_callV (As := [_]) rfl (by decide) rfl k3 rfl rfl (Nat.le_of_ble_eq_true rfl) ⟨Nat.le_of_ble_eq_true rfl, Nat.le_of_ble_eq_true rfl⟩ (c_thereAs g.2.1 g.2.2.1 hct hS) (kc' := 2) (ks' := 7) (by omega) (by omega) (by decide) ?_
    rintro r σ ⟨rfl, rfl⟩
    refine r_goto rfl ?_
    refine r_astore rfl (by decide) ?_
    refine r_aload rfl rfl ?_
    cases hth : thI S i with
    | none => exact r_ifnull rfl (fun _ => no _ _ _ _ (by unfold a_ment; rw [hth])) (fun _ hq => by cases hq)
    | some x =>
      obtain ⟨hxn, hxt, rfl⟩ := thI_some hS hth
      refine r_ifnull rfl (fun hq => by cases hq) (fun _ _ => ?_)
      refine r_iload rfl rfl ?_
      refine r_if_eq rfl (fun q => absurd q (by decide)) (fun _ => ?_)
      refine r_aload rfl rfl ?_
      cases hth2 : thI S f with
      | none => exact r_ifnull rfl (fun _ => no _ _ _ _ (by unfold a_ment; rw [hth]; show (if (0 : Int32) = 0 then _ else _) = _; rw [if_pos rfl, hth2])) (fun _ hq => by cases hq)
      | some y =>
        obtain ⟨hyn, hyt, rfl⟩ := thI_some hS hth2
        refine r_ifnull rfl (fun hq => by cases hq) (fun _ _ => ?_)
        refine r_iload rfl rfl ?_
        refine r_if_ne rfl (fun _ => ?_) (fun q => absurd q (by decide))
        refine r_iload rfl rfl ?_
        refine r_if_eq rfl (fun _ => ?_) (fun q => absurd rfl q)
        refine r_new (kc := 1) (ks := 1) rfl (fun _ => ?_) |> G.less (by omega) (by show 1 + 6 ≤ _; omega)
        refine r_dup rfl (by first | rfl | exact rf_cat _) ?_
        refine r_iload_n rfl rfl ?_
        refine r_aload rfl rfl ?_
        refine r_iload rfl rfl ?_
        refine r_if_eq rfl (fun _ => ?_) (fun q => absurd rfl q)
        refine r_iconst (v := -1) rfl (by decide) ?_
        refine r_iload rfl rfl ?_
        refine r_if_eq rfl (fun q => absurd q (by decide)) (fun _ => ?_)
        refine r_iconst (v := nI 1) rfl (by decide) ?_
        refine r_goto rfl ?_
        refine r_null rfl ?_
        refine r_callI (As := [_, _, _, _, _]) rfl (by decide) rfl rfl rfl (Nat.le_of_ble_eq_true rfl) ⟨Nat.le_of_ble_eq_true rfl, Nat.le_of_ble_eq_true rfl⟩ (c_Mention_init (ow := ow) (k := 0) (i := ad x) (km := -1) (m' := 1) (fz := none) (by decide)) (kc' := 0) (ks' := 0) (by omega) (by omega) ?_
        rintro r σ1 ⟨rfl, hb⟩
        have kA := hb.2.2.1
        have ky : h_K σ1 (ad y) = 9 := by rw [(hb.1.2 _ (TN.lt g.2.1 g.2.2.1 (Or.inl hyn))).1]; exact hct.1 y (Or.inl hyn)
        refine r_astore rfl (by decide) ?_
        refine r_aload rfl rfl ?_
        refine r_aload rfl rfl ?_
        refine r_callV (As := [_]) rfl (by decide) rfl kA rfl rfl (Nat.le_of_ble_eq_true rfl) ⟨Nat.le_of_ble_eq_true rfl, Nat.le_of_ble_eq_true rfl⟩ (c_addMeant hb (by decide) ky) (kc' := 0) (ks' := 0) (by omega) (by omega) (by decide) ?_
        rintro r σ2 ⟨rfl, hb2, -⟩
        have k02 : h_K σ2 c = 11 := by rw [(hb2.1.2 c (by omega)).1]; exact k0
        have ea : a_ment S (nI x) 0 (nI y) = tellS S (x, 0, y, 0, []) := by
          unfold a_ment
          rw [hth]
          show (if (0 : Int32) = 0 then _ else _) = _
          rw [if_pos rfl, hth2]
        refine r_aload_n rfl rfl ?_
        refine r_aload rfl rfl ?_
        refine r_callV (As := [_]) rfl (by decide) rfl k02 rfl rfl (Nat.le_of_ble_eq_true rfl) ⟨Nat.le_of_ble_eq_true rfl, Nat.le_of_ble_eq_true rfl⟩ (c_keepM (q := (x, 0, y, 0, [])) g hb2 (fun h => hS.m h ⟨hxn, by decide, fun _ => hyn, (fun e => by cases e), (fun e => by cases e), (fun e => by cases e), (fun e => by cases e), fun _ => rfl, by decide, fun z hz => by cases hz⟩) rfl rfl (fun e => by rcases e with e | e <;> cases e) (fun _ => rfl) (fun e => by cases e) rfl (fun j hj => rfl)) (kc' := 0) (ks' := 0) (by omega) (by omega) (by decide) ?_
        rintro r ρ ⟨rfl, hr⟩
        refine r_iret rfl rfl ?_
        rw [← hQ]
        show _ = some (Value.int (a_ment S (nI x) 0 (nI y)).1) ∧ ∃ ow' ad', RC ow' ρ c ad' (B + 200) (a_ment S (nI x) 0 (nI y)).2 ∧ _
        rw [ea]
        exact ⟨rfl, hr⟩
  · refine r_if_ne rfl (fun _ => ?_) (fun q => absurd q hk0)
    refine r_iconst (v := nI 0) rfl (by decide) ?_
    refine r_istore rfl (by decide) ?_
    refine r_iload_n rfl rfl ?_
    refine r_iconst (v := nI 2) rfl (by decide) ?_
    have two : ∀ (kk : Nat), (kk = 2 ∨ kk = 3) → k = nI kk → Gm l D m_NK_mention 2 7 Q 31 [some (va_rf (some c)), some (.int i), some (.int k), some (.int f), some (va_rf ((thI S i).map ad)), some (.int (nI 0)), none, none, none] [] σ 2 7 := by
      intro kk hkk ek
      refine r_iconst (v := nI 1) rfl (by decide) ?_
      refine r_goto rfl ?_
      refine r_istore rfl (by decide) ?_
      refine r_iload rfl rfl ?_
      refine r_if_eq rfl (fun _ => ?_) (fun q => absurd rfl q)
      refine r_null rfl ?_
      refine r_astore rfl (by decide) ?_
      refine r_aload rfl rfl ?_
      have ei : ∀ x, thI S i = some x → a_ment S i k f = match kiI f with
          | none => (-2, S)
          | some y => tellS S (x, kk, y, 0, []) := by
        intro x hth
        unfold a_ment
        rw [hth]
        show (if k = 0 then _ else if k = 2 ∨ k = 3 then _ else _) = _
        rw [if_neg hk0, if_pos (by rcases hkk with w | w <;> rw [ek, w] <;> decide), ek, nI_clamp (by omega)]
        cases kiI f <;> rfl
      cases hth : thI S i with
      | none => exact r_ifnull rfl (fun _ => no _ _ _ _ (by unfold a_ment; rw [hth])) (fun _ hq => by cases hq)
      | some x =>
        obtain ⟨hxn, hxt, rfl⟩ := thI_some hS hth
        have ei := ei x hth
        refine r_ifnull rfl (fun hq => by cases hq) (fun _ _ => ?_)
        refine r_iload rfl rfl ?_
        refine r_if_eq rfl (fun _ => ?_) (fun q => absurd rfl q)
        refine r_iload rfl rfl ?_
        refine r_if_ne rfl (fun q => absurd rfl q) (fun _ => ?_)
        refine r_iload rfl rfl ?_
        refine r_if_eq rfl (fun q => absurd q (by decide)) (fun _ => ?_)
        refine r_iload rfl rfl ?_
        refine r_if_eq rfl (fun q => absurd q (by decide)) (fun _ => ?_)
        refine r_aload_n rfl rfl ?_
        (first | refine r_getPv rfl (by first | assumption | rfl) rfl (by assumption) ?_ | refine r_getP rfl (by first | assumption | rfl) rfl ?_)
        refine r_iload_n rfl rfl ?_
        refine r_callV (As := [_]) rfl (by decide) rfl k3 rfl rfl (Nat.le_of_ble_eq_true rfl) ⟨Nat.le_of_ble_eq_true rfl, Nat.le_of_ble_eq_true rfl⟩ (c_formOf g.2.1) (kc' := 2) (ks' := 7) (by omega) (by omega) (by decide) ?_
        rintro r σ ⟨rfl, rfl⟩
        cases hki : kiI f with
        | none => exact r_ifnonnull rfl (fun _ hq => by cases hq) (fun _ => no _ _ _ _ (by rw [ei, hki]))
        | some y =>
          obtain ⟨rfl, hy6⟩ := kiI_some hki
          rw [hki] at ei
          have ei : a_ment S (nI x) k (nI y) = tellS S (x, kk, y, 0, []) := ei
          refine r_ifnonnull rfl (fun _ _ => ?_) (fun hq => by cases hq)
          refine r_new (kc := 1) (ks := 0) rfl (fun _ => ?_) |> G.less (by omega) (by show 0 + 6 ≤ _; omega)
          refine r_dup rfl (by first | rfl | exact rf_cat _) ?_
          refine r_iload_n rfl rfl ?_
          refine r_aload rfl rfl ?_
          refine r_iload rfl rfl ?_
          refine r_if_eq rfl (fun q => absurd q (by decide)) (fun _ => ?_)
          refine r_iload_n rfl rfl ?_
          refine r_goto rfl ?_
          refine r_iload rfl rfl ?_
          refine r_if_eq rfl (fun _ => ?_) (fun q => absurd rfl q)
          refine r_iconst (v := nI 0) rfl (by decide) ?_
          refine r_null rfl ?_
          refine r_callI (As := [_, _, _, _, _]) rfl (by decide) rfl rfl rfl (Nat.le_of_ble_eq_true rfl) ⟨Nat.le_of_ble_eq_true rfl, Nat.le_of_ble_eq_true rfl⟩ (c_Mention_init (ow := ow) (k := k) (i := ad x) (km := nI y) (m' := 0) (fz := none) (by decide)) (kc' := 0) (ks' := 0) (by omega) (by omega) ?_
          rintro r σ1 ⟨rfl, hb⟩
          have kA := hb.2.2.1
          have k01 : h_K σ1 c = 11 := by rw [(hb.1.2 c (by omega)).1]; exact k0
          refine r_astore rfl (by decide) ?_
          refine r_aload rfl rfl ?_
          refine r_aload rfl rfl ?_
          refine r_callV (As := [_]) rfl (by decide) rfl kA rfl rfl (Nat.le_of_ble_eq_true rfl) ⟨Nat.le_of_ble_eq_true rfl, Nat.le_of_ble_eq_true rfl⟩ (c_addMeant0 hb (Nat.zero_le _)) (kc' := 0) (ks' := 0) (by omega) (by omega) (by decide) ?_
          rintro r σ1 ⟨rfl, rfl⟩
          have em : mLen (x, kk, y, 0, []) = 0 := by
            unfold mLen
            show (if kk = 0 ∨ kk = 4 then 1 else if kk = 1 then 12 else 0) = 0
            rw [if_neg (by omega), if_neg (by omega)]
          refine r_aload_n rfl rfl ?_
          refine r_aload rfl rfl ?_
          refine r_callV (As := [_]) rfl (by decide) rfl k01 rfl rfl (Nat.le_of_ble_eq_true rfl) ⟨Nat.le_of_ble_eq_true rfl, Nat.le_of_ble_eq_true rfl⟩ (c_keepM (q := (x, kk, y, 0, [])) g hb (fun h => hS.m h ⟨hxn, by omega, (fun e => by omega), (fun e => by omega), fun _ => hy6, fun _ => hy6, (fun e => by omega), fun _ => rfl, Nat.zero_le _, fun z hz => by cases hz⟩) ek rfl (fun _ => rfl) (fun _ => rfl) (fun (e : kk = 4) => by omega) em.symm (fun j hj => by omega)) (kc' := 0) (ks' := 0) (by omega) (by omega) (by decide) ?_
          rintro r ρ ⟨rfl, hr⟩
          refine r_iret rfl rfl ?_
          rw [← hQ]
          show _ = some (Value.int (a_ment S (nI x) k (nI y)).1) ∧ ∃ ow' ad', RC ow' ρ c ad' (B + 200) (a_ment S (nI x) k (nI y)).2 ∧ _
          rw [ei]
          exact ⟨rfl, hr⟩
    refine r_icmp_eq rfl (fun q => two 2 (Or.inl rfl) q) (fun hk2 => ?_)
    refine r_iload_n rfl rfl ?_
    refine r_iconst (v := nI 3) rfl (by decide) ?_
    refine r_icmp_ne rfl (fun hk3 => ?_) (fun q => two 3 (Or.inr rfl) q)
    have eno : a_ment S i k f = (-2, S) := by
      unfold a_ment
      cases thI S i with
      | none => rfl
      | some x =>
        show (if k = 0 then _ else if k = 2 ∨ k = 3 then _ else _) = _
        rw [if_neg hk0, if_neg (fun w => w.elim hk2 hk3)]
    refine r_iconst (v := nI 0) rfl (by decide) ?_
    refine r_istore rfl (by decide) ?_
    refine r_iload rfl rfl ?_
    refine r_if_eq rfl (fun _ => ?_) (fun q => absurd rfl q)
    refine r_null rfl ?_
    refine r_astore rfl (by decide) ?_
    refine r_aload rfl rfl ?_
    refine r_ifnull rfl (fun _ => no _ _ _ _ eno) (fun _ _ => ?_)
    refine r_iload rfl rfl ?_
    refine r_if_eq rfl (fun _ => ?_) (fun q => absurd rfl q)
    refine r_iload rfl rfl ?_
    refine r_if_ne rfl (fun q => absurd rfl q) (fun _ => ?_)
    refine r_iload rfl rfl ?_
    refine r_if_eq rfl (fun _ => no _ _ _ _ eno) (fun q => absurd rfl q)
set_option maxHeartbeats 1000000 in
theorem c_NK_frozen {i f e : Int32} (g : RC ow σ c ad B S) : Cn l D m_NK_frozen 2 7 [va_rf (some c), .int i, .int f, .int e] σ (fun r τ => r = some (.int (a_froz S i f e).1) ∧ ∃ ow' ad', RC ow' τ c ad' (B + 200) (a_froz S i f e).2 ∧ CFm ow ow' σ τ) := by
  have k0 : h_K σ c = 11 := g.2.1.2.1 (0, 11) (by decide)
  have k3 : h_K σ (c + 3) = 10 := g.2.1.2.1 (3, 10) (by decide)
  have p641 : h_P σ 641 c = some (c + 3) := g.2.1.2.2.1 (641, 0, 3) (by decide)
  have z0 := g.2.1.1
  have hS := g.1
  have hn := hS.1
  have hct := g.2.2.2.1
  generalize hQ : (fun (r : Option Value) (τ : Hp) => r = some (.int (a_froz S i f e).1) ∧ ∃ ow' ad', RC ow' τ c ad' (B + 200) (a_froz S i f e).2 ∧ CFm ow ow' σ τ) = Q
  refine Cn.of (by decide) (by repeat (first | exact ca_0 | refine ca_i ?_ | refine ca_r ?_)) (Nat.le_of_ble_eq_true rfl) ?_
  have eno : (thI S i = none ∨ haI S e f = none) → a_froz S i f e = (-2, S) := by
    intro w
    unfold a_froz
    rcases w with w | w
    · rw [w]
    · rw [w]
      cases thI S i <;> rfl
  have no : ∀ (u v w x : Option Value), a_froz S i f e = (-2, S) → Gm l D m_NK_frozen 2 7 Q 59 [some (va_rf (some c)), some (.int i), some (.int f), some (.int e), u, v, w, x, none] [] σ 2 7 := by
    intro u v w x e
    refine r_bipush (v := -2) rfl (by decide) ?_
    refine r_iret rfl rfl ?_
    rw [← hQ]
    show _ = some (Value.int (a_froz S i f _).1) ∧ ∃ ow' ad', RC ow' σ c ad' (B + 200) (a_froz S i f _).2 ∧ _
    rw [e]
    exact ⟨rfl, ow, ad, g.more (by omega), CFm.rf _ _⟩
  have fin : ∀ (tp : Option Nat) (w : Option Value), (tp = none → haI S e f = none ∨ nuI S f = none) → (∀ p, tp = some p → ∀ z, nuI S f = some z → ∃ d td nm, (s_e S)[e.toNatClampNeg]? = some d ∧ d z = some (td, nm) ∧ haI S e f = some (td, nm) ∧ LnI ow σ p td) → Gm l D m_NK_frozen 2 7 Q 42 [some (va_rf (some c)), some (.int i), some (.int f), some (.int e), some (va_rf ((thI S i).map ad)), some (va_rf ((nuI S f).map ad)), w, none, none] [va_rf tp] σ 2 7 := by
    intro tp w h1 h2
    refine r_astore rfl (by decide) ?_
    refine r_aload rfl rfl ?_
    cases hth : thI S i with
    | none => exact r_ifnull rfl (fun _ => no _ _ _ _ (eno (Or.inl hth))) (fun _ hq => by cases hq)
    | some x =>
      obtain ⟨hxn, hxt, rfl⟩ := thI_some hS hth
      refine r_ifnull rfl (fun hq => by cases hq) (fun _ _ => ?_)
      refine r_aload rfl rfl ?_
      cases hnu : nuI S f with
      | none => exact r_ifnull rfl (fun _ => no _ _ _ _ (eno (Or.inr (haI_nu hS hnu)))) (fun _ hq => by cases hq)
      | some z =>
        obtain ⟨hzn, rfl⟩ := nuI_lt hn hnu
        refine r_ifnull rfl (fun hq => by cases hq) (fun _ _ => ?_)
        refine r_aload rfl rfl ?_
        cases tp with
        | none =>
          refine r_ifnonnull rfl (fun _ hq => by cases hq) (fun _ => no _ _ _ _ (eno (Or.inr ?_)))
          rcases h1 rfl with w | w
          · exact w
          · rw [hnu] at w; cases w
        | some p =>
          obtain ⟨d, td, nm, d1, d2, d3, d4⟩ := h2 p rfl z hnu
          refine r_ifnonnull rfl (fun _ _ => ?_) (fun hq => by cases hq)
          refine r_new (kc := 1) (ks := 1) rfl (fun _ => ?_) |> G.less (by omega) (by show 1 + 6 ≤ _; omega)
          refine r_dup rfl (by first | rfl | exact rf_cat _) ?_
          refine r_iconst (v := nI 4) rfl (by decide) ?_
          refine r_aload rfl rfl ?_
          refine r_iconst (v := -1) rfl (by decide) ?_
          refine r_iconst (v := nI 1) rfl (by decide) ?_
          refine r_aload rfl rfl ?_
          refine r_callI (As := [_, _, _, _, _]) rfl (by decide) rfl rfl rfl (Nat.le_of_ble_eq_true rfl) ⟨Nat.le_of_ble_eq_true rfl, Nat.le_of_ble_eq_true rfl⟩ (c_Mention_init (ow := ow) (k := nI 4) (i := ad x) (km := -1) (m' := 1) (fz := some p) (by decide)) (kc' := 0) (ks' := 0) (by omega) (by omega) ?_
          rintro r σ1 ⟨rfl, hb⟩
          have kA := hb.2.2.1
          have ky : h_K σ1 (ad z) = 9 := by rw [(hb.1.2 _ (TN.lt g.2.1 g.2.2.1 (Or.inl hzn))).1]; exact hct.1 z (Or.inl hzn)
          refine r_astore rfl (by decide) ?_
          refine r_aload rfl rfl ?_
          refine r_aload rfl rfl ?_
          refine r_callV (As := [_]) rfl (by decide) rfl kA rfl rfl (Nat.le_of_ble_eq_true rfl) ⟨Nat.le_of_ble_eq_true rfl, Nat.le_of_ble_eq_true rfl⟩ (c_addMeant hb (by decide) ky) (kc' := 0) (ks' := 0) (by omega) (by omega) (by decide) ?_
          rintro r σ2 ⟨rfl, hb2, -⟩
          have k02 : h_K σ2 c = 11 := by rw [(hb2.1.2 c (by omega)).1]; exact k0
          have ea : a_froz S (nI x) (nI z) e = tellS S (x, 4, z, e.toNatClampNeg, []) := by
            unfold a_froz
            rw [hth, d3]
            show tellS S (x, 4, (nI z).toNatClampNeg, _, []) = _
            rw [nI_clamp (by omega)]
          have eed : edT S e.toNatClampNeg z = td := by
            unfold edT
            rw [d1]
            show (match d z with | none => [] | some t => t.1) = td
            rw [d2]
          refine r_aload_n rfl rfl ?_
          refine r_aload rfl rfl ?_
          refine r_callV (As := [_]) rfl (by decide) rfl k02 rfl rfl (Nat.le_of_ble_eq_true rfl) ⟨Nat.le_of_ble_eq_true rfl, Nat.le_of_ble_eq_true rfl⟩ (c_keepM (q := (x, 4, z, e.toNatClampNeg, [])) g hb2 (fun h => hS.m h ⟨hxn, by decide, (fun e => by cases e), (fun e => by cases e), (fun e => by cases e), (fun e => by cases e), fun _ => ⟨hzn, d, d1, (by rw [d2]; exact fun w => by cases w)⟩, fun _ => rfl, by decide, fun z hz => by cases hz⟩) rfl rfl (fun e => by rcases e with e | e <;> cases e) (fun e => absurd rfl e) (fun _ => ⟨p, rfl, by rw [eed]; exact d4⟩) rfl (fun j hj => rfl)) (kc' := 0) (ks' := 0) (by omega) (by omega) (by decide) ?_
          rintro r ρ ⟨rfl, hr⟩
          refine r_iret rfl rfl ?_
          rw [← hQ]
          show _ = some (Value.int (a_froz S (nI x) (nI z) e).1) ∧ ∃ ow' ad', RC ow' ρ c ad' (B + 200) (a_froz S (nI x) (nI z) e).2 ∧ _
          rw [ea]
          exact ⟨rfl, hr⟩
  refine r_aload_n rfl rfl ?_
  (first | refine r_getPv rfl (by first | assumption | rfl) rfl (by assumption) ?_ | refine r_getP rfl (by first | assumption | rfl) rfl ?_)
  refine r_iload_n rfl rfl ?_
  refine r_callV (As := [_]) rfl (by decide) rfl k3 rfl rfl (Nat.le_of_ble_eq_true rfl) ⟨Nat.le_of_ble_eq_true rfl, Nat.le_of_ble_eq_true rfl⟩ (c_thereAs g.2.1 g.2.2.1 hct hS) (kc' := 2) (ks' := 7) (by omega) (by omega) (by decide) ?_
  rintro r σ ⟨rfl, rfl⟩
  refine r_astore rfl (by decide) ?_
  refine r_aload_n rfl rfl ?_
  (first | refine r_getPv rfl (by first | assumption | rfl) rfl (by assumption) ?_ | refine r_getP rfl (by first | assumption | rfl) rfl ?_)
  refine r_iload_n rfl rfl ?_
  refine r_callV (As := [_]) rfl (by decide) rfl k3 rfl rfl (Nat.le_of_ble_eq_true rfl) ⟨Nat.le_of_ble_eq_true rfl, Nat.le_of_ble_eq_true rfl⟩ (c_numbered g.2.1 g.2.2.1 hn) (kc' := 2) (ks' := 7) (by omega) (by omega) (by decide) ?_
  rintro r σ ⟨rfl, rfl⟩
  refine r_astore rfl (by decide) ?_
  refine r_aload_n rfl rfl ?_
  refine r_iload_n rfl rfl ?_
  refine r_callV (As := [_]) rfl (by decide) rfl k0 rfl rfl (Nat.le_of_ble_eq_true rfl) ⟨Nat.le_of_ble_eq_true rfl, Nat.le_of_ble_eq_true rfl⟩ (c_editionOf g) (kc' := 2) (ks' := 7) (by omega) (by omega) (by decide) ?_
  rintro r σ ⟨rfl, hed⟩
  rcases hed with ⟨hnone, rfl⟩ | ⟨d, a, hsome, -, rfl, hce⟩
  · have hh : haI S e f = none := by
      unfold haI
      unfold edI at hnone
      by_cases ee : e < 0
      · rw [if_pos (Or.inl ee)]
      · by_cases xx : f < 0
        · rw [if_pos (Or.inr xx)]
        · rw [if_neg (fun q => q.elim ee xx)]
          rw [if_neg ee] at hnone
          rw [hnone]
    refine r_astore rfl (by decide) ?_
    refine r_aload rfl rfl ?_
    refine r_ifnonnull rfl (fun _ hq => by cases hq) (fun _ => ?_)
    refine r_null rfl ?_
    refine r_goto rfl ?_
    exact fin none _ (fun _ => Or.inl hh) (fun p hp => by cases hp)
  · have hke := hce.2.1
    have hed2 : ¬ e < 0 ∧ (s_e S)[e.toNatClampNeg]? = some d := by
      unfold edI at hsome
      by_cases ee : e < 0
      · rw [if_pos ee] at hsome; cases hsome
      · rw [if_neg ee] at hsome; exact ⟨ee, hsome⟩
    have hhd : ∀ z, nuI S f = some z → haI S e f = d z := by
      intro z hz
      obtain ⟨zn, rfl⟩ := nuI_lt hn hz
      unfold haI
      rw [if_neg (fun q => q.elim hed2.1 (nI_pos (by omega))), hed2.2, nI_clamp (by omega)]
    refine r_astore rfl (by decide) ?_
    refine r_aload rfl rfl ?_
    refine r_ifnonnull rfl (fun _ _ => ?_) (fun hq => by cases hq)
    refine r_aload rfl rfl ?_
    refine r_iload_n rfl rfl ?_
    refine r_callV (As := [_]) rfl (by decide) rfl hke rfl rfl (Nat.le_of_ble_eq_true rfl) ⟨Nat.le_of_ble_eq_true rfl, Nat.le_of_ble_eq_true rfl⟩ (c_toldOf hce) (kc' := 2) (ks' := 7) (by omega) (by omega) (by decide) ?_
    rintro r σ ⟨rfl, hto⟩
    rcases hto with ⟨hv, rfl⟩ | ⟨y, td, nm, p, hy1, hy2, hy3, rfl, hy5⟩
    · refine fin none _ (fun _ => ?_) (fun p hp => by cases hp)
      cases hnu : nuI S f with
      | none => exact Or.inr rfl
      | some z =>
        obtain ⟨zn, ez⟩ := nuI_lt hn hnu
        refine Or.inl ?_
        rw [hhd z hnu]
        rcases hv with hv | ⟨y, q1, q2, q3⟩
        · rw [ez] at hv; exact absurd hv (nI_pos (by omega))
        · rw [ez] at q1
          rw [(nI_eq (by omega) q2).mp q1]
          exact q3
    · refine fin (some p) _ (fun hp => by cases hp) (fun p' hp z hz => ?_)
      cases hp
      obtain ⟨zn, ez⟩ := nuI_lt hn hz
      rw [ez] at hy1
      have hzy : z = y := (nI_eq (by omega) (by omega)).mp hy1
      subst hzy
      exact ⟨d, td, nm, hed2.2, hy3, by rw [hhd z hz]; exact hy3, hy5⟩
end NK
