/-! ===== the class: add ===== -/
section NK
variable {l : Launch} {D : DD} {σ : Hp} {c B : Nat} {ow ad : Nat → Nat} {S : Sp}
theorem hoI_liv (hS : SOk S) {v : Int32} {p : Nat} (h : hoI S v = some p) : liv (s_T S) p := by
  unfold hoI at h
  by_cases e : v = -1
  · rw [if_pos e] at h
    exact Or.inl (Option.some.inj h).symm
  · rw [if_neg e] at h
    exact Or.inr (thI_some hS h).2.1
theorem CT.there {n x : Nat} {T : Tr} (h : CT σ n T ad) (hW : W0 n T) (hx : x < n) : CT (w_I σ 519 (ad x) (nI 1)) n (t_k T, u_1 (t_h T) x true, t_i T) ad := by
  have hcs : CS (w_I σ 519 (ad x) (nI 1)) n T ad := h.cs.kp (fun _ _ => rfl) (fun f z _ hf => rfl) (fun z d _ hd => hW.2.1 z d hd)
  refine ⟨hcs.1, hcs.2.1, hcs.2.2.1, hcs.2.2.2.1, hcs.2.2.2.2, fun z hz => h.2.2.2.2.2.1 z hz, fun z hz => ?_⟩
  show u_2 (h_I σ) 519 (ad x) (nI 1) 519 (ad z) = nI (u_1 (t_h T) x true z).toNat
  by_cases e : z = x
  · rw [e, u1_s]
    unfold u_2
    rw [if_pos ⟨rfl, rfl⟩]
    rfl
  · rw [u1_n _ _ e]
    unfold u_2
    rw [if_neg (fun (w : 519 = 519 ∧ ad z = ad x) => e (h.2.1 z x (Or.inl hz) (Or.inl hx) w.2))]
    exact h.2.2.2.2.2.2 z hz
theorem CT.old {FI FP RS : List Nat} {τ : Hp} {n : Nat} {T : Tr} (h : Fm ow FI FP RS σ τ) (hlt : ∀ x, TN n x → ad x < h_z σ) (hW : W0 n T) (g : CT σ n T ad) (h1 : 519 ∉ FI := by decide) (h2 : ∀ f ∈ [515, 516, 517, 518], f ∉ FP := by decide) : CT τ n T ad := by
  obtain ⟨g1, g2, g3, g4, g5, g6, g7⟩ := id g
  have hcs := (CT.cs g).kp (τ := τ) (fun x hx => (h.2 _ (hlt x hx)).1) (fun f x hx hf => (h.2 _ (hlt x hx)).2.2.2.1 f (by rcases hf with rfl | rfl | rfl <;> exact h2 _ (by decide))) (fun x cc _ hcc => hW.2.1 x cc hcc)
  refine ⟨hcs.1, hcs.2.1, hcs.2.2.1, hcs.2.2.2.1, hcs.2.2.2.2, fun x hx => ?_, fun x hx => ?_⟩
  · rw [(h.2 _ (hlt x (Or.inl hx))).2.2.2.1 518 (h2 518 (by decide))]; exact g6 x hx
  · rw [(h.2 _ (hlt x (Or.inl hx))).2.2.1 519 h1 (fun e => by cases e)]; exact g7 x hx
theorem vA_new {n : Nat} {kd kd' : Nat → Nat} {T : Tr} (hW : Wf n kd T) {p i : Nat} (lp : liv T p) (hi : i ≤ (t_k T p).length) (hn : n < 120) : Va (n + 1) kd' (1, n, p, i) T := by
  refine Or.inl ⟨rfl, by show n < n + 1; omega, ?_, ?_, ?_, fun q hq => ?_, lp, hi⟩
  · show t_h T n = false
    cases e : t_h T n with
    | false => rfl
    | true => have := hW.h_lt e; omega
  · show t_k T n = []
    cases e : t_k T n with
    | nil => rfl
    | cons d ks => have := hW.2.1 n d (by rw [e]; exact List.mem_cons_self); omega
  · show t_i T n = none
    cases e2 : t_i T n with
    | none => rfl
    | some w => have := (hW.2.2.2.2.2.2.2.1 _ _ e2).2.1; omega
  · have := hW.k_lt (show n ∈ t_k T q from hq)
    omega
set_option maxHeartbeats 1000000 in
theorem c_NK_add {k v i : Int32} (g : RC ow σ c ad B S) : Cn l D m_NK_add 9 125 [va_rf (some c), .int k, .int v, .int i] σ (fun r τ => r = some (.int (a_add S k v i).1) ∧ ∃ ow' ad', RC ow' τ c ad' (B + 200) (a_add S k v i).2 ∧ CFm ow ow' σ τ) := by
  have k0 : h_K σ c = 11 := g.2.1.2.1 (0, 11) (by decide)
  have k3 : h_K σ (c + 3) = 10 := g.2.1.2.1 (3, 10) (by decide)
  have p641 : h_P σ 641 c = some (c + 3) := g.2.1.2.2.1 (641, 0, 3) (by decide)
  have z0 := g.2.1.1
  have hS := g.1
  have hW := hS.wf
  have hl := hS.2.2.2.1
  have hct := g.2.2.2.1
  have hn9 := hS.1
  generalize hQ : (fun (r : Option Value) (τ : Hp) => r = some (.int (a_add S k v i).1) ∧ ∃ ow' ad', RC ow' τ c ad' (B + 200) (a_add S k v i).2 ∧ CFm ow ow' σ τ) = Q
  refine Cn.of (by decide) (by repeat (first | exact ca_0 | refine ca_i ?_ | refine ca_r ?_)) (Nat.le_of_ble_eq_true rfl) ?_
  have no : ∀ (w : Option Value), a_add S k v i = (-2, S) → Gm l D m_NK_add 9 125 Q 39 [some (va_rf (some c)), some (.int k), some (.int v), some (.int i), w, none] [] σ 9 125 := by
    intro w e
    refine r_bipush (v := -2) rfl (by decide) ?_
    refine r_iret rfl rfl ?_
    rw [← hQ]
    show _ = some (Value.int (a_add S k v i).1) ∧ ∃ ow' ad', RC ow' σ c ad' (B + 200) (a_add S k v i).2 ∧ _
    rw [e]
    exact ⟨rfl, ow, ad, g.more (by omega), CFm.rf _ _⟩
  refine r_aload_n rfl rfl ?_
  (first | refine r_getPv rfl (by first | assumption | rfl) rfl (by assumption) ?_ | refine r_getP rfl (by first | assumption | rfl) rfl ?_)
  refine r_iload_n rfl rfl ?_
  refine r_callV (As := [_]) rfl (by decide) rfl k3 rfl rfl (Nat.le_of_ble_eq_true rfl) ⟨Nat.le_of_ble_eq_true rfl, Nat.le_of_ble_eq_true rfl⟩ (c_hostOf g.2.1 g.2.2.1 g.2.2.2.1 hS) (kc' := 9) (ks' := 125) (by omega) (by omega) (by decide) ?_
  rintro r σ ⟨rfl, rfl⟩
  refine r_astore rfl (by decide) ?_
  refine r_aload_n rfl rfl ?_
  (first | refine r_getPv rfl (by first | assumption | rfl) rfl (by assumption) ?_ | refine r_getP rfl (by first | assumption | rfl) rfl ?_)
  refine r_iload_n rfl rfl ?_
  refine r_callV (As := [_]) rfl (by decide) rfl k3 rfl rfl (Nat.le_of_ble_eq_true rfl) ⟨Nat.le_of_ble_eq_true rfl, Nat.le_of_ble_eq_true rfl⟩ (c_formOf g.2.1) (kc' := 9) (ks' := 125) (by omega) (by omega) (by decide) ?_
  rintro r σ ⟨rfl, rfl⟩
  cases hki : kiI k with
  | none => exact r_ifnull rfl (fun _ => no _ (by unfold a_add; rw [hki])) (fun _ hq => by cases hq)
  | some k' =>
    obtain ⟨rfl, hk6⟩ := kiI_some hki
    refine r_ifnull rfl (fun hq => by cases hq) (fun _ _ => ?_)
    refine r_aload rfl rfl ?_
    cases hho : hoI S v with
    | none => exact r_ifnull rfl (fun _ => no _ (by unfold a_add; rw [hki, hho])) (fun _ hq => by cases hq)
    | some p =>
      have lp := hoI_liv hS hho
      have tnp := hW.tn lp
      have kp := hct.1 p tnp
      have hlen := hW.len p
      refine r_ifnull rfl (fun hq => by cases hq) (fun _ _ => ?_)
      show Gm l D m_NK_add 9 125 Q 26 [some (va_rf (some c)), some (.int (nI k')), some (.int v), some (.int i), some (va_rf (some (ad p))), none] [] σ 9 125
      have ea : a_add S (nI k') v i = if inB i 0 (nI (t_k (s_T S) p).length) = true then (if s_n S = 120 ∨ (s_l S).length = 200 then (-3, S) else (nI (s_n S), sG S (s_n S + 1, u_1 (s_k S) (s_n S) k', (1, s_n S, p, i.toNatClampNeg) :: s_l S))) else (-2, S) := by
        unfold a_add
        rw [hki, hho]
      refine r_iload_n rfl rfl ?_
      refine r_if_lt rfl (fun hlt => no _ ?_) (fun hge => ?_)
      · rw [ea, if_neg]
        unfold inB
        rw [decide_eq_false (p := (0 : Int32) ≤ i) (fun q => absurd hlt (Int32.not_lt.mpr q)), Bool.false_and]
        decide
      obtain ⟨j, hj, rfl⟩ := nI_of hge
      refine r_iload_n rfl rfl ?_
      refine r_aload rfl rfl ?_
      refine r_callV (As := []) rfl (by decide) rfl kp rfl rfl (Nat.le_of_ble_eq_true rfl) ⟨Nat.le_of_ble_eq_true rfl, Nat.le_of_ble_eq_true rfl⟩ (c_kidCount kp (hct.2.2.1 p tnp) (by rw [List.length_map]; omega)) (kc' := 9) (ks' := 125) (by omega) (by omega) (by decide) ?_
      rintro r σ ⟨rfl, rfl⟩
      rw [List.length_map]
      refine r_leN rfl (by omega) (by omega) (fun hle => ?_) (fun hgt => no _ ?_)
      case refine_2 =>
        rw [ea, if_neg]
        unfold inB
        rw [decide_eq_false (p := nI j ≤ nI (t_k (s_T S) p).length) (Int32.not_le.mpr (nI_lt (by omega) hj)), Bool.and_false]
        decide
      have ein : inB (nI j) 0 (nI (t_k (s_T S) p).length) = true := by
        unfold inB
        rw [decide_eq_true (nI_pos' hj), decide_eq_true (nI_le hle (by omega))]
        rfl
      rw [if_pos ein, nI_clamp (by omega)] at ea
      refine r_aload_n rfl rfl ?_
      refine r_callV (As := []) rfl (by decide) rfl k0 rfl rfl (Nat.le_of_ble_eq_true rfl) ⟨Nat.le_of_ble_eq_true rfl, Nat.le_of_ble_eq_true rfl⟩ (c_isLogFull g) (kc' := 9) (ks' := 125) (by omega) (by omega) (by decide) ?_
      rintro r σ ⟨rfl, rfl⟩
      by_cases hfull : (s_l S).length = 200
      · rw [decide_eq_true hfull]
        refine r_if_eq rfl (fun q => absurd q (by decide)) (fun _ => ?_)
        refine r_bipush (v := -3) rfl (by decide) ?_
        refine r_iret rfl rfl ?_
        rw [← hQ]
        show _ = some (Value.int (a_add S (nI k') v (nI j)).1) ∧ ∃ ow' ad', RC ow' σ c ad' (B + 200) (a_add S (nI k') v (nI j)).2 ∧ _
        rw [ea, if_pos (Or.inr hfull)]
        exact ⟨rfl, ow, ad, g.more (by omega), CFm.rf _ _⟩
      · rw [decide_eq_false hfull]
        refine r_if_eq rfl (fun _ => ?_) (fun q => absurd rfl q)
        refine r_aload_n rfl rfl ?_
        (first | refine r_getPv rfl (by first | assumption | rfl) rfl (by assumption) ?_ | refine r_getP rfl (by first | assumption | rfl) rfl ?_)
        refine r_iload_n rfl rfl ?_
        by_cases hn : s_n S = 120
        · refine r_callV (As := [_]) rfl (by decide) rfl k3 rfl rfl (Nat.le_of_ble_eq_true rfl) ⟨Nat.le_of_ble_eq_true rfl, Nat.le_of_ble_eq_true rfl⟩ (c_grow0 g hk6 hn) (kc' := 9) (ks' := 125) (by omega) (by omega) (by decide) ?_
          rintro r σ ⟨rfl, rfl⟩
          refine r_astore rfl (by decide) ?_
          refine r_aload rfl rfl ?_
          refine r_ifnonnull rfl (fun _ hq => by cases hq) (fun _ => ?_)
          refine r_bipush (v := -3) rfl (by decide) ?_
          refine r_iret rfl rfl ?_
          rw [← hQ]
          show _ = some (Value.int (a_add S (nI k') v (nI j)).1) ∧ ∃ ow' ad', RC ow' σ c ad' (B + 200) (a_add S (nI k') v (nI j)).2 ∧ _
          rw [ea, if_pos (Or.inl hn)]
          exact ⟨rfl, ow, ad, g.more (by omega), CFm.rf _ _⟩
        · have hn1 : s_n S < 120 := by omega
          refine r_callV (As := [_]) rfl (by decide) rfl k3 rfl rfl (Nat.le_of_ble_eq_true rfl) ⟨Nat.le_of_ble_eq_true rfl, Nat.le_of_ble_eq_true rfl⟩ (c_grow g hk6 hn1) (kc' := 1) (ks' := 5) (by omega) (by omega) (by decide) ?_
          rintro r σ1 ⟨rfl, hf1, hN⟩
          have g1 := g.grow hf1 hN hk6 hn1
          have i512 : h_I σ1 512 (h_z σ) = nI (s_n S) := hN.2.2.2.2.1
          have zs1 := hN.1
          have kA : h_K σ1 (h_z σ) = 9 := hN.2.2.2.1
          generalize hρ : w_I σ1 320 (c + 35) (nI 1) = ρ at g1
          have ead : u_1 ad (s_n S) (h_z σ) (s_n S) = h_z σ := u1_s _ _ _
          have eap : u_1 ad (s_n S) (h_z σ) p = ad p := u1_n _ _ (by rcases tnp with w | w <;> omega)
          have hW1 := g1.1.wf
          have ct1 : CT σ1 (s_n S + 1) (s_T S) (u_1 ad (s_n S) (h_z σ)) := by
            have := g1.2.2.2.1
            rw [← hρ] at this
            exact CT.to this rfl rfl rfl rfl (fun z hz => by have q := this.2.2.2.2.2.2 z hz; rw [hI_n _ _ (by decide)] at q; exact q)
          have hfρ : Fm (owG ow (h_z σ)) [320, 519] chP [] ρ σ1 := by
            rw [← hρ]
            exact ⟨Nat.le_refl _, fun b hb => ⟨rfl, rfl, fun f q _ => (hI_n _ _ (fun e => q (by rw [e]; decide))).symm, fun _ _ => rfl, fun _ => ⟨rfl, rfl⟩⟩⟩
          have zρ : h_z ρ = h_z σ1 := by rw [← hρ]; rfl
          generalize hA : h_z σ = A at *
          generalize hadd : u_1 ad (s_n S) A = ad1 at *
          refine r_astore rfl (by decide) ?_
          refine r_aload rfl rfl ?_
          refine r_ifnonnull rfl (fun _ _ => ?_) (fun hq => by cases hq)
          show Gm l D m_NK_add 9 125 Q 70 [some (va_rf (some c)), some (.int (nI k')), some (.int v), some (.int (nI j)), some (va_rf (some (ad p))), some (va_rf (some A))] [] σ1 1 5
          refine r_aload rfl rfl ?_
          refine r_iconst (v := nI 1) rfl (by decide) ?_
          refine r_putI rfl (by first | assumption | rfl) rfl (by first | exact Or.inl rfl | exact Or.inr ⟨rfl, rfl⟩) (by first | rfl | decide | assumption) (by first | rfl | decide) ?_
          have ct2 : CT (w_I σ1 519 A (nI 1)) (s_n S + 1) (t_k (s_T S), u_1 (t_h (s_T S)) (s_n S) true, t_i (s_T S)) ad1 := by
            have := ct1.there hW1.w0 (x := s_n S) (by omega)
            rw [ead] at this
            exact this
          have hf2 : Fm (owG ow A) [320, 519] chP [] ρ (w_I σ1 519 A (nI 1)) := hfρ.tr (Fm.I _ _ _ (by decide))
          generalize hσ2 : w_I σ1 519 A (nI 1) = σ2 at ct2 hf2 ⊢
          have kA2 : h_K σ2 A = 9 := by rw [← hσ2]; exact kA
          have z2 : h_z σ2 = h_z σ1 := by rw [← hσ2]; rfl
          have i2 : h_I σ2 512 A = nI (s_n S) := by rw [← hσ2]; exact (hI_n _ _ (by decide)).trans i512
          have hva : Va (s_n S + 1) (u_1 (s_k S) (s_n S) k') (1, s_n S, p, j) (s_T S) := vA_new hW lp hle hn1
          have hw2 : W0 (s_n S + 1) (t_k (s_T S), u_1 (t_h (s_T S)) (s_n S) true, t_i (s_T S)) := hW1.w0
          have hxp : s_n S ≠ p := by rcases tnp with w | w <;> omega
          refine r_aload rfl rfl ?_
          refine r_aload rfl rfl ?_
          refine r_iload_n rfl rfl ?_
          have hh := c_hangC (l := l) (D := D) (x := s_n S) (p := p) (j := j) ct2 hw2 (by omega) (tnp.elim (fun w => Or.inl (by omega)) Or.inr) hxp (fun q hq => by have := hW.k_lt (show s_n S ∈ t_k (s_T S) q from hq); omega) hle
          rw [ead, eap] at hh
          refine r_callV (As := [_, _]) rfl (by decide) rfl kA2 rfl rfl (Nat.le_of_ble_eq_true rfl) ⟨Nat.le_of_ble_eq_true rfl, Nat.le_of_ble_eq_true rfl⟩ (hh) (kc' := 1) (ks' := 5) (by omega) (by omega) (by decide) ?_
          rintro r σ3 ⟨rfl, ct3, hσ3⟩
          have hf3 : Fm (owG ow A) [320, 519] chP [] ρ σ3 := hf2.tr (by rw [hσ3]; exact (Fm.hg _ _ _ _).wide (by decide) (by decide) (by decide))
          have hf3b : Fm (owG ow A) [519] chP [] σ2 σ3 := by rw [hσ3]; exact Fm.hg _ _ _ _
          have z3 := hf3b.1
          refine r_aload_n rfl rfl ?_
          refine r_new (kc := 0) (ks := 0) rfl (fun _ => ?_) |> G.less (by omega) (by show 0 + 5 ≤ _; omega)
          generalize hσ4 : n_O σ3 (0 + 1) = σ4
          have hf4 : Fm (owG ow A) [] [] [] σ3 σ4 := by rw [← hσ4]; exact Fm.nwO _ _
          have kA4 : h_K σ4 (h_z σ3) = 1 := by rw [← hσ4]; exact u1_s _ _ _
          have zA4 : h_z σ4 = h_z σ3 + 1 := by rw [← hσ4]; rfl
          refine r_dup rfl (by first | rfl | exact rf_cat _) ?_
          refine r_iconst (v := nI 0) rfl (by decide) ?_
          refine r_aload rfl rfl ?_
          refine r_aload rfl rfl ?_
          refine r_iload_n rfl rfl ?_
          refine r_null rfl ?_
          refine r_callI (As := [_, _, _, _, _]) rfl (by decide) rfl rfl rfl (Nat.le_of_ble_eq_true rfl) ⟨Nat.le_of_ble_eq_true rfl, Nat.le_of_ble_eq_true rfl⟩ (c_Change_init kA4) (kc' := 0) (ks' := 0) (by omega) (by omega) ?_
          rintro r σ5 ⟨rfl, hσ5⟩
          obtain ⟨q1, q2, q3, q4, q5, q6, q7⟩ := chS_f σ4 (h_z σ3) (nI 0) (some A) (some (ad p)) (nI j) none
          have hf5 : Fm (owG ow A) [] [] [] σ3 σ5 := by rw [hσ5]; exact hf4.ch (Nat.le_refl _) _ _ _ _ _
          rw [← hσ5] at q1 q2 q3 q4 q5 q6 q7
          have hf35 : Fm (owG ow A) [320, 519] chP [] ρ σ5 := hf3.tr (hf5.wide (by decide) (by decide) (by decide))
          have k05 : h_K σ5 c = 11 := by rw [(hf35.2 c (by omega)).1]; exact g1.2.1.2.1 (0, 11) (by decide)
          have ct5 : CT σ5 (s_n S + 1) (rp ((1, s_n S, p, j) :: s_l S)) ad1 := by
            have hw3 : W0 (s_n S + 1) (rp ((1, s_n S, p, j) :: s_l S)) := (Wf_ap hW1 hva).w0
            exact CT.old (ow := owG ow A) (T := rp ((1, s_n S, p, j) :: s_l S)) hf5 (fun x hx => Nat.lt_of_lt_of_le (by have := TN.lt g1.2.1 g1.2.2.1 hx; omega) z3) hw3 ct3
          have hco5 : CO σ5 ad1 (h_z σ3) (1, s_n S, p, j) (rp (s_l S)) := ⟨by omega, by rw [q1]; exact kA4, Or.inl ⟨rfl, q3, by rw [q4, ead]⟩⟩
          refine r_callV (As := [_]) rfl (by decide) rfl k05 rfl rfl (Nat.le_of_ble_eq_true rfl) ⟨Nat.le_of_ble_eq_true rfl, Nat.le_of_ble_eq_true rfl⟩ (c_noteG (S := sG S (s_n S + 1, u_1 (s_k S) (s_n S) k', s_l S)) (e := (1, s_n S, p, j)) g1 hf35 (by show (s_l S).length < 200; omega) hva ct5 hco5) (kc' := 0) (ks' := 0) (by omega) (by omega) (by decide) ?_
          rintro r σ6 ⟨rfl, hrc, hcf⟩
          have i6 : h_I σ6 512 A = nI (s_n S) := by
            have := (hrc.2.2.1.2.2.2 (s_n S) (by show s_n S < s_n S + 1; omega)).2.2.2.1
            rw [ead] at this
            exact this
          have k6 : h_K σ6 A = 9 := by
            have := hrc.2.2.2.1.1 (s_n S) (Or.inl (by show s_n S < s_n S + 1; omega))
            rw [ead] at this
            exact this
          refine r_aload rfl rfl ?_
          (first | refine r_getIv rfl (by first | assumption | rfl) rfl (by assumption) ?_ | refine r_getI rfl (by first | assumption | rfl) rfl ?_)
          refine r_iret rfl rfl ?_
          rw [← hQ]
          show _ = some (Value.int (a_add S (nI k') v (nI j)).1) ∧ ∃ ow' ad', RC ow' σ6 c ad' (B + 200) (a_add S (nI k') v (nI j)).2 ∧ _
          rw [ea, if_neg (fun w => w.elim hn hfull)]
          refine ⟨rfl, owG ow A, ad1, hrc.more (by omega), ?_, fun a ha => owG_lt (by omega)⟩
          have hsr : Fm ow cAI cAP cAR σ ρ := (hf1.wide (by decide) (by decide) (by decide)).tr (by rw [← hρ]; exact Fm.I _ _ _ (by decide))
          exact ((hsr.own (ow' := owG ow A) (fun a ha => owG_lt (by omega))).tr hcf.1).own (fun a ha => (owG_lt (by omega)).symm)
end NK
