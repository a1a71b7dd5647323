/-! ===== the class: cut ===== -/
section NK
variable {l : Launch} {D : DD} {σ : Hp} {c B : Nat} {ow ad : Nat → Nat} {S : Sp}
/-- a change of the heap that touches nothing of the class -/
theorem RC.still {τ : Hp} (g : RC ow σ c ad B S) (h : Fm ow [] [] [] σ τ) : RC ow τ c ad B S := by
  have g2 := g.2.1
  have z0 := g2.1
  have g5 := g.2.2.2.2.1
  obtain ⟨xs, g6⟩ := g.2.2.2.2.2.1
  exact RC.kp12 (FI := []) g (h.wide (by decide) (by decide) (by decide)) (fun f q => by cases q) (g5.kp h (by omega) (fun q => by cases q) (fun q => by cases q) (by decide) (by decide)) ⟨xs, g6.kp h (by omega) (fun q => by cases q) (fun q => by cases q) (by decide) (by decide)⟩ g.1.2.2.2.2.2.2.1
/-- all below x is set not there -/
theorem CT.cut {τ ρ : Hp} {n x : Nat} {kd : Nat → Nat} {T : Tr} (hW : Wf n kd T) (hx : t_h T x = true) (h : CT τ n (lvT x T) ad) (hρ : ρ = thS τ ((pre T 121 x).map ad) (nI false.toNat)) : CT ρ n (apC x T) ad := by
  obtain ⟨g1, g2, g3, g4, g5, g6, g7, g8⟩ := thS_f ((pre T 121 x).map ad) τ (nI false.toNat)
  rw [← hρ] at g1 g2 g3 g4 g5 g6 g7 g8
  refine h.to rfl rfl g2 g3 (fun z hz => ?_)
  rw [g8]
  show _ = nI (t_h T z && !bel T x z).toNat
  by_cases hm : z ∈ pre T 121 x
  · rw [if_pos (List.mem_map.mpr ⟨z, hm, rfl⟩)]
    have := ((sub_iff hW hx z).mp hm).2
    simp only [Bool.and_eq_true] at this
    rw [this.1, this.2]
    rfl
  · rw [if_neg]
    · rw [h.2.2.2.2.2.2 z hz]
      show nI (t_h T z).toNat = _
      cases hz2 : t_h T z with
      | false => rfl
      | true =>
        cases hb : bel T x z with
        | false => rfl
        | true => exact absurd ((sub_iff hW hx z).mpr ⟨hz, by rw [hz2, hb]; rfl⟩) hm
    · intro hmm
      obtain ⟨d, hd, e2⟩ := List.mem_map.mp hmm
      have hdn := ((sub_iff hW hx d).mp hd).1
      exact hm (by rw [← h.2.1 d z (Or.inl hdn) (Or.inl hz) e2]; exact hd)
set_option maxHeartbeats 1000000 in
theorem c_NK_cut {v : Int32} (g : RC ow σ c ad B S) : Cn l D m_NK_cut 1 5 [va_rf (some c), .int v] σ (fun r τ => r = some (.int (a_cut S v).1) ∧ ∃ ow' ad', RC ow' τ c ad' (B + 200) (a_cut S v).2 ∧ CFm ow ow' σ τ) := by
  have k0 : h_K σ c = 11 := g.2.1.2.1 (0, 11) (by decide)
  have k3 : h_K σ (c + 3) = 10 := g.2.1.2.1 (3, 10) (by decide)
  have p641 : h_P σ 641 c = some (c + 3) := g.2.1.2.2.1 (641, 0, 3) (by decide)
  have z0 := g.2.1.1
  have hS := g.1
  have hW := hS.wf
  have hl := hS.2.2.2.1
  generalize hQ : (fun (r : Option Value) (τ : Hp) => r = some (.int (a_cut S v).1) ∧ ∃ ow' ad', RC ow' τ c ad' (B + 200) (a_cut S v).2 ∧ CFm ow ow' σ τ) = Q
  refine Cn.of (by decide) (by repeat (first | exact ca_0 | refine ca_i ?_ | refine ca_r ?_)) (Nat.le_of_ble_eq_true rfl) ?_
  refine r_aload_n rfl rfl ?_
  (first | refine r_getPv rfl (by first | assumption | rfl) rfl (by assumption) ?_ | refine r_getP rfl (by first | assumption | rfl) rfl ?_)
  refine r_iload_n rfl rfl ?_
  refine r_callV (As := [_]) rfl (by decide) rfl k3 rfl rfl (Nat.le_of_ble_eq_true rfl) ⟨Nat.le_of_ble_eq_true rfl, Nat.le_of_ble_eq_true rfl⟩ (c_thereAs g.2.1 g.2.2.1 g.2.2.2.1 hS) (kc' := 1) (ks' := 5) (by omega) (by omega) (by decide) ?_
  rintro r σ ⟨rfl, rfl⟩
  refine r_astore_n rfl (by decide) ?_
  refine r_aload_n rfl rfl ?_
  cases hth : thI S v with
  | none =>
    refine r_ifnonnull rfl (fun _ hq => by cases hq) (fun _ => ?_)
    refine r_bipush (v := -2) rfl (by decide) ?_
    refine r_iret rfl rfl ?_
    rw [← hQ]
    unfold a_cut
    rw [hth]
    exact ⟨rfl, ow, ad, g.more (by omega), CFm.rf _ _⟩
  | some x =>
    obtain ⟨hxn, hxt, rfl⟩ := thI_some hS hth
    refine r_ifnonnull rfl (fun _ _ => ?_) (fun hq => by cases hq)
    show Gm l D m_NK_cut 1 5 Q 16 [some (va_rf (some c)), some (.int (nI x)), some (va_rf (some (ad x))), none, none] [] σ 1 5
    refine r_aload_n rfl rfl ?_
    refine r_callV (As := []) rfl (by decide) rfl k0 rfl rfl (Nat.le_of_ble_eq_true rfl) ⟨Nat.le_of_ble_eq_true rfl, Nat.le_of_ble_eq_true rfl⟩ (c_isLogFull g) (kc' := 1) (ks' := 5) (by omega) (by omega) (by decide) ?_
    rintro r σ ⟨rfl, rfl⟩
    by_cases hfull : (s_l S).length = 200
    · rw [decide_eq_true hfull]
      refine r_if_eq rfl (fun q => absurd q (by decide)) (fun _ => ?_)
      refine r_bipush (v := -3) rfl (by decide) ?_
      refine r_iret rfl rfl ?_
      rw [← hQ]
      unfold a_cut
      rw [hth]
      show _ = some (Value.int (if (s_l S).length = 200 then ((-3 : Int32), S) else _).1) ∧ ∃ ow' ad', RC ow' σ c ad' (B + 200) (if (s_l S).length = 200 then ((-3 : Int32), S) else _).2 ∧ _
      rw [if_pos hfull]
      exact ⟨rfl, ow, ad, g.more (by omega), CFm.rf _ _⟩
    · rw [decide_eq_false hfull]
      refine r_if_eq rfl (fun _ => ?_) (fun q => absurd rfl q)
      obtain ⟨p, lp, hpm, -⟩ := hW.h_par hxt
      obtain ⟨k, hk⟩ := List.getElem?_of_mem hpm
      have tnp : TN (s_n S) p := lp.elim Or.inr (fun w => Or.inl (hW.h_lt w))
      refine r_new (kc := 0) (ks := 0) rfl (fun _ => ?_) |> G.less (by omega) (by show 0 + 5 ≤ _; omega)
      generalize hσ0 : n_O σ (0 + 1) = σ0
      have hf0 : Fm ow [] [] [] σ σ0 := by rw [← hσ0]; exact Fm.nwO _ _
      have kA : h_K σ0 (h_z σ) = 1 := by rw [← hσ0]; exact u1_s _ _ _
      have zA : h_z σ0 = h_z σ + 1 := by rw [← hσ0]; rfl
      generalize hA : h_z σ = A at kA zA ⊢
      have g0 := g.still hf0
      have hc0 := g0.2.2.2.1
      obtain ⟨f1, f2, f3, -⟩ := hc0.fst hW.w0 hk
      have kx0 := hc0.1 x (Or.inl hxn)
      have ux0 := hc0.2.2.2.1 p x tnp hpm
      refine r_dup rfl (by first | rfl | exact rf_cat _) ?_
      refine r_iconst (v := nI 2) rfl (by decide) ?_
      refine r_aload_n rfl rfl ?_
      refine r_aload_n rfl rfl ?_
      (first | refine r_getPv rfl (by first | assumption | rfl) rfl (by assumption) ?_ | refine r_getP rfl (by first | assumption | rfl) rfl ?_)
      refine r_aload_n rfl rfl ?_
      refine r_callV8 (As := []) rfl (by decide) rfl kx0 rfl rfl (Nat.le_of_ble_eq_true rfl) ⟨Nat.le_of_ble_eq_true rfl, Nat.le_of_ble_eq_true rfl⟩ (c_index kx0 ux0 (hc0.1 p tnp) (hc0.2.2.1 p tnp) (by omega) f1 f2) (kc' := 0) (ks' := 0) (by omega) (by omega) (by decide) ?_
      rintro r σ0 ⟨rfl, rfl⟩
      refine r_null rfl ?_
      refine r_callI (As := [_, _, _, _, _]) rfl (by decide) rfl rfl rfl (Nat.le_of_ble_eq_true rfl) ⟨Nat.le_of_ble_eq_true rfl, Nat.le_of_ble_eq_true rfl⟩ (c_Change_init kA) (kc' := 0) (ks' := 0) (by omega) (by omega) ?_
      rintro r σ1 ⟨rfl, hσ1⟩
      obtain ⟨q1, q2, q3, q4, q5, q6, q7⟩ := chS_f σ0 A (nI 2) (some (ad x)) (some (ad p)) (nI k) none
      have hf1 : Fm ow [] [] [] σ σ1 := by rw [hσ1]; exact hf0.ch (by omega) _ _ _ _ _
      rw [← hσ1] at q1 q2 q3 q4 q5 q6 q7
      have g1 := g.still hf1
      have hc1 := g1.2.2.2.1
      have kx1 := hc1.1 x (Or.inl hxn)
      have hco1 : CO σ1 ad A (3, x, 0, 0) (s_T S) := ⟨by omega, by rw [q1]; exact kA, Or.inr (Or.inr (Or.inl ⟨rfl, q3, q4, p, k, lp, hk, q5, q6⟩))⟩
      refine r_astore_n rfl (by decide) ?_
      refine r_aload_n rfl rfl ?_
      refine r_callV (As := []) rfl (by decide) rfl kx1 rfl rfl (Nat.le_of_ble_eq_true rfl) ⟨Nat.le_of_ble_eq_true rfl, Nat.le_of_ble_eq_true rfl⟩ (c_leaveC hc1 hW.w0 tnp hk) (kc' := 0) (ks' := 0) (by omega) (by omega) (by decide) ?_
      rintro r σ2 ⟨rfl, hc2, hσ2⟩
      have hf2 : Fm ow [519] chP [] σ1 σ2 := by rw [hσ2]; exact Fm.lv _ _ _ _
      have kx2 := hc2.1 x (Or.inl hxn)
      have hcs2 : CS σ2 (s_n S) (apC x (s_T S)) ad := hc2.cs
      refine r_aload_n rfl rfl ?_
      refine r_iconst (v := nI 0) rfl (by decide) ?_
      refine r_callV (As := [_]) rfl (by decide) rfl kx2 rfl rfl (Nat.le_of_ble_eq_true rfl) ⟨Nat.le_of_ble_eq_true rfl, Nat.le_of_ble_eq_true rfl⟩ (c_setAll (b := false) hcs2 (Wf_C hW hxt) hxn) (kc' := 0) (ks' := 0) (by omega) (by omega) (by decide) ?_
      rintro r σ3 ⟨rfl, hσ3⟩
      rw [pre_cut hW] at hσ3
      have hc3 : CT σ3 (s_n S) (apC x (s_T S)) ad := CT.cut hW hxt hc2 hσ3
      have hf3 : Fm ow [519] chP [] σ1 σ3 := hf2.tr (by rw [hσ3]; exact Fm.th _ _)
      have k03 : h_K σ3 c = 11 := by rw [(hf3.2 c (by omega)).1]; exact g1.2.1.2.1 (0, 11) (by decide)
      refine r_istore rfl (by decide) ?_
      refine r_aload_n rfl rfl ?_
      refine r_aload_n rfl rfl ?_
      refine r_callV (As := [_]) rfl (by decide) rfl k03 rfl rfl (Nat.le_of_ble_eq_true rfl) ⟨Nat.le_of_ble_eq_true rfl, Nat.le_of_ble_eq_true rfl⟩ (c_note (e := (3, x, 0, 0)) g1 hf3 (by omega) (Or.inr (Or.inr (Or.inl ⟨rfl, hxt, rfl⟩))) hc3 (hco1.kp hf3 (by decide) (by decide))) (kc' := 0) (ks' := 0) (by omega) (by omega) (by decide) ?_
      rintro r ρ ⟨rfl, hrc, hcf⟩
      refine r_iload rfl rfl ?_
      refine r_iret rfl rfl ?_
      rw [← hQ, pre_cut hW]
      unfold a_cut
      rw [hth]
      show _ = some (Value.int (if (s_l S).length = 200 then ((-3 : Int32), S) else _).1) ∧ ∃ ow' ad', RC ow' ρ c ad' (B + 200) (if (s_l S).length = 200 then ((-3 : Int32), S) else _).2 ∧ _
      rw [if_neg hfull]
      exact ⟨rfl, ow, ad, hrc.more (by omega), (hf1.wide (fun f q => by cases q) (fun f q => by cases q) (fun f q => by cases q)).tr hcf.1, fun _ _ => rfl⟩
end NK
