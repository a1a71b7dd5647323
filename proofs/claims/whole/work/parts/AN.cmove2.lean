/-! ===== the class: move ===== -/
section NK
variable {l : Launch} {D : DD} {σ : Hp} {c B : Nat} {ow ad : Nat → Nat} {S : Sp}
theorem rmv_len2 {n : Nat} {kd : Nat → Nat} {T : Tr} (hW : Wf n kd T) {x p : Nat} : (x ∈ t_k T p → 0 < (t_k T p).length ∧ (t_k T p).length - 1 = (rmv (t_k T p) x).length) ∧ (x ∉ t_k T p → (t_k T p).length = (rmv (t_k T p) x).length) := by
  refine ⟨fun hm => ?_, fun hm => by rw [rmv_no hm]⟩
  obtain ⟨k, hk, e2⟩ := List.getElem_of_mem hm
  have := rmv_len (hW.2.2.1 p) (show (t_k T p)[k]? = some x by rw [List.getElem?_eq_getElem hk, e2])
  omega
set_option maxHeartbeats 2000000 in
theorem mv_go {x p j k0 p0 : Nat} {v w : Int32} {ot : Option Value} {Q : Option Value → Hp → Prop} (g : RC ow σ c ad B S) (hxt : t_h (s_T S) x = true) (lp : liv (s_T S) p) (hbel : bel (s_T S) x p = false) (hj : j ≤ (rmv (t_k (s_T S) p) x).length) (hfull : ¬ (s_l S).length = 200) (lp0 : liv (s_T S) p0) (hk0 : (t_k (s_T S) p0)[k0]? = some x)
    (hQ : ∀ ρ, RC ow ρ c ad B (sG S (s_n S, s_k S, (2, x, p, j) :: s_l S)) → CFm ow ow σ ρ → Q (some (.int (nI (cntB (fun y => t_h (s_T S) y && decide (n_n S y ≠ n_n (sG S (s_n S, s_k S, (2, x, p, j) :: s_l S)) y)) (s_n S))))) ρ) :
    Gm l D m_NK_move 1 5 Q 93 [some (va_rf (some c)), some (.int v), some (.int w), some (.int (nI j)), some (va_rf (some (ad x))), some (va_rf (some (ad p))), ot, none] [] σ 1 5 := by
  obtain ⟨hS, gF, gT, gC, -⟩ := id g
  have hW := hS.wf
  have hn := hS.1
  have hl := hS.2.2.2.1
  have z0 := gF.1
  have hxn := hW.h_lt hxt
  have tnp := hW.tn lp
  have tnp0 := hW.tn lp0
  have hx0 := List.mem_of_getElem? hk0
  have kc0 : h_K σ c = 11 := gF.2.1 (0, 11) (by decide)
  have k35 : h_K σ (c + 35) = 6 := gF.2.1 (35, 6) (by decide)
  have p642 : h_P σ 642 c = some (c + 35) := gF.2.2.1 (642, 0, 35) (by decide)
  refine r_aload_n rfl rfl ?_
  (first | refine r_getPv rfl (by first | assumption | rfl) rfl (by assumption) ?_ | refine r_getP rfl (by first | assumption | rfl) rfl ?_)
  refine r_callV (As := []) rfl (by decide) rfl k35 rfl rfl (Nat.le_of_ble_eq_true rfl) ⟨Nat.le_of_ble_eq_true rfl, Nat.le_of_ble_eq_true rfl⟩ (c_renew g) (kc' := 1) (ks' := 5) (by omega) (by omega) (by decide) ?_
  rintro r σ1 ⟨rfl, g1, f1, -⟩
  have F1 := g1.1.2.1
  have k01 : h_K σ1 c = 11 := F1.2.1 (0, 11) (by decide)
  have k351 : h_K σ1 (c + 35) = 6 := F1.2.1 (35, 6) (by decide)
  have p6421 : h_P σ1 642 c = some (c + 35) := F1.2.2.1 (642, 0, 35) (by decide)
  refine r_aload_n rfl rfl ?_
  (first | refine r_getPv rfl (by first | assumption | rfl) rfl (by assumption) ?_ | refine r_getP rfl (by first | assumption | rfl) rfl ?_)
  refine r_callV (As := []) rfl (by decide) rfl k351 rfl rfl (Nat.le_of_ble_eq_true rfl) ⟨Nat.le_of_ble_eq_true rfl, Nat.le_of_ble_eq_true rfl⟩ (c_remember g1) (kc' := 1) (ks' := 5) (by omega) (by omega) (by decide) ?_
  rintro r σ2 ⟨rfl, g2, f2, b2⟩
  refine r_new (kc := 0) (ks := 0) rfl (fun _ => ?_) |> G.less (by omega) (by show 0 + 5 ≤ _; omega)
  generalize hσ3 : n_O σ2 (0 + 1) = σ3
  have f3 : Fm ow [] [] [] σ2 σ3 := by rw [← hσ3]; exact Fm.nwO _ _
  have kA : h_K σ3 (h_z σ2) = 1 := by rw [← hσ3]; exact u1_s _ _ _
  have zA : h_z σ3 = h_z σ2 + 1 := by rw [← hσ3]; rfl
  have g3 := g2.1.still f3
  have hc3 := g3.2.2.2.1
  obtain ⟨e1, e2, e3, -⟩ := hc3.fst hW.w0 hk0
  have kx3 := hc3.1 x (Or.inl hxn)
  have ux3 := hc3.2.2.2.1 p0 x tnp0 hx0
  generalize hA : h_z σ2 = A at kA zA ⊢
  show Gm l D m_NK_move 1 5 Q 110 [some (va_rf (some c)), some (.int v), some (.int w), some (.int (nI j)), some (va_rf (some (ad x))), some (va_rf (some (ad p))), ot, none] [va_rf (some A)] σ3 0 0
  refine r_dup rfl (by first | rfl | exact rf_cat _) ?_
  refine r_iconst (v := nI 1) rfl (by decide) ?_
  refine r_aload rfl rfl ?_
  refine r_aload rfl rfl ?_
  (first | refine r_getPv rfl (by first | assumption | rfl) rfl (by assumption) ?_ | refine r_getP rfl (by first | assumption | rfl) rfl ?_)
  refine r_aload rfl rfl ?_
  refine r_callV8 (As := []) rfl (by decide) rfl kx3 rfl rfl (Nat.le_of_ble_eq_true rfl) ⟨Nat.le_of_ble_eq_true rfl, Nat.le_of_ble_eq_true rfl⟩ (c_index kx3 ux3 (hc3.1 p0 tnp0) (hc3.2.2.1 p0 tnp0) (by omega) e1 e2) (kc' := 0) (ks' := 0) (by omega) (by omega) (by decide) ?_
  rintro r σ3 ⟨rfl, rfl⟩
  refine r_null rfl ?_
  refine r_callI (As := [_, _, _, _, _]) rfl (by decide) rfl rfl rfl (Nat.le_of_ble_eq_true rfl) ⟨Nat.le_of_ble_eq_true rfl, Nat.le_of_ble_eq_true rfl⟩ (c_Change_init kA) (kc' := 0) (ks' := 0) (by omega) (by omega) ?_
  rintro r σ4 ⟨rfl, hσ4⟩
  obtain ⟨q1, q2, q3, q4, q5, q6, q7⟩ := chS_f σ3 A (nI 1) (some (ad x)) (some (ad p0)) (nI k0) none
  have f4 : Fm ow [] [] [] σ2 σ4 := by rw [hσ4]; exact f3.ch (by omega) _ _ _ _ _
  rw [← hσ4] at q1 q2 q3 q4 q5 q6 q7
  have g4 := g2.1.still f4
  have hc4 := g4.2.2.2.1
  have kx4 := hc4.1 x (Or.inl hxn)
  have hco4 : CO σ4 ad A (2, x, p, j) (s_T S) := ⟨by omega, by rw [q1]; exact kA, Or.inr (Or.inl ⟨rfl, q3, q4, p0, k0, lp0, hk0, q5, q6⟩)⟩
  refine r_astore rfl (by decide) ?_
  refine r_aload rfl rfl ?_
  refine r_callV (As := []) rfl (by decide) rfl kx4 rfl rfl (Nat.le_of_ble_eq_true rfl) ⟨Nat.le_of_ble_eq_true rfl, Nat.le_of_ble_eq_true rfl⟩ (c_leaveC hc4 hW.w0 tnp0 hk0) (kc' := 0) (ks' := 0) (by omega) (by omega) (by decide) ?_
  rintro r σ5 ⟨rfl, hc5, hσ5⟩
  have f5 : Fm ow [519] chP [] σ4 σ5 := by rw [hσ5]; exact Fm.lv _ _ _ _
  have kx5 := hc5.1 x (Or.inl hxn)
  have hxp : x ≠ p := fun e => by
    unfold bel at hbel
    rw [← e, decide_eq_true upl_self] at hbel
    cases hbel
  refine r_aload rfl rfl ?_
  refine r_aload rfl rfl ?_
  refine r_iload_n rfl rfl ?_
  refine r_callV (As := [_, _]) rfl (by decide) rfl kx5 rfl rfl (Nat.le_of_ble_eq_true rfl) ⟨Nat.le_of_ble_eq_true rfl, Nat.le_of_ble_eq_true rfl⟩ (c_hangC (j := j) hc5 hW.w0.lv hxn tnp hxp (fun q hq => (mem_rmv.mp (show x ∈ rmv (t_k (s_T S) q) x from hq)).2 rfl) hj) (kc' := 0) (ks' := 0) (by omega) (by omega) (by decide) ?_
  rintro r σ6 ⟨rfl, hc6, hσ6⟩
  have f6 : Fm ow [519] chP [] σ4 σ6 := f5.tr (by rw [hσ6]; exact Fm.hg _ _ _ _)
  have k06 : h_K σ6 c = 11 := by rw [(f6.2 c (by have := g4.2.1.1; omega)).1]; exact g4.2.1.2.1 (0, 11) (by decide)
  have hva : Va (s_n S) (s_k S) (2, x, p, j) (s_T S) := Or.inr (Or.inl ⟨rfl, hxt, lp, hbel, hj⟩)
  refine r_aload_n rfl rfl ?_
  refine r_aload rfl rfl ?_
  refine r_callV (As := [_]) rfl (by decide) rfl k06 rfl rfl (Nat.le_of_ble_eq_true rfl) ⟨Nat.le_of_ble_eq_true rfl, Nat.le_of_ble_eq_true rfl⟩ (c_noteF (e := (2, x, p, j)) g4 (f6.wide (by decide) (by decide) (by decide)) (by omega) hva hc6 (hco4.kp f6 (by decide) (by decide))) (kc' := 0) (ks' := 0) (by omega) (by omega) (by decide) ?_
  rintro r σ7 ⟨rfl, ⟨g7, -⟩, f7⟩
  generalize hS' : sG S (s_n S, s_k S, (2, x, p, j) :: s_l S) = S' at *
  have en : s_n S' = s_n S := by rw [← hS']; rfl
  have eT : s_T S' = apM x p j (s_T S) := by rw [← hS']; rfl
  have eh : t_h (s_T S') = t_h (s_T S) := by rw [eT]; rfl
  have F7 := g7.2.1
  have k07 : h_K σ7 c = 11 := F7.2.1 (0, 11) (by decide)
  have k357 : h_K σ7 (c + 35) = 6 := F7.2.1 (35, 6) (by decide)
  have p6427 : h_P σ7 642 c = some (c + 35) := F7.2.2.1 (642, 0, 35) (by decide)
  refine r_aload_n rfl rfl ?_
  (first | refine r_getPv rfl (by first | assumption | rfl) rfl (by assumption) ?_ | refine r_getP rfl (by first | assumption | rfl) rfl ?_)
  refine r_callV (As := []) rfl (by decide) rfl k357 rfl rfl (Nat.le_of_ble_eq_true rfl) ⟨Nat.le_of_ble_eq_true rfl, Nat.le_of_ble_eq_true rfl⟩ (c_renew g7) (kc' := 0) (ks' := 0) (by omega) (by omega) (by decide) ?_
  rintro r σ8 ⟨rfl, g8, f8, b8'⟩
  have F8 := g8.1.2.1
  have k08 : h_K σ8 c = 11 := F8.2.1 (0, 11) (by decide)
  have k358 : h_K σ8 (c + 35) = 6 := F8.2.1 (35, 6) (by decide)
  have p6428 : h_P σ8 642 c = some (c + 35) := F8.2.2.1 (642, 0, 35) (by decide)
  have hW' := g8.1.1.wf
  have hb8 : ∀ (q z : Nat), (ordT (s_T S'))[q]? = some z → Ln σ8 (ad z + 6) 40 (n_n S z) := by
    intro q z hz
    have hzt := (ord_mem hW').mp (List.mem_of_getElem? hz)
    rw [eh] at hzt
    have hzn := hW.h_lt hzt
    obtain ⟨-, -, a3⟩ := idx_at ((ord_mem hW).mpr hzt)
    have h2 := b2 _ z a3
    obtain ⟨-, -, t3, -, -, -, -, -, -, -, -, -, -, t14, -⟩ := g2.1.2.2.1.2.2.2 z hzn
    have h4 : Ln σ4 (ad z + 6) 40 (n_n S z) := h2.kp f4 (by omega) (fun q => by cases q) (fun q => by cases q) (fun q => by cases q) (fun q => by cases q)
    have h7 : Ln σ7 (ad z + 6) 40 (n_n S z) := h4.kp f7 (by have := f4.1; omega) (by rw [t14 6 (by omega) (by omega)]; decide) (by rw [show ad z + 6 + 1 = ad z + 7 by omega, t14 7 (by omega) (by omega)]; decide) (by decide) (by decide)
    exact b8' z (by rw [en]; exact hzn) _ h7
  refine r_aload_n rfl rfl ?_
  (first | refine r_getPv rfl (by first | assumption | rfl) rfl (by assumption) ?_ | refine r_getP rfl (by first | assumption | rfl) rfl ?_)
  refine r_callV (As := []) rfl (by decide) rfl k358 rfl rfl (Nat.le_of_ble_eq_true rfl) ⟨Nat.le_of_ble_eq_true rfl, Nat.le_of_ble_eq_true rfl⟩ (c_countOther (F := n_n S) g8 hb8) (kc' := 0) (ks' := 0) (by omega) (by omega) (by decide) ?_
  rintro r σ8 ⟨rfl, rfl⟩
  refine r_iret rfl rfl ?_
  have ec : cntB (fun y => t_h (s_T S) y && decide (n_n S y ≠ n_n S' y)) (s_n S) = ((ordT (s_T S')).filter (fun z => !decide (n_n S z = n_n S' z))).length := by
    refine cntB_len (List.Nodup.sublist List.filter_sublist (ord_nd hW')) (fun z => ?_)
    rw [List.mem_filter, ord_mem hW', eh]
    constructor
    · rintro ⟨a1, a2⟩
      refine ⟨hW.h_lt a1, ?_⟩
      rw [a1, Bool.true_and]
      simpa using a2
    · rintro ⟨a1, a2⟩
      rw [Bool.and_eq_true] at a2
      exact ⟨a2.1, by simpa using a2.2⟩
  rw [← ec]
  refine hQ σ8 g8.1 ⟨?_, fun _ _ => rfl⟩
  have w1 : Fm ow cAI cAP cAR σ σ1 := f1.wide (by decide) (by decide) (by decide)
  have w2 : Fm ow cAI cAP cAR σ1 σ2 := f2.wide (fun f q => by cases q) (fun f q => by cases q) (by decide)
  have w4 : Fm ow cAI cAP cAR σ2 σ4 := f4.wide (fun f q => by cases q) (fun f q => by cases q) (fun f q => by cases q)
  have w7 : Fm ow cAI cAP cAR σ4 σ7 := f7.wide (by decide) (by decide) (by decide)
  have w8 : Fm ow cAI cAP cAR σ7 σ8 := f8.wide (by decide) (by decide) (by decide)
  exact (((w1.tr w2).tr w4).tr w7).tr w8
set_option maxHeartbeats 1000000 in
theorem c_NK_move {v w i : Int32} (g : RC ow σ c ad B S) : Cn l D m_NK_move 1 5 [va_rf (some c), .int v, .int w, .int i] σ (fun r τ => r = some (.int (a_move S v w i).1) ∧ ∃ ow' ad', RC ow' τ c ad' (B + 200) (a_move S v w i).2 ∧ CFm ow ow' σ τ) := by
  have k0 : h_K σ c = 11 := g.2.1.2.1 (0, 11) (by decide)
  have k3 : h_K σ (c + 3) = 10 := g.2.1.2.1 (3, 10) (by decide)
  have p641 : h_P σ 641 c = some (c + 3) := g.2.1.2.2.1 (641, 0, 3) (by decide)
  have z0 := g.2.1.1
  have hS := g.1
  have hW := hS.wf
  have hn := hS.1
  have hct := g.2.2.2.1
  generalize hQ : (fun (r : Option Value) (τ : Hp) => r = some (.int (a_move S v w i).1) ∧ ∃ ow' ad', RC ow' τ c ad' (B + 200) (a_move S v w i).2 ∧ CFm ow ow' σ τ) = Q
  refine Cn.of (by decide) (by repeat (first | exact ca_0 | refine ca_i ?_ | refine ca_r ?_)) (Nat.le_of_ble_eq_true rfl) ?_
  have no : ∀ (u t s : Option Value) (pc : Nat), (pc = 40 ∨ pc = 80) → a_move S v w i = (-2, S) → Gm l D m_NK_move 1 5 Q pc [some (va_rf (some c)), some (.int v), some (.int w), some (.int i), u, t, s, none] [] σ 1 5 := by
    intro u t s pc hpc e
    have fin : Q (some (.int (-2))) σ := by
      rw [← hQ]
      show _ = some (Value.int (a_move S v w i).1) ∧ ∃ ow' ad', RC ow' σ c ad' (B + 200) (a_move S v w i).2 ∧ _
      rw [e]
      exact ⟨rfl, ow, ad, g.more (by omega), CFm.rf _ _⟩
    rcases hpc with rfl | rfl
    · refine r_bipush (v := -2) rfl (by decide) ?_
      exact r_iret rfl rfl fin
    · refine r_bipush (v := -2) rfl (by decide) ?_
      exact r_iret rfl rfl fin
  refine r_aload_n rfl rfl ?_
  (first | refine r_getPv rfl (by first | assumption | rfl) rfl (by assumption) ?_ | refine r_getP rfl (by first | assumption | rfl) rfl ?_)
  refine r_iload_n rfl rfl ?_
  refine r_callV (As := [_]) rfl (by decide) rfl k3 rfl rfl (Nat.le_of_ble_eq_true rfl) ⟨Nat.le_of_ble_eq_true rfl, Nat.le_of_ble_eq_true rfl⟩ (c_thereAs g.2.1 g.2.2.1 hct hS) (kc' := 1) (ks' := 5) (by omega) (by omega) (by decide) ?_
  rintro r σ ⟨rfl, rfl⟩
  refine r_astore rfl (by decide) ?_
  refine r_aload_n rfl rfl ?_
  (first | refine r_getPv rfl (by first | assumption | rfl) rfl (by assumption) ?_ | refine r_getP rfl (by first | assumption | rfl) rfl ?_)
  refine r_iload_n rfl rfl ?_
  refine r_callV (As := [_]) rfl (by decide) rfl k3 rfl rfl (Nat.le_of_ble_eq_true rfl) ⟨Nat.le_of_ble_eq_true rfl, Nat.le_of_ble_eq_true rfl⟩ (c_hostOf g.2.1 g.2.2.1 hct hS) (kc' := 1) (ks' := 5) (by omega) (by omega) (by decide) ?_
  rintro r σ ⟨rfl, rfl⟩
  refine r_astore rfl (by decide) ?_
  refine r_aload rfl rfl ?_
  cases hth : thI S v with
  | none => exact r_ifnull rfl (fun _ => no _ _ _ _ (Or.inl rfl) (by unfold a_move; rw [hth])) (fun _ hq => by cases hq)
  | some x =>
    obtain ⟨hxn, hxt, rfl⟩ := thI_some hS hth
    refine r_ifnull rfl (fun hq => by cases hq) (fun _ _ => ?_)
    refine r_aload rfl rfl ?_
    cases hho : hoI S w with
    | none => exact r_ifnull rfl (fun _ => no _ _ _ _ (Or.inl rfl) (by unfold a_move; rw [hth, hho])) (fun _ hq => by cases hq)
    | some p =>
      have lp := hoI_liv hS hho
      have tnp := hW.tn lp
      have kp := hct.1 p tnp
      have kx := hct.1 x (Or.inl hxn)
      have hlen := hW.len p
      refine r_ifnull rfl (fun hq => by cases hq) (fun _ _ => ?_)
      refine r_aload rfl rfl ?_
      refine r_aload rfl rfl ?_
      refine r_callV (As := [_]) rfl (by decide) rfl kp rfl rfl (Nat.le_of_ble_eq_true rfl) ⟨Nat.le_of_ble_eq_true rfl, Nat.le_of_ble_eq_true rfl⟩ (c_within hct.cs hW lp (Or.inl hxn)) (kc' := 1) (ks' := 5) (by omega) (by omega) (by decide) ?_
      rintro r σ ⟨rfl, rfl⟩
      have ea : a_move S (nI x) w i = if bel (s_T S) x p = true then (-2, S) else if inB i 0 (nI (rmv (t_k (s_T S) p) x).length) = true then (if (s_l S).length = 200 then (-3, S) else (nI (cntB (fun y => t_h (s_T S) y && decide (n_n S y ≠ n_n (sG S (s_n S, s_k S, (2, x, p, i.toNatClampNeg) :: s_l S)) y)) (s_n S)), sG S (s_n S, s_k S, (2, x, p, i.toNatClampNeg) :: s_l S))) else (-2, S) := by
        unfold a_move
        rw [hth, hho]
      by_cases hb : bel (s_T S) x p = true
      · rw [hb]
        rw [if_pos hb] at ea
        refine r_if_eq rfl (fun q => absurd q (by decide)) (fun _ => no _ _ _ _ (Or.inl rfl) ea)
      · have hb2 : bel (s_T S) x p = false := by
          cases e : bel (s_T S) x p with
          | true => exact absurd e hb
          | false => rfl
        rw [hb2]
        rw [if_neg hb] at ea
        refine r_if_eq rfl (fun _ => ?_) (fun q => absurd rfl q)
        obtain ⟨p0, lp0, hp0, -⟩ := hW.h_par hxt
        obtain ⟨k0', hk0⟩ := List.getElem?_of_mem hp0
        have ux := hct.2.2.2.1 p0 x (hW.tn lp0) hp0
        obtain ⟨r1, r2⟩ := rmv_len2 hW (x := x) (p := p)
        have hrl : (rmv (t_k (s_T S) p) x).length ≤ (t_k (s_T S) p).length := List.length_filter_le _ _
        have cont : Gm l D m_NK_move 1 5 Q 68 [some (va_rf (some c)), some (.int (nI x)), some (.int w), some (.int i), some (va_rf (some (ad x))), some (va_rf (some (ad p))), none, none] [.int (nI (rmv (t_k (s_T S) p) x).length)] σ 1 5 := by
          refine r_istore rfl (by decide) ?_
          refine r_iload_n rfl rfl ?_
          refine r_if_lt rfl (fun hlt => no _ _ _ _ (Or.inr rfl) ?_) (fun hge => ?_)
          · rw [ea, if_neg]
            unfold inB
            rw [decide_eq_false (p := (0 : Int32) ≤ i) (fun q => absurd hlt (Int32.not_lt.mpr q)), Bool.false_and]
            decide
          obtain ⟨j, hj, rfl⟩ := nI_of hge
          refine r_iload_n rfl rfl ?_
          refine r_iload rfl rfl ?_
          refine r_leN rfl (by omega) (by omega) (fun hle => ?_) (fun hgt => no _ _ _ _ (Or.inr rfl) ?_)
          case refine_2 =>
            rw [ea, if_neg]
            unfold inB
            rw [decide_eq_false (p := nI j ≤ nI (rmv (t_k (s_T S) p) x).length) (Int32.not_le.mpr (nI_lt (by omega) hj)), Bool.and_false]
            decide
          have ein : inB (nI j) 0 (nI (rmv (t_k (s_T S) p) x).length) = true := by
            unfold inB
            rw [decide_eq_true (nI_pos' hj), decide_eq_true (nI_le hle (by omega))]
            rfl
          rw [if_pos ein, nI_clamp (by omega)] at ea
          refine r_aload_n rfl rfl ?_
          refine r_callV (As := []) rfl (by decide) rfl k0 rfl rfl (Nat.le_of_ble_eq_true rfl) ⟨Nat.le_of_ble_eq_true rfl, Nat.le_of_ble_eq_true rfl⟩ (c_isLogFull g) (kc' := 1) (ks' := 5) (by omega) (by omega) (by decide) ?_
          rintro r σ ⟨rfl, rfl⟩
          by_cases hfull : (s_l S).length = 200
          · rw [decide_eq_true hfull]
            refine r_if_eq rfl (fun q => absurd q (by decide)) (fun _ => ?_)
            refine r_bipush (v := -3) rfl (by decide) ?_
            refine r_iret rfl rfl ?_
            rw [← hQ]
            show _ = some (Value.int (a_move S (nI x) w (nI j)).1) ∧ ∃ ow' ad', RC ow' σ c ad' (B + 200) (a_move S (nI x) w (nI j)).2 ∧ _
            rw [ea, if_pos hfull]
            exact ⟨rfl, ow, ad, g.more (by omega), CFm.rf _ _⟩
          · rw [decide_eq_false hfull]
            refine r_if_eq rfl (fun _ => ?_) (fun q => absurd rfl q)
            refine mv_go g hxt lp hb2 hle hfull lp0 hk0 (fun ρ h1 h2 => ?_)
            rw [← hQ]
            show _ = some (Value.int (a_move S (nI x) w (nI j)).1) ∧ ∃ ow' ad', RC ow' ρ c ad' (B + 200) (a_move S (nI x) w (nI j)).2 ∧ _
            rw [ea, if_neg hfull]
            exact ⟨rfl, ow, ad, h1.more (by omega), h2⟩
        refine r_aload rfl rfl ?_
        (first | refine r_getPv rfl (by first | assumption | rfl) rfl (by assumption) ?_ | refine r_getP rfl (by first | assumption | rfl) rfl ?_)
        refine r_aload rfl rfl ?_
        refine r_acmp_ne rfl (fun q => ?_) (fun q => ?_)
        · have hno : x ∉ t_k (s_T S) p := fun hm => q (by rw [hW.2.2.2.1 p0 p x hp0 hm]; rfl)
          refine r_aload rfl rfl ?_
          refine r_callV (As := []) rfl (by decide) rfl kp rfl rfl (Nat.le_of_ble_eq_true rfl) ⟨Nat.le_of_ble_eq_true rfl, Nat.le_of_ble_eq_true rfl⟩ (c_kidCount kp (hct.2.2.1 p tnp) (by rw [List.length_map]; omega)) (kc' := 1) (ks' := 5) (by omega) (by omega) (by decide) ?_
          rintro r σ ⟨rfl, rfl⟩
          rw [List.length_map, r2 hno]
          exact cont
        · have e0 : p0 = p := hct.2.1 p0 p (hW.tn lp0) tnp (Option.some.inj q)
          have hm : x ∈ t_k (s_T S) p := by rw [← e0]; exact hp0
          obtain ⟨r3, r4⟩ := r1 hm
          refine r_aload rfl rfl ?_
          refine r_callV (As := []) rfl (by decide) rfl kp rfl rfl (Nat.le_of_ble_eq_true rfl) ⟨Nat.le_of_ble_eq_true rfl, Nat.le_of_ble_eq_true rfl⟩ (c_kidCount kp (hct.2.2.1 p tnp) (by rw [List.length_map]; omega)) (kc' := 1) (ks' := 5) (by omega) (by omega) (by decide) ?_
          rintro r σ ⟨rfl, rfl⟩
          rw [List.length_map]
          refine r_iconst (v := nI 1) rfl (by decide) ?_
          refine r_isubN rfl (by omega) ?_
          rw [r4]
          refine r_goto rfl ?_
          exact cont
end NK
