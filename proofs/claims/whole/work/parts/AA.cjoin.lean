/-! ===== the class: join ===== -/
section NK
variable {l : Launch} {D : DD} {σ : Hp} {c B : Nat} {ow ad : Nat → Nat} {S : Sp}
/-- y, which hangs nowhere, goes into x -/
theorem CT.goes {n x y : Nat} {T : Tr} (h : CT σ n T ad) (hW : W0 n T) (hy : y < n) : CT (w_P (w_I σ 519 (ad y) (nI 0)) 518 (ad y) (some (ad x))) n (t_k T, u_1 (t_h T) y false, u_1 (t_i T) y (some x)) ad := by
  have hcs : CS (w_P (w_I σ 519 (ad y) (nI 0)) 518 (ad y) (some (ad x))) n T ad := h.cs.kp (fun _ _ => rfl) (fun f z _ hf => hP_n (w_I σ 519 (ad y) (nI 0)) (some (ad x)) (by omega)) (fun z d _ hd => hW.2.1 z d hd)
  refine ⟨hcs.1, hcs.2.1, hcs.2.2.1, hcs.2.2.2.1, hcs.2.2.2.2, fun z hz => ?_, fun z hz => ?_⟩
  · show u_2 (h_P σ) 518 (ad y) (some (ad x)) 518 (ad z) = (u_1 (t_i T) y (some x) z).map ad
    by_cases e : z = y
    · rw [e, u1_s]
      unfold u_2
      rw [if_pos ⟨rfl, rfl⟩]
      rfl
    · rw [u1_n _ _ e]
      unfold u_2
      rw [if_neg (fun (w : 518 = 518 ∧ ad z = ad y) => e (h.2.1 z y (Or.inl hz) (Or.inl hy) w.2))]
      exact h.2.2.2.2.2.1 z hz
  · show u_2 (h_I σ) 519 (ad y) (nI 0) 519 (ad z) = nI (u_1 (t_h T) y false z).toNat
    by_cases e : z = y
    · rw [e, u1_s]
      unfold u_2
      rw [if_pos ⟨rfl, rfl⟩]
      rfl
    · rw [u1_n _ _ e]
      unfold u_2
      rw [if_neg (fun (w : 519 = 519 ∧ ad z = ad y) => e (h.2.1 z y (Or.inl hz) (Or.inl hy) w.2))]
      exact h.2.2.2.2.2.2 z hz
theorem tk_J {n : Nat} {kd : Nat → Nat} {T T1 : Tr} {x y : Nat} (hW : Wf n kd T) (hv : VJ kd T x y) (e : t_k T1 = t_k (lvT y T)) : t_k (apJ x y T) = t_k (tkT x y T1) := by
  obtain ⟨hxy, p0, i0, l0, k1, k2, hx0, hy0, hpx, hpy⟩ := VJ.ne hW hv
  funext q
  show (if q = x then t_k T x ++ t_k T y else if q = y then [] else rmv (t_k T q) y) = (if q = x then t_k T1 x ++ t_k T1 y else if q = y then [] else t_k T1 q)
  rw [e]
  show _ = (if q = x then rmv (t_k T x) y ++ rmv (t_k T y) y else if q = y then [] else rmv (t_k T q) y)
  rw [rmv_no (fun hm => hpx (hW.2.2.2.1 p0 x y hy0 hm)), rmv_no (fun hm => hpy (hW.2.2.2.1 p0 y y hy0 hm))]
set_option maxHeartbeats 1000000 in
theorem c_NK_join {v w : Int32} (g : RC ow σ c ad B S) : Cn l D m_NK_join 1 5 [va_rf (some c), .int v, .int w] σ (fun r τ => r = some (.int (a_join S v w).1) ∧ ∃ ow' ad', RC ow' τ c ad' (B + 200) (a_join S v w).2 ∧ CFm ow ow' σ τ) := by
  have k0 : h_K σ c = 11 := g.2.1.2.1 (0, 11) (by decide)
  have k3 : h_K σ (c + 3) = 10 := g.2.1.2.1 (3, 10) (by decide)
  have p641 : h_P σ 641 c = some (c + 3) := g.2.1.2.2.1 (641, 0, 3) (by decide)
  have z0 := g.2.1.1
  have hS := g.1
  have hW := hS.wf
  have hl := hS.2.2.2.1
  generalize hQ : (fun (r : Option Value) (τ : Hp) => r = some (.int (a_join S v w).1) ∧ ∃ ow' ad', RC ow' τ c ad' (B + 200) (a_join S v w).2 ∧ CFm ow ow' σ τ) = Q
  refine Cn.of (by decide) (by repeat (first | exact ca_0 | refine ca_i ?_ | refine ca_r ?_)) (Nat.le_of_ble_eq_true rfl) ?_
  have no : ∀ z3 z4 z5, a_join S v w = (-2, S) → Gm l D m_NK_join 1 5 Q 49 [some (va_rf (some c)), some (.int v), some (.int w), z3, z4, z5] [] σ 1 5 := by
    intro z3 z4 z5 ha
    refine r_bipush (v := -2) rfl (by decide) ?_
    refine r_iret rfl rfl ?_
    rw [← hQ]
    show _ = some (Value.int (a_join S v w).1) ∧ ∃ ow' ad', RC ow' σ c ad' (B + 200) (a_join S v w).2 ∧ _
    rw [ha]
    exact ⟨rfl, ow, ad, g.more (by omega), CFm.rf _ _⟩
  refine r_aload_n rfl rfl ?_
  (first | refine r_getPv rfl (by first | assumption | rfl) rfl (by assumption) ?_ | refine r_getP rfl (by first | assumption | rfl) rfl ?_)
  refine r_iload_n rfl rfl ?_
  refine r_callV (As := [_]) rfl (by decide) rfl k3 rfl rfl (Nat.le_of_ble_eq_true rfl) ⟨Nat.le_of_ble_eq_true rfl, Nat.le_of_ble_eq_true rfl⟩ (c_thereAs (v := v) g.2.1 g.2.2.1 g.2.2.2.1 hS) (kc' := 1) (ks' := 5) (by omega) (by omega) (by decide) ?_
  rintro r σ ⟨rfl, rfl⟩
  refine r_astore_n rfl (by decide) ?_
  refine r_aload_n rfl rfl ?_
  (first | refine r_getPv rfl (by first | assumption | rfl) rfl (by assumption) ?_ | refine r_getP rfl (by first | assumption | rfl) rfl ?_)
  refine r_iload_n rfl rfl ?_
  refine r_callV (As := [_]) rfl (by decide) rfl k3 rfl rfl (Nat.le_of_ble_eq_true rfl) ⟨Nat.le_of_ble_eq_true rfl, Nat.le_of_ble_eq_true rfl⟩ (c_thereAs (v := w) g.2.1 g.2.2.1 g.2.2.2.1 hS) (kc' := 1) (ks' := 5) (by omega) (by omega) (by decide) ?_
  rintro r σ ⟨rfl, rfl⟩
  refine r_astore rfl (by decide) ?_
  refine r_aload_n rfl rfl ?_
  cases hx : thI S v with
  | none => exact r_ifnull rfl (fun _ => no _ _ _ (by unfold a_join; rw [hx])) (fun _ hq => by cases hq)
  | some x =>
    refine r_ifnull rfl (fun hq => by cases hq) (fun _ _ => ?_)
    refine r_aload rfl rfl ?_
    cases hy : thI S w with
    | none => exact r_ifnull rfl (fun _ => no _ _ _ (by unfold a_join; rw [hx, hy])) (fun _ hq => by cases hq)
    | some y =>
      refine r_ifnull rfl (fun hq => by cases hq) (fun _ _ => ?_)
      obtain ⟨hxn, hxt, ev⟩ := thI_some hS hx
      obtain ⟨hyn, hyt, ew⟩ := thI_some hS hy
      have ea : a_join S v w = (if jnB S x y = true then (if (s_l S).length = 200 then ((-3 : Int32), S) else (nI ((t_k (s_T S) x).length + (t_k (s_T S) y).length), sG S (s_n S, s_k S, (4, x, y, 0) :: s_l S))) else (-2, S)) := by
        unfold a_join
        rw [hx, hy]
      have hct := g.2.2.2.1
      have kx := hct.1 x (Or.inl hxn)
      have ky := hct.1 y (Or.inl hyn)
      obtain ⟨px, lpx, hpx, -⟩ := hW.h_par hxt
      have tnx : TN (s_n S) px := lpx.elim Or.inr (fun w => Or.inl (hW.h_lt w))
      have nx := hct.cs.next hW tnx hpx
      have dx : h_I σ 513 (ad x) = nI (s_k S x) := (g.2.2.1.2.2.2 x hxn).2.2.2.2.1
      have dy : h_I σ 513 (ad y) = nI (s_k S y) := (g.2.2.1.2.2.2 y hyn).2.2.2.2.1
      have b1 := hS.2.1 x hxn
      have b2 := hS.2.1 y hyn
      show Gm l D m_NK_join 1 5 Q 28 [some (va_rf (some c)), some (.int v), some (.int w), some (va_rf (some (ad x))), some (va_rf (some (ad y))), none] [] σ 1 5
      refine r_aload_n rfl rfl ?_
      (first | refine r_getPv rfl (by first | assumption | rfl) rfl (by assumption) ?_ | refine r_getP rfl (by first | assumption | rfl) rfl ?_)
      refine r_aload rfl rfl ?_
      refine r_acmp_ne rfl (fun q => no _ _ _ ?_) (fun q => ?_)
      · rw [ea, if_neg (fun j => ?_)]
        simp only [jnB, Bool.and_eq_true, decide_eq_true_eq] at j
        exact q (by rw [j.2]; rfl)
      have hsib : sib (s_T S) x = some y := by
        cases hs : sib (s_T S) x with
        | none => rw [hs] at q; cases q
        | some z =>
          rw [hs] at q
          obtain ⟨i, hi⟩ := List.getElem?_of_mem hpx
          have hz := hs
          rw [sib_pos hW hi] at hz
          rw [hct.2.1 z y (Or.inl (hW.k_lt (List.mem_of_getElem? hz))) (Or.inl hyn) (Option.some.inj q)]
      refine r_aload_n rfl rfl ?_
      (first | refine r_getIv rfl (by first | assumption | rfl) rfl (by assumption) ?_ | refine r_getI rfl (by first | assumption | rfl) rfl ?_)
      refine r_aload rfl rfl ?_
      (first | refine r_getIv rfl (by first | assumption | rfl) rfl (by assumption) ?_ | refine r_getI rfl (by first | assumption | rfl) rfl ?_)
      refine r_eqN rfl (by omega) (by omega) (fun hkd => ?_) (fun hkd => no _ _ _ ?_)
      rotate_left
      · rw [ea, if_neg (fun j => ?_)]
        simp only [jnB, Bool.and_eq_true, decide_eq_true_eq] at j
        exact hkd j.1
      have hj : jnB S x y = true := by
        unfold jnB
        rw [decide_eq_true hkd, decide_eq_true hsib]
        rfl
      rw [if_pos hj] at ea
      have hv : VJ (s_k S) (s_T S) x y := jn_VJ hW hxt hyt hkd hsib
      obtain ⟨hxy, p, i, lp, m1, m2, hxp, hyp, npx, npy⟩ := VJ.ne hW hv
      have tnp : TN (s_n S) p := lp.elim Or.inr (fun w => Or.inl (hW.h_lt w))
      refine r_aload_n rfl rfl ?_
      refine r_callV (As := []) rfl (by decide) rfl k0 rfl rfl (Nat.le_of_ble_eq_true rfl) ⟨Nat.le_of_ble_eq_true rfl, Nat.le_of_ble_eq_true rfl⟩ (c_isLogFull g) (kc' := 1) (ks' := 5) (by omega) (by omega) (by decide) ?_
      rintro r σ ⟨rfl, rfl⟩
      by_cases hfull : (s_l S).length = 200
      · rw [decide_eq_true hfull]
        refine r_if_eq rfl (fun q => absurd q (by decide)) (fun _ => ?_)
        refine r_bipush (v := -3) rfl (by decide) ?_
        refine r_iret rfl rfl ?_
        rw [← hQ]
        show _ = some (Value.int (a_join S v w).1) ∧ ∃ ow' ad', RC ow' σ c ad' (B + 200) (a_join S v w).2 ∧ _
        rw [ea, if_pos hfull]
        exact ⟨rfl, ow, ad, g.more (by omega), CFm.rf _ _⟩
      rw [decide_eq_false hfull]
      refine r_if_eq rfl (fun _ => ?_) (fun q => absurd rfl q)
      rw [if_neg hfull] at ea
      refine r_new (kc := 0) (ks := 0) rfl (fun _ => ?_) |> G.less (by omega) (by show 0 + 5 ≤ _; omega)
      generalize hσ0 : n_O σ (0 + 1) = σ0
      have hf0 : Fm ow [] [] [] σ σ0 := by rw [← hσ0]; exact Fm.nwO _ _
      have kA : h_K σ0 (h_z σ) = 1 := by rw [← hσ0]; exact u1_s _ _ _
      have zA : h_z σ0 = h_z σ + 1 := by rw [← hσ0]; rfl
      generalize hA : h_z σ = A at kA zA ⊢
      have g0 := g.still hf0
      have hc0 := g0.2.2.2.1
      obtain ⟨f1, f2, f3, -⟩ := hc0.fst hW.w0 m2
      have ky0 := hc0.1 y (Or.inl hyn)
      have uy0 := hc0.2.2.2.1 p y tnp hyp
      have fy0 := hc0.cs.first (Or.inl hyn)
      refine r_dup rfl (by first | rfl | exact rf_cat _) ?_
      refine r_iconst (v := nI 3) rfl (by decide) ?_
      refine r_aload rfl rfl ?_
      refine r_aload rfl rfl ?_
      (first | refine r_getPv rfl (by first | assumption | rfl) rfl (by assumption) ?_ | refine r_getP rfl (by first | assumption | rfl) rfl ?_)
      refine r_aload rfl rfl ?_
      refine r_callV8 (As := []) rfl (by decide) rfl ky0 rfl rfl (Nat.le_of_ble_eq_true rfl) ⟨Nat.le_of_ble_eq_true rfl, Nat.le_of_ble_eq_true rfl⟩ (c_index ky0 uy0 (hc0.1 p tnp) (hc0.2.2.1 p tnp) (by omega) f1 f2) (kc' := 0) (ks' := 0) (by omega) (by omega) (by decide) ?_
      rintro r σ0 ⟨rfl, rfl⟩
      refine r_aload rfl rfl ?_
      (first | refine r_getPv rfl (by first | assumption | rfl) rfl (by assumption) ?_ | refine r_getP rfl (by first | assumption | rfl) rfl ?_)
      refine r_callI (As := [_, _, _, _, _]) rfl (by decide) rfl rfl rfl (Nat.le_of_ble_eq_true rfl) ⟨Nat.le_of_ble_eq_true rfl, Nat.le_of_ble_eq_true rfl⟩ (c_Change_init kA) (kc' := 0) (ks' := 0) (by omega) (by omega) ?_
      rintro r σ1 ⟨rfl, hσ1⟩
      obtain ⟨q1, q2, q3, q4, q5, q6, q7⟩ := chS_f σ0 A (nI 3) (some (ad y)) (some (ad p)) (nI (i + 1)) ((t_k (s_T S) y).head?.map ad)
      have hf1 : Fm ow [] [] [] σ σ1 := by rw [hσ1]; exact hf0.ch (by omega) _ _ _ _ _
      rw [← hσ1] at q1 q2 q3 q4 q5 q6 q7
      have g1 := g.still hf1
      have hc1 := g1.2.2.2.1
      have ky1 := hc1.1 y (Or.inl hyn)
      have hco1 : CO σ1 ad A (4, x, y, 0) (s_T S) := ⟨by omega, by rw [q1]; exact kA, Or.inr (Or.inr (Or.inr ⟨rfl, q3, q4, q7, p, i + 1, lp, m2, q5, q6⟩))⟩
      refine r_astore rfl (by decide) ?_
      refine r_aload rfl rfl ?_
      refine r_callV (As := []) rfl (by decide) rfl ky1 rfl rfl (Nat.le_of_ble_eq_true rfl) ⟨Nat.le_of_ble_eq_true rfl, Nat.le_of_ble_eq_true rfl⟩ (c_leaveC hc1 hW.w0 tnp m2) (kc' := 0) (ks' := 0) (by omega) (by omega) (by decide) ?_
      rintro r σ2 ⟨rfl, hc2, hσ2⟩
      have hf2 : Fm ow [519] chP [] σ1 σ2 := by rw [hσ2]; exact Fm.lv _ _ _ _
      have ky2 := hc2.1 y (Or.inl hyn)
      refine r_aload rfl rfl ?_
      refine r_iconst (v := nI 0) rfl (by decide) ?_
      refine r_putI rfl (by first | assumption | rfl) rfl (by first | exact Or.inl rfl | exact Or.inr ⟨rfl, rfl⟩) (by first | rfl | decide | assumption) (by first | rfl | decide) ?_
      refine r_aload rfl rfl ?_
      refine r_aload_n rfl rfl ?_
      refine r_putP rfl (by first | assumption | rfl) rfl (by first | exact Or.inl rfl | exact Or.inr ⟨rfl, rfl⟩) ?_
      have hc3 := hc2.goes (x := x) hW.w0.lv hyn
      generalize hσ3 : w_P (w_I σ2 519 (ad y) (nI 0)) 518 (ad y) (some (ad x)) = σ3 at hc3
      have hf3 : Fm ow [519] chP [] σ1 σ3 := by rw [← hσ3]; exact hf2.tr ((Fm.I _ _ _ (by decide)).tr (Fm.P _ _ _ (by decide)))
      have kx3 := hc3.1 x (Or.inl hxn)
      have ky3 := hc3.1 y (Or.inl hyn)
      have hw3 : W0 (s_n S) (t_k (lvT y (s_T S)), u_1 (t_h (s_T S)) y false, u_1 (t_i (s_T S)) y (some x)) := hW.w0.lv.as rfl
      have hdj : ∀ d ∈ (t_k (lvT y (s_T S)) x).map ad, d ∉ (t_k (lvT y (s_T S)) y).map ad := by
        intro d h1 h2
        obtain ⟨d1, e1, rfl⟩ := List.mem_map.mp h1
        obtain ⟨d2, e2, e3⟩ := List.mem_map.mp h2
        have := hc3.2.1 d2 d1 (Or.inl (hw3.2.1 y d2 e2)) (Or.inl (hw3.2.1 x d1 e1)) e3
        subst this
        exact hxy (hw3.2.2.2 x y d2 e1 e2)
      have hlx : ((t_k (lvT y (s_T S)) x).map ad).length < 2 ^ 30 := by
        rw [List.length_map]
        have := nodup_len (hw3.2.2.1 x) (m := s_n S) (fun z hz => hw3.2.1 x z hz)
        have e9 := hS.1
        have : (t_k (lvT y (s_T S)) x).length ≤ s_n S := this
        omega
      have hax : ad y ≠ ad x := fun e => hxy (hc3.2.1 x y (Or.inl hxn) (Or.inl hyn) e.symm)
      refine r_aload_n rfl rfl ?_
      refine r_aload rfl rfl ?_
      refine r_callV (As := [_]) rfl (by decide) rfl kx3 rfl rfl (Nat.le_of_ble_eq_true rfl) ⟨Nat.le_of_ble_eq_true rfl, Nat.le_of_ble_eq_true rfl⟩ (c_takeKids kx3 ky3 hax (hc3.2.2.1 x (Or.inl hxn)) (hc3.2.2.1 y (Or.inl hyn)) hlx hdj) (kc' := 0) (ks' := 0) (by omega) (by omega) (by decide) ?_
      rintro r σ4 ⟨rfl, hσ4⟩
      have hc4 := hc3.take hw3 hxn hyn hxy
      rw [← hσ4] at hc4
      have hc5 : CT σ4 (s_n S) (apJ x y (s_T S)) ad := hc4.to (tk_J hW hv rfl) rfl rfl rfl (fun z hz => hc4.2.2.2.2.2.2 z hz)
      have hf4 : Fm ow [519] chP [] σ1 σ4 := hf3.tr (by rw [hσ4]; exact Fm.tk _ _ _ _)
      have k04 : h_K σ4 c = 11 := by rw [(hf4.2 c (by omega)).1]; exact g1.2.1.2.1 (0, 11) (by decide)
      refine r_aload_n rfl rfl ?_
      refine r_aload rfl rfl ?_
      refine r_callV (As := [_]) rfl (by decide) rfl k04 rfl rfl (Nat.le_of_ble_eq_true rfl) ⟨Nat.le_of_ble_eq_true rfl, Nat.le_of_ble_eq_true rfl⟩ (c_note (e := (4, x, y, 0)) g1 hf4 (by omega) (Or.inr (Or.inr (Or.inr ⟨rfl, hv⟩))) hc5 (hco1.kp hf4 (by decide) (by decide))) (kc' := 0) (ks' := 0) (by omega) (by omega) (by decide) ?_
      rintro r ρ ⟨rfl, hrc, hcf⟩
      have hcr := hrc.2.2.2.1
      have kxr := hcr.1 x (Or.inl hxn)
      have hkx : t_k (s_T (sG S (s_n S, s_k S, (4, x, y, 0) :: s_l S))) x = t_k (s_T S) x ++ t_k (s_T S) y := by
        show (if x = x then _ else _) = _
        rw [if_pos rfl]
        rfl
      have hch := hcr.2.2.1 x (Or.inl hxn)
      have hlr : ((t_k (s_T (sG S (s_n S, s_k S, (4, x, y, 0) :: s_l S))) x).map ad).length < 2 ^ 31 := by
        rw [List.length_map]
        have h1 := hrc.1.wf.len x
        have e9 := hS.1
        have h1 : _ ≤ s_n S := h1
        omega
      refine r_aload_n rfl rfl ?_
      refine r_callV (As := []) rfl (by decide) rfl kxr rfl rfl (Nat.le_of_ble_eq_true rfl) ⟨Nat.le_of_ble_eq_true rfl, Nat.le_of_ble_eq_true rfl⟩ (c_kidCount kxr hch hlr) (kc' := 0) (ks' := 0) (by omega) (by omega) (by decide) ?_
      rintro r ρ ⟨rfl, rfl⟩
      refine r_iret rfl rfl ?_
      rw [← hQ, List.length_map, hkx, List.length_append]
      show _ = some (Value.int (a_join S v w).1) ∧ ∃ ow' ad', RC ow' ρ c ad' (B + 200) (a_join S v w).2 ∧ _
      rw [ea]
      exact ⟨rfl, ow, ad, hrc.more (by omega), (hf1.wide (fun f q => by cases q) (fun f q => by cases q) (fun f q => by cases q)).tr hcf.1, fun _ _ => rfl⟩
end NK
