/-! ===== the class: read ===== -/
abbrev rdI : List Nat := [387, 388, 389, 390]
section RD
variable {l : Launch} {D : DD} {σ : Hp} {c B : Nat} {ow ad : Nat → Nat} {S : Sp}
theorem RCd.rd {τ : Hp} {ds : List Fi} (g : RCd ow σ c ad B S) (h : Fm ow rdI [] [8] σ τ) (hr : CR τ c (sD S ds)) : RCd ow τ c ad B (sD S ds) := by
  obtain ⟨⟨g1, g2, g3, g4, g5, ⟨xs, g6⟩, g7, g8, g9, g10, g11, g12, g13⟩, i320, hcn⟩ := g
  have z0 := g2.1
  have o1 : ow (c + 1) = 1 := g2.tag (q := (1, 1)) (by decide)
  have o2 : ow (c + 2) = 1 := g2.tag (q := (2, 1)) (by decide)
  have o43 : ow (c + 43) = 2 := g2.tag (q := (43, 2)) (by decide)
  have o44 : ow (c + 44) = 2 := g2.tag (q := (44, 2)) (by decide)
  have np : ∀ L : List Nat, ∀ f ∈ L, f ∉ ([] : List Nat) := fun L f _ q => by cases q
  have cn : CN τ c ad S := hcn.kp h g2 g1 g3 (fun x hx => g4.1 x (Or.inl hx)) (by decide) (np _) (by decide)
  have i3 : h_I τ 320 (c + 35) = nI 0 := by rw [(h.2 (c + 35) (by omega)).2.2.1 320 (by decide) (fun e => by cases e)]; exact i320
  exact ⟨⟨g1, g2.kp h (by decide) (by decide) (fun q _ w => by cases w) (by decide) (fun _ _ => rfl), g3.kp h g2 (by decide) (np _) (by decide) (g3.lk h (by decide) (fun q => by cases q) (by decide)) (fun _ _ => rfl), g4.kp h g2 g3 g1.wf.w0 (by decide) (np _), g5.kp h (by omega) (by rw [o1]; decide) (by rw [show c + 1 + 1 = c + 2 by omega, o2]; decide) (by decide) (by decide), ⟨xs, g6.kp h (by omega) (by rw [o43]; decide) (by rw [show c + 43 + 1 = c + 44 by omega, o44]; decide) (by decide) (by decide)⟩, g7.kp h g2 (by decide) (by decide) (by decide) rfl rfl, Or.inr ⟨i3, cn⟩, CL.kp (S := S) h g2 (by decide) (np _) (by decide) g9, CM.kp (S := S) (S' := sD S ds) h g2 (by decide) (np _) (by decide) (by decide) (fun _ _ => rfl) rfl (fun _ _ _ => rfl) g10, CE.kp (S := S) (S' := sD S ds) h g2 (by decide) (np _) (by decide) (by decide) (fun _ _ => rfl) rfl g11, hr, g13.kp h g2 g3 (by decide)⟩, i3, cn⟩
set_option maxHeartbeats 1000000 in
theorem c_findMeanings {i k st : Nat} (g0 : RCd ow σ c ad B S) (hi : t_h (s_T S) i = true) (hk : k < 6) (hst : st ≤ (s_t S).length) : Cn l D m_Reader_findMeanings 0 0 [va_rf (some (c + 41)), .int (nI st), .int (nI k), va_rf (some (ad i))] σ (fun r τ => r = none ∧ Fm ow [388, 389, 390] [] [] σ τ ∧ h_I τ 388 (c + 41) = nI (mxF (fLn S i k (s_t S) st) (ordT (s_T S))) ∧ h_I τ 389 (c + 41) = nI (wnF (fLn S i k (s_t S) st) (ordT (s_T S))).length ∧ h_I τ 390 (c + 41) = oI (wnF (fLn S i k (s_t S) st) (ordT (s_T S))).head?) := by
  have hS := g0.1.1
  have z0 := g0.1.2.1.1
  have hpl : ∀ (q x : Nat), (ordT (s_T S))[q]? = some x → fLn S i k (s_t S) st x ≤ 40 := by
    intro q x hx
    unfold fLn pLn
    have h1 := (n_ok hS x).1
    have h2 := (mk_facts hS hx).2.2.1
    by_cases e : s_k S x = k
    · rw [if_pos e]
      by_cases e2 : (n_n S x).isPrefixOf ((s_t S).drop st) = true
      · rw [if_pos e2]; omega
      · rw [if_neg e2]
        by_cases e3 : (near S i x && (mkX S x).isPrefixOf ((s_t S).drop st)) = true
        · rw [if_pos e3]; omega
        · rw [if_neg e3]; omega
    · rw [if_neg e]; omega
  have hmx : ∀ m, mxF (fLn S i k (s_t S) st) ((ordT (s_T S)).take m) ≤ 40 := by
    intro m
    rcases Nat.eq_zero_or_pos (mxF (fLn S i k (s_t S) st) ((ordT (s_T S)).take m)) with w | w
    · omega
    · obtain ⟨x, x1, x2⟩ := mxF_at _ _ w
      obtain ⟨q, hq⟩ := List.getElem?_of_mem (List.mem_of_mem_take x1)
      rw [← x2]
      exact hpl q x hq
  -- only the three fields change
  have keep : ∀ τ, Fm ow [388, 389, 390] [] [] σ τ → RCd ow τ c ad B S := by
    intro τ h
    refine g0.rd (ds := s_d S) (h.wide (by decide) (fun f q => by cases q) (fun f q => by cases q)) ?_
    exact CR.kp (S := S) (S' := S) h g0.1.2.1 (by decide) (fun q => by cases q) rfl g0.1.2.2.2.2.2.2.2.2.2.2.2.1
  generalize hQ : (fun (r : Option Value) (τ : Hp) => r = none ∧ Fm ow [388, 389, 390] [] [] σ τ ∧ h_I τ 388 (c + 41) = nI (mxF (fLn S i k (s_t S) st) (ordT (s_T S))) ∧ h_I τ 389 (c + 41) = nI (wnF (fLn S i k (s_t S) st) (ordT (s_T S))).length ∧ h_I τ 390 (c + 41) = oI (wnF (fLn S i k (s_t S) st) (ordT (s_T S))).head?) = Q
  refine Cn.of (by decide) (by repeat (first | exact ca_0 | refine ca_i ?_ | refine ca_r ?_)) (Nat.le_of_ble_eq_true rfl) ?_
  have loop : ∀ (d m : Nat) (τ : Hp) (w5 : Option Value), m + d = (ordT (s_T S)).length → Fm ow [388, 389, 390] [] [] σ τ → h_I τ 388 (c + 41) = nI (mxF (fLn S i k (s_t S) st) ((ordT (s_T S)).take m)) → h_I τ 389 (c + 41) = nI (wnF (fLn S i k (s_t S) st) ((ordT (s_T S)).take m)).length → h_I τ 390 (c + 41) = oI (wnF (fLn S i k (s_t S) st) ((ordT (s_T S)).take m)).head? → Gm l D m_Reader_findMeanings 0 0 Q 27 [some (va_rf (some (c + 41))), some (.int (nI st)), some (.int (nI k)), some (va_rf (some (ad i))), some (va_rf (((ordT (s_T S))[m]?).map ad)), w5] [] τ 0 0 := by
    intro d
    induction d with
    | zero =>
      intro m τ w5 hm h1 h2 h3 h4
      rw [List.getElem?_eq_none (by omega)]
      rw [List.take_of_length_le (by omega)] at h2 h3 h4
      refine r_aload rfl rfl ?_
      refine r_ifnull rfl (fun _ => ?_) (fun _ hq => by cases hq)
      refine r_vret rfl rfl ?_
      rw [← hQ]
      exact ⟨rfl, h1, h2, h3, h4⟩
    | succ d ih =>
      intro m τ w5 hm h1 h2 h3 h4
      have g := keep τ h1
      obtain ⟨k41, p384, p385, p386, k42, l42, k1, i193, hl, k3, p576, k4⟩ := g.rdr
      obtain ⟨x, hx⟩ : ∃ x, (ordT (s_T S))[m]? = some x := ⟨_, List.getElem?_eq_getElem (by omega)⟩
      obtain ⟨hml, ex, -, hxn, hl120⟩ := ord_at hS hx
      have kx := g.1.2.2.2.1.1 x (Or.inl hxn)
      have i513 := (g.1.2.2.1.2.2.2 x hxn).2.2.2.2.1
      have hx6 := hS.2.1 x hxn
      have etk : (ordT (s_T S)).take (m + 1) = (ordT (s_T S)).take m ++ [x] := by
        have e : (ordT (s_T S))[m] = x := by rw [List.getElem?_eq_getElem hml] at hx; exact Option.some.inj hx
        rw [List.take_succ_eq_append_getElem hml, e]
      have hp40 := hpl m x hx
      have hm40 := hmx m
      have hwl : (wnF (fLn S i k (s_t S) st) ((ordT (s_T S)).take m)).length ≤ 120 := by
        have e1 : (wnF (fLn S i k (s_t S) st) ((ordT (s_T S)).take m)).length ≤ ((ordT (s_T S)).take m).length := List.length_filter_le _ _
        rw [List.length_take] at e1
        omega
      have ih := fun ρ => ih (m + 1) ρ (some (.int (nI (fLn S i k (s_t S) st x)))) (by omega)
      rw [etk, mxF_app, wnF_app] at ih
      -- behind the length
      have tail : Gm l D m_Reader_findMeanings 0 0 Q 53 [some (va_rf (some (c + 41))), some (.int (nI st)), some (.int (nI k)), some (va_rf (some (ad i))), some (va_rf (some (ad x))), w5] [.int (nI (fLn S i k (s_t S) st x))] τ 0 0 := by
        generalize hF : fLn S i k (s_t S) st x = F at *
        generalize hP : mxF (fLn S i k (s_t S) st) ((ordT (s_T S)).take m) = P at *
        generalize hWn : wnF (fLn S i k (s_t S) st) ((ordT (s_T S)).take m) = Wn at *
        have adv : ∀ ρ, Fm ow [388, 389, 390] [] [] σ ρ → h_I ρ 388 (c + 41) = nI (max P F) → h_I ρ 389 (c + 41) = nI (if P < F then [x] else if 0 < F ∧ F = P then Wn ++ [x] else Wn).length → h_I ρ 390 (c + 41) = oI (if P < F then [x] else if 0 < F ∧ F = P then Wn ++ [x] else Wn).head? → Gm l D m_Reader_findMeanings 0 0 Q 108 [some (va_rf (some (c + 41))), some (.int (nI st)), some (.int (nI k)), some (va_rf (some (ad i))), some (va_rf (some (ad x))), some (.int (nI F))] [] ρ 0 0 := by
          intro ρ q1 q2 q3 q4
          have gr := keep ρ q1
          have kxr := gr.1.2.2.2.1.1 x (Or.inl hxn)
          have nxr := gr.nx.2 m x hx
          have := ih ρ q1 q2 q3 q4
          refine r_aload rfl rfl ?_
          (first | refine r_getPv rfl (by first | assumption | rfl) rfl (by assumption) ?_ | refine r_getP rfl (by first | assumption | rfl) rfl ?_)
          refine r_astore rfl (by decide) ?_
          refine r_goto rfl ?_
          exact this
        refine r_istore rfl (by decide) ?_
        refine r_iload rfl rfl ?_
        refine r_aload_n rfl rfl ?_
        (first | refine r_getIv rfl (by first | assumption | rfl) rfl (by assumption) ?_ | refine r_getI rfl (by first | assumption | rfl) rfl ?_)
        refine r_leN rfl (by omega) (by omega) (fun hle => ?_) (fun hgt => ?_)
        · rw [if_neg (show ¬ P < F by omega)] at adv
          refine r_iload rfl rfl ?_
          rcases Nat.eq_zero_or_pos F with h0 | h0
          · rw [h0]
            refine r_if_le rfl (fun _ => ?_) (fun q => absurd (by decide) q)
            rw [if_neg (show ¬ (0 < F ∧ F = P) by omega), show max P F = P by omega] at adv
            rw [h0] at adv
            exact adv τ h1 h2 h3 h4
          · refine r_if_le rfl (fun q => absurd (nI_lt h0 (by omega)) (Int32.not_lt.mpr q)) (fun _ => ?_)
            refine r_iload rfl rfl ?_
            refine r_aload_n rfl rfl ?_
            (first | refine r_getIv rfl (by first | assumption | rfl) rfl (by assumption) ?_ | refine r_getI rfl (by first | assumption | rfl) rfl ?_)
            refine r_neN rfl (by omega) (by omega) (fun hne => ?_) (fun heq => ?_)
            · rw [if_neg (fun w => hne w.2), show max P F = P by omega] at adv
              exact adv τ h1 h2 h3 h4
            · have hnn : Wn ≠ [] := by rw [← hWn]; exact wnF_ne _ _ (by omega)
              rw [if_pos ⟨h0, heq⟩, show max P F = P by omega] at adv
              refine r_aload_n rfl rfl ?_
              refine r_dup rfl (by first | rfl | exact rf_cat _) ?_
              (first | refine r_getIv rfl (by first | assumption | rfl) rfl (by assumption) ?_ | refine r_getI rfl (by first | assumption | rfl) rfl ?_)
              refine r_iconst (v := nI 1) rfl (by decide) ?_
              (first | refine r_iaddN rfl ?_ | refine r_iadd rfl ?_)
              refine r_putI rfl (by first | assumption | rfl) rfl (by first | exact Or.inl rfl | exact Or.inr ⟨rfl, rfl⟩) (by first | rfl | decide | assumption) (by first | rfl | decide) ?_
              refine adv _ (h1.tr (Fm.I _ _ _ (by decide))) ((hI_n _ _ (by decide)).trans h2) ?_ ((hI_n _ _ (by decide)).trans ?_)
              · rw [hI_w, List.length_append, List.length_singleton]
              · rw [h4]
                cases Wn with
                | nil => exact absurd rfl hnn
                | cons y r => rfl
        · rw [if_pos (show P < F by omega), show max P F = F by omega] at adv
          have i512 : h_I τ 512 (ad x) = nI x := (g.1.2.2.1.2.2.2 x hxn).2.2.2.1
          refine r_aload_n rfl rfl ?_
          refine r_iload rfl rfl ?_
          refine r_putI rfl (by first | assumption | rfl) rfl (by first | exact Or.inl rfl | exact Or.inr ⟨rfl, rfl⟩) (by first | rfl | decide | assumption) (by first | rfl | decide) ?_
          generalize hρ1 : w_I τ 388 (c + 41) (nI F) = ρ1
          have k411 : h_K ρ1 (c + 41) = 7 := by rw [← hρ1]; exact k41
          have kx1 : h_K ρ1 (ad x) = 9 := by rw [← hρ1]; exact kx
          have i5121 : h_I ρ1 512 (ad x) = nI x := by rw [← hρ1]; exact (hI_n _ _ (by decide)).trans i512
          have f1 : Fm ow [388, 389, 390] [] [] σ ρ1 := by rw [← hρ1]; exact h1.tr (Fm.I _ _ _ (by decide))
          have a388 : h_I ρ1 388 (c + 41) = nI F := by rw [← hρ1]; exact hI_w _ _ _ _
          refine r_aload_n rfl rfl ?_
          refine r_iconst (v := nI 0) rfl (by decide) ?_
          refine r_putI rfl (by first | assumption | rfl) rfl (by first | exact Or.inl rfl | exact Or.inr ⟨rfl, rfl⟩) (by first | rfl | decide | assumption) (by first | rfl | decide) ?_
          generalize hρ2 : w_I ρ1 389 (c + 41) (nI 0) = ρ2
          have k412 : h_K ρ2 (c + 41) = 7 := by rw [← hρ2]; exact k411
          have kx2 : h_K ρ2 (ad x) = 9 := by rw [← hρ2]; exact kx1
          have i5122 : h_I ρ2 512 (ad x) = nI x := by rw [← hρ2]; exact (hI_n _ _ (by decide)).trans i5121
          have f2 : Fm ow [388, 389, 390] [] [] σ ρ2 := by rw [← hρ2]; exact f1.tr (Fm.I _ _ _ (by decide))
          have b388 : h_I ρ2 388 (c + 41) = nI F := by rw [← hρ2]; exact (hI_n _ _ (by decide)).trans a388
          have b389 : h_I ρ2 389 (c + 41) = nI 0 := by rw [← hρ2]; exact hI_w _ _ _ _
          refine r_aload_n rfl rfl ?_
          refine r_aload rfl rfl ?_
          (first | refine r_getIv rfl (by first | assumption | rfl) rfl (by assumption) ?_ | refine r_getI rfl (by first | assumption | rfl) rfl ?_)
          refine r_putI rfl (by first | assumption | rfl) rfl (by first | exact Or.inl rfl | exact Or.inr ⟨rfl, rfl⟩) (by first | rfl | decide | assumption) (by first | rfl | decide) ?_
          generalize hρ3 : w_I ρ2 390 (c + 41) (nI x) = ρ3
          have k413 : h_K ρ3 (c + 41) = 7 := by rw [← hρ3]; exact k412
          have f3 : Fm ow [388, 389, 390] [] [] σ ρ3 := by rw [← hρ3]; exact f2.tr (Fm.I _ _ _ (by decide))
          have c388 : h_I ρ3 388 (c + 41) = nI F := by rw [← hρ3]; exact (hI_n _ _ (by decide)).trans b388
          have c389 : h_I ρ3 389 (c + 41) = nI 0 := by rw [← hρ3]; exact (hI_n _ _ (by decide)).trans b389
          have c390 : h_I ρ3 390 (c + 41) = nI x := by rw [← hρ3]; exact hI_w _ _ _ _
          refine r_iload rfl rfl ?_
          refine r_if_le rfl (fun q => absurd (nI_lt (show 0 < F by omega) (by omega)) (Int32.not_lt.mpr q)) (fun _ => ?_)
          refine r_iload rfl rfl ?_
          refine r_aload_n rfl rfl ?_
          (first | refine r_getIv rfl (by first | assumption | rfl) rfl (by assumption) ?_ | refine r_getI rfl (by first | assumption | rfl) rfl ?_)
          refine r_neN rfl (by omega) (by omega) (fun hne => absurd rfl hne) (fun _ => ?_)
          refine r_aload_n rfl rfl ?_
          refine r_dup rfl (by first | rfl | exact rf_cat _) ?_
          (first | refine r_getIv rfl (by first | assumption | rfl) rfl (by assumption) ?_ | refine r_getI rfl (by first | assumption | rfl) rfl ?_)
          refine r_iconst (v := nI 1) rfl (by decide) ?_
          (first | refine r_iaddN rfl ?_ | refine r_iadd rfl ?_)
          refine r_putI rfl (by first | assumption | rfl) rfl (by first | exact Or.inl rfl | exact Or.inr ⟨rfl, rfl⟩) (by first | rfl | decide | assumption) (by first | rfl | decide) ?_
          exact adv _ (f3.tr (Fm.I _ _ _ (by decide))) ((hI_n _ _ (by decide)).trans c388) (hI_w _ _ _ _) ((hI_n _ _ (by decide)).trans c390)
      rw [hx]
      refine r_aload rfl rfl ?_
      refine r_ifnull rfl (fun hq => by cases hq) (fun _ _ => ?_)
      show Gm l D m_Reader_findMeanings 0 0 Q 32 [some (va_rf (some (c + 41))), some (.int (nI st)), some (.int (nI k)), some (va_rf (some (ad i))), some (va_rf (some (ad x))), w5] [] τ 0 0
      refine r_aload rfl rfl ?_
      (first | refine r_getIv rfl (by first | assumption | rfl) rfl (by assumption) ?_ | refine r_getI rfl (by first | assumption | rfl) rfl ?_)
      refine r_iload_n rfl rfl ?_
      refine r_neN rfl (by omega) (by omega) (fun q => ?_) (fun q => ?_)
      · have e0 : fLn S i k (s_t S) st x = 0 := by unfold fLn; rw [if_neg q]
        rw [e0] at tail
        refine r_iconst (v := nI 0) rfl (by decide) ?_
        exact tail
      · have e0 : fLn S i k (s_t S) st x = pLn S i (s_t S) st x := by unfold fLn; rw [if_pos q]
        rw [e0] at tail
        refine r_aload_n rfl rfl ?_
        refine r_aload rfl rfl ?_
        refine r_iload_n rfl rfl ?_
        refine r_aload_n rfl rfl ?_
        refine r_callV (As := [_, _, _]) rfl (by decide) rfl k41 rfl rfl (Nat.le_of_ble_eq_true rfl) ⟨Nat.le_of_ble_eq_true rfl, Nat.le_of_ble_eq_true rfl⟩ (c_partFor g hi hx hst) (kc' := 0) (ks' := 0) (by omega) (by omega) (by decide) ?_
        rintro r τ ⟨rfl, rfl⟩
        refine r_goto rfl ?_
        exact tail
  obtain ⟨k41, p384, p385, p386, k42, l42, k1, i193, hl, k3, p576, k4⟩ := g0.rdr
  refine r_aload_n rfl rfl ?_
  refine r_iconst (v := nI 0) rfl (by decide) ?_
  refine r_putI rfl (by first | assumption | rfl) rfl (by first | exact Or.inl rfl | exact Or.inr ⟨rfl, rfl⟩) (by first | rfl | decide | assumption) (by first | rfl | decide) ?_
  refine r_aload_n rfl rfl ?_
  refine r_iconst (v := nI 0) rfl (by decide) ?_
  refine r_putI rfl (by first | assumption | rfl) rfl (by first | exact Or.inl rfl | exact Or.inr ⟨rfl, rfl⟩) (by first | rfl | decide | assumption) (by first | rfl | decide) ?_
  refine r_aload_n rfl rfl ?_
  refine r_iconst (v := -1) rfl (by decide) ?_
  refine r_putI rfl (by first | assumption | rfl) rfl (by first | exact Or.inl rfl | exact Or.inr ⟨rfl, rfl⟩) (by first | rfl | decide | assumption) (by first | rfl | decide) ?_
  generalize hσ1 : w_I (w_I (w_I σ 388 (c + 41) (nI 0)) 389 (c + 41) (nI 0)) 390 (c + 41) (-1) = σ1
  have f1 : Fm ow [388, 389, 390] [] [] σ σ1 := by rw [← hσ1]; exact ((Fm.I _ _ _ (by decide)).tr (Fm.I _ _ _ (by decide))).tr (Fm.I _ _ _ (by decide))
  have a388 : h_I σ1 388 (c + 41) = nI 0 := by rw [← hσ1]; exact (hI_n _ _ (by decide)).trans ((hI_n _ _ (by decide)).trans (hI_w _ _ _ _))
  have a389 : h_I σ1 389 (c + 41) = nI 0 := by rw [← hσ1]; exact (hI_n _ _ (by decide)).trans (hI_w _ _ _ _)
  have a390 : h_I σ1 390 (c + 41) = -1 := by rw [← hσ1]; exact hI_w _ _ _ _
  have g1 := keep σ1 f1
  obtain ⟨k411, -, p3851, -, -, -, -, -, -, k31, p5761, k41'⟩ := g1.rdr
  have p5201 := g1.nx.1
  refine r_aload_n rfl rfl ?_
  (first | refine r_getPv rfl (by first | assumption | rfl) rfl (by assumption) ?_ | refine r_getP rfl (by first | assumption | rfl) rfl ?_)
  (first | refine r_getPv rfl (by first | assumption | rfl) rfl (by assumption) ?_ | refine r_getP rfl (by first | assumption | rfl) rfl ?_)
  (first | refine r_getPv rfl (by first | assumption | rfl) rfl (by assumption) ?_ | refine r_getP rfl (by first | assumption | rfl) rfl ?_)
  refine r_astore rfl (by decide) ?_
  exact loop (ordT (s_T S)).length 0 σ1 none (by omega) f1 a388 a389 a390
end RD
