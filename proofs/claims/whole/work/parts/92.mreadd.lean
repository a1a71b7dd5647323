/-! ===== the reference: read ===== -/
theorem tw_spec (f : Int32 → Bool) : ∀ (ys : List Int32), (∀ i, i < (ys.takeWhile f).length → i < ys.length ∧ f (ys.getD i 0) = true) ∧ ((ys.takeWhile f).length < ys.length → f (ys.getD (ys.takeWhile f).length 0) = false)
  | [] => ⟨fun i hi => (by cases hi), fun hi => (by cases hi)⟩
  | a :: ys => by
    rw [List.takeWhile_cons]
    cases hfa : f a with
    | false => exact ⟨fun i hi => (by cases hi), fun _ => hfa⟩
    | true =>
      have ihh := tw_spec f ys
      refine ⟨fun i hi => ?_, fun hi => ?_⟩
      · cases i with
        | zero => exact ⟨by rw [List.length_cons]; omega, hfa⟩
        | succ i =>
          have hi2 : i + 1 < (ys.takeWhile f).length + 1 := hi
          have hii := ihh.1 i (by omega)
          exact ⟨by rw [List.length_cons]; omega, hii.2⟩
      · have hi2 : (ys.takeWhile f).length + 1 < ys.length + 1 := hi
        exact ihh.2 (by omega)
theorem rn_spec (xs : List Int32) (p : Nat) : (∀ i, i < rnL xs p → p + i < xs.length ∧ isR (seeB xs (p + i)) = true) ∧ isR (seeB xs (p + rnL xs p)) = false := by
  have hsp := tw_spec (fun v => isR (v &&& 255)) (xs.drop p)
  refine ⟨fun i hi => ?_, ?_⟩
  · have hii := hsp.1 i hi
    rw [List.length_drop] at hii
    refine ⟨by omega, ?_⟩
    rw [see_drop (by omega)]
    exact hii.2
  · by_cases hlt : p + rnL xs p < xs.length
    · rw [see_drop hlt]
      exact hsp.2 (by rw [List.length_drop]; unfold rnL at hlt; omega)
    · unfold seeB
      rw [if_neg hlt]
      decide
theorem st_len {xs ws vs : List Int32} {p : Nat} (hX : ∀ v ∈ xs, b8 v = v) (hw : ws.all isL = true) (hv : vs.all isL = true) (h1 : stB xs ws p = true) (h2 : stB xs vs p = true) : ws.length = vs.length := by
  have key : ∀ (aa bb : List Int32), bb.all isL = true → stB xs aa p = true → stB xs bb p = true → ¬ aa.length < bb.length := by
    intro aa bb hb g1 g2 hlt
    unfold stB at g1 g2
    simp only [Bool.and_eq_true, decide_eq_true_eq] at g1 g2
    have hpre := pre_at.mp g2.1.2
    rw [List.length_drop] at hpre
    obtain ⟨c, c1, c2, c3⟩ := isL_nI (show isL (bb.getD aa.length 0) = true by rw [getD_at hlt]; exact List.all_eq_true.mp hb _ (List.getElem_mem hlt))
    have hsee := g1.2
    rw [see_drop (by omega), hpre.2 _ hlt, c3, nI255 c (by omega)] at hsee
    have : c = 32 := (nI_eq (by omega) (by omega)).mp hsee
    omega
  have k1 := key ws vs hv h1 h2
  have k2 := key vs ws hw h2 h1
  omega
theorem fd_le (S : Sp) (i k : Nat) (rest : List Int32) : ∀ n, (fdE S i k rest n).1 ≤ n
  | 0 => Nat.le_refl _
  | n + 1 => by
    rw [fdE]
    split
    · have := fd_le S i k rest n
      omega
    · exact Nat.le_refl _
theorem n_mkd (S : Sp) (t : List Int32) (ds : List Fi) : n_mk (sD (sT S t) ds) = n_mk S := rfl
theorem mkXd (S : Sp) (t : List Int32) (ds : List Fi) (x : Nat) : mkX (sD (sT S t) ds) x = mkX S x := rfl
theorem neard (S : Sp) (t : List Int32) (ds : List Fi) (i x : Nat) : near (sD (sT S t) ds) i x = near S i x := rfl
theorem mnLd (S : Sp) (t : List Int32) (ds : List Fi) (i k : Nat) (pt : List Int32) : mnL (sD (sT S t) ds) i k pt = mnL S i k pt := rfl
section MC
variable {l : Launch} {D : DD} {σ : Hp} {o : Nat}
theorem RMd.d {S : Sp} {τ : Hp} {ds : List Fi} (h : RMd σ o S) (hf : MFr [35, 36, 37, 38, 39] [748, 755, 756] σ τ o) (h1 : RFi τ o ds) : RMd τ o (sD S ds) := by
  obtain ⟨⟨g1, g2, g3, g4, g5, g6, g7, g8, g9, g10⟩, h2, h3⟩ := h
  refine ⟨⟨hf.mL g1, g2, g3.kp hf (by decide) (by decide), fun k hk => (g4 k hk).kp hf (by decide) (by decide), g5.kp hf (by decide) (by decide) (by decide), g6.kp hf (fun j a b => ?_) (by decide) (by decide), g7.kp hf (fun j a b => ?_) (by decide) (by decide), g8.kp hf (fun j a b => ?_) (by decide), g9.kp hf (fun j a b => ?_) (by decide), h1⟩, by rw [hf.fld (by decide)]; exact h2, ?_⟩
  all_goals try (simp only [List.mem_cons, List.not_mem_nil, or_false]; omega)
  unfold mkD Tx at h3 ⊢
  rw [hf.row (j := 14) (by decide), hf.row (j := 15) (by decide), hf.row (j := 16) (by decide), hf.row (j := 17) (by decide), hf.row (j := 18) (by decide), hf.row (j := 19) (by decide), hf.row (j := 20) (by decide), hf.row (j := 21) (by decide), hf.fld (f := 724) (by decide)]
  exact h3
set_option maxRecDepth 10000 in
set_option maxHeartbeats 2000000 in
theorem c_M_readS {S : Sp} {v : Int32} (h : RM σ o S) : Cn l D m_M_read 0 0 [va_rf (some o), .int v] σ (fun r τ => r = some (.int (a_read S v).1) ∧ RM τ o (a_read S v).2 ∧ MFr mAR mAI σ τ o) := by
  have hM := h.1
  have hS := h.2.1
  have hW := hS.wf
  have hn9 := hS.1
  obtain ⟨tp1, tp2, tp3⟩ := h.2.2.1
  generalize hQ : (fun (r : Option Value) (τ : Hp) => r = some (.int (a_read S v).1) ∧ RM τ o (a_read S v).2 ∧ MFr mAR mAI σ τ o) = Q
  refine Cn.of (by decide) (by repeat (first | exact ca_0 | refine ca_i ?_ | refine ca_r ?_)) (Nat.le_of_ble_eq_true rfl) ?_
  refine g_fits (fun hfit _ _ => ?_)
  have hb8 : ∀ v ∈ s_t S, b8 v = v := by
    intro vv hv
    obtain ⟨jj, hj, rfl⟩ := List.getElem_of_mem hv
    rw [← getD_at hj]
    refine fit_b8 ?_
    rw [← tp3 jj hj]
    exact hfit _ (hM.2 0 (by decide)).2.1 _
  refine r_aload_n rfl rfl ?_
  refine r_aload_n rfl rfl ?_
  (first | refine r_getIv rfl hM.1 rfl (by assumption) ?_ | refine r_getI rfl hM.1 rfl ?_)
  refine r_putI rfl hM.1 rfl (Or.inl rfl) (by first | rfl | decide) (by first | rfl | decide) ?_
  refine r_aload_n rfl rfl ?_
  refine r_iconst (v := nI 0) rfl (by decide) ?_
  refine r_putI rfl hM.1 rfl (Or.inl rfl) (by first | rfl | decide) (by first | rfl | decide) ?_
  have hf1 : MFr [0] [705] σ (w_I σ 705 o (nI 0)) o := MFr.I _ _ (by decide)
  have hf2 : MFr ([] : List Nat) [749] (w_I σ 749 o (nI (s_t S).length)) (w_I σ 749 o (nI (s_t S).length)) o := MFr.rf _ _ _ _
  have hR0 : RM (w_I σ 749 o (nI (s_t S).length)) o S := RM.kp (MFr.I (rows := []) (flds := [749]) _ _ (by decide)) (by decide) (by decide) h
  have hR : RM (w_I (w_I σ 749 o (nI (s_t S).length)) 705 o (nI 0)) o (sT S []) := hR0.t (MFr.I _ _ (by decide)) (Tp.nil (hI_w _ _ _ _))
  have hX : TX (w_I (w_I σ 749 o (nI (s_t S).length)) 705 o (nI 0)) o (s_t S) := ⟨(hI_n _ _ (by decide)).trans (hI_w _ _ _ _), tp2, tp3, hb8⟩
  have hfw : MFr mAR mAI σ (w_I (w_I σ 749 o (nI (s_t S).length)) 705 o (nI 0)) o := (MFr.I _ _ (by decide)).tr (MFr.I _ _ (by decide))
  generalize w_I (w_I σ 749 o (nI (s_t S).length)) 705 o (nI 0) = τ at hR hX hfw
  generalize hxs : s_t S = xs at hX tp2 hb8
  clear hf1 hf2 hR0 tp1 tp3 hfit hM
  have hM := hR.1
  obtain ⟨rt1, rt2, rt3, -⟩ := hR.rt
  have rt3 : h_X τ (o + 1 + 7) = onT (s_n S) (s_T S) := rt3
  have rt1 : h_I τ 711 o = nI (s_n S) := rt1
  refine r_aload_n rfl rfl ?_
  refine r_iload_n rfl rfl ?_
  refine r_callV (As := [_]) rfl (by decide) rfl (by first | exact hM.1 | assumption) rfl rfl (Nat.le_of_ble_eq_true rfl) ⟨Nat.le_of_ble_eq_true rfl, Nat.le_of_ble_eq_true rfl⟩ (c_M_isThere hM rt1 hn9) (kc' := 0) (ks' := 0) (by omega) (by omega) (by decide) ?_
  rintro r τ ⟨rfl, rfl⟩
  rw [rt3]
  refine r_ifneB rfl (fun hq1 => ?_) (fun hq1 => ?_)
  · obtain ⟨ii, ii1, ii2, rfl, ii4⟩ := isTh_some hS hq1
    have ea : a_read S (nI ii) = (nI (rdL S ii xs 601 0).length, sD (sT S []) (rdL S ii xs 601 0)) := by
      unfold a_read
      rw [ii4, hxs]
    refine r_aload_n rfl rfl ?_
    refine r_callV (As := []) rfl (by decide) rfl (by first | exact hM.1 | assumption) rfl rfl (Nat.le_of_ble_eq_true rfl) ⟨Nat.le_of_ble_eq_true rfl, Nat.le_of_ble_eq_true rfl⟩ (c_M_makeS hR) (kc' := 0) (ks' := 0) (by omega) (by omega) (by decide) ?_
    rintro r τ2 ⟨rfl, hd0, hfm⟩
    have hX0 := hX.kp hfm (by decide) (by decide)
    have hfw2 : MFr mAR mAI σ τ2 o := hfw.tr (hfm.wide (by decide) (by decide))
    have hM := hd0.1.1
    refine r_aload_n rfl rfl ?_
    refine r_iconst (v := nI 0) rfl (by decide) ?_
    refine r_putI rfl hM.1 rfl (Or.inl rfl) (by first | rfl | decide) (by first | rfl | decide) ?_
    refine r_iconst (v := nI 0) rfl (by decide) ?_
    refine r_istore_n rfl (by decide) ?_
    refine r_iconst (v := nI 0) rfl (by decide) ?_
    refine r_istore_n rfl (by decide) ?_
    generalize hAll : rdL S ii xs 601 0 = allF at ea
    -- the loop
    have main : ∀ (ff p : Nat) (π : Hp) (dn : List Fi) (z4 z5 z6 z7 : Option Value), xs.length < p + ff → p ≤ xs.length → RMd π o (sD (sT S []) dn) → TX π o xs → MFr mAR mAI σ π o → dn.length ≤ p → allF = dn ++ rdL S ii xs ff p → Gm l D m_M_read 0 0 Q 37 [some (va_rf (some o)), some (.int (nI ii)), some (.int (nI dn.length)), some (.int (nI p)), z4, z5, z6, z7] [] π 0 0 := by
      intro ff
      induction ff with
      | zero => intro p π dn z4 z5 z6 z7 hpf hpl; omega
      | succ ff ih =>
        intro p π dn z4 z5 z6 z7 hpf hpl hd hXp hfp hdn hrd
        have hM := hd.1.1
        have h749 := hXp.1
        refine r_iload_n rfl rfl ?_
        refine r_aload_n rfl rfl ?_
        (first | refine r_getIv rfl hM.1 rfl (by assumption) ?_ | refine r_getI rfl hM.1 rfl ?_)
        refine r_geN rfl (by omega) (by omega) (fun hge => ?_) (fun hlt => ?_)
        · refine r_iload_n rfl rfl ?_
          refine r_iret rfl rfl ?_
          rw [← hQ]
          show _ = some (Value.int (a_read S (nI ii)).1) ∧ RM π o (a_read S (nI ii)).2 ∧ _
          rw [rdL, if_pos hge, List.append_nil] at hrd
          rw [ea, hrd]
          exact ⟨rfl, hd.1, hfp⟩
        · rw [rdL, if_neg (by omega)] at hrd
          have hwd : ∀ k, k < 6 → Wd π o k (s_w S k) := fun k hk => hd.1.2.2.2.1 k hk
          have hwl : ∀ k, k < 6 → (s_w S k).length ≤ 10 ∧ (s_w S k).all isL = true := fun k hk => hS.2.2.2.2.1 k hk
          refine r_iconst (v := -1) rfl (by decide) ?_
          refine r_istore rfl (by decide) ?_
          -- with the kind
          have found : ∀ (ko : Option Nat), kAt S xs p = ko → (∀ k, ko = some k → k < 6 ∧ stB xs (s_w S k) p = true ∧ isR (seeB xs (p + (s_w S k).length + 1)) = true) → ∀ z5, Gm l D m_M_read 0 0 Q 118 [some (va_rf (some o)), some (.int (nI ii)), some (.int (nI dn.length)), some (.int (nI p)), some (.int (oI ko)), z5, z6, z7] [] π 0 0 := by
            intro ko hko hks z5
            rw [hko] at hrd
            cases ko with
            | none =>
              refine r_iload rfl rfl ?_
              refine r_iconst (v := -1) rfl (by decide) ?_
              refine r_icmp_ne rfl (fun hne => absurd rfl hne) (fun _ => ?_)
              refine r_iinc rfl rfl (nI_inc _) ?_
              refine r_goto rfl ?_
              exact ih (p + 1) π dn _ _ _ _ (by omega) (by omega) hd hXp hfp (by omega) hrd
            | some kk =>
              obtain ⟨k6, ks1, ks2⟩ := hks kk rfl
              have hrd : allF = dn ++ fiA S ii xs p kk :: rdL S ii xs ff (fiA S ii xs p kk).2.1 := hrd
              have hwl1 := hwl kk k6
              have hsz := (hwd kk k6).1
              have hrn := rn_spec xs (p + (s_w S kk).length + 1)
              have hefi : fiA S ii xs p kk = (p, (if (fdE S ii kk (xs.drop (p + (s_w S kk).length + 1)) (rnL xs (p + (s_w S kk).length + 1))).1 = 0 then p + (s_w S kk).length + 1 + rnL xs (p + (s_w S kk).length + 1) else p + (s_w S kk).length + 1 + (fdE S ii kk (xs.drop (p + (s_w S kk).length + 1)) (rnL xs (p + (s_w S kk).length + 1))).1), kk, (fdE S ii kk (xs.drop (p + (s_w S kk).length + 1)) (rnL xs (p + (s_w S kk).length + 1))).2.length, (fdE S ii kk (xs.drop (p + (s_w S kk).length + 1)) (rnL xs (p + (s_w S kk).length + 1))).2.head?) := rfl
              have hr0 : 0 < rnL xs (p + (s_w S kk).length + 1) := by
                by_cases hz : rnL xs (p + (s_w S kk).length + 1) = 0
                · have := hrn.2
                  rw [hz, Nat.add_zero, ks2] at this
                  cases this
                · omega
              have hfs : p + (s_w S kk).length + 1 + rnL xs (p + (s_w S kk).length + 1) ≤ xs.length := by
                have := (hrn.1 (rnL xs (p + (s_w S kk).length + 1) - 1) (by omega)).1
                omega
              generalize hfr : p + (s_w S kk).length + 1 = fr at hrn hefi hr0 hfs
              generalize hrl : rnL xs fr = rl at hrn hefi hr0 hfs
              refine r_iload rfl rfl ?_
              refine r_iconst (v := -1) rfl (by decide) ?_
              refine r_icmp_ne rfl (fun _ => ?_) (fun heq => absurd heq (nI_m1 kk (by omega)))
              show Gm l D m_M_read 0 0 Q 130 [some (va_rf (some o)), some (.int (nI ii)), some (.int (nI dn.length)), some (.int (nI p)), some (.int (nI kk)), z5, z6, z7] [] π 0 0
              refine r_iload_n rfl rfl ?_
              refine r_aload_n rfl rfl ?_
              refine r_mg (j := 2) hM rfl rfl (by decide) ?_
              refine r_iload rfl rfl ?_
              refine r_mi (j := 2) hM rfl rfl (by decide) rfl (show _ < 6 by omega) ?_
              rw [hsz]
              refine r_iaddN rfl ?_
              refine r_iconst (v := nI 1) rfl (by decide) ?_
              (first | refine r_iaddN rfl ?_ | refine r_iadd rfl ?_)
              refine r_istore rfl (by decide) ?_
              rw [hfr]
              refine r_iload rfl rfl ?_
              refine r_istore rfl (by decide) ?_
              -- the end of the finding
              have tail : ∀ (ρ : Hp) (ee : Nat) (ls : List Nat), MFr ([] : List Nat) [755, 756] π ρ o → h_I ρ 755 o = nI ls.length → h_I ρ 756 o = oI ls.head? → fiA S ii xs p kk = (p, ee, kk, ls.length, ls.head?) → p < ee → ee ≤ xs.length → Gm l D m_M_read 0 0 Q 224 [some (va_rf (some o)), some (.int (nI ii)), some (.int (nI dn.length)), some (.int (nI p)), some (.int (nI kk)), some (.int (nI fr)), some (.int (nI (fr + rl))), some (.int (nI ee))] [] ρ 0 0 := by
                intro ρ ee ls kf k755 k756 kfi kpe kex
                have hdρ : RMd ρ o (sD (sT S []) dn) := RMd.kp kf (by decide) (by decide) hd
                have hXρ : TX ρ o xs := hXp.kp kf (by decide) (by decide)
                have hfρ : MFr mAR mAI σ ρ o := hfp.tr (kf.wide (by decide) (by decide))
                obtain ⟨f1, f2⟩ := hdρ.1.2.2.2.2.2.2.2.2.2
                have f1 : h_I ρ 748 o = nI (min 40 dn.length) := f1
                have f2 : ∀ i f t k m q, i < 40 → dn[i]? = some (f, t, k, m, q) → h_X ρ (o + 1 + 35) i = nI f ∧ h_X ρ (o + 1 + 36) i = nI t ∧ h_X ρ (o + 1 + 37) i = nI k ∧ h_X ρ (o + 1 + 38) i = nI m ∧ h_X ρ (o + 1 + 39) i = oI q := f2
                have hM := hdρ.1.1
                have hrd2 : allF = (dn ++ [(p, ee, kk, ls.length, ls.head?)]) ++ rdL S ii xs ff ee := by
                  rw [hrd, kfi, List.append_assoc, List.singleton_append]
                have hlen1 : (dn ++ [(p, ee, kk, ls.length, ls.head?)]).length = dn.length + 1 := by rw [List.length_append]; rfl
                have next : ∀ (ξ : Hp), MFr [35, 36, 37, 38, 39] [748, 755, 756] ρ ξ o → RFi ξ o (dn ++ [(p, ee, kk, ls.length, ls.head?)]) → Gm l D m_M_read 0 0 Q 301 [some (va_rf (some o)), some (.int (nI ii)), some (.int (nI dn.length)), some (.int (nI p)), some (.int (nI kk)), some (.int (nI fr)), some (.int (nI (fr + rl))), some (.int (nI ee))] [] ξ 0 0 := by
                  intro ξ xf xfi
                  have hdξ : RMd ξ o (sD (sD (sT S []) dn) (dn ++ [(p, ee, kk, ls.length, ls.head?)])) := hdρ.d xf xfi
                  have hsdd : sD (sD (sT S []) dn) (dn ++ [(p, ee, kk, ls.length, ls.head?)]) = sD (sT S []) (dn ++ [(p, ee, kk, ls.length, ls.head?)]) := rfl
                  rw [hsdd] at hdξ
                  refine r_iinc rfl rfl (nI_inc _) ?_
                  refine r_iload rfl rfl ?_
                  refine r_istore_n rfl (by decide) ?_
                  refine r_goto rfl ?_
                  have hgo := ih ee ξ (dn ++ [(p, ee, kk, ls.length, ls.head?)]) (some (.int (nI kk))) (some (.int (nI fr))) (some (.int (nI (fr + rl)))) (some (.int (nI ee))) (by omega) kex hdξ (hXρ.kp xf (by decide) (by decide)) (hfρ.tr (xf.wide (by decide) (by decide))) (by rw [hlen1]; omega) hrd2
                  rw [hlen1] at hgo
                  exact hgo
                refine r_aload_n rfl rfl ?_
                (first | refine r_getIv rfl hM.1 rfl (by assumption) ?_ | refine r_getI rfl hM.1 rfl ?_)
                refine r_bipush (v := nI 40) rfl (by decide) ?_
                have hmin : min 40 dn.length ≤ 40 := Nat.min_le_left _ _
                refine r_geN rfl (by omega) (by omega) (fun hge => ?_) (fun hlt => ?_)
                · refine next ρ (MFr.rf _ _ _ _) ⟨?_, fun i f t k m q hi hq => ?_⟩
                  · rw [f1, hlen1]
                    congr 1
                    omega
                  · rw [List.getElem?_append_left (by omega)] at hq
                    exact f2 i f t k m q hi hq
                · have hm2 : min 40 dn.length = dn.length := by omega
                  rw [hm2] at f1
                  have hdl : dn.length < 40 := by omega
                  refine r_aload_n rfl rfl ?_
                  refine r_mg (j := 35) hM rfl rfl (by decide) ?_
                  refine r_aload_n rfl rfl ?_
                  (first | refine r_getIv rfl hM.1 rfl (by assumption) ?_ | refine r_getI rfl hM.1 rfl ?_)
                  refine r_iload_n rfl rfl ?_
                  refine r_mis (j := 35) hM rfl rfl (by decide) (by first | rfl | assumption) (show _ < 40 by omega) ?_
                  generalize hρa : w_X ρ (o + 1 + 35) (upd (h_X ρ (o + 1 + 35)) dn.length (nI p)) = ρa
                  have fra : MFr [35] ([] : List Nat) ρ ρa o := by rw [← hρa]; exact MFr.X _ _ (by decide)
                  have rwA : h_X ρa (o + 1 + 35) = upd (h_X ρ (o + 1 + 35)) dn.length (nI p) := by rw [← hρa, hX_w]
                  clear hρa
                  have hM := fra.mL hM
                  have f1a : h_I ρa 748 o = nI dn.length := by rw [fra.fld (by decide)]; exact f1
                  have g5a : h_I ρa 755 o = nI ls.length := by rw [fra.fld (by decide)]; exact k755
                  have g6a : h_I ρa 756 o = oI ls.head? := by rw [fra.fld (by decide)]; exact k756
                  refine r_aload_n rfl rfl ?_
                  refine r_mg (j := 36) hM rfl rfl (by decide) ?_
                  refine r_aload_n rfl rfl ?_
                  (first | refine r_getIv rfl hM.1 rfl (by assumption) ?_ | refine r_getI rfl hM.1 rfl ?_)
                  refine r_iload rfl rfl ?_
                  refine r_mis (j := 36) hM rfl rfl (by decide) (by first | rfl | assumption) (show _ < 40 by omega) ?_
                  generalize hρb : w_X ρa (o + 1 + 36) (upd (h_X ρa (o + 1 + 36)) dn.length (nI ee)) = ρb
                  have frb : MFr [36] ([] : List Nat) ρa ρb o := by rw [← hρb]; exact MFr.X _ _ (by decide)
                  have rwB : h_X ρb (o + 1 + 36) = upd (h_X ρa (o + 1 + 36)) dn.length (nI ee) := by rw [← hρb, hX_w]
                  clear hρb
                  have hM := frb.mL hM
                  have f1b : h_I ρb 748 o = nI dn.length := by rw [frb.fld (by decide)]; exact f1a
                  have g5b : h_I ρb 755 o = nI ls.length := by rw [frb.fld (by decide)]; exact g5a
                  have g6b : h_I ρb 756 o = oI ls.head? := by rw [frb.fld (by decide)]; exact g6a
                  refine r_aload_n rfl rfl ?_
                  refine r_mg (j := 37) hM rfl rfl (by decide) ?_
                  refine r_aload_n rfl rfl ?_
                  (first | refine r_getIv rfl hM.1 rfl (by assumption) ?_ | refine r_getI rfl hM.1 rfl ?_)
                  refine r_iload rfl rfl ?_
                  refine r_mis (j := 37) hM rfl rfl (by decide) (by first | rfl | assumption) (show _ < 40 by omega) ?_
                  generalize hρc : w_X ρb (o + 1 + 37) (upd (h_X ρb (o + 1 + 37)) dn.length (nI kk)) = ρc
                  have frc : MFr [37] ([] : List Nat) ρb ρc o := by rw [← hρc]; exact MFr.X _ _ (by decide)
                  have rwc : h_X ρc (o + 1 + 37) = upd (h_X ρb (o + 1 + 37)) dn.length (nI kk) := by rw [← hρc, hX_w]
                  clear hρc
                  have hM := frc.mL hM
                  have f1c : h_I ρc 748 o = nI dn.length := by rw [frc.fld (by decide)]; exact f1b
                  have g5c : h_I ρc 755 o = nI ls.length := by rw [frc.fld (by decide)]; exact g5b
                  have g6c : h_I ρc 756 o = oI ls.head? := by rw [frc.fld (by decide)]; exact g6b
                  refine r_aload_n rfl rfl ?_
                  refine r_mg (j := 38) hM rfl rfl (by decide) ?_
                  refine r_aload_n rfl rfl ?_
                  (first | refine r_getIv rfl hM.1 rfl (by assumption) ?_ | refine r_getI rfl hM.1 rfl ?_)
                  refine r_aload_n rfl rfl ?_
                  (first | refine r_getIv rfl hM.1 rfl (by assumption) ?_ | refine r_getI rfl hM.1 rfl ?_)
                  refine r_mis (j := 38) hM rfl rfl (by decide) (by first | rfl | assumption) (show _ < 40 by omega) ?_
                  generalize hρd : w_X ρc (o + 1 + 38) (upd (h_X ρc (o + 1 + 38)) dn.length (nI ls.length)) = ρd
                  have frd : MFr [38] ([] : List Nat) ρc ρd o := by rw [← hρd]; exact MFr.X _ _ (by decide)
                  have rwd : h_X ρd (o + 1 + 38) = upd (h_X ρc (o + 1 + 38)) dn.length (nI ls.length) := by rw [← hρd, hX_w]
                  clear hρd
                  have hM := frd.mL hM
                  have f1d : h_I ρd 748 o = nI dn.length := by rw [frd.fld (by decide)]; exact f1c
                  have g5d : h_I ρd 755 o = nI ls.length := by rw [frd.fld (by decide)]; exact g5c
                  have g6d : h_I ρd 756 o = oI ls.head? := by rw [frd.fld (by decide)]; exact g6c
                  refine r_aload_n rfl rfl ?_
                  refine r_mg (j := 39) hM rfl rfl (by decide) ?_
                  refine r_aload_n rfl rfl ?_
                  (first | refine r_getIv rfl hM.1 rfl (by assumption) ?_ | refine r_getI rfl hM.1 rfl ?_)
                  refine r_aload_n rfl rfl ?_
                  (first | refine r_getIv rfl hM.1 rfl (by assumption) ?_ | refine r_getI rfl hM.1 rfl ?_)
                  refine r_mis (j := 39) hM rfl rfl (by decide) (by first | rfl | assumption) (show _ < 40 by omega) ?_
                  generalize hρe : w_X ρd (o + 1 + 39) (upd (h_X ρd (o + 1 + 39)) dn.length (oI ls.head?)) = ρe
                  have fre : MFr [39] ([] : List Nat) ρd ρe o := by rw [← hρe]; exact MFr.X _ _ (by decide)
                  have rwe : h_X ρe (o + 1 + 39) = upd (h_X ρd (o + 1 + 39)) dn.length (oI ls.head?) := by rw [← hρe, hX_w]
                  clear hρe
                  have hM := fre.mL hM
                  have f1e : h_I ρe 748 o = nI dn.length := by rw [fre.fld (by decide)]; exact f1d
                  have g5e : h_I ρe 755 o = nI ls.length := by rw [fre.fld (by decide)]; exact g5d
                  have g6e : h_I ρe 756 o = oI ls.head? := by rw [fre.fld (by decide)]; exact g6d
                  refine r_aload_n rfl rfl ?_
                  refine r_dup rfl (by first | rfl | exact rf_cat _) ?_
                  (first | refine r_getIv rfl hM.1 rfl (by assumption) ?_ | refine r_getI rfl hM.1 rfl ?_)
                  refine r_iconst (v := nI 1) rfl (by decide) ?_
                  (first | refine r_iaddN rfl ?_ | refine r_iadd rfl ?_)
                  refine r_putI rfl hM.1 rfl (Or.inl rfl) (by first | rfl | decide) (by first | rfl | decide) ?_
                  have xf : MFr [35, 36, 37, 38, 39] [748, 755, 756] ρ (w_I ρe 748 o (nI (dn.length + 1))) o := (((((fra.wide (by decide) (by decide)).tr (frb.wide (by decide) (by decide))).tr (frc.wide (by decide) (by decide))).tr (frd.wide (by decide) (by decide))).tr (fre.wide (by decide) (by decide))).tr (MFr.I _ _ (by decide))
                  have q35 : h_X ρe (o + 1 + 35) = upd (h_X ρ (o + 1 + 35)) dn.length (nI p) := by rw [fre.row (j := 35) (by decide), frd.row (j := 35) (by decide), frc.row (j := 35) (by decide), frb.row (j := 35) (by decide), rwA]
                  have q36 : h_X ρe (o + 1 + 36) = upd (h_X ρ (o + 1 + 36)) dn.length (nI ee) := by rw [fre.row (j := 36) (by decide), frd.row (j := 36) (by decide), frc.row (j := 36) (by decide), rwB, fra.row (j := 36) (by decide)]
                  have q37 : h_X ρe (o + 1 + 37) = upd (h_X ρ (o + 1 + 37)) dn.length (nI kk) := by rw [fre.row (j := 37) (by decide), frd.row (j := 37) (by decide), rwc, frb.row (j := 37) (by decide), fra.row (j := 37) (by decide)]
                  have q38 : h_X ρe (o + 1 + 38) = upd (h_X ρ (o + 1 + 38)) dn.length (nI ls.length) := by rw [fre.row (j := 38) (by decide), rwd, frc.row (j := 38) (by decide), frb.row (j := 38) (by decide), fra.row (j := 38) (by decide)]
                  have q39 : h_X ρe (o + 1 + 39) = upd (h_X ρ (o + 1 + 39)) dn.length (oI ls.head?) := by rw [rwe, frd.row (j := 39) (by decide), frc.row (j := 39) (by decide), frb.row (j := 39) (by decide), fra.row (j := 39) (by decide)]
                  refine next _ xf ⟨?_, fun i f t k m q hi hq => ?_⟩
                  · rw [hI_w, hlen1]
                    congr 1
                    omega
                  · rw [hX_wI, q35, q36, q37, q38, q39]
                    by_cases hid : i < dn.length
                    · rw [List.getElem?_append_left hid] at hq
                      rw [upd_n _ _ (by omega), upd_n _ _ (by omega), upd_n _ _ (by omega), upd_n _ _ (by omega), upd_n _ _ (by omega)]
                      exact f2 i f t k m q hi hq
                    · rw [List.getElem?_append_right (by omega)] at hq
                      by_cases hie : i = dn.length
                      · rw [hie, Nat.sub_self] at hq
                        have hq : (p, ee, kk, ls.length, ls.head?) = (f, t, k, m, q) := Option.some.inj hq
                        injection hq with b1 b2
                        injection b2 with b2 b3
                        injection b3 with b3 b4
                        injection b4 with b4 b5
                        subst b1 b2 b3 b4 b5
                        rw [hie, upd_s, upd_s, upd_s, upd_s, upd_s]
                        exact ⟨rfl, rfl, rfl, rfl, rfl⟩
                      · rw [show i - dn.length = (i - dn.length - 1) + 1 by omega] at hq
                        cases hq
              -- looking, from the end on
              have looked : ∀ (nn : Nat) (ρ : Hp), 0 < nn → nn ≤ rl → fdE S ii kk (xs.drop fr) rl = fdE S ii kk (xs.drop fr) nn → MFr ([] : List Nat) [755, 756] π ρ o → h_I ρ 755 o = nI (mnL S ii kk ((xs.drop fr).take nn)).length → h_I ρ 756 o = oI (mnL S ii kk ((xs.drop fr).take nn)).head? → Gm l D m_M_read 0 0 Q 180 [some (va_rf (some o)), some (.int (nI ii)), some (.int (nI dn.length)), some (.int (nI p)), some (.int (nI kk)), some (.int (nI fr)), some (.int (nI (fr + rl))), some (.int (nI (fr + nn)))] [] ρ 0 0 := by
                intro nn
                induction nn with
                | zero => intro ρ hz; omega
                | succ nn ih2 =>
                  intro ρ hz hle hfd kf k755 k756
                  have hM : ML ρ o := kf.mL hd.1.1
                  rw [fdE] at hfd
                  have hbl : (mnL S ii kk ((xs.drop fr).take (nn + 1))).length ≤ 120 := by
                    refine Nat.le_trans (List.length_filter_le _ _) ?_
                    have := ord_len hW
                    omega
                  refine r_aload_n rfl rfl ?_
                  (first | refine r_getIv rfl hM.1 rfl (by assumption) ?_ | refine r_getI rfl hM.1 rfl ?_)
                  refine r_if_ne rfl (fun hne => ?_) (fun heq => ?_)
                  · have hnn : mnL S ii kk ((xs.drop fr).take (nn + 1)) ≠ [] := fun hnil => hne (by rw [hnil]; rfl)
                    rw [if_neg hnn] at hfd
                    refine r_aload_n rfl rfl ?_
                    (first | refine r_getIv rfl hM.1 rfl (by assumption) ?_ | refine r_getI rfl hM.1 rfl ?_)
                    refine r_if_ne rfl (fun _ => ?_) (fun heq => absurd heq hne)
                    refine tail ρ (fr + (nn + 1)) _ kf k755 k756 ?_ (by omega) (by omega)
                    rw [hefi, hfd, if_neg (by show ¬ nn + 1 = 0; omega)]
                  · have hnil : mnL S ii kk ((xs.drop fr).take (nn + 1)) = [] := by
                      cases hm : mnL S ii kk ((xs.drop fr).take (nn + 1)) with
                      | nil => rfl
                      | cons aa bb =>
                        rw [hm, List.length_cons] at heq hbl
                        exact absurd heq (nI_ne0 (by omega) (by omega))
                    rw [if_pos hnil] at hfd
                    rw [hnil] at k755 k756
                    refine r_iload rfl rfl ?_
                    refine r_iload rfl rfl ?_
                    refine r_iconst (v := nI 1) rfl (by decide) ?_
                    (first | refine r_iaddN rfl ?_ | refine r_iadd rfl ?_)
                    refine r_leN rfl (by omega) (by omega) (fun hle2 => ?_) (fun hgt => ?_)
                    · have hn0 : nn = 0 := by omega
                      subst hn0
                      refine r_aload_n rfl rfl ?_
                      (first | refine r_getIv rfl hM.1 rfl (by assumption) ?_ | refine r_getI rfl hM.1 rfl ?_)
                      refine r_if_ne rfl (fun hne => absurd rfl hne) (fun _ => ?_)
                      refine r_iload rfl rfl ?_
                      refine r_istore rfl (by decide) ?_
                      refine tail ρ (fr + rl) [] kf k755 k756 ?_ (by omega) (by omega)
                      rw [hefi, hfd]
                      rfl
                    · refine r_iinc (v := nI (fr + nn)) rfl rfl ?_ ?_
                      · show nI (fr + (nn + 1)) + Int32.ofInt (-1) = nI (fr + nn)
                        rw [show Int32.ofInt (-1) = -nI 1 by decide, ← Int32.sub_eq_add_neg, pk_sub (by omega)]
                        congr 1
                      · refine r_aload_n rfl rfl ?_
                        refine r_iload_n rfl rfl ?_
                        refine r_iload rfl rfl ?_
                        refine r_iload rfl rfl ?_
                        refine r_iload rfl rfl ?_
                        have hdρ : RMd ρ o (sD (sT S []) dn) := RMd.kp kf (by decide) (by decide) hd
                        refine r_callV (As := [_, _, _, _]) rfl (by decide) rfl (by first | exact hM.1 | assumption) rfl rfl (Nat.le_of_ble_eq_true rfl) ⟨Nat.le_of_ble_eq_true rfl, Nat.le_of_ble_eq_true rfl⟩ (c_M_lookS (S := sD (sT S []) dn) (p := fr) (e := fr + nn) hdρ (hXp.kp kf (by decide) (by decide)) ii2 k6 (by omega) (by omega)) (kc' := 0) (ks' := 0) (by omega) (by omega) (by decide) ?_
                        rintro r ξ ⟨rfl, xf, x755, x756⟩
                        rw [show fr + nn - fr = nn by omega, mnLd] at x755 x756
                        refine r_goto rfl ?_
                        exact ih2 ξ (by omega) (by omega) hfd (kf.tr xf) x755 x756
              -- the run
              have run : ∀ (dd jj : Nat), jj + dd = rl → Gm l D m_M_read 0 0 Q 147 [some (va_rf (some o)), some (.int (nI ii)), some (.int (nI dn.length)), some (.int (nI p)), some (.int (nI kk)), some (.int (nI fr)), some (.int (nI (fr + jj))), z7] [] π 0 0 := by
                intro dd
                induction dd with
                | zero =>
                  intro jj hjj
                  have hjr : jj = rl := by omega
                  subst hjr
                  refine r_aload_n rfl rfl ?_
                  refine r_iload rfl rfl ?_
                  refine r_callV (As := [_]) rfl (by decide) rfl (by first | exact hM.1 | assumption) rfl rfl (Nat.le_of_ble_eq_true rfl) ⟨Nat.le_of_ble_eq_true rfl, Nat.le_of_ble_eq_true rfl⟩ (hXp.see hM (by omega)) (kc' := 0) (ks' := 0) (by omega) (by omega) (by decide) ?_
                  rintro r π ⟨rfl, rfl⟩
                  refine r_callS (As := [_]) rfl (by decide) rfl rfl rfl (Nat.le_of_ble_eq_true rfl) ⟨Nat.le_of_ble_eq_true rfl, Nat.le_of_ble_eq_true rfl⟩ (c_M_isOfRun) (kc' := 0) (ks' := 0) (by omega) (by omega) ?_
                  rintro r π ⟨rfl, rfl⟩
                  rw [hrn.2]
                  refine r_ifeqB rfl (fun _ => ?_) (fun hb => by cases hb)
                  refine r_iload rfl rfl ?_
                  refine r_istore rfl (by decide) ?_
                  refine r_aload_n rfl rfl ?_
                  refine r_iload_n rfl rfl ?_
                  refine r_iload rfl rfl ?_
                  refine r_iload rfl rfl ?_
                  refine r_iload rfl rfl ?_
                  refine r_callV (As := [_, _, _, _]) rfl (by decide) rfl (by first | exact hM.1 | assumption) rfl rfl (Nat.le_of_ble_eq_true rfl) ⟨Nat.le_of_ble_eq_true rfl, Nat.le_of_ble_eq_true rfl⟩ (c_M_lookS (S := sD (sT S []) dn) (p := fr) (e := fr + jj) hd hXp ii2 k6 (by omega) (by omega)) (kc' := 0) (ks' := 0) (by omega) (by omega) (by decide) ?_
                  rintro r ξ ⟨rfl, xf, x755, x756⟩
                  rw [show fr + jj - fr = jj by omega, mnLd] at x755 x756
                  exact looked jj ξ hr0 (Nat.le_refl _) rfl xf x755 x756
                | succ dd ih3 =>
                  intro jj hjj
                  refine r_aload_n rfl rfl ?_
                  refine r_iload rfl rfl ?_
                  refine r_callV (As := [_]) rfl (by decide) rfl (by first | exact hM.1 | assumption) rfl rfl (Nat.le_of_ble_eq_true rfl) ⟨Nat.le_of_ble_eq_true rfl, Nat.le_of_ble_eq_true rfl⟩ (hXp.see hM (by omega)) (kc' := 0) (ks' := 0) (by omega) (by omega) (by decide) ?_
                  rintro r π ⟨rfl, rfl⟩
                  refine r_callS (As := [_]) rfl (by decide) rfl rfl rfl (Nat.le_of_ble_eq_true rfl) ⟨Nat.le_of_ble_eq_true rfl, Nat.le_of_ble_eq_true rfl⟩ (c_M_isOfRun) (kc' := 0) (ks' := 0) (by omega) (by omega) ?_
                  rintro r π ⟨rfl, rfl⟩
                  rw [(hrn.1 jj (by omega)).2]
                  refine r_ifeqB rfl (fun hb => by cases hb) (fun _ => ?_)
                  refine r_iinc rfl rfl (nI_inc _) ?_
                  refine r_goto rfl ?_
                  exact ih3 (jj + 1) (by omega)
              exact run rl 0 (by omega)
          have hkA : (decide (p = 0) || !isL (seeB xs (p - 1))) = true → Gm l D m_M_read 0 0 Q 65 [some (va_rf (some o)), some (.int (nI ii)), some (.int (nI dn.length)), some (.int (nI p)), some (.int (-1)), z5, z6, z7] [] π 0 0 := by
            intro hcond
            refine r_iconst (v := nI 0) rfl (by decide) ?_
            refine r_istore rfl (by decide) ?_
            have kinds : ∀ (dd qq : Nat) (ko : Option Nat), qq + dd = 6 → ko = (List.range qq).find? (fun k => stB xs (s_w S k) p && isR (seeB xs (p + (s_w S k).length + 1))) → Gm l D m_M_read 0 0 Q 68 [some (va_rf (some o)), some (.int (nI ii)), some (.int (nI dn.length)), some (.int (nI p)), some (.int (oI ko)), some (.int (nI qq)), z6, z7] [] π 0 0 := by
              intro dd
              induction dd with
              | zero =>
                intro qq ko hqq hko
                refine r_iload rfl rfl ?_
                refine r_bipush (v := nI 6) rfl (by decide) ?_
                refine r_geN rfl (by omega) (by omega) (fun _ => ?_) (fun hlt2 => by omega)
                rw [show qq = 6 by omega] at hko
                refine found ko ?_ (fun k hk => ?_) _
                · unfold kAt
                  rw [if_pos hcond, hko]
                · rw [hk] at hko
                  have hm := List.mem_range.mp (List.mem_of_find?_eq_some hko.symm)
                  have hp2 := List.find?_some hko.symm
                  simp only [Bool.and_eq_true] at hp2
                  exact ⟨hm, hp2.1, hp2.2⟩
              | succ dd ih4 =>
                intro qq ko hqq hko
                have hnext : (List.range (qq + 1)).find? (fun k => stB xs (s_w S k) p && isR (seeB xs (p + (s_w S k).length + 1))) = ko.or (if (stB xs (s_w S qq) p && isR (seeB xs (p + (s_w S qq).length + 1))) = true then some qq else none) := by
                  rw [List.range_succ, List.find?_append, ← hko, List.find?_cons]
                  cases (stB xs (s_w S qq) p && isR (seeB xs (p + (s_w S qq).length + 1))) <;> rfl
                have ih4 := fun ko => ih4 (qq + 1) ko (by omega)
                rw [hnext] at ih4
                refine r_iload rfl rfl ?_
                refine r_bipush (v := nI 6) rfl (by decide) ?_
                refine r_geN rfl (by omega) (by omega) (fun hge2 => by omega) (fun _ => ?_)
                refine r_aload_n rfl rfl ?_
                refine r_iload_n rfl rfl ?_
                refine r_iload rfl rfl ?_
                refine r_callV (As := [_, _]) rfl (by decide) rfl (by first | exact hM.1 | assumption) rfl rfl (Nat.le_of_ble_eq_true rfl) ⟨Nat.le_of_ble_eq_true rfl, Nat.le_of_ble_eq_true rfl⟩ (c_M_standsS hM hXp (by omega) (show qq < 6 by omega) (hwd qq (by omega)) (hwl qq (by omega)).2) (kc' := 0) (ks' := 0) (by omega) (by omega) (by decide) ?_
                rintro r π ⟨rfl, rfl⟩
                have same : ∀ ko', ko' = ko → ko.or (if (stB xs (s_w S qq) p && isR (seeB xs (p + (s_w S qq).length + 1))) = true then some qq else none) = ko → Gm l D m_M_read 0 0 Q 112 [some (va_rf (some o)), some (.int (nI ii)), some (.int (nI dn.length)), some (.int (nI p)), some (.int (oI ko')), some (.int (nI qq)), z6, z7] [] π 0 0 := by
                  rintro ko' rfl hor
                  refine r_iinc rfl rfl (nI_inc _) ?_
                  refine r_goto rfl ?_
                  exact ih4 ko' hor.symm
                refine r_ifeqB rfl (fun hb => same ko rfl (by rw [hb]; cases ko <;> rfl)) (fun hb => ?_)
                rw [hb] at ih4
                refine r_iload rfl rfl ?_
                refine r_iconst (v := -1) rfl (by decide) ?_
                cases ko with
                | none =>
                  refine r_icmp_eq rfl (fun _ => ?_) (fun hne => absurd rfl hne)
                  refine r_iload rfl rfl ?_
                  refine r_istore rfl (by decide) ?_
                  refine r_iinc rfl rfl (nI_inc _) ?_
                  refine r_goto rfl ?_
                  exact ih4 (some qq) rfl
                | some k0 =>
                  have hm := List.mem_range.mp (List.mem_of_find?_eq_some hko.symm)
                  have hp2 := List.find?_some hko.symm
                  simp only [Bool.and_eq_true] at hp2 hb
                  refine r_icmp_eq rfl (fun heq => absurd heq (nI_m1 k0 (by omega))) (fun _ => ?_)
                  show Gm l D m_M_read 0 0 Q 91 [some (va_rf (some o)), some (.int (nI ii)), some (.int (nI dn.length)), some (.int (nI p)), some (.int (nI k0)), some (.int (nI qq)), z6, z7] [] π 0 0
                  have hl1 := hwl qq (by omega)
                  have hl2 := hwl k0 (by omega)
                  have hsl := st_len hb8 hl1.2 hl2.2 hb.1 hp2.1
                  refine r_aload_n rfl rfl ?_
                  refine r_mg (j := 2) hM rfl rfl (by decide) ?_
                  refine r_iload rfl rfl ?_
                  refine r_mi (j := 2) hM rfl rfl (by decide) rfl (show _ < 6 by omega) ?_
                  rw [(hwd qq (by omega)).1]
                  refine r_aload_n rfl rfl ?_
                  refine r_mg (j := 2) hM rfl rfl (by decide) ?_
                  refine r_iload rfl rfl ?_
                  refine r_mi (j := 2) hM rfl rfl (by decide) rfl (show _ < 6 by omega) ?_
                  rw [(hwd k0 (by omega)).1]
                  exact r_leN rfl (by omega) (by omega) (fun _ => same (some k0) rfl rfl) (fun hgt => by omega)
            exact kinds 6 0 none (by omega) rfl
          refine r_iload_n rfl rfl ?_
          by_cases hp0 : p = 0
          · rw [hp0]
            refine r_if_eq rfl (fun _ => ?_) (fun hne => absurd rfl hne)
            have := hkA (by rw [decide_eq_true hp0]; rfl)
            rw [hp0] at this
            exact this
          · refine r_if_eq rfl (fun heq => absurd heq (nI_ne0 (by omega) (by omega))) (fun _ => ?_)
            refine r_aload_n rfl rfl ?_
            refine r_iload_n rfl rfl ?_
            refine r_iconst (v := nI 1) rfl (by decide) ?_
            refine r_isubN rfl (by omega) ?_
            refine r_callV (As := [_]) rfl (by decide) rfl (by first | exact hM.1 | assumption) rfl rfl (Nat.le_of_ble_eq_true rfl) ⟨Nat.le_of_ble_eq_true rfl, Nat.le_of_ble_eq_true rfl⟩ (hXp.see hM (by omega)) (kc' := 0) (ks' := 0) (by omega) (by omega) (by decide) ?_
            rintro r π ⟨rfl, rfl⟩
            refine r_callS (As := [_]) rfl (by decide) rfl rfl rfl (Nat.le_of_ble_eq_true rfl) ⟨Nat.le_of_ble_eq_true rfl, Nat.le_of_ble_eq_true rfl⟩ (c_M_isLetter) (kc' := 0) (ks' := 0) (by omega) (by omega) ?_
            rintro r π ⟨rfl, rfl⟩
            refine r_ifneB rfl (fun hb => ?_) (fun hb => hkA (by rw [hb, Bool.or_comm]; rfl))
            refine found none ?_ (fun k hk => by cases hk) _
            unfold kAt
            rw [if_neg (by rw [decide_eq_false hp0, hb]; decide)]
    have hf0 : MFr [35, 36, 37, 38, 39] [748, 755, 756] τ2 (w_I τ2 748 o (nI 0)) o := MFr.I _ _ (by decide)
    exact main 601 0 _ [] none none none none (by omega) (by omega) (hd0.d hf0 ⟨hI_w _ _ _ _, fun i f t k m q _ hq => (by cases hq)⟩) (hX0.kp hf0 (by decide) (by decide)) (hfw2.tr (hf0.wide (by decide) (by decide))) (Nat.le_refl _) (hAll.symm.trans (List.nil_append _).symm)
  · refine r_bipush (v := -2) rfl (by decide) ?_
    refine r_iret rfl rfl ?_
    rw [← hQ]
    show _ = some (Value.int (a_read S v).1) ∧ RM τ o (a_read S v).2 ∧ _
    unfold a_read
    rw [isTh_none hq1]
    exact ⟨rfl, hR, hfw⟩
end MC
