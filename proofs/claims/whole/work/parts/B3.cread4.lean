/-! ===== the class: the reader, at last: readTape, read ===== -/
section RD
variable {l : Launch} {D : DD} {σ : Hp} {c B : Nat} {ow ad : Nat → Nat} {S : Sp}
set_option maxHeartbeats 1000000 in
theorem c_readTape {i : Nat} (g0 : RCd ow σ c ad B S) (hi : t_h (s_T S) i = true) : Cn l D m_Reader_readTape 0 0 [va_rf (some (c + 41)), va_rf (some (ad i))] σ (fun r τ => r = some (.int (nI (rdL S i (s_t S) 601 0).length)) ∧ RCd ow τ c ad B (sD S (rdL S i (s_t S) 601 0)) ∧ Fm ow rdI [] [8] σ τ) := by
  obtain ⟨k41, p384, p385, p386, k42, l42, k1, i193, hl, k3, p576, k4⟩ := g0.rdr
  generalize hR : rdL S i (s_t S) 601 0 = R
  generalize hQ : (fun (r : Option Value) (τ : Hp) => r = some (.int (nI R.length)) ∧ RCd ow τ c ad B (sD S R) ∧ Fm ow rdI [] [8] σ τ) = Q
  refine Cn.of (by decide) (by repeat (first | exact ca_0 | refine ca_i ?_ | refine ca_r ?_)) (Nat.le_of_ble_eq_true rfl) ?_
  have loop : ∀ (f p : Nat) (ds : List Fi) (τ : Hp), (s_t S).length < f + p → p ≤ (s_t S).length → ds.length ≤ p → ds ++ rdL S i (s_t S) f p = R → RCd ow τ c ad B (sD S ds) → Fm ow rdI [] [8] σ τ → Gm l D m_Reader_readTape 0 0 Q 7 [some (va_rf (some (c + 41))), some (va_rf (some (ad i))), some (.int (nI p))] [] τ 0 0 := by
    intro f
    induction f with
    | zero => intro p ds τ h1 h2; omega
    | succ f ih =>
      intro p ds τ h1 h2 h3 h4 g fr
      obtain ⟨k41, p384, p385, p386, k42, l42, k1, i193, -, k3, p576, k4⟩ := g.rdr
      have i193 : h_I τ 193 (c + 1) = nI (s_t S).length := i193
      have i387 : h_I τ 387 (c + 41) = nI ds.length := g.1.2.2.2.2.2.2.2.2.2.2.2.1.1
      have er : rdL S i (s_t S) (f + 1) p = if (s_t S).length ≤ p then [] else match kAt S (s_t S) p with
        | none => rdL S i (s_t S) f (p + 1)
        | some k => fiA S i (s_t S) p k :: rdL S i (s_t S) f (fiA S i (s_t S) p k).2.1 := rfl
      rw [er] at h4
      refine r_iload_n rfl rfl ?_
      refine r_aload_n rfl rfl ?_
      (first | refine r_getPv rfl (by first | assumption | rfl) rfl (by assumption) ?_ | refine r_getP rfl (by first | assumption | rfl) rfl ?_)
      (first | refine r_getIv rfl (by first | assumption | rfl) rfl (by assumption) ?_ | refine r_getI rfl (by first | assumption | rfl) rfl ?_)
      refine r_geN rfl (by omega) (by omega) (fun hge => ?_) (fun hlt => ?_)
      · rw [if_pos hge, List.append_nil] at h4
        subst h4
        refine r_aload_n rfl rfl ?_
        (first | refine r_getIv rfl (by first | assumption | rfl) rfl (by assumption) ?_ | refine r_getI rfl (by first | assumption | rfl) rfl ?_)
        refine r_iret rfl rfl ?_
        rw [← hQ]
        exact ⟨rfl, g, fr⟩
      · rw [if_neg (by omega)] at h4
        refine r_iload_n rfl rfl ?_
        refine r_iconst (v := nI 1) rfl (by decide) ?_
        (first | refine r_iaddN rfl ?_ | refine r_iadd rfl ?_)
        refine r_aload_n rfl rfl ?_
        refine r_iload_n rfl rfl ?_
        refine r_aload_n rfl rfl ?_
        refine r_callV (As := [_, _]) rfl (by decide) rfl k41 rfl rfl (Nat.le_of_ble_eq_true rfl) ⟨Nat.le_of_ble_eq_true rfl, Nat.le_of_ble_eq_true rfl⟩ (c_endOfFinding (S := sD S ds) (p := p) (i := i) g hi hlt (show ds.length ≤ 600 by omega)) (kc' := 0) (ks' := 0) (by omega) (by omega) (by decide) ?_
        rintro r τ1 ⟨f1, hk⟩
        have fr1 := fr.tr f1
        rcases hk with ⟨hn, rfl, g1⟩ | ⟨k, hk, rfl, hp1, hp2, g1⟩
        · have hn : kAt S (s_t S) p = none := hn
          rw [hn] at h4
          have h4 : ds ++ rdL S i (s_t S) f (p + 1) = R := h4
          refine r_callS (As := [_, _]) rfl (by decide) rfl rfl rfl (Nat.le_of_ble_eq_true rfl) ⟨Nat.le_of_ble_eq_true rfl, Nat.le_of_ble_eq_true rfl⟩ (c_max) (kc' := 0) (ks' := 0) (by omega) (by omega) ?_
          rintro r τ1 ⟨rfl, rfl⟩
          rw [if_neg (by have := nI_lt (show p < p + 1 by omega) (by omega); exact Int32.not_lt.mpr (Int32.le_of_lt this))]
          refine r_istore_n rfl (by decide) ?_
          refine r_goto rfl ?_
          exact ih (p + 1) ds τ1 (by omega) (by omega) (by omega) h4 g1 fr1
        · have hk : kAt S (s_t S) p = some k := hk
          rw [hk] at h4
          have h4 : ds ++ fiA S i (s_t S) p k :: rdL S i (s_t S) f (fiA S i (s_t S) p k).2.1 = R := h4
          have e0 : fiA (sD S ds) i (s_t (sD S ds)) p k = fiA S i (s_t S) p k := fiA_d ds i (s_t S) p k
          rw [e0] at hp1 hp2 g1 ⊢
          have hp2 : (fiA S i (s_t S) p k).2.1 ≤ (s_t S).length := hp2
          have g1 : RCd ow τ1 c ad B (sD S (ds ++ [fiA S i (s_t S) p k])) := g1
          generalize hF : fiA S i (s_t S) p k = F at h4 hp1 hp2 g1 ⊢
          have hnx : (if nI (p + 1) < nI F.2.1 then nI F.2.1 else nI (p + 1)) = nI F.2.1 := by
            by_cases e : p + 1 = F.2.1
            · rw [← e]; split <;> rfl
            · rw [if_pos (nI_lt (by omega) (by omega))]
          refine r_callS (As := [_, _]) rfl (by decide) rfl rfl rfl (Nat.le_of_ble_eq_true rfl) ⟨Nat.le_of_ble_eq_true rfl, Nat.le_of_ble_eq_true rfl⟩ (c_max) (kc' := 0) (ks' := 0) (by omega) (by omega) ?_
          rintro r τ1 ⟨rfl, rfl⟩
          rw [hnx]
          refine r_istore_n rfl (by decide) ?_
          refine r_goto rfl ?_
          refine ih F.2.1 (ds ++ [F]) τ1 (by omega) hp2 (by rw [List.length_append, List.length_singleton]; omega) ?_ g1 fr1
          rw [List.append_assoc]
          exact h4
  refine r_aload_n rfl rfl ?_
  refine r_iconst (v := nI 0) rfl (by decide) ?_
  refine r_putI rfl (by first | assumption | rfl) rfl (by first | exact Or.inl rfl | exact Or.inr ⟨rfl, rfl⟩) (by first | rfl | decide | assumption) (by first | rfl | decide) ?_
  refine r_iconst (v := nI 0) rfl (by decide) ?_
  refine r_istore_n rfl (by decide) ?_
  have f1 : Fm ow rdI [] [8] σ (w_I σ 387 (c + 41) (nI 0)) := Fm.I _ _ _ (by decide)
  refine loop 601 0 [] _ (by omega) (Nat.zero_le _) (Nat.zero_le _) (by rw [List.nil_append]; exact hR) (g0.rd f1 ⟨?_, Nat.zero_le _, fun i f t k m q _ hq => by cases hq⟩) f1
  rw [hI_w]
  rfl
theorem c_NK_read {v : Int32} (g : RC ow σ c ad B S) : Cn l D m_NK_read 0 0 [va_rf (some c), .int v] σ (fun r τ => r = some (.int (a_read S v).1) ∧ ∃ ow' ad', RC ow' τ c ad' (B + 200) (a_read S v).2 ∧ CFm ow ow' σ τ) := by
  obtain ⟨k0, p0, o1, o2, ln, hl⟩ := g.tape
  have hS := g.1
  have k3 : h_K σ (c + 3) = 10 := g.2.1.2.1 (3, 10) (by decide)
  have p641 : h_P σ 641 c = some (c + 3) := g.2.1.2.2.1 (641, 0, 3) (by decide)
  have k35 : h_K σ (c + 35) = 6 := g.2.1.2.1 (35, 6) (by decide)
  have p642 : h_P σ 642 c = some (c + 35) := g.2.1.2.2.1 (642, 0, 35) (by decide)
  have k1 := ln.1
  generalize hQ : (fun (r : Option Value) (τ : Hp) => r = some (.int (a_read S v).1) ∧ ∃ ow' ad', RC ow' τ c ad' (B + 200) (a_read S v).2 ∧ CFm ow ow' σ τ) = Q
  refine Cn.of (by decide) (by repeat (first | exact ca_0 | refine ca_i ?_ | refine ca_r ?_)) (Nat.le_of_ble_eq_true rfl) ?_
  -- the tape is empty at the end
  have fin : ∀ (τ : Hp) (w2 : Option Value) (r : Int32) (S' : Sp), RC ow τ c ad B S' → Fm ow cAI cAP cAR σ τ → a_read S v = (r, sT S' []) → Gm l D m_NK_read 0 0 Q 32 [some (va_rf (some c)), some (.int v), w2, some (.int r)] [] τ 0 0 := by
    intro τ w2 r S' g fr ha
    obtain ⟨k0, p0, o1, o2, ln, hl⟩ := g.tape
    have k1 := ln.1
    obtain ⟨l1, l2⟩ := ln.cut 0 (Nat.zero_le _)
    rw [List.take_zero] at l1
    obtain ⟨r1, r2⟩ := g.tapeTo l2 l1 (by simp)
    refine r_aload_n rfl rfl ?_
    (first | refine r_getPv rfl (by first | assumption | rfl) rfl (by assumption) ?_ | refine r_getP rfl (by first | assumption | rfl) rfl ?_)
    refine r_iconst (v := nI 0) rfl (by decide) ?_
    refine r_putI rfl (by first | assumption | rfl) rfl (by first | exact Or.inl rfl | exact Or.inr ⟨rfl, rfl⟩) (by first | rfl | decide | assumption) (by first | rfl | decide) ?_
    refine r_iload_n rfl rfl ?_
    refine r_iret rfl rfl ?_
    rw [← hQ]
    rw [ha]
    exact ⟨rfl, ow, ad, r1.more (by omega), CFm.pre fr r2⟩
  refine r_aload_n rfl rfl ?_
  (first | refine r_getPv rfl (by first | assumption | rfl) rfl (by assumption) ?_ | refine r_getP rfl (by first | assumption | rfl) rfl ?_)
  refine r_iload_n rfl rfl ?_
  refine r_callV (As := [_]) rfl (by decide) rfl k3 rfl rfl (Nat.le_of_ble_eq_true rfl) ⟨Nat.le_of_ble_eq_true rfl, Nat.le_of_ble_eq_true rfl⟩ (c_thereAs g.2.1 g.2.2.1 g.2.2.2.1 hS) (kc' := 0) (ks' := 0) (by omega) (by omega) (by decide) ?_
  rintro r σ ⟨rfl, rfl⟩
  refine r_astore_n rfl (by decide) ?_
  refine r_bipush (v := -2) rfl (by decide) ?_
  refine r_istore_n rfl (by decide) ?_
  refine r_aload_n rfl rfl ?_
  cases hx : thI S v with
  | none =>
    refine r_ifnull rfl (fun _ => ?_) (fun _ hq => by cases hq)
    refine fin σ _ (-2) S g (Fm.rf _ _ _ _ _) ?_
    unfold a_read
    rw [hx]
  | some x =>
    obtain ⟨hxn, hxt, hvx⟩ := thI_some hS hx
    refine r_ifnull rfl (fun hq => by cases hq) (fun _ _ => ?_)
    show Gm l D m_NK_read 0 0 Q 16 [some (va_rf (some c)), some (.int v), some (va_rf (some (ad x))), some (.int (-2))] [] σ 0 0
    refine r_aload_n rfl rfl ?_
    (first | refine r_getPv rfl (by first | assumption | rfl) rfl (by assumption) ?_ | refine r_getP rfl (by first | assumption | rfl) rfl ?_)
    refine r_callV (As := []) rfl (by decide) rfl k35 rfl rfl (Nat.le_of_ble_eq_true rfl) ⟨Nat.le_of_ble_eq_true rfl, Nat.le_of_ble_eq_true rfl⟩ (c_renew g) (kc' := 0) (ks' := 0) (by omega) (by omega) (by decide) ?_
    rintro r σ1 ⟨rfl, g1, f1, -⟩
    have fw : Fm ow cAI cAP cAR σ σ1 := f1.wide (by decide) (by decide) (by decide)
    have k01 : h_K σ1 c = 11 := g1.1.2.1.2.1 (0, 11) (by decide)
    have p650 : h_P σ1 650 c = some (c + 41) := g1.1.2.1.2.2.1 (650, 0, 41) (by decide)
    have k411 : h_K σ1 (c + 41) = 7 := g1.1.2.1.2.1 (41, 7) (by decide)
    refine r_aload_n rfl rfl ?_
    (first | refine r_getPv rfl (by first | assumption | rfl) rfl (by assumption) ?_ | refine r_getP rfl (by first | assumption | rfl) rfl ?_)
    refine r_aload_n rfl rfl ?_
    refine r_callV (As := [_]) rfl (by decide) rfl k411 rfl rfl (Nat.le_of_ble_eq_true rfl) ⟨Nat.le_of_ble_eq_true rfl, Nat.le_of_ble_eq_true rfl⟩ (c_readTape g1 hxt) (kc' := 0) (ks' := 0) (by omega) (by omega) (by decide) ?_
    rintro r σ2 ⟨rfl, g2, f2⟩
    refine r_istore_n rfl (by decide) ?_
    refine fin σ2 _ _ (sD S (rdL S x (s_t S) 601 0)) g2.1 (fw.tr (f2.wide (by decide) (by decide) (by decide))) ?_
    unfold a_read
    rw [hx]
    rfl
end RD
