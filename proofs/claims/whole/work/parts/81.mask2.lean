/-! ===== the reference: twins, count, mention, frozen, leads ===== -/
theorem cntB_no {p : Nat → Bool} {n : Nat} (h : ∀ y, y < n → p y = false) : cntB p n = 0 := by
  induction n with
  | zero => rfl
  | succ n ih => rw [cntB, ih (fun y hy => h y (by omega)), h n (by omega)]; rfl
theorem sumN_le {f : Nat → Nat} {m : Nat} (n : Nat) (h : ∀ x, f x ≤ m) : sumN f n ≤ n * m := by
  induction n with
  | zero => exact Nat.zero_le _
  | succ n ih =>
    rw [sumN, Nat.succ_mul]
    have := h n
    omega
section MC
variable {l : Launch} {D : DD} {σ : Hp} {o : Nat}
set_option maxHeartbeats 1000000 in
theorem c_M_twinsS {S : Sp} (h : RM σ o S) : Cn l D m_M_twins 0 0 [va_rf (some o)] σ (fun r τ => r = some (.int (a_twins S)) ∧ RM τ o S ∧ MFr mAR mAI σ τ o) := by
  have hM := h.1
  have hS := h.2.1
  have hW := hS.wf
  have hn9 := hS.1
  generalize hQ : (fun (r : Option Value) (τ : Hp) => r = some (.int (a_twins S)) ∧ RM τ o S ∧ MFr mAR mAI σ τ o) = Q
  refine Cn.of (by decide) (by repeat (first | exact ca_0 | refine ca_i ?_ | refine ca_r ?_)) (Nat.le_of_ble_eq_true rfl) ?_
  refine r_aload_n rfl rfl ?_
  refine r_callV (As := []) rfl (by decide) rfl (by first | exact hM.1 | assumption) rfl rfl (Nat.le_of_ble_eq_true rfl) ⟨Nat.le_of_ble_eq_true rfl, Nat.le_of_ble_eq_true rfl⟩ (c_M_makeS h) (kc' := 0) (ks' := 0) (by omega) (by omega) (by decide) ?_
  rintro r τ ⟨rfl, hd, hf⟩
  have hfw : MFr mAR mAI σ τ o := hf.wide (by decide) (by decide)
  have hM := hd.1.1
  have hR := hd.1
  obtain ⟨t1, t2, t3, t4, t5⟩ := hd.1.rt
  have htx : ∀ x, x < s_n S → Tx τ o 18 19 x (n_n S x) := fun x hx => hd.tx hx
  refine r_iconst (v := nI 0) rfl (by decide) ?_
  refine r_istore_n rfl (by decide) ?_
  refine r_iconst (v := nI 0) rfl (by decide) ?_
  refine r_istore_n rfl (by decide) ?_
  have lp : ∀ (d x : Nat) (z3 : Option Value), x + d = s_n S → Gm l D m_M_twins 0 0 Q 8 [some (va_rf (some o)), some (.int (nI (sumN (fun x => cntB (fun y => decide (x < y) && twB S x y) (s_n S)) x))), some (.int (nI x)), z3] [] τ 0 0 := by
    intro d
    induction d with
    | zero =>
      intro x z3 hx
      refine r_iload_n rfl rfl ?_
      refine r_aload_n rfl rfl ?_
      (first | refine r_getIv rfl hM.1 rfl (by assumption) ?_ | refine r_getI rfl hM.1 rfl ?_)
      refine r_geN rfl (by omega) (by omega) (fun _ => ?_) (fun q => by omega)
      refine r_iload_n rfl rfl ?_
      refine r_iret rfl rfl ?_
      rw [← hQ]
      refine ⟨?_, hR, hfw⟩
      rw [show x = s_n S by omega]
      rfl
    | succ d ih =>
      intro x z3 hx
      refine r_iload_n rfl rfl ?_
      refine r_aload_n rfl rfl ?_
      (first | refine r_getIv rfl hM.1 rfl (by assumption) ?_ | refine r_getI rfl hM.1 rfl ?_)
      refine r_geN rfl (by omega) (by omega) (fun q => by omega) (fun _ => ?_)
      refine r_iload_n rfl rfl ?_
      refine r_iconst (v := nI 1) rfl (by decide) ?_
      (first | refine r_iaddN rfl ?_ | refine r_iadd rfl ?_)
      refine r_istore_n rfl (by decide) ?_
      have inn : ∀ (e y : Nat), y + e = s_n S → x < y → Gm l D m_M_twins 0 0 Q 20 [some (va_rf (some o)), some (.int (nI (sumN (fun x => cntB (fun y => decide (x < y) && twB S x y) (s_n S)) x + cntB (fun y => decide (x < y) && twB S x y) y))), some (.int (nI x)), some (.int (nI y))] [] τ 0 0 := by
        intro e
        induction e with
        | zero =>
          intro y hy hxy
          refine r_iload_n rfl rfl ?_
          refine r_aload_n rfl rfl ?_
          (first | refine r_getIv rfl hM.1 rfl (by assumption) ?_ | refine r_getI rfl hM.1 rfl ?_)
          refine r_geN rfl (by omega) (by omega) (fun _ => ?_) (fun q => by omega)
          refine r_iinc rfl rfl (nI_inc _) ?_
          refine r_goto rfl ?_
          have := ih (x + 1) (some (.int (nI y))) (by omega)
          rw [sumN, show cntB (fun y => decide (x < y) && twB S x y) (s_n S) = cntB (fun y => decide (x < y) && twB S x y) y by rw [show y = s_n S by omega]] at this
          exact this
        | succ e ih2 =>
          intro y hy hxy
          have ih2 := ih2 (y + 1) (by omega) (by omega)
          have hcn : cntB (fun y => decide (x < y) && twB S x y) (y + 1) = cntB (fun y => decide (x < y) && twB S x y) y + (twB S x y).toNat := by
            rw [cntB, decide_eq_true hxy, Bool.true_and]
          rw [hcn, ← Nat.add_assoc] at ih2
          generalize sumN (fun x => cntB (fun y => decide (x < y) && twB S x y) (s_n S)) x + cntB (fun y => decide (x < y) && twB S x y) y = c at ih2 ⊢
          have fin : ∀ (b : Bool), twB S x y = b → Gm l D m_M_twins 0 0 Q 74 [some (va_rf (some o)), some (.int (nI c)), some (.int (nI x)), some (.int (nI y))] [.int (nI b.toNat), .int (nI c)] τ 0 0 := by
            intro b hb
            rw [hb] at ih2
            (first | refine r_iaddN rfl ?_ | refine r_iadd rfl ?_)
            refine r_istore_n rfl (by decide) ?_
            refine r_iinc rfl rfl (nI_inc _) ?_
            refine r_goto rfl ?_
            exact ih2
          have no : twB S x y = false → Gm l D m_M_twins 0 0 Q 73 [some (va_rf (some o)), some (.int (nI c)), some (.int (nI x)), some (.int (nI y))] [.int (nI c)] τ 0 0 := by
            intro hb
            refine r_iconst (v := nI 0) rfl (by decide) ?_
            exact fin false hb
          refine r_iload_n rfl rfl ?_
          refine r_aload_n rfl rfl ?_
          (first | refine r_getIv rfl hM.1 rfl (by assumption) ?_ | refine r_getI rfl hM.1 rfl ?_)
          refine r_geN rfl (by omega) (by omega) (fun q => by omega) (fun _ => ?_)
          refine r_iload_n rfl rfl ?_
          refine r_aload_n rfl rfl ?_
          refine r_iload_n rfl rfl ?_
          refine r_callV (As := [_]) rfl (by decide) rfl (by first | exact hM.1 | assumption) rfl rfl (Nat.le_of_ble_eq_true rfl) ⟨Nat.le_of_ble_eq_true rfl, Nat.le_of_ble_eq_true rfl⟩ (c_M_isThere hM t1 hn9) (kc' := 0) (ks' := 0) (by omega) (by omega) (by decide) ?_
          rintro r τ ⟨rfl, rfl⟩
          rw [t3, isTh_T hW (by omega), decide_eq_true (show x < s_n S by omega), Bool.true_and]
          refine r_ifeqB rfl (fun q => no (by unfold twB; rw [q]; rfl)) (fun q1 => ?_)
          refine r_aload_n rfl rfl ?_
          refine r_iload_n rfl rfl ?_
          refine r_callV (As := [_]) rfl (by decide) rfl (by first | exact hM.1 | assumption) rfl rfl (Nat.le_of_ble_eq_true rfl) ⟨Nat.le_of_ble_eq_true rfl, Nat.le_of_ble_eq_true rfl⟩ (c_M_isThere hM t1 hn9) (kc' := 0) (ks' := 0) (by omega) (by omega) (by decide) ?_
          rintro r τ ⟨rfl, rfl⟩
          rw [t3, isTh_T hW (by omega), decide_eq_true (show y < s_n S by omega), Bool.true_and]
          refine r_ifeqB rfl (fun q => no (by unfold twB; rw [q, Bool.and_false]; rfl)) (fun q2 => ?_)
          refine r_aload_n rfl rfl ?_
          refine r_mg (j := 6) hM rfl rfl (by decide) ?_
          refine r_iload_n rfl rfl ?_
          refine r_mi (j := 6) hM rfl rfl (by decide) (by first | rfl | assumption) (show _ < 120 by omega) ?_
          refine r_aload_n rfl rfl ?_
          refine r_mg (j := 6) hM rfl rfl (by decide) ?_
          refine r_iload_n rfl rfl ?_
          refine r_mi (j := 6) hM rfl rfl (by decide) (by first | rfl | assumption) (show _ < 120 by omega) ?_
          rw [t2]
          refine r_neN rfl (by have := hS.2.1 x (by omega); omega) (by have := hS.2.1 y (by omega); omega) (fun q => no (by unfold twB; rw [decide_eq_false q, Bool.and_false]; rfl)) (fun q3 => ?_)
          refine r_aload_n rfl rfl ?_
          refine r_iload_n rfl rfl ?_
          refine r_iload_n rfl rfl ?_
          refine r_callV (As := [_, _]) rfl (by decide) rfl (by first | exact hM.1 | assumption) rfl rfl (Nat.le_of_ble_eq_true rfl) ⟨Nat.le_of_ble_eq_true rfl, Nat.le_of_ble_eq_true rfl⟩ (c_M_sameNumber hM (by omega) (by omega) (htx x (by omega)) (htx y (by omega))) (kc' := 0) (ks' := 0) (by omega) (by omega) (by decide) ?_
          rintro r τ ⟨rfl, rfl⟩
          refine r_ifeqB rfl (fun q => no (by unfold twB; rw [q, Bool.and_false])) (fun q4 => ?_)
          refine r_iconst (v := nI 1) rfl (by decide) ?_
          refine r_goto rfl ?_
          exact fin true (by unfold twB; rw [q1, q2, decide_eq_true q3, q4]; rfl)
      have := inn (s_n S - (x + 1)) (x + 1) (by omega) (by omega)
      rw [cntB_no (p := fun y => decide (x < y) && twB S x y) (n := x + 1) (fun y hy => by rw [decide_eq_false (by omega)]; rfl)] at this
      exact this
  exact lp (s_n S) 0 none (by omega)
set_option maxRecDepth 10000 in
set_option maxHeartbeats 1000000 in
theorem c_M_countS {S : Sp} {w : Int32} (h : RM σ o S) : Cn l D m_M_count 0 0 [va_rf (some o), .int w] σ (fun r τ => r = some (.int (a_count S w)) ∧ RM τ o S ∧ MFr mAR mAI σ τ o) := by
  have hM := h.1
  obtain ⟨-, hS, hT, hWd, hF, hG, -, hMe, hE, -⟩ := id h
  have hn := h.rt.1
  have h733 := hMe.1
  have h744 := hE.1
  have h716 : h_I σ 716 o = nI (s_l S).length := hG.2.1
  have h705 := hT.1
  have i0 : ∀ j, j < 2 ^ 31 → a_count S (nI j) = a_coN S j := fun j hj => by unfold a_count; rw [if_neg (nI_pos hj), nI_clamp hj]
  have oth : ∀ j, a_coN S (j + 6) = if 10 ≤ (j + 6) ∧ (j + 6) ≤ 15 then nI (f_c (s_f S) ((j + 6) - 10)) else if 20 ≤ (j + 6) ∧ (j + 6) ≤ 25 then nI (f_y (s_f S) ((j + 6) - 20)) else if 30 ≤ (j + 6) ∧ (j + 6) ≤ 35 then nI (f_j (s_f S) ((j + 6) - 30)) else if 40 ≤ (j + 6) ∧ (j + 6) ≤ 45 then nI (s_w S ((j + 6) - 40)).length else -1 := fun j => rfl
  have rng : ∀ (a : Nat), a < 1000 → inB w (nI a) (nI (a + 5)) = true → ∃ k, k < 6 ∧ w = nI (a + k) := by
    intro a ha q
    unfold inB at q
    simp only [Bool.and_eq_true, decide_eq_true_eq] at q
    have : ¬ w < 0 := by
      intro q0
      have h1 := Int32.le_iff_toInt_le.mp q.1
      have h2 := Int32.lt_iff_toInt_lt.mp q0
      rw [nI_toInt (by omega)] at h1
      have h2 : w.toInt < 0 := by simpa using h2
      omega
    obtain ⟨j, hj, rfl⟩ := nI_of this
    have h1 := (nI_leI (by omega) hj).mp q.1
    have h2 := (nI_leI hj (by omega)).mp q.2
    exact ⟨j - a, by omega, by congr 1; omega⟩
  have rng2 : ∀ (a j : Nat), a < 1000 → j < 2 ^ 31 → inB (nI j) (nI a) (nI (a + 5)) = false → ¬ (a ≤ j ∧ j ≤ a + 5) := by
    intro a j ha hj q w
    unfold inB at q
    rw [decide_eq_true (nI_le w.1 hj), decide_eq_true (nI_le w.2 (by omega))] at q
    cases q
  refine Cn.of (by decide) (by repeat (first | exact ca_0 | refine ca_i ?_ | refine ca_r ?_)) (Nat.le_of_ble_eq_true rfl) ?_
  refine r_iload_n rfl rfl ?_
  have out : (w < 0 ∨ ∃ j, 5 < j ∧ j < 2 ^ 31 ∧ w = nI j) → Gm l D m_M_count 0 0 (fun r τ => r = some (.int (a_count S w)) ∧ RM τ o S ∧ MFr mAR mAI σ τ o) 74 [some (va_rf (some o)), some (.int w)] [] σ 0 0 := by
    intro hw
    refine r_iload_n rfl rfl ?_
    refine r_bipush (v := nI 10) rfl (by decide) ?_
    refine r_bipush (v := nI 15) rfl (by decide) ?_
    refine r_callS (As := [_, _, _]) rfl (by decide) rfl rfl rfl (Nat.le_of_ble_eq_true rfl) ⟨Nat.le_of_ble_eq_true rfl, Nat.le_of_ble_eq_true rfl⟩ (c_M_in) (kc' := 0) (ks' := 0) (by omega) (by omega) ?_
    rintro r σ ⟨rfl, rfl⟩
    refine r_ifeqB rfl (fun q1 => ?_) (fun q1 => ?_)
    · refine r_iload_n rfl rfl ?_
      refine r_bipush (v := nI 20) rfl (by decide) ?_
      refine r_bipush (v := nI 25) rfl (by decide) ?_
      refine r_callS (As := [_, _, _]) rfl (by decide) rfl rfl rfl (Nat.le_of_ble_eq_true rfl) ⟨Nat.le_of_ble_eq_true rfl, Nat.le_of_ble_eq_true rfl⟩ (c_M_in) (kc' := 0) (ks' := 0) (by omega) (by omega) ?_
      rintro r σ ⟨rfl, rfl⟩
      refine r_ifeqB rfl (fun q2 => ?_) (fun q2 => ?_)
      · refine r_iload_n rfl rfl ?_
        refine r_bipush (v := nI 30) rfl (by decide) ?_
        refine r_bipush (v := nI 35) rfl (by decide) ?_
        refine r_callS (As := [_, _, _]) rfl (by decide) rfl rfl rfl (Nat.le_of_ble_eq_true rfl) ⟨Nat.le_of_ble_eq_true rfl, Nat.le_of_ble_eq_true rfl⟩ (c_M_in) (kc' := 0) (ks' := 0) (by omega) (by omega) ?_
        rintro r σ ⟨rfl, rfl⟩
        refine r_ifeqB rfl (fun q3 => ?_) (fun q3 => ?_)
        · refine r_iload_n rfl rfl ?_
          refine r_bipush (v := nI 40) rfl (by decide) ?_
          refine r_bipush (v := nI 45) rfl (by decide) ?_
          refine r_callS (As := [_, _, _]) rfl (by decide) rfl rfl rfl (Nat.le_of_ble_eq_true rfl) ⟨Nat.le_of_ble_eq_true rfl, Nat.le_of_ble_eq_true rfl⟩ (c_M_in) (kc' := 0) (ks' := 0) (by omega) (by omega) ?_
          rintro r σ ⟨rfl, rfl⟩
          refine r_ifeqB rfl (fun q4 => ?_) (fun q4 => ?_)
          · refine r_iconst (v := -1) rfl (by decide) ?_
            refine r_iret rfl rfl ⟨?_, h, MFr.rf _ _ _ _⟩
            rcases hw with hw | ⟨j, j1, j2, rfl⟩
            · unfold a_count
              rw [if_pos hw]
            · have n1 := rng2 10 j (by decide) j2 q1
              have n2 := rng2 20 j (by decide) j2 q2
              have n3 := rng2 30 j (by decide) j2 q3
              have n4 := rng2 40 j (by decide) j2 q4
              rw [i0 j j2]
              obtain ⟨i, rfl⟩ : ∃ i, j = i + 6 := ⟨j - 6, by omega⟩
              rw [oth, if_neg n1, if_neg n2, if_neg n3, if_neg n4]
          · obtain ⟨k, k1, rfl⟩ := rng 40 (by decide) q4
            refine r_aload_n rfl rfl ?_
            refine r_mg (j := 2) hM rfl rfl (by decide) ?_
            refine r_iload_n rfl rfl ?_
            refine r_bipush (v := nI 40) rfl (by decide) ?_
            refine r_isubN rfl (by omega) ?_
            rw [show 40 + k - 40 = k by omega]
            refine r_mi (j := 2) hM rfl rfl (by decide) rfl (show _ < 6 by omega) ?_
            rw [(hWd k k1).1]
            refine r_goto rfl ?_
            refine r_iret rfl rfl ⟨?_, h, MFr.rf _ _ _ _⟩
            rw [i0 _ (by omega), show 40 + k = (34 + k) + 6 by omega, oth, if_neg (by omega), if_neg (by omega), if_neg (by omega), if_pos (by omega), show 34 + k + 6 - 40 = k by omega]
        · obtain ⟨k, k1, rfl⟩ := rng 30 (by decide) q3
          refine r_aload_n rfl rfl ?_
          refine r_mg (j := 5) hM rfl rfl (by decide) ?_
          refine r_iload_n rfl rfl ?_
          refine r_bipush (v := nI 30) rfl (by decide) ?_
          refine r_isubN rfl (by omega) ?_
          rw [show 30 + k - 30 = k by omega]
          refine r_mi (j := 5) hM rfl rfl (by decide) rfl (show _ < 6 by omega) ?_
          rw [(hF k k1).2.2]
          refine r_iret rfl rfl ⟨?_, h, MFr.rf _ _ _ _⟩
          rw [i0 _ (by omega), show 30 + k = (24 + k) + 6 by omega, oth, if_neg (by omega), if_neg (by omega), if_pos (by omega), show 24 + k + 6 - 30 = k by omega]
      · obtain ⟨k, k1, rfl⟩ := rng 20 (by decide) q2
        refine r_aload_n rfl rfl ?_
        refine r_mg (j := 4) hM rfl rfl (by decide) ?_
        refine r_iload_n rfl rfl ?_
        refine r_bipush (v := nI 20) rfl (by decide) ?_
        refine r_isubN rfl (by omega) ?_
        rw [show 20 + k - 20 = k by omega]
        refine r_mi (j := 4) hM rfl rfl (by decide) rfl (show _ < 6 by omega) ?_
        rw [(hF k k1).2.1]
        refine r_iret rfl rfl ⟨?_, h, MFr.rf _ _ _ _⟩
        rw [i0 _ (by omega), show 20 + k = (14 + k) + 6 by omega, oth, if_neg (by omega), if_pos (by omega), show 14 + k + 6 - 20 = k by omega]
    · obtain ⟨k, k1, rfl⟩ := rng 10 (by decide) q1
      refine r_aload_n rfl rfl ?_
      refine r_mg (j := 3) hM rfl rfl (by decide) ?_
      refine r_iload_n rfl rfl ?_
      refine r_bipush (v := nI 10) rfl (by decide) ?_
      refine r_isubN rfl (by omega) ?_
      rw [show 10 + k - 10 = k by omega]
      refine r_mi (j := 3) hM rfl rfl (by decide) rfl (show _ < 6 by omega) ?_
      rw [(hF k k1).1]
      refine r_iret rfl rfl ⟨?_, h, MFr.rf _ _ _ _⟩
      rw [i0 _ (by omega), show 10 + k = (4 + k) + 6 by omega, oth, if_pos (by omega), show 4 + k + 6 - 10 = k by omega]
  rcases sw_in (w := w) 5 (by decide) with ⟨w1, w2⟩ | ⟨j, j1, rfl⟩
  · exact r_tswOut rfl w1 (tgt := 74) (by decide) (out w2)
  · clear out rng rng2 oth
    match j, j1 with
    | 0, _ =>
      refine r_tswIn rfl (by decide) (by decide) (off := 39) (by decide) (tgt := 40) (by decide) ?_
      refine r_aload_n rfl rfl ?_
      (first | refine r_getIv rfl hM.1 rfl (by assumption) ?_ | refine r_getI rfl hM.1 rfl ?_)
      exact r_iret rfl rfl ⟨by rw [i0 0 (by decide)]; rfl, h, MFr.rf _ _ _ _⟩
    | 1, _ =>
      refine r_tswIn rfl (by decide) (by decide) (off := 44) (by decide) (tgt := 45) (by decide) ?_
      refine r_aload_n rfl rfl ?_
      refine r_callV (As := []) rfl (by decide) rfl (by first | exact hM.1 | assumption) rfl rfl (Nat.le_of_ble_eq_true rfl) ⟨Nat.le_of_ble_eq_true rfl, Nat.le_of_ble_eq_true rfl⟩ (c_M_makeS h) (kc' := 0) (ks' := 0) (by omega) (by omega) (by decide) ?_
      rintro r τ ⟨rfl, hd, hf⟩
      have hM := hd.1.1
      have h724 := hd.2.2.1
      refine r_aload_n rfl rfl ?_
      (first | refine r_getIv rfl hM.1 rfl (by assumption) ?_ | refine r_getI rfl hM.1 rfl ?_)
      exact r_iret rfl rfl ⟨by rw [i0 1 (by decide)]; rfl, hd.1, hf.wide (by decide) (by decide)⟩
    | 2, _ =>
      refine r_tswIn rfl (by decide) (by decide) (off := 53) (by decide) (tgt := 54) (by decide) ?_
      refine r_aload_n rfl rfl ?_
      (first | refine r_getIv rfl hM.1 rfl (by assumption) ?_ | refine r_getI rfl hM.1 rfl ?_)
      exact r_iret rfl rfl ⟨by rw [i0 2 (by decide)]; rfl, h, MFr.rf _ _ _ _⟩
    | 3, _ =>
      refine r_tswIn rfl (by decide) (by decide) (off := 58) (by decide) (tgt := 59) (by decide) ?_
      refine r_aload_n rfl rfl ?_
      (first | refine r_getIv rfl hM.1 rfl (by assumption) ?_ | refine r_getI rfl hM.1 rfl ?_)
      exact r_iret rfl rfl ⟨by rw [i0 3 (by decide)]; rfl, h, MFr.rf _ _ _ _⟩
    | 4, _ =>
      refine r_tswIn rfl (by decide) (by decide) (off := 63) (by decide) (tgt := 64) (by decide) ?_
      refine r_aload_n rfl rfl ?_
      (first | refine r_getIv rfl hM.1 rfl (by assumption) ?_ | refine r_getI rfl hM.1 rfl ?_)
      exact r_iret rfl rfl ⟨by rw [i0 4 (by decide)]; rfl, h, MFr.rf _ _ _ _⟩
    | 5, _ =>
      refine r_tswIn rfl (by decide) (by decide) (off := 68) (by decide) (tgt := 69) (by decide) ?_
      refine r_aload_n rfl rfl ?_
      (first | refine r_getIv rfl hM.1 rfl (by assumption) ?_ | refine r_getI rfl hM.1 rfl ?_)
      exact r_iret rfl rfl ⟨by rw [i0 5 (by decide)]; rfl, h, MFr.rf _ _ _ _⟩
    | j + 6, h9 => omega
end MC
