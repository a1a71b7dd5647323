/-! ===== the reference: range, means, goneOf ===== -/
def rgP (S : Sp) (k a p : Nat) : List Nat := (((ordT (s_T S)).drop a).take (p - a)).filter (fun x => decide (s_k S x = k))
theorem rgP_0 (S : Sp) (k a : Nat) : rgP S k a a = [] := by
  unfold rgP
  rw [Nat.sub_self]
  rfl
theorem rgP_s {S : Sp} {k a p : Nat} (h : a ≤ p) (hp : p < (ordT (s_T S)).length) : rgP S k a (p + 1) = rgP S k a p ++ (if s_k S ((ordT (s_T S)).getD p 0) = k then [(ordT (s_T S)).getD p 0] else []) := by
  unfold rgP
  have h1 : p - a < ((ordT (s_T S)).drop a).length := by rw [List.length_drop]; omega
  have h2 : ((ordT (s_T S)).drop a)[p - a] = (ordT (s_T S)).getD p 0 := by
    rw [List.getElem_drop, List.getD_eq_getElem?_getD, List.getElem?_eq_getElem hp]
    show _ = (ordT (s_T S))[p]
    congr 1
    omega
  rw [show p + 1 - a = (p - a) + 1 by omega, List.take_succ_eq_append_getElem h1, List.filter_append, h2]
  congr 1
  rw [List.filter_cons]
  by_cases e : s_k S ((ordT (s_T S)).getD p 0) = k
  · rw [if_pos e, if_pos (decide_eq_true e)]; rfl
  · rw [if_neg e, if_neg (by rw [decide_eq_false e]; decide)]; rfl
theorem rgP_le {S : Sp} {k a p q : Nat} (h : p ≤ q) : (rgP S k a p).length ≤ (rgP S k a q).length := by
  unfold rgP
  apply List.Sublist.length_le
  apply List.Sublist.filter
  rw [show ((ordT (s_T S)).drop a).take (p - a) = (((ordT (s_T S)).drop a).take (q - a)).take (p - a) by rw [List.take_take, Nat.min_eq_left (by omega)]]
  exact List.take_sublist _ _
theorem rgP_mem {S : Sp} {k a p x : Nat} (hS : SOk S) (h : x ∈ rgP S k a p) : x < s_n S ∧ s_k S x = k := by
  unfold rgP at h
  rw [List.mem_filter, decide_eq_true_eq] at h
  have h1 := List.mem_of_mem_drop (List.mem_of_mem_take h.1)
  exact ⟨hS.wf.h_lt ((ord_mem hS.wf).mp h1), h.2⟩
def mtS (S : Sp) (m : List Nat) (x : Nat) : Bool := decide (x ∈ m.filterMap (ldo (s_T S)))
def goN (S : Sp) (m : List Nat) : Nat := (m.filter (fun x => decide (ldo (s_T S) x = none))).length
def gonM (S : Sp) (q : Mn) : Nat := if q.2.1 = 0 ∨ q.2.1 = 4 then (if ldo (s_T S) q.2.2.1 = none then 1 else 0) else goN S q.2.2.2.2
theorem ldo_m1 {S : Sp} (hS : SOk S) {x : Nat} (hx : x < s_n S) : (oI (ldo (s_T S) x) = -1 ↔ ldo (s_T S) x = none) := by
  cases e : ldo (s_T S) x with
  | none => exact ⟨fun _ => rfl, fun _ => rfl⟩
  | some y =>
    refine ⟨fun q => ?_, fun q => by cases q⟩
    have : y < 120 := by
      unfold ldo at e
      by_cases a : t_h (s_T S) (ld (s_T S) x) = true
      · rw [if_pos a] at e
        have := hS.wf.h_lt a
        have := hS.1
        have := Option.some.inj e
        omega
      · rw [if_neg a] at e; cases e
    exact absurd q (nI_m1 y (by omega))
theorem ldo_lt {S : Sp} (hS : SOk S) {x y : Nat} (e : ldo (s_T S) x = some y) : y < s_n S ∧ t_h (s_T S) y = true ∧ y = ld (s_T S) x := by
  unfold ldo at e
  by_cases a : t_h (s_T S) (ld (s_T S) x) = true
  · rw [if_pos a] at e
    have e := Option.some.inj e
    subst e
    exact ⟨hS.wf.h_lt a, a, rfl⟩
  · rw [if_neg a] at e; cases e
section MC
variable {l : Launch} {D : DD} {σ : Hp} {o : Nat}
set_option maxRecDepth 10000 in
set_option maxHeartbeats 1000000 in
theorem c_M_rangeS {S : Sp} {i k a b : Int32} (h : RM σ o S) : Cn l D m_M_range 0 0 [va_rf (some o), .int i, .int k, .int a, .int b] σ (fun r τ => r = some (.int (a_range S i k a b).1) ∧ RM τ o (a_range S i k a b).2 ∧ MFr mAR mAI σ τ o) := by
  have hM := h.1
  have hS := h.2.1
  have hW := hS.wf
  have hn9 := hS.1
  have hol := ord_len hW
  have hml := hS.2.2.2.2.2.2.2.1
  generalize hQ : (fun (r : Option Value) (τ : Hp) => r = some (.int (a_range S i k a b).1) ∧ RM τ o (a_range S i k a b).2 ∧ MFr mAR mAI σ τ o) = Q
  refine Cn.of (by decide) (by repeat (first | exact ca_0 | refine ca_i ?_ | refine ca_r ?_)) (Nat.le_of_ble_eq_true rfl) ?_
  refine r_aload_n rfl rfl ?_
  refine r_callV (As := []) rfl (by decide) rfl (by first | exact hM.1 | assumption) rfl rfl (Nat.le_of_ble_eq_true rfl) ⟨Nat.le_of_ble_eq_true rfl, Nat.le_of_ble_eq_true rfl⟩ (c_M_makeS h) (kc' := 0) (ks' := 0) (by omega) (by omega) (by decide) ?_
  rintro r τ ⟨rfl, hd, hf⟩
  have hfw : MFr mAR mAI σ τ o := hf.wide (by decide) (by decide)
  have hM := hd.1.1
  have hR := hd.1
  obtain ⟨t1, t2, t3, -⟩ := hR.rt
  obtain ⟨-, -, d1, d2, -⟩ := hd
  have hMe := hR.2.2.2.2.2.2.2.1
  have h733 := hMe.1
  have no : ∀ (z5 z6 z7 : Option Value) (pc : Nat), (pc = 48 ∨ pc = 107) → a_range S i k a b = (-2, S) → Gm l D m_M_range 0 0 Q pc [some (va_rf (some o)), some (.int i), some (.int k), some (.int a), some (.int b), z5, z6, z7] [] τ 0 0 := by
    intro z5 z6 z7 pc hpc e
    rcases hpc with rfl | rfl
    · refine r_bipush (v := -2) rfl (by decide) ?_
      refine r_iret rfl rfl ?_
      rw [← hQ]
      show _ = some (Value.int (a_range S i k a b).1) ∧ RM τ o (a_range S i k a b).2 ∧ _
      rw [e]
      exact ⟨rfl, hR, hfw⟩
    · refine r_bipush (v := -2) rfl (by decide) ?_
      refine r_iret rfl rfl ?_
      rw [← hQ]
      show _ = some (Value.int (a_range S i k a b).1) ∧ RM τ o (a_range S i k a b).2 ∧ _
      rw [e]
      exact ⟨rfl, hR, hfw⟩
  refine r_aload_n rfl rfl ?_
  refine r_iload_n rfl rfl ?_
  refine r_callV (As := [_]) rfl (by decide) rfl (by first | exact hM.1 | assumption) rfl rfl (Nat.le_of_ble_eq_true rfl) ⟨Nat.le_of_ble_eq_true rfl, Nat.le_of_ble_eq_true rfl⟩ (c_M_isThere hM t1 hn9) (kc' := 0) (ks' := 0) (by omega) (by omega) (by decide) ?_
  rintro r τ ⟨rfl, rfl⟩
  rw [t3]
  refine r_ifeqB rfl (fun q => no _ _ _ _ (Or.inl rfl) (by unfold a_range; rw [isTh_none q])) (fun q1 => ?_)
  obtain ⟨x, x1, x2, rfl, x4⟩ := isTh_some hS q1
  refine r_iload_n rfl rfl ?_
  refine r_callS (As := [_]) rfl (by decide) rfl rfl rfl (Nat.le_of_ble_eq_true rfl) ⟨Nat.le_of_ble_eq_true rfl, Nat.le_of_ble_eq_true rfl⟩ (c_M_isKind) (kc' := 0) (ks' := 0) (by omega) (by omega) ?_
  rintro r τ ⟨rfl, rfl⟩
  refine r_ifeqB rfl (fun q => no _ _ _ _ (Or.inl rfl) (by unfold a_range kiI; rw [x4, q]; rfl)) (fun q2 => ?_)
  obtain ⟨k', hk, rfl⟩ := inB_nI (m := 5) (by omega) q2
  have ea : a_range S (nI x) (nI k') a b = if (decide (0 ≤ a) && decide (a ≤ b) && decide (b < nI (ordT (s_T S)).length)) = true then (if 2 ≤ (rngL S k' a.toNatClampNeg b.toNatClampNeg).length ∧ (rngL S k' a.toNatClampNeg b.toNatClampNeg).length ≤ 12 then tellS S (x, 1, k', 0, rngL S k' a.toNatClampNeg b.toNatClampNeg) else (-2, S)) else (-2, S) := by
    unfold a_range
    rw [x4, kiI_nI (by omega)]
  refine r_iload_n rfl rfl ?_
  refine r_iconst (v := nI 0) rfl (by decide) ?_
  refine r_aload_n rfl rfl ?_
  (first | refine r_getIv rfl hM.1 rfl (by assumption) ?_ | refine r_getI rfl hM.1 rfl ?_)
  refine r_iconst (v := nI 1) rfl (by decide) ?_
  refine r_isub rfl ?_
  refine r_callS (As := [_, _, _]) rfl (by decide) rfl rfl rfl (Nat.le_of_ble_eq_true rfl) ⟨Nat.le_of_ble_eq_true rfl, Nat.le_of_ble_eq_true rfl⟩ (c_M_in) (kc' := 0) (ks' := 0) (by omega) (by omega) ?_
  rintro r τ ⟨rfl, rfl⟩
  rw [show nI 0 = 0 from rfl, inB_n (by omega)]
  refine r_ifeqB rfl (fun q => no _ _ _ _ (Or.inl rfl) ?_) (fun q3 => ?_)
  · rw [ea, if_neg]
    intro w
    simp only [Bool.and_eq_true, decide_eq_true_eq] at w
    rw [decide_eq_true w.1.1, decide_eq_true (Int32.lt_of_le_of_lt w.1.2 w.2)] at q
    cases q
  simp only [Bool.and_eq_true, decide_eq_true_eq] at q3
  refine r_iload rfl rfl ?_
  refine r_iload_n rfl rfl ?_
  refine r_aload_n rfl rfl ?_
  (first | refine r_getIv rfl hM.1 rfl (by assumption) ?_ | refine r_getI rfl hM.1 rfl ?_)
  refine r_iconst (v := nI 1) rfl (by decide) ?_
  refine r_isub rfl ?_
  refine r_callS (As := [_, _, _]) rfl (by decide) rfl rfl rfl (Nat.le_of_ble_eq_true rfl) ⟨Nat.le_of_ble_eq_true rfl, Nat.le_of_ble_eq_true rfl⟩ (c_M_in) (kc' := 0) (ks' := 0) (by omega) (by omega) ?_
  rintro r τ ⟨rfl, rfl⟩
  obtain ⟨a', ha, rfl⟩ := nI_of (Int32.not_lt.mpr q3.1)
  have ha2 := (nI_ltI ha (by omega)).mp q3.2
  rw [pk_sub (show 1 ≤ (ordT (s_T S)).length by omega)]
  refine r_ifneB rfl (fun q4 => ?_) (fun q => no _ _ _ _ (Or.inl rfl) ?_)
  · unfold inB at q4
    simp only [Bool.and_eq_true, decide_eq_true_eq] at q4
    have hb0 : ¬ b < 0 := fun w => absurd (Int32.lt_of_le_of_lt q4.1 w) (nI_pos (by omega))
    obtain ⟨b', hb, rfl⟩ := nI_of hb0
    have hb1 := (nI_leI (by omega) hb).mp q4.1
    have hb2 := (nI_leI hb (by omega)).mp q4.2
    rw [nI_clamp (by omega), nI_clamp hb, if_pos (by rw [decide_eq_true (nI_pos' (by omega)), decide_eq_true (nI_le hb1 hb), decide_eq_true (nI_lt (show b' < (ordT (s_T S)).length by omega) (by omega))]; rfl)] at ea
    have hrg : rngL S k' a' b' = rgP S k' a' (b' + 1) := rfl
    rw [hrg] at ea
    refine r_iconst (v := nI 0) rfl (by decide) ?_
    refine r_istore rfl (by decide) ?_
    refine r_iload_n rfl rfl ?_
    refine r_istore rfl (by decide) ?_
    -- the second part
    have part2 : ∀ (z6 : Option Value) (n : Nat), n = (rgP S k' a' (b' + 1)).length → Gm l D m_M_range 0 0 Q 96 [some (va_rf (some o)), some (.int (nI x)), some (.int (nI k')), some (.int (nI a')), some (.int (nI b')), some (.int (nI n)), z6, none] [] τ 0 0 := by
      intro z6 n hnn
      refine r_iload rfl rfl ?_
      refine r_iconst (v := nI 2) rfl (by decide) ?_
      refine r_bipush (v := nI 12) rfl (by decide) ?_
      refine r_callS (As := [_, _, _]) rfl (by decide) rfl rfl rfl (Nat.le_of_ble_eq_true rfl) ⟨Nat.le_of_ble_eq_true rfl, Nat.le_of_ble_eq_true rfl⟩ (c_M_in) (kc' := 0) (ks' := 0) (by omega) (by omega) ?_
      rintro r τ ⟨rfl, rfl⟩
      have hn120 : n ≤ 120 := by
        have : (rgP S k' a' (b' + 1)).length ≤ (ordT (s_T S)).length := by
          unfold rgP
          refine Nat.le_trans (List.length_filter_le _ _) ?_
          rw [List.length_take, List.length_drop]
          omega
        omega
      have hin : inB (nI n) (nI 2) (nI 12) = decide (2 ≤ n ∧ n ≤ 12) := by
        unfold inB
        by_cases c1 : 2 ≤ n
        · by_cases c2 : n ≤ 12
          · rw [decide_eq_true (nI_le c1 (by omega)), decide_eq_true (nI_le c2 (by omega)), decide_eq_true (And.intro c1 c2)]; rfl
          · rw [decide_eq_false (p := nI n ≤ nI 12) (nI_ge (by omega) (by omega)), decide_eq_false (p := 2 ≤ n ∧ n ≤ 12) (fun w => c2 w.2), Bool.and_false]
        · rw [decide_eq_false (p := nI 2 ≤ nI n) (nI_ge (by omega) (by omega)), decide_eq_false (p := 2 ≤ n ∧ n ≤ 12) (fun w => c1 w.1)]; rfl
      rw [hin]
      refine r_ifneB rfl (fun q5 => ?_) (fun q5 => no _ _ _ _ (Or.inr rfl) (by rw [ea, ← hnn, if_neg (of_decide_eq_false q5)]))
      have q5 := of_decide_eq_true q5
      rw [← hnn, if_pos q5] at ea
      unfold tellS at ea
      refine r_aload_n rfl rfl ?_
      (first | refine r_getIv rfl hM.1 rfl (by assumption) ?_ | refine r_getI rfl hM.1 rfl ?_)
      refine r_bipush (v := nI 100) rfl (by decide) ?_
      refine r_neN rfl (by omega) (by omega) (fun w => ?_) (fun w => ?_)
      · rw [if_neg w] at ea
        refine r_aload_n rfl rfl ?_
        refine r_iload_n rfl rfl ?_
        refine r_iconst (v := nI 1) rfl (by decide) ?_
        refine r_iload_n rfl rfl ?_
        refine r_iconst (v := -1) rfl (by decide) ?_
        refine r_callV (As := [_, _, _, _]) rfl (by decide) rfl (by first | exact hM.1 | assumption) rfl rfl (Nat.le_of_ble_eq_true rfl) ⟨Nat.le_of_ble_eq_true rfl, Nat.le_of_ble_eq_true rfl⟩ (c_M_tellT (i := x) (k := 1) (f := k') (e := 0) hM hMe (by omega) (fun q => by omega)) (kc' := 0) (ks' := 0) (by omega) (by omega) (by decide) ?_
        rintro r ρ ⟨rfl, u1, u2⟩
        refine r_istore rfl (by decide) ?_
        refine r_iload_n rfl rfl ?_
        refine r_istore rfl (by decide) ?_
        have lp : ∀ (d p : Nat) (π : Hp), p + d = b' + 1 → a' ≤ p → RMe π o (s_m S ++ [(x, 1, k', 0, rgP S k' a' p)]) → MFr [24, 25, 26, 27, 28, 29] [733] τ π o → Gm l D m_M_range 0 0 Q 135 [some (va_rf (some o)), some (.int (nI x)), some (.int (nI k')), some (.int (nI a')), some (.int (nI b')), some (.int (nI n)), some (.int (nI (s_m S).length)), some (.int (nI p))] [] π 0 0 := by
          intro d
          induction d with
          | zero =>
            intro p π hp hap v1 v2
            refine r_iload rfl rfl ?_
            refine r_iload rfl rfl ?_
            refine r_gtN rfl (by omega) (by omega) (fun _ => ?_) (fun q => by omega)
            refine r_iload rfl rfl ?_
            refine r_iret rfl rfl ?_
            rw [← hQ]
            show _ = some (Value.int (a_range S (nI x) (nI k') (nI a') (nI b')).1) ∧ RM π o (a_range S (nI x) (nI k') (nI a') (nI b')).2 ∧ _
            rw [ea]
            rw [show p = b' + 1 by omega] at v1
            exact ⟨rfl, hR.m v2 v1 (hS.m (by omega) ⟨x1, by omega, fun q => by omega, fun _ => by omega, fun q => by omega, fun q => by omega, fun q => by omega, fun q => absurd rfl q, by omega, fun y hy => rgP_mem hS hy⟩), hfw.tr (v2.wide (by decide) (by decide))⟩
          | succ d ih =>
            intro p π hp hap v1 v2
            have hM : ML π o := v2.mL hM
            have hpl : p < (ordT (s_T S)).length := by omega
            have w14 : h_X π (o + 1 + 14) p = nI ((ordT (s_T S)).getD p 0) := by rw [v2.row (j := 14) (by decide)]; exact d2 p hpl
            have w6 : h_X π (o + 1 + 6) = fun x => nI (s_k S x) := by rw [v2.row (j := 6) (by decide)]; exact t2
            have hst := rgP_s (k := k') hap hpl
            have hlt : (ordT (s_T S)).getD p 0 < s_n S := hW.h_lt ((ord_mem hW).mp (getD_mem hpl))
            have hk6 := hS.2.1 _ hlt
            generalize hy : (ordT (s_T S)).getD p 0 = y at w14 hst hlt hk6
            refine r_iload rfl rfl ?_
            refine r_iload rfl rfl ?_
            refine r_gtN rfl (by omega) (by omega) (fun q => by omega) (fun _ => ?_)
            refine r_aload_n rfl rfl ?_
            refine r_mg (j := 6) hM rfl rfl (by decide) ?_
            refine r_aload_n rfl rfl ?_
            refine r_mg (j := 14) hM rfl rfl (by decide) ?_
            refine r_iload rfl rfl ?_
            refine r_mi (j := 14) hM rfl rfl (by decide) (by first | rfl | assumption) (show _ < 120 by omega) ?_
            rw [w14]
            refine r_mi (j := 6) hM rfl rfl (by decide) rfl (show _ < 120 by omega) ?_
            rw [w6]
            refine r_iload_n rfl rfl ?_
            refine r_eqN rfl (by omega) (by omega) (fun q6 => ?_) (fun q6 => ?_)
            · rw [if_pos q6] at hst
              have hlen := rgP_le (S := S) (k := k') (a := a') (show p + 1 ≤ b' + 1 by omega)
              rw [hst, List.length_append, List.length_singleton, ← hnn] at hlen
              obtain ⟨g1, g2, g3, g4, g5, g6⟩ := v1.2 (s_m S).length x 1 k' 0 (rgP S k' a' p) (by rw [List.getElem?_append_right (Nat.le_refl _), Nat.sub_self]; rfl)
              refine r_aload_n rfl rfl ?_
              refine r_mg (j := 29) hM rfl rfl (by decide) ?_
              refine r_bipush (v := nI 12) rfl (by decide) ?_
              refine r_iload rfl rfl ?_
              (first | refine r_imulN rfl ?_ | refine r_imul rfl ?_)
              refine r_aload_n rfl rfl ?_
              refine r_mg (j := 28) hM rfl rfl (by decide) ?_
              refine r_iload rfl rfl ?_
              refine r_mi (j := 28) hM rfl rfl (by decide) rfl (show _ < 100 by omega) ?_
              rw [g5]
              (first | refine r_iaddN rfl ?_ | refine r_iadd rfl ?_)
              refine r_aload_n rfl rfl ?_
              refine r_mg (j := 14) hM rfl rfl (by decide) ?_
              refine r_iload rfl rfl ?_
              refine r_mi (j := 14) hM rfl rfl (by decide) (by first | rfl | assumption) (show _ < 120 by omega) ?_
              rw [w14]
              refine r_mis (j := 29) hM rfl rfl (by decide) rfl (show _ < 1200 by omega) ?_
              have hM2 : ML (w_X π (o + 1 + 29) (upd (h_X π (o + 1 + 29)) (12 * (s_m S).length + (rgP S k' a' p).length) (nI y))) o := hM
              refine r_aload_n rfl rfl ?_
              refine r_mg (j := 28) hM rfl rfl (by decide) ?_
              refine r_iload rfl rfl ?_
              refine r_dup2 rfl (by first | rfl | exact rf_cat _) (by first | rfl | exact rf_cat _) ?_
              refine r_mi (j := 28) hM rfl rfl (by decide) rfl (show _ < 100 by omega) ?_
              rw [hX_n _ _ (show o + 1 + 28 ≠ o + 1 + 29 by omega), g5]
              refine r_iconst (v := nI 1) rfl (by decide) ?_
              (first | refine r_iaddN rfl ?_ | refine r_iadd rfl ?_)
              refine r_mis (j := 28) hM rfl rfl (by decide) rfl (show _ < 100 by omega) ?_
              rw [hX_n _ _ (show o + 1 + 28 ≠ o + 1 + 29 by omega)]
              refine r_iinc rfl rfl (nI_inc _) ?_
              refine r_goto rfl ?_
              refine ih (p + 1) _ (by omega) (by omega) ⟨?_, fun q i' kk f' e2 m' hq => ?_⟩ ((v2.tr (MFr.X _ _ (by decide))).tr (MFr.X _ _ (by decide)))
              · rw [hI_wX, hI_wX, v1.1]
                simp
              · rw [hX_n _ _ (show o + 1 + 24 ≠ o + 1 + 28 by omega), hX_n _ _ (show o + 1 + 24 ≠ o + 1 + 29 by omega), hX_n _ _ (show o + 1 + 25 ≠ o + 1 + 28 by omega), hX_n _ _ (show o + 1 + 25 ≠ o + 1 + 29 by omega), hX_n _ _ (show o + 1 + 26 ≠ o + 1 + 28 by omega), hX_n _ _ (show o + 1 + 26 ≠ o + 1 + 29 by omega), hX_n _ _ (show o + 1 + 27 ≠ o + 1 + 28 by omega), hX_n _ _ (show o + 1 + 27 ≠ o + 1 + 29 by omega), hX_w, hX_n _ _ (show o + 1 + 29 ≠ o + 1 + 28 by omega), hX_w]
                by_cases c1 : q < (s_m S).length
                · rw [List.getElem?_append_left c1] at hq
                  obtain ⟨k1, k2, k3, k4, k5, k6⟩ := v1.2 q i' kk f' e2 m' (by rw [List.getElem?_append_left c1]; exact hq)
                  have hm12 := (hS.2.2.2.2.2.2.2.2.2.1 i' kk f' e2 m' (List.mem_of_getElem? hq)).2.2.2.2.2.2.2.2.1
                  rw [upd_n _ _ (by omega)]
                  refine ⟨k1, k2, k3, k4, k5, fun j hj => ?_⟩
                  rw [upd_n _ _ (by omega)]
                  exact k6 j hj
                · rw [List.getElem?_append_right (by omega)] at hq
                  by_cases c2 : q = (s_m S).length
                  · rw [c2, Nat.sub_self] at hq
                    have hq : (x, 1, k', 0, rgP S k' a' (p + 1)) = (i', kk, f', e2, m') := Option.some.inj hq
                    injection hq with b1 b2
                    injection b2 with b2 b3
                    injection b3 with b3 b4
                    injection b4 with b4 b5
                    subst b1 b2 b3 b4 b5
                    rw [c2, upd_s, hst, List.length_append, List.length_singleton]
                    refine ⟨g1, g2, g3, g4, rfl, fun j hj => ?_⟩
                    by_cases c3 : j = (rgP S k' a' p).length
                    · rw [c3, upd_s, List.getD_eq_getElem?_getD, List.getElem?_append_right (Nat.le_refl _), Nat.sub_self]
                      rfl
                    · rw [upd_n _ _ (by omega), g6 j (by omega), List.getD_eq_getElem?_getD, List.getD_eq_getElem?_getD, List.getElem?_append_left (by omega)]
                  · rw [show q - (s_m S).length = (q - (s_m S).length - 1) + 1 by omega] at hq
                    cases hq
            · rw [if_neg q6, List.append_nil] at hst
              refine r_goto rfl ?_
              refine r_iinc rfl rfl (nI_inc _) ?_
              refine r_goto rfl ?_
              exact ih (p + 1) π (by omega) (by omega) (by rw [hst]; exact v1) v2
        exact lp (b' + 1 - a') a' ρ (by omega) (Nat.le_refl _) (by rw [rgP_0]; exact u1) u2
      · rw [if_pos w] at ea
        refine r_bipush (v := -3) rfl (by decide) ?_
        refine r_iret rfl rfl ?_
        rw [← hQ]
        show _ = some (Value.int (a_range S (nI x) (nI k') (nI a') (nI b')).1) ∧ RM τ o (a_range S (nI x) (nI k') (nI a') (nI b')).2 ∧ _
        rw [ea]
        exact ⟨rfl, hR, hfw⟩
    have lp1 : ∀ (d p : Nat), p + d = b' + 1 → a' ≤ p → Gm l D m_M_range 0 0 Q 57 [some (va_rf (some o)), some (.int (nI x)), some (.int (nI k')), some (.int (nI a')), some (.int (nI b')), some (.int (nI (rgP S k' a' p).length)), some (.int (nI p)), none] [] τ 0 0 := by
      intro d
      induction d with
      | zero =>
        intro p hp hap
        refine r_iload rfl rfl ?_
        refine r_iload rfl rfl ?_
        refine r_gtN rfl (by omega) (by omega) (fun _ => ?_) (fun q => by omega)
        exact part2 _ _ (by rw [show p = b' + 1 by omega])
      | succ d ih =>
        intro p hp hap
        have hpl : p < (ordT (s_T S)).length := by omega
        have w14 := d2 p hpl
        have hst := rgP_s (k := k') hap hpl
        have hlt : (ordT (s_T S)).getD p 0 < s_n S := hW.h_lt ((ord_mem hW).mp (getD_mem hpl))
        have hk6 := hS.2.1 _ hlt
        generalize hy : (ordT (s_T S)).getD p 0 = y at w14 hst hlt hk6
        have ih := ih (p + 1) (by omega) (by omega)
        rw [hst, List.length_append] at ih
        refine r_iload rfl rfl ?_
        refine r_iload rfl rfl ?_
        refine r_gtN rfl (by omega) (by omega) (fun q => by omega) (fun _ => ?_)
        refine r_iload rfl rfl ?_
        refine r_aload_n rfl rfl ?_
        refine r_mg (j := 6) hM rfl rfl (by decide) ?_
        refine r_aload_n rfl rfl ?_
        refine r_mg (j := 14) hM rfl rfl (by decide) ?_
        refine r_iload rfl rfl ?_
        refine r_mi (j := 14) hM rfl rfl (by decide) (by first | rfl | assumption) (show _ < 120 by omega) ?_
        rw [w14]
        refine r_mi (j := 6) hM rfl rfl (by decide) rfl (show _ < 120 by omega) ?_
        rw [t2]
        refine r_iload_n rfl rfl ?_
        refine r_neN rfl (by omega) (by omega) (fun q6 => ?_) (fun q6 => ?_)
        · rw [if_neg q6] at ih
          refine r_iconst (v := nI 0) rfl (by decide) ?_
          (first | refine r_iaddN rfl ?_ | refine r_iadd rfl ?_)
          refine r_istore rfl (by decide) ?_
          refine r_iinc rfl rfl (nI_inc _) ?_
          refine r_goto rfl ?_
          exact ih
        · rw [if_pos q6] at ih
          refine r_iconst (v := nI 1) rfl (by decide) ?_
          refine r_goto rfl ?_
          (first | refine r_iaddN rfl ?_ | refine r_iadd rfl ?_)
          refine r_istore rfl (by decide) ?_
          refine r_iinc rfl rfl (nI_inc _) ?_
          refine r_goto rfl ?_
          exact ih
    have := lp1 (b' + 1 - a') a' (by omega) (Nat.le_refl _)
    rw [rgP_0] at this
    exact this
  · rw [ea, if_neg]
    intro w
    simp only [Bool.and_eq_true, decide_eq_true_eq] at w
    unfold inB at q
    obtain ⟨b', hb, rfl⟩ := nI_of (fun z => absurd (Int32.lt_of_le_of_lt w.1.2 z) (nI_pos (by omega)))
    have := (nI_ltI hb (by omega)).mp w.2
    rw [decide_eq_true w.1.2, decide_eq_true (nI_le (show b' ≤ (ordT (s_T S)).length - 1 by omega) (by omega))] at q
    cases q
end MC
