/-! ===== the reference: isSignPart, look ===== -/
theorem part_split {xs : List Int32} {p e : Nat} (h : p + 2 ≤ e) (he : e ≤ xs.length) : (xs.drop p).take (e - p) = xs.getD p 0 :: ((xs.drop (p + 1)).take (e - 1 - (p + 1)) ++ [xs.getD (e - 1) 0]) := by
  have h1 : p < xs.length := by omega
  rw [List.drop_eq_getElem_cons h1, show e - p = (e - 1 - (p + 1)) + 1 + 1 by omega, List.take_succ_cons, getD_at h1]
  congr 1
  have h2 : e - 1 - (p + 1) < (xs.drop (p + 1)).length := by rw [List.length_drop]; omega
  rw [List.take_succ_eq_append_getElem h2, List.getElem_drop, getD_at (show e - 1 < xs.length by omega)]
  congr 2
  congr 1
  omega
theorem wrap_eq {a b c d : Int32} {m s : List Int32} : a :: (m ++ [b]) = c :: (s ++ [d]) ↔ a = c ∧ m = s ∧ b = d := by
  constructor
  · intro h
    injection h with h1 h2
    obtain ⟨h3, h4⟩ := List.append_inj' h2 rfl
    exact ⟨h1, h3, by injection h4⟩
  · rintro ⟨rfl, rfl, rfl⟩
    rfl
section MC
variable {l : Launch} {D : DD} {σ : Hp} {o : Nat}
theorem RMd.sg {S : Sp} (h : RMd σ o S) {x : Nat} (hx : t_h (s_T S) x = true) : Tx σ o 20 21 x (sgn (f_y (s_f S) (s_k S x)) (ctX S x)) ∧ h_X σ (o + 1 + 16) x = nI (ctX S x) ∧ 1 ≤ ctX S x ∧ ctX S x ≤ 120 := by
  have hS := h.1.2.1
  have hW := hS.wf
  have hn := hS.1
  have hl := ord_len hW
  obtain ⟨i1, i2, -⟩ := idx_at ((ord_mem hW).mpr hx)
  obtain ⟨-, -, d1, d2, d3, d4, d5, d6, d7, d8, d9⟩ := h
  have a := d9 _ i1
  have b := d5 _ i1
  rw [i2] at a b
  have hk := hS.2.1 x (hW.h_lt hx)
  have a : Tx σ o 20 21 x (sgn (f_y (s_f S) (nI (s_k S x)).toNatClampNeg) (ctX S x)) := a
  rw [nI_clamp (by omega)] at a
  have := ctO_le (on := onT (s_n S) (s_T S)) (kI := fun x => nI (s_k S x)) (sc := f_c (s_f S)) (L := ordT (s_T S)) ((ordT (s_T S)).idxOf x)
  exact ⟨a, b, this.1, by unfold ctX n_c; omega⟩
theorem c_M_isSignPartS {S : Sp} {xs : List Int32} {x p e : Nat} (h : RMd σ o S) (hX : TX σ o xs) (hx : t_h (s_T S) x = true) (hpe : p ≤ e) (he : e ≤ xs.length) : Cn l D m_M_isSignPart 0 0 [va_rf (some o), .int (nI x), .int (nI p), .int (nI e)] σ (fun r τ => r = some (.int (nI (decide (mkX S x = (xs.drop p).take (e - p))).toNat)) ∧ τ = σ) := by
  have hM := h.1.1
  have hS := h.1.2.1
  have hW := hS.wf
  have hn := hS.1
  have hxn := hW.h_lt hx
  have hk := hS.2.1 x hxn
  have hx6 := hX.2.1
  obtain ⟨⟨s1, s2, s3⟩, -, c1, c2⟩ := h.sg hx
  have hfj := (h.1.2.2.2.2.1 (s_k S x) hk).2.2
  have hfb := hS.2.2.2.2.2.1 (s_k S x) hk
  have hsl := sgn_len1 _ hfb.2.1 (ctX S x) (by omega) (by omega)
  have t2 : h_X σ (o + 1 + 6) x = nI (s_k S x) := by rw [h.1.rt.2.1]
  have em : mkX S x = (if f_j (s_f S) (s_k S x) = 2 then [b8 (nI 40)] else []) ++ sgn (f_y (s_f S) (s_k S x)) (ctX S x) ++ (if f_j (s_f S) (s_k S x) = 2 then [b8 (nI 41)] else []) := rfl
  have hfb3 := hfb.2.2
  generalize sgn (f_y (s_f S) (s_k S x)) (ctX S x) = sg at s1 s2 s3 hsl em
  generalize f_j (s_f S) (s_k S x) = j at hfj em hfb3
  have hsn : ∀ i, i < sg.length → h_X σ (o + 1 + 20) (60 * x + i) = sg.getD i 0 := s3
  refine Cn.of (by decide) (by repeat (first | exact ca_0 | refine ca_i ?_ | refine ca_r ?_)) (Nat.le_of_ble_eq_true rfl) ?_
  refine r_aload_n rfl rfl ?_
  refine r_mg (j := 5) hM rfl rfl (by decide) ?_
  refine r_aload_n rfl rfl ?_
  refine r_mg (j := 6) hM rfl rfl (by decide) ?_
  refine r_iload_n rfl rfl ?_
  refine r_mi (j := 6) hM rfl rfl (by decide) (by first | rfl | assumption) (show _ < 120 by omega) ?_
  rw [t2]
  refine r_mi (j := 5) hM rfl rfl (by decide) rfl (show _ < 6 by omega) ?_
  rw [hfj]
  refine r_iconst (v := nI 2) rfl (by decide) ?_
  refine r_geN rfl (by omega) (by omega) (fun q => ?_) (fun q => ?_)
  · have hj2 : j = 2 := by omega
    rw [hj2, if_pos rfl, if_pos rfl, show b8 (nI 40) = nI 40 by decide, show b8 (nI 41) = nI 41 by decide] at em
    have em : mkX S x = nI 40 :: (sg ++ [nI 41]) := em
    have no : mkX S x ≠ (xs.drop p).take (e - p) → Gm l D m_M_isSignPart 0 0 (fun r τ => r = some (.int (nI (decide (mkX S x = (xs.drop p).take (e - p))).toNat)) ∧ τ = σ) 96 [some (va_rf (some o)), some (.int (nI x)), some (.int (nI p)), some (.int (nI e))] [] σ 0 0 := by
      intro w
      refine r_iconst (v := nI 0) rfl (by decide) ?_
      refine r_zret rfl rfl (by decide) ⟨?_, rfl⟩
      rw [decide_eq_false w]
      rfl
    refine r_iload_n rfl rfl ?_
    refine r_iload_n rfl rfl ?_
    refine r_isubN rfl hpe ?_
    refine r_iconst (v := nI 2) rfl (by decide) ?_
    refine r_leN rfl (by omega) (by omega) (fun w => no (fun v => ?_)) (fun w1 => ?_)
    · have := congrArg List.length v
      rw [em, List.length_cons, List.length_append, List.length_singleton, List.length_take, List.length_drop] at this
      omega
    have hsp := part_split (xs := xs) (show p + 2 ≤ e by omega) he
    have nox : nI 40 :: (sg ++ [nI 41]) ≠ xs.getD p 0 :: ((xs.drop (p + 1)).take (e - 1 - (p + 1)) ++ [xs.getD (e - 1) 0]) → Gm l D m_M_isSignPart 0 0 (fun r τ => r = some (.int (nI (decide (mkX S x = (xs.drop p).take (e - p))).toNat)) ∧ τ = σ) 96 [some (va_rf (some o)), some (.int (nI x)), some (.int (nI p)), some (.int (nI e))] [] σ 0 0 := fun hne => no (by rw [em, hsp]; exact hne)
    have sv : ∀ i c, i < xs.length → c < 128 → (seeB xs i = nI c ↔ xs.getD i 0 = nI c) := by
      intro i c hi hc
      unfold seeB
      rw [if_pos hi]
      exact eq255 (getD_b8 hX.2.2.2 i) hc
    refine r_aload_n rfl rfl ?_
    refine r_iload_n rfl rfl ?_
    refine r_callV (As := [_]) rfl (by decide) rfl (by first | exact hM.1 | assumption) rfl rfl (Nat.le_of_ble_eq_true rfl) ⟨Nat.le_of_ble_eq_true rfl, Nat.le_of_ble_eq_true rfl⟩ (hX.see hM (by omega)) (kc' := 0) (ks' := 0) (by omega) (by omega) (by decide) ?_
    rintro r σ ⟨rfl, rfl⟩
    refine r_bipush (v := nI 40) rfl (by decide) ?_
    refine r_icmp_ne rfl (fun w => nox (fun v => w ?_)) (fun w2 => ?_)
    · exact (sv p 40 (by omega) (by decide)).mpr (wrap_eq.mp v).1.symm
    have w2 := (sv p 40 (by omega) (by decide)).mp w2
    refine r_aload_n rfl rfl ?_
    refine r_iload_n rfl rfl ?_
    refine r_iconst (v := nI 1) rfl (by decide) ?_
    refine r_isubN rfl (by omega) ?_
    refine r_callV (As := [_]) rfl (by decide) rfl (by first | exact hM.1 | assumption) rfl rfl (Nat.le_of_ble_eq_true rfl) ⟨Nat.le_of_ble_eq_true rfl, Nat.le_of_ble_eq_true rfl⟩ (hX.see hM (by omega)) (kc' := 0) (ks' := 0) (by omega) (by omega) (by decide) ?_
    rintro r σ ⟨rfl, rfl⟩
    refine r_bipush (v := nI 41) rfl (by decide) ?_
    refine r_icmp_ne rfl (fun w => nox (fun v => w ?_)) (fun w3 => ?_)
    · exact (sv (e - 1) 41 (by omega) (by decide)).mpr (wrap_eq.mp v).2.2.symm
    have w3 := (sv (e - 1) 41 (by omega) (by decide)).mp w3
    refine r_aload_n rfl rfl ?_
    refine r_aload_n rfl rfl ?_
    refine r_mg (j := 20) hM rfl rfl (by decide) ?_
    refine r_bipush (v := nI 60) rfl (by decide) ?_
    refine r_iload_n rfl rfl ?_
    (first | refine r_imulN rfl ?_ | refine r_imul rfl ?_)
    refine r_aload_n rfl rfl ?_
    refine r_mg (j := 21) hM rfl rfl (by decide) ?_
    refine r_iload_n rfl rfl ?_
    refine r_mi (j := 21) hM rfl rfl (by decide) (by first | rfl | assumption) (show _ < 120 by omega) ?_
    rw [s1]
    refine r_iload_n rfl rfl ?_
    refine r_iconst (v := nI 1) rfl (by decide) ?_
    (first | refine r_iaddN rfl ?_ | refine r_iadd rfl ?_)
    refine r_iload_n rfl rfl ?_
    refine r_iconst (v := nI 1) rfl (by decide) ?_
    refine r_isubN rfl (by omega) ?_
    refine r_callV (As := [_, _, _, _, _]) rfl (by decide) rfl (by first | exact hM.1 | assumption) rfl rfl (Nat.le_of_ble_eq_true rfl) ⟨Nat.le_of_ble_eq_true rfl, Nat.le_of_ble_eq_true rfl⟩ (c_M_isPartS (j := 20) (a := 60 * x) (p := p + 1) (e := e - 1) hM hX (by decide) rfl (show 60 * x + sg.length ≤ 7200 by omega) (by decide) hsn (by omega) (by omega)) (kc' := 0) (ks' := 0) (by omega) (by omega) (by decide) ?_
    rintro r σ ⟨rfl, rfl⟩
    refine r_ifeqB rfl (fun w => nox (fun v => ?_)) (fun w4 => ?_)
    · have := of_decide_eq_false w
      exact this (wrap_eq.mp v).2.1
    · refine r_iconst (v := nI 1) rfl (by decide) ?_
      refine r_goto rfl ?_
      refine r_zret rfl rfl (by decide) ⟨?_, rfl⟩
      rw [em, hsp, decide_eq_true (wrap_eq.mpr ⟨w2.symm, of_decide_eq_true w4, w3.symm⟩)]
      rfl
  · rw [if_neg (by omega), if_neg (by omega), List.nil_append, List.append_nil] at em
    rw [em]
    refine r_aload_n rfl rfl ?_
    refine r_aload_n rfl rfl ?_
    refine r_mg (j := 20) hM rfl rfl (by decide) ?_
    refine r_bipush (v := nI 60) rfl (by decide) ?_
    refine r_iload_n rfl rfl ?_
    (first | refine r_imulN rfl ?_ | refine r_imul rfl ?_)
    refine r_aload_n rfl rfl ?_
    refine r_mg (j := 21) hM rfl rfl (by decide) ?_
    refine r_iload_n rfl rfl ?_
    refine r_mi (j := 21) hM rfl rfl (by decide) (by first | rfl | assumption) (show _ < 120 by omega) ?_
    rw [s1]
    refine r_iload_n rfl rfl ?_
    refine r_iload_n rfl rfl ?_
    refine r_callV (As := [_, _, _, _, _]) rfl (by decide) rfl (by first | exact hM.1 | assumption) rfl rfl (Nat.le_of_ble_eq_true rfl) ⟨Nat.le_of_ble_eq_true rfl, Nat.le_of_ble_eq_true rfl⟩ (c_M_isPartS (j := 20) (a := 60 * x) (p := p) (e := e) hM hX (by decide) rfl (show 60 * x + sg.length ≤ 7200 by omega) (by decide) hsn hpe he) (kc' := 0) (ks' := 0) (by omega) (by omega) (by decide) ?_
    rintro r σ ⟨rfl, rfl⟩
    refine r_zret rfl rfl (nar_B _) ⟨rfl, rfl⟩
theorem filt_take {S : Sp} {f : Nat → Bool} {q : Nat} (h : q < (ordT (s_T S)).length) : ((ordT (s_T S)).take (q + 1)).filter f = ((ordT (s_T S)).take q).filter f ++ (if f ((ordT (s_T S)).getD q 0) = true then [(ordT (s_T S)).getD q 0] else []) := by
  rw [List.take_succ_eq_append_getElem h, List.filter_append, List.filter_cons, show (ordT (s_T S)).getD q 0 = (ordT (s_T S))[q] by rw [List.getD_eq_getElem?_getD, List.getElem?_eq_getElem h]; rfl]
  rfl
set_option maxRecDepth 10000 in
set_option maxHeartbeats 1000000 in
theorem c_M_lookS {S : Sp} {xs : List Int32} {i k p e : Nat} (h : RMd σ o S) (hX : TX σ o xs) (hi : t_h (s_T S) i = true) (hk : k < 6) (hpe : p ≤ e) (he : e ≤ xs.length) : Cn l D m_M_look 0 0 [va_rf (some o), .int (nI i), .int (nI k), .int (nI p), .int (nI e)] σ (fun r τ => r = none ∧ MFr ([] : List Nat) [755, 756] σ τ o ∧ h_I τ 755 o = nI (mnL S i k ((xs.drop p).take (e - p))).length ∧ h_I τ 756 o = oI (mnL S i k ((xs.drop p).take (e - p))).head?) := by
  have hM := h.1.1
  have hS := h.1.2.1
  have hW := hS.wf
  have hn := hS.1
  have hol := ord_len hW
  have hin := hW.h_lt hi
  have hx6 := hX.2.1
  generalize hpt : (xs.drop p).take (e - p) = pt
  generalize hQ : (fun (r : Option Value) (τ : Hp) => r = none ∧ MFr ([] : List Nat) [755, 756] σ τ o ∧ h_I τ 755 o = nI (mnL S i k pt).length ∧ h_I τ 756 o = oI (mnL S i k pt).head?) = Q
  refine Cn.of (by decide) (by repeat (first | exact ca_0 | refine ca_i ?_ | refine ca_r ?_)) (Nat.le_of_ble_eq_true rfl) ?_
  refine r_aload_n rfl rfl ?_
  refine r_iconst (v := nI 0) rfl (by decide) ?_
  refine r_putI rfl hM.1 rfl (Or.inl rfl) (by first | rfl | decide) (by first | rfl | decide) ?_
  refine r_aload_n rfl rfl ?_
  refine r_iconst (v := -1) rfl (by decide) ?_
  refine r_putI rfl hM.1 rfl (Or.inl rfl) (by first | rfl | decide) (by first | rfl | decide) ?_
  refine r_iconst (v := nI 0) rfl (by decide) ?_
  refine r_istore rfl (by decide) ?_
  have lp : ∀ (d q : Nat) (π : Hp) (z6 z7 : Option Value), q + d = (ordT (s_T S)).length → MFr ([] : List Nat) [755, 756] σ π o → h_I π 755 o = nI (((ordT (s_T S)).take q).filter (mnB S i k pt)).length → h_I π 756 o = oI (((ordT (s_T S)).take q).filter (mnB S i k pt)).head? → Gm l D m_M_look 0 0 Q 13 [some (va_rf (some o)), some (.int (nI i)), some (.int (nI k)), some (.int (nI p)), some (.int (nI e)), some (.int (nI q)), z6, z7] [] π 0 0 := by
    intro d
    induction d with
    | zero =>
      intro q π z6 z7 hq hf v1 v2
      have hM : ML π o := hf.mL hM
      have d1 : h_I π 724 o = nI (ordT (s_T S)).length := by rw [hf.fld (by decide)]; exact h.2.2.1
      refine r_iload rfl rfl ?_
      refine r_aload_n rfl rfl ?_
      (first | refine r_getIv rfl hM.1 rfl (by assumption) ?_ | refine r_getI rfl hM.1 rfl ?_)
      refine r_geN rfl (by omega) (by omega) (fun _ => ?_) (fun w => by omega)
      refine r_vret rfl rfl ?_
      rw [← hQ]
      rw [List.take_of_length_le (by omega)] at v1 v2
      exact ⟨rfl, hf, v1, v2⟩
    | succ d ih =>
      intro q π z6 z7 hq hf v1 v2
      have hd : RMd π o S := RMd.kp hf (by decide) (by decide) h
      have hXp : TX π o xs := hX.kp hf (by decide) (by decide)
      have hM := hd.1.1
      have hql : q < (ordT (s_T S)).length := by omega
      obtain ⟨-, -, d1, d2, -, -, -, -, d7, -⟩ := id hd
      have hst := filt_take (S := S) (f := mnB S i k pt) hql
      have w14 := d2 q hql
      have hyt := (ord_mem hW).mp (getD_mem hql)
      have hyn := hW.h_lt hyt
      have hky := hS.2.1 _ hyn
      have hbl : (((ordT (s_T S)).take q).filter (mnB S i k pt)).length ≤ 120 := by
        refine Nat.le_trans (List.length_filter_le _ _) ?_
        rw [List.length_take]
        omega
      generalize (ordT (s_T S)).getD q 0 = y at hst w14 hyt hyn hky
      have ih := fun π z6 z7 => ih (q + 1) π z6 z7 (by omega)
      rw [hst] at ih
      generalize ((ordT (s_T S)).take q).filter (mnB S i k pt) = acc at v1 v2 ih hbl
      have skip : ∀ z7, mnB S i k pt y = false → Gm l D m_M_look 0 0 Q 146 [some (va_rf (some o)), some (.int (nI i)), some (.int (nI k)), some (.int (nI p)), some (.int (nI e)), some (.int (nI q)), some (.int (nI y)), z7] [] π 0 0 := by
        intro z7 hb
        rw [if_neg (by rw [hb]; decide), List.append_nil] at ih
        refine r_iinc rfl rfl (nI_inc _) ?_
        refine r_goto rfl ?_
        exact ih π _ _ hf v1 v2
      have yes : mnB S i k pt y = true → Gm l D m_M_look 0 0 Q 108 [some (va_rf (some o)), some (.int (nI i)), some (.int (nI k)), some (.int (nI p)), some (.int (nI e)), some (.int (nI q)), some (.int (nI y)), z7] [] π 0 0 := by
        intro hb
        rw [if_pos hb] at ih
        refine r_iconst (v := nI 1) rfl (by decide) ?_
        refine r_goto rfl ?_
        refine r_istore rfl (by decide) ?_
        refine r_iload rfl rfl ?_
        refine r_if_ne rfl (fun _ => ?_) (fun w => absurd w (by decide))
        have fin : ∀ (ρ : Hp), MFr ([] : List Nat) [755, 756] σ ρ o → h_I ρ 755 o = nI acc.length → h_I ρ 756 o = oI (acc ++ [y]).head? → Gm l D m_M_look 0 0 Q 136 [some (va_rf (some o)), some (.int (nI i)), some (.int (nI k)), some (.int (nI p)), some (.int (nI e)), some (.int (nI q)), some (.int (nI y)), some (.int (nI 1))] [] ρ 0 0 := by
          intro ρ k1 k2 k3
          have hM : ML ρ o := k1.mL h.1.1
          refine r_aload_n rfl rfl ?_
          refine r_dup rfl (by first | rfl | exact rf_cat _) ?_
          (first | refine r_getIv rfl hM.1 rfl (by assumption) ?_ | refine r_getI rfl hM.1 rfl ?_)
          refine r_iconst (v := nI 1) rfl (by decide) ?_
          (first | refine r_iaddN rfl ?_ | refine r_iadd rfl ?_)
          refine r_putI rfl hM.1 rfl (Or.inl rfl) (by first | rfl | decide) (by first | rfl | decide) ?_
          refine r_iinc rfl rfl (nI_inc _) ?_
          refine r_goto rfl ?_
          refine ih _ _ _ (k1.tr (MFr.I _ _ (by decide))) ?_ ?_
          · rw [hI_w, List.length_append]; rfl
          · rw [hI_n _ _ (by decide)]; exact k3
        refine r_aload_n rfl rfl ?_
        (first | refine r_getIv rfl hM.1 rfl (by assumption) ?_ | refine r_getI rfl hM.1 rfl ?_)
        refine r_if_ne rfl (fun w => ?_) (fun w => ?_)
        · refine fin π hf v1 ?_
          rw [v2]
          cases acc with
          | nil => exact absurd rfl w
          | cons z acc => rfl
        · have h0 : acc = [] := by
            cases acc with
            | nil => rfl
            | cons z acc => rw [List.length_cons] at hbl; exact absurd w (nI_ne0 (by rw [List.length_cons]; omega) (by rw [List.length_cons]; omega))
          subst h0
          refine r_aload_n rfl rfl ?_
          refine r_iload rfl rfl ?_
          refine r_putI rfl hM.1 rfl (Or.inl rfl) (by first | rfl | decide) (by first | rfl | decide) ?_
          refine fin _ (hf.tr (MFr.I _ _ (by decide))) ?_ ?_
          · rw [hI_n _ _ (by decide)]; exact v1
          · rw [hI_w]; rfl
      have noo : mnB S i k pt y = false → Gm l D m_M_look 0 0 Q 112 [some (va_rf (some o)), some (.int (nI i)), some (.int (nI k)), some (.int (nI p)), some (.int (nI e)), some (.int (nI q)), some (.int (nI y)), z7] [] π 0 0 := by
        intro hb
        refine r_iconst (v := nI 0) rfl (by decide) ?_
        refine r_istore rfl (by decide) ?_
        refine r_iload rfl rfl ?_
        refine r_if_ne rfl (fun w => absurd rfl w) (fun _ => ?_)
        refine r_goto rfl ?_
        exact skip _ hb
      refine r_iload rfl rfl ?_
      refine r_aload_n rfl rfl ?_
      (first | refine r_getIv rfl hM.1 rfl (by assumption) ?_ | refine r_getI rfl hM.1 rfl ?_)
      refine r_geN rfl (by omega) (by omega) (fun w => by omega) (fun _ => ?_)
      refine r_aload_n rfl rfl ?_
      refine r_mg (j := 14) hM rfl rfl (by decide) ?_
      refine r_iload rfl rfl ?_
      refine r_mi (j := 14) hM rfl rfl (by decide) rfl (show _ < 120 by omega) ?_
      rw [w14]
      refine r_istore rfl (by decide) ?_
      refine r_aload_n rfl rfl ?_
      refine r_mg (j := 6) hM rfl rfl (by decide) ?_
      refine r_iload rfl rfl ?_
      refine r_mi (j := 6) hM rfl rfl (by decide) (by first | rfl | assumption) (show _ < 120 by omega) ?_
      refine r_iload_n rfl rfl ?_
      rw [hd.1.rt.2.1]
      refine r_eqN rfl (by omega) (by omega) (fun w1 => ?_) (fun w1 => ?_)
      · have eb : mnB S i k pt y = (decide (n_n S y = pt) || (near S i y && decide (mkX S y = pt))) := by
          unfold mnB
          rw [decide_eq_true w1, Bool.true_and]
        obtain ⟨x1, x2, x3⟩ := hd.tx hyn
        refine r_aload_n rfl rfl ?_
        refine r_aload_n rfl rfl ?_
        refine r_mg (j := 18) hM rfl rfl (by decide) ?_
        refine r_bipush (v := nI 60) rfl (by decide) ?_
        refine r_iload rfl rfl ?_
        (first | refine r_imulN rfl ?_ | refine r_imul rfl ?_)
        refine r_aload_n rfl rfl ?_
        refine r_mg (j := 19) hM rfl rfl (by decide) ?_
        refine r_iload rfl rfl ?_
        refine r_mi (j := 19) hM rfl rfl (by decide) rfl (show _ < 120 by omega) ?_
        rw [x1]
        refine r_iload_n rfl rfl ?_
        refine r_iload rfl rfl ?_
        refine r_callV (As := [_, _, _, _, _]) rfl (by decide) rfl (by first | exact hM.1 | assumption) rfl rfl (Nat.le_of_ble_eq_true rfl) ⟨Nat.le_of_ble_eq_true rfl, Nat.le_of_ble_eq_true rfl⟩ (c_M_isPartS (j := 18) (a := 60 * y) (p := p) (e := e) hM hXp (by decide) rfl (show 60 * y + (n_n S y).length ≤ 7200 by omega) (by decide) x3 hpe he) (kc' := 0) (ks' := 0) (by omega) (by omega) (by decide) ?_
        rintro r π ⟨rfl, rfl⟩
        rw [hpt]
        refine r_ifneB rfl (fun w2 => yes (by rw [eb, w2]; rfl)) (fun w2 => ?_)
        rw [w2, Bool.false_or] at eb
        refine r_aload_n rfl rfl ?_
        refine r_mg (j := 17) hM rfl rfl (by decide) ?_
        refine r_iload rfl rfl ?_
        refine r_mi (j := 17) hM rfl rfl (by decide) (by first | rfl | assumption) (show _ < 120 by omega) ?_
        rw [show h_X π (o + 1 + 17) y = n_b S y from d7 y hyn]
        rcases n_b_c hS hyt with hneg | ⟨b, b1, b2, b3, b4⟩
        · refine r_if_lt rfl (fun _ => noo ?_) (fun w => absurd hneg w)
          rw [eb]
          unfold near nbO
          rw [if_pos hneg]
          rfl
        · have hbn := hW.h_lt b1
          rw [b2]
          refine r_if_lt rfl (fun w => absurd w (nI_pos (by omega))) (fun _ => ?_)
          have hnear : near S i y = bel (s_T S) b i := by
            unfold near nbO
            rw [b2, if_neg (nI_pos (by omega)), nI_clamp (by omega)]
          rw [hnear] at eb
          refine r_aload_n rfl rfl ?_
          refine r_iload_n rfl rfl ?_
          refine r_aload_n rfl rfl ?_
          refine r_mg (j := 17) hM rfl rfl (by decide) ?_
          refine r_iload rfl rfl ?_
          refine r_mi (j := 17) hM rfl rfl (by decide) (by first | rfl | assumption) (show _ < 120 by omega) ?_
          rw [show h_X π (o + 1 + 17) y = n_b S y from d7 y hyn, b2]
          have hup := upS_T hW (top := cd b) 200 i (fuel hW (by omega)) (Or.inr hi)
          rw [cd_n (show b ≠ 120 by omega), cd_n (show i ≠ 120 by omega), ← hd.1.rt.2.2.1] at hup
          refine r_callV (As := [_, _]) rfl (by decide) rfl (by first | exact hM.1 | assumption) rfl rfl (Nat.le_of_ble_eq_true rfl) ⟨Nat.le_of_ble_eq_true rfl, Nat.le_of_ble_eq_true rfl⟩ (c_M_isBelow hM hup) (kc' := 0) (ks' := 0) (by omega) (by omega) (by decide) ?_
          rintro r π ⟨rfl, rfl⟩
          have hbe := below_T hW (x := b) (by omega) (Or.inr hi)
          rw [cd_n (show b ≠ 120 by omega), cd_n (show i ≠ 120 by omega)] at hbe
          rw [hd.1.rt.2.2.1, hbe]
          refine r_ifeqB rfl (fun w3 => noo (by rw [eb, w3]; rfl)) (fun w3 => ?_)
          rw [w3, Bool.true_and] at eb
          refine r_aload_n rfl rfl ?_
          refine r_iload rfl rfl ?_
          refine r_iload_n rfl rfl ?_
          refine r_iload rfl rfl ?_
          refine r_callV (As := [_, _, _]) rfl (by decide) rfl (by first | exact hM.1 | assumption) rfl rfl (Nat.le_of_ble_eq_true rfl) ⟨Nat.le_of_ble_eq_true rfl, Nat.le_of_ble_eq_true rfl⟩ (c_M_isSignPartS hd hXp hyt hpe he) (kc' := 0) (ks' := 0) (by omega) (by omega) (by decide) ?_
          rintro r π ⟨rfl, rfl⟩
          rw [hpt]
          exact r_ifeqB rfl (fun w4 => noo (by rw [eb, w4])) (fun w4 => yes (by rw [eb, w4]))
      · refine r_goto rfl ?_
        exact skip _ (by unfold mnB; rw [decide_eq_false w1]; rfl)
  refine lp (ordT (s_T S)).length 0 _ none none (by omega) ((MFr.I _ _ (by decide)).tr (MFr.I _ _ (by decide))) ?_ ?_
  · rw [hI_n _ _ (by decide), hI_w]; rfl
  · rw [hI_w]; rfl
end MC
