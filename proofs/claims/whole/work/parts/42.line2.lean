/-! ===== the reference: what is written into the line ===== -/
theorem LbF.fr {rows flds : List Nat} {σ τ : Hp} {o : Nat} (h : LbF σ τ o) (h1 : 30 ∈ rows) (h2 : 741 ∈ flds) : MFr rows flds σ τ o := by
  obtain ⟨g, v, rfl⟩ := h
  exact (MFr.X σ g h1).tr (MFr.I _ v h2)
theorem LbF.tx {σ τ : Hp} {o x jT jS : Nat} {xs : List Int32} (h : LbF σ τ o) (h1 : jT ≠ 30) (h2 : jS ≠ 30) (g : Tx σ o jT jS x xs) : Tx τ o jT jS x xs := by
  obtain ⟨a, v, rfl⟩ := h
  unfold Tx at g ⊢
  rw [hX_wI, hX_n _ _ (by omega), hX_n _ _ (by omega)]
  exact g
section MC
variable {l : Launch} {D : DD} {σ : Hp} {o : Nat}
theorem c_M_lineNumber {x : Nat} {nm zs : List Int32} (hM : ML σ o) (hx : x < 120) (h : Tx σ o 18 19 x nm) (g : Lb σ o zs) (hl : zs.length + nm.length ≤ 2000) : Cn l D m_M_lineNumber 0 0 [va_rf (some o), .int (nI x)] σ (fun r τ => r = none ∧ Lb τ o (zs ++ nm) ∧ LbF σ τ o) := by
  refine Cn.of (by decide) (by repeat (first | exact ca_0 | refine ca_i ?_ | refine ca_r ?_)) (Nat.le_of_ble_eq_true rfl) ?_
  refine g_fits (fun hfit _ _ => ?_)
  have hb : ∀ i, i < nm.length → b8 (nm.getD i 0) = nm.getD i 0 := fun i hi => by
    rw [← h.2.2 i hi]
    exact fit_b8 (hfit _ (hM.2 18 (by decide)).2.1 _)
  have h60 := h.2.1
  refine r_iconst (v := nI 0) rfl (by decide) ?_
  refine r_istore_n rfl (by decide) ?_
  have loop : ∀ (d i : Nat) (τ : Hp), i + d = nm.length → Lb τ o (zs ++ nm.take i) → LbF σ τ o → Gm l D m_M_lineNumber 0 0 (fun r τ => r = none ∧ Lb τ o (zs ++ nm) ∧ LbF σ τ o) 2 [some (va_rf (some o)), some (.int (nI x)), some (.int (nI i))] [] τ 0 0 := by
    intro d
    induction d with
    | zero =>
      intro i τ hi t1 f1
      have hM := (f1.fr (rows := [30]) (flds := [741]) (by decide) (by decide)).mL hM
      have ht := f1.tx (by decide) (by decide) h
      refine r_iload_n rfl rfl ?_
      refine r_aload_n rfl rfl ?_
      refine r_mg (j := 19) hM rfl rfl (by decide) ?_
      refine r_iload_n rfl rfl ?_
      refine r_mi (j := 19) hM rfl rfl (by decide) (by first | rfl | assumption) (show _ < 120 by omega) ?_
      rw [ht.1]
      refine r_geN rfl (by omega) (by omega) (fun _ => ?_) (fun q => by omega)
      rw [show i = nm.length by omega, List.take_length] at t1
      exact r_vret rfl rfl ⟨rfl, t1, f1⟩
    | succ d ih =>
      intro i τ hi t1 f1
      have hM := (f1.fr (rows := [30]) (flds := [741]) (by decide) (by decide)).mL hM
      have ht := f1.tx (by decide) (by decide) h
      refine r_iload_n rfl rfl ?_
      refine r_aload_n rfl rfl ?_
      refine r_mg (j := 19) hM rfl rfl (by decide) ?_
      refine r_iload_n rfl rfl ?_
      refine r_mi (j := 19) hM rfl rfl (by decide) (by first | rfl | assumption) (show _ < 120 by omega) ?_
      rw [ht.1]
      refine r_geN rfl (by omega) (by omega) (fun q => by omega) (fun _ => ?_)
      refine r_aload_n rfl rfl ?_
      refine r_aload_n rfl rfl ?_
      refine r_mg (j := 18) hM rfl rfl (by decide) ?_
      refine r_bipush (v := nI 60) rfl (by decide) ?_
      refine r_iload_n rfl rfl ?_
      (first | refine r_imulN rfl ?_ | refine r_imul rfl ?_)
      refine r_iload_n rfl rfl ?_
      (first | refine r_iaddN rfl ?_ | refine r_iadd rfl ?_)
      refine r_mb (j := 18) hM rfl rfl (by decide) (by first | rfl | assumption) (show _ < 7200 by omega) ?_
      rw [ht.2.2 i (by omega)]
      refine r_callV (As := [_]) rfl (by decide) rfl hM.1 rfl rfl (Nat.le_of_ble_eq_true rfl) ⟨Nat.le_of_ble_eq_true rfl, Nat.le_of_ble_eq_true rfl⟩ (c_M_lineByte hM t1 (by simp; omega)) (kc' := 0) (ks' := 0) (by omega) (by omega) (by decide) ?_
      rintro r τ2 ⟨rfl, t2, f2⟩
      rw [hb i (by omega), List.append_assoc, take_app (by omega)] at t2
      refine r_iinc rfl rfl (nI_inc _) ?_
      refine r_goto rfl ?_
      exact ih (i + 1) τ2 (by omega) t2 (f1.tr f2)
  exact loop nm.length 0 σ (by omega) (by simpa using g) (LbF.rf _ _)
theorem c_M_lineThing {x k : Nat} {ws nm zs : List Int32} (hM : ML σ o) (hx : x < 120) (hk : h_X σ (o + 1 + 6) x = nI k) (hk2 : k < 6) (hw : Wd σ o k ws) (h : Tx σ o 18 19 x nm) (hb : ∀ i, i < (toldL ws nm).length → b8 ((toldL ws nm).getD i 0) = (toldL ws nm).getD i 0) (g : Lb σ o zs) (hl : zs.length + (toldL ws nm).length ≤ 2000) : Cn l D m_M_lineThing 0 0 [va_rf (some o), .int (nI x)] σ (fun r τ => r = none ∧ Lb τ o (zs ++ toldL ws nm) ∧ LbF σ τ o) := by
  refine Cn.of (by decide) (by repeat (first | exact ca_0 | refine ca_i ?_ | refine ca_r ?_)) (Nat.le_of_ble_eq_true rfl) ?_
  refine r_iconst (v := nI 0) rfl (by decide) ?_
  refine r_istore_n rfl (by decide) ?_
  have loop : ∀ (d i : Nat) (τ : Hp), i + d = (toldL ws nm).length → Lb τ o (zs ++ (toldL ws nm).take i) → LbF σ τ o → Gm l D m_M_lineThing 0 0 (fun r τ => r = none ∧ Lb τ o (zs ++ toldL ws nm) ∧ LbF σ τ o) 2 [some (va_rf (some o)), some (.int (nI x)), some (.int (nI i))] [] τ 0 0 := by
    intro d
    induction d with
    | zero =>
      intro i τ hi t1 f1
      have fr := f1.fr (rows := [30]) (flds := [741]) (by decide) (by decide)
      have hM := fr.mL hM
      have ht := f1.tx (by decide) (by decide) h
      have hkt : h_X τ (o + 1 + 6) x = nI k := by rw [fr.row (by decide)]; exact hk
      have hwt : Wd τ o k ws := by
        unfold Wd at hw ⊢
        rw [fr.row (j := 2) (by decide), fr.row (j := 1) (by decide)]
        exact hw
      refine r_iload_n rfl rfl ?_
      refine r_aload_n rfl rfl ?_
      refine r_iload_n rfl rfl ?_
      refine r_callV (As := [_]) rfl (by decide) rfl hM.1 rfl rfl (Nat.le_of_ble_eq_true rfl) ⟨Nat.le_of_ble_eq_true rfl, Nat.le_of_ble_eq_true rfl⟩ (c_M_toldSize hM hx hkt hk2 hwt ht) (kc' := 0) (ks' := 0) (by omega) (by omega) (by decide) ?_
      rintro r τ' ⟨rfl, rfl⟩
      refine r_geN rfl (by omega) (by omega) (fun _ => ?_) (fun q => by omega)
      rw [show i = (toldL ws nm).length by omega, List.take_length] at t1
      exact r_vret rfl rfl ⟨rfl, t1, f1⟩
    | succ d ih =>
      intro i τ hi t1 f1
      have fr := f1.fr (rows := [30]) (flds := [741]) (by decide) (by decide)
      have hM := fr.mL hM
      have ht := f1.tx (by decide) (by decide) h
      have hkt : h_X τ (o + 1 + 6) x = nI k := by rw [fr.row (by decide)]; exact hk
      have hwt : Wd τ o k ws := by
        unfold Wd at hw ⊢
        rw [fr.row (j := 2) (by decide), fr.row (j := 1) (by decide)]
        exact hw
      refine r_iload_n rfl rfl ?_
      refine r_aload_n rfl rfl ?_
      refine r_iload_n rfl rfl ?_
      refine r_callV (As := [_]) rfl (by decide) rfl hM.1 rfl rfl (Nat.le_of_ble_eq_true rfl) ⟨Nat.le_of_ble_eq_true rfl, Nat.le_of_ble_eq_true rfl⟩ (c_M_toldSize hM hx hkt hk2 hwt ht) (kc' := 0) (ks' := 0) (by omega) (by omega) (by decide) ?_
      rintro r τ' ⟨rfl, rfl⟩
      refine r_geN rfl (by omega) (by omega) (fun q => by omega) (fun _ => ?_)
      refine r_aload_n rfl rfl ?_
      refine r_aload_n rfl rfl ?_
      refine r_iload_n rfl rfl ?_
      refine r_iload_n rfl rfl ?_
      refine r_callV (As := [_, _]) rfl (by decide) rfl hM.1 rfl rfl (Nat.le_of_ble_eq_true rfl) ⟨Nat.le_of_ble_eq_true rfl, Nat.le_of_ble_eq_true rfl⟩ (c_M_toldByte hM hx hkt hk2 hwt ht (by omega)) (kc' := 0) (ks' := 0) (by omega) (by omega) (by decide) ?_
      rintro r τ' ⟨rfl, rfl⟩
      refine r_callV (As := [_]) rfl (by decide) rfl hM.1 rfl rfl (Nat.le_of_ble_eq_true rfl) ⟨Nat.le_of_ble_eq_true rfl, Nat.le_of_ble_eq_true rfl⟩ (c_M_lineByte hM t1 (by simp; omega)) (kc' := 0) (ks' := 0) (by omega) (by omega) (by decide) ?_
      rintro r τ2 ⟨rfl, t2, f2⟩
      rw [hb i (by omega), List.append_assoc, take_app (by omega)] at t2
      refine r_iinc rfl rfl (nI_inc _) ?_
      refine r_goto rfl ?_
      exact ih (i + 1) τ2 (by omega) t2 (f1.tr f2)
  exact loop (toldL ws nm).length 0 σ (by omega) (by simpa using g) (LbF.rf _ _)
/-- a run's text: what stands ahead of it, the first number, the last -/
def runT (r : Nat) (same : Bool) (a b : List Int32) : List Int32 := (if 0 < r then [b8 (nI 44), b8 (nI 32)] else []) ++ a ++ (if same = true then [] else [b8 (nI 32), b8 (nI 116), b8 (nI 111), b8 (nI 32)] ++ b)
theorem c_M_endRun {x y r : Nat} {a b zs : List Int32} (hM : ML σ o) (hx : x < 120) (hy : y < 120) (hr : h_I σ 742 o = nI r) (hr2 : r < 1000) (ha : Tx σ o 18 19 x a) (hb : Tx σ o 18 19 y b) (g : Lb σ o zs) (hl : zs.length + 130 ≤ 2000) : Cn l D m_M_endRun 0 0 [va_rf (some o), .int (nI x), .int (nI y)] σ (fun r' τ => r' = none ∧ Lb τ o (zs ++ runT r (decide (x = y)) a b) ∧ h_I τ 742 o = nI (r + 1) ∧ MFr [30] [741, 742] σ τ o) := by
  have a60 := ha.2.1
  have b60 := hb.2.1
  generalize hQ : (fun (r' : Option Value) (τ : Hp) => r' = none ∧ Lb τ o (zs ++ runT r (decide (x = y)) a b) ∧ h_I τ 742 o = nI (r + 1) ∧ MFr [30] [741, 742] σ τ o) = Q
  refine Cn.of (by decide) (by repeat (first | exact ca_0 | refine ca_i ?_ | refine ca_r ?_)) (Nat.le_of_ble_eq_true rfl) ?_
  have rest : ∀ (τ : Hp) (ys : List Int32), Lb τ o ys → LbF σ τ o → ys = zs ++ (if 0 < r then [b8 (nI 44), b8 (nI 32)] else []) → Gm l D m_M_endRun 0 0 Q 19 [some (va_rf (some o)), some (.int (nI x)), some (.int (nI y))] [] τ 0 0 := by
    intro τ ys t0 f0 he
    have hylen : ys.length ≤ zs.length + 2 := by
      rw [he, List.length_append]
      have : (if 0 < r then [b8 (nI 44), b8 (nI 32)] else []).length ≤ 2 := by split <;> simp
      omega
    have fr0 := f0.fr (rows := [30]) (flds := [741, 742]) (by decide) (by decide)
    have hM := fr0.mL hM
    have hrt : h_I τ 742 o = nI r := by
      obtain ⟨g1, v1, rfl⟩ := f0
      rw [hI_n _ _ (by decide)]
      exact hr
    have ta := f0.tx (by decide) (by decide) ha
    have tb := f0.tx (by decide) (by decide) hb
    refine r_aload_n rfl rfl ?_
    refine r_dup rfl (by first | rfl | exact rf_cat _) ?_
    (first | refine r_getIv rfl hM.1 rfl (by assumption) ?_ | refine r_getI rfl hM.1 rfl ?_)
    refine r_iconst (v := nI 1) rfl (by decide) ?_
    (first | refine r_iaddN rfl ?_ | refine r_iadd rfl ?_)
    refine r_putI rfl hM.1 rfl (Or.inl rfl) (by first | rfl | decide) (by first | rfl | decide) ?_
    have fr1 : MFr [30] [741, 742] σ (w_I τ 742 o (nI (r + 1))) o := fr0.tr (MFr.I _ _ (by decide))
    have hM1 : ML (w_I τ 742 o (nI (r + 1))) o := hM
    have t1 : Lb (w_I τ 742 o (nI (r + 1))) o ys := by
      obtain ⟨q1, q2, q3⟩ := t0
      exact ⟨by rw [hI_n _ _ (by decide)]; exact q1, q2, q3⟩
    have ta1 : Tx (w_I τ 742 o (nI (r + 1))) o 18 19 x a := ta
    have tb1 : Tx (w_I τ 742 o (nI (r + 1))) o 18 19 y b := tb
    have r1 : h_I (w_I τ 742 o (nI (r + 1))) 742 o = nI (r + 1) := hI_w _ _ _ _
    generalize w_I τ 742 o (nI (r + 1)) = ρ at fr1 hM1 t1 ta1 tb1 r1
    have keep : ∀ ρ2, LbF ρ ρ2 o → h_I ρ2 742 o = nI (r + 1) ∧ MFr [30] [741, 742] σ ρ2 o ∧ ML ρ2 o ∧ Tx ρ2 o 18 19 y b := by
      intro ρ2 h
      refine ⟨?_, fr1.tr (h.fr (by decide) (by decide)), (h.fr (rows := [30]) (flds := [741, 742]) (by decide) (by decide)).mL hM1, h.tx (by decide) (by decide) tb1⟩
      obtain ⟨g1, v1, rfl⟩ := h
      rw [hI_n _ _ (by decide)]
      exact r1
    refine r_aload_n rfl rfl ?_
    refine r_iload_n rfl rfl ?_
    refine r_callV (As := [_]) rfl (by decide) rfl hM1.1 rfl rfl (Nat.le_of_ble_eq_true rfl) ⟨Nat.le_of_ble_eq_true rfl, Nat.le_of_ble_eq_true rfl⟩ (c_M_lineNumber hM1 hx ta1 t1 (by omega)) (kc' := 0) (ks' := 0) (by omega) (by omega) (by decide) ?_
    rintro r' ρ1 ⟨rfl, t2, f2⟩
    refine r_iload_n rfl rfl ?_
    refine r_iload_n rfl rfl ?_
    refine r_neN rfl (by omega) (by omega) (fun q => ?_) (fun q => ?_)
    · obtain ⟨-, -, hM2, -⟩ := keep ρ1 f2
      refine r_aload_n rfl rfl ?_
      refine r_bipush (v := nI 32) rfl (by decide) ?_
      refine r_callV (As := [_]) rfl (by decide) rfl hM2.1 rfl rfl (Nat.le_of_ble_eq_true rfl) ⟨Nat.le_of_ble_eq_true rfl, Nat.le_of_ble_eq_true rfl⟩ (c_M_lineByte hM2 t2 (by simp; omega)) (kc' := 0) (ks' := 0) (by omega) (by omega) (by decide) ?_
      rintro r' ρ2 ⟨rfl, t3, f3⟩
      have f3 := f2.tr f3
      obtain ⟨-, -, hM3, -⟩ := keep ρ2 f3
      refine r_aload_n rfl rfl ?_
      refine r_bipush (v := nI 116) rfl (by decide) ?_
      refine r_callV (As := [_]) rfl (by decide) rfl hM3.1 rfl rfl (Nat.le_of_ble_eq_true rfl) ⟨Nat.le_of_ble_eq_true rfl, Nat.le_of_ble_eq_true rfl⟩ (c_M_lineByte hM3 t3 (by simp; omega)) (kc' := 0) (ks' := 0) (by omega) (by omega) (by decide) ?_
      rintro r' ρ3 ⟨rfl, t4, f4⟩
      have f4 := f3.tr f4
      obtain ⟨-, -, hM4, -⟩ := keep ρ3 f4
      refine r_aload_n rfl rfl ?_
      refine r_bipush (v := nI 111) rfl (by decide) ?_
      refine r_callV (As := [_]) rfl (by decide) rfl hM4.1 rfl rfl (Nat.le_of_ble_eq_true rfl) ⟨Nat.le_of_ble_eq_true rfl, Nat.le_of_ble_eq_true rfl⟩ (c_M_lineByte hM4 t4 (by simp; omega)) (kc' := 0) (ks' := 0) (by omega) (by omega) (by decide) ?_
      rintro r' ρ4 ⟨rfl, t5, f5⟩
      have f5 := f4.tr f5
      obtain ⟨-, -, hM5, -⟩ := keep ρ4 f5
      refine r_aload_n rfl rfl ?_
      refine r_bipush (v := nI 32) rfl (by decide) ?_
      refine r_callV (As := [_]) rfl (by decide) rfl hM5.1 rfl rfl (Nat.le_of_ble_eq_true rfl) ⟨Nat.le_of_ble_eq_true rfl, Nat.le_of_ble_eq_true rfl⟩ (c_M_lineByte hM5 t5 (by simp; omega)) (kc' := 0) (ks' := 0) (by omega) (by omega) (by decide) ?_
      rintro r' ρ5 ⟨rfl, t6, f6⟩
      have f6 := f5.tr f6
      obtain ⟨-, -, hM6, tb6⟩ := keep ρ5 f6
      refine r_aload_n rfl rfl ?_
      refine r_iload_n rfl rfl ?_
      refine r_callV (As := [_]) rfl (by decide) rfl hM6.1 rfl rfl (Nat.le_of_ble_eq_true rfl) ⟨Nat.le_of_ble_eq_true rfl, Nat.le_of_ble_eq_true rfl⟩ (c_M_lineNumber hM6 hy tb6 t6 (by simp; omega)) (kc' := 0) (ks' := 0) (by omega) (by omega) (by decide) ?_
      rintro r' ρ6 ⟨rfl, t7, f7⟩
      have f7 := f6.tr f7
      obtain ⟨k1, k2, -, -⟩ := keep ρ6 f7
      refine r_vret rfl rfl ?_
      rw [← hQ]
      refine ⟨rfl, ?_, k1, k2⟩
      unfold runT
      rw [decide_eq_false q]
      rw [he] at t7
      simpa using t7
    · obtain ⟨k1, k2, -, -⟩ := keep ρ1 f2
      refine r_vret rfl rfl ?_
      rw [← hQ]
      refine ⟨rfl, ?_, k1, k2⟩
      unfold runT
      rw [decide_eq_true q]
      rw [he] at t2
      simpa using t2
  refine r_aload_n rfl rfl ?_
  (first | refine r_getIv rfl hM.1 rfl (by assumption) ?_ | refine r_getI rfl hM.1 rfl ?_)
  refine r_if_le rfl (fun q => ?_) (fun q => ?_)
  · have h0 : ¬ 0 < r := fun w => absurd q (nI_nle w (by omega))
    exact rest σ zs g (LbF.rf _ _) (by rw [if_neg h0, List.append_nil])
  · have h0 : 0 < r := by
      rcases Nat.eq_zero_or_pos r with w | w
      · rw [w] at q
        exact absurd (by decide) q
      · exact w
    refine r_aload_n rfl rfl ?_
    refine r_bipush (v := nI 44) rfl (by decide) ?_
    refine r_callV (As := [_]) rfl (by decide) rfl hM.1 rfl rfl (Nat.le_of_ble_eq_true rfl) ⟨Nat.le_of_ble_eq_true rfl, Nat.le_of_ble_eq_true rfl⟩ (c_M_lineByte hM g (by omega)) (kc' := 0) (ks' := 0) (by omega) (by omega) (by decide) ?_
    rintro r' τ1 ⟨rfl, t1, f1⟩
    have hM1 := (f1.fr (rows := [30]) (flds := [741]) (by decide) (by decide)).mL hM
    refine r_aload_n rfl rfl ?_
    refine r_bipush (v := nI 32) rfl (by decide) ?_
    refine r_callV (As := [_]) rfl (by decide) rfl hM1.1 rfl rfl (Nat.le_of_ble_eq_true rfl) ⟨Nat.le_of_ble_eq_true rfl, Nat.le_of_ble_eq_true rfl⟩ (c_M_lineByte hM1 t1 (by simp; omega)) (kc' := 0) (ks' := 0) (by omega) (by omega) (by decide) ?_
    rintro r' τ2 ⟨rfl, t2, f2⟩
    exact rest τ2 _ t2 (f1.tr f2) (by rw [if_pos h0]; simp)
end MC
