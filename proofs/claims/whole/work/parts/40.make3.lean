/-! ===== the reference: make(), whole ===== -/
theorem mkP.keep {σ τ : Hp} {o n : Nat} {sc sy jo : Nat → Nat} {L : List Nat} (h : MFr mkR mkI σ τ o) (g : mkP σ o n sc sy jo L) : mkP τ o n sc sy jo L := by
  unfold mkP at g ⊢
  rw [h.row (j := 3) (by decide), h.row (j := 4) (by decide), h.row (j := 5) (by decide), h.row (j := 6) (by decide), h.row (j := 7) (by decide), h.row (j := 8) (by decide), h.fld (f := 711) (by decide)]
  exact g
/-- what holds behind the first i things -/
def mkJ (σ : Hp) (o n : Nat) (on kd : Nat → Int32) (sc sy jo : Nat → Nat) (L : List Nat) (i : Nat) : Prop :=
  h_I σ 721 o = nI 1 ∧ h_I σ 724 o = nI L.length ∧ (∀ i, i < L.length → h_X σ (o + 1 + 14) i = nI (L.getD i 0)) ∧ (∀ i, i < L.length → h_X σ (o + 1 + 15) (L.getD i 0) = nI i) ∧ (∀ x, x < n → x ∉ L → h_X σ (o + 1 + 15) x = -1) ∧
  (∀ q, q < i → h_X σ (o + 1 + 16) (L.getD q 0) = nI (ctO on kd sc L q)) ∧ (∀ x, x < n → (∀ q, q < i → L.getD q 0 ≠ x) → h_X σ (o + 1 + 16) x = 0) ∧ (∀ x, x < n → h_X σ (o + 1 + 17) x = (mkO on kd sc sy jo L i).1 x) ∧
  (∀ x, x < n → Tx σ o 18 19 x ((mkO on kd sc sy jo L i).2 x)) ∧ ∀ q, q < i → Tx σ o 20 21 (L.getD q 0) (sgn (sy (kd (L.getD q 0)).toNatClampNeg) (ctO on kd sc L q))
section MC
variable {l : Launch} {D : DD} {σ : Hp} {o : Nat}
set_option maxHeartbeats 4000000 in
theorem c_M_make {n : Nat} {sc sy jo : Nat → Nat} {L : List Nat} (hM : ML σ o) (hP : mkP σ o n sc sy jo L) (hm : h_I σ 721 o = nI 1 ∧ mkD σ o n (h_X σ (o + 1 + 7)) (h_X σ (o + 1 + 6)) sc sy jo L ∨ h_I σ 721 o = nI 0) :
    Cn l D m_M_make 0 0 [va_rf (some o)] σ (fun r τ => r = none ∧ MFr mkR mkI σ τ o ∧ h_I τ 721 o = nI 1 ∧ mkD τ o n (h_X σ (o + 1 + 7)) (h_X σ (o + 1 + 6)) sc sy jo L) := by
  generalize hQ : (fun (r : Option Value) (τ : Hp) => r = none ∧ MFr mkR mkI σ τ o ∧ h_I τ 721 o = nI 1 ∧ mkD τ o n (h_X σ (o + 1 + 7)) (h_X σ (o + 1 + 6)) sc sy jo L) = Q
  refine Cn.of (by decide) (by repeat (first | exact ca_0 | refine ca_i ?_ | refine ca_r ?_)) (Nat.le_of_ble_eq_true rfl) ?_
  rcases hm with ⟨hm, hd⟩ | hm
  · refine r_aload_n rfl rfl ?_
    (first | refine r_getIv rfl hM.1 rfl (by assumption) ?_ | refine r_getI rfl hM.1 rfl ?_)
    refine r_if_eq rfl (fun q => absurd q (by decide)) (fun _ => ?_)
    refine r_vret rfl rfl ?_
    rw [← hQ]
    exact ⟨rfl, MFr.rf _ _ _ _, hm, hd⟩
  refine r_aload_n rfl rfl ?_
  (first | refine r_getIv rfl hM.1 rfl (by assumption) ?_ | refine r_getI rfl hM.1 rfl ?_)
  refine r_if_eq rfl (fun _ => ?_) (fun q => absurd rfl q)
  refine r_aload_n rfl rfl ?_
  refine r_iconst (v := nI 1) rfl (by decide) ?_
  refine r_putI rfl hM.1 rfl (Or.inl rfl) (by first | rfl | decide) (by first | rfl | decide) ?_
  refine r_aload_n rfl rfl ?_
  have f1 : MFr mkR mkI σ (w_I σ 721 o (nI 1)) o := MFr.I σ _ (by decide)
  have i1 : h_I (w_I σ 721 o (nI 1)) 721 o = nI 1 := hI_w _ _ _ _
  generalize w_I σ 721 o (nI 1) = σ1 at f1 i1
  have hM1 := f1.mL hM
  have hP1 := hP.keep f1
  obtain ⟨p1, p2, p3, p4, p5, p6, p7, p8⟩ := id hP1
  refine r_callV (As := []) rfl (by decide) rfl hM1.1 rfl rfl (Nat.le_of_ble_eq_true rfl) ⟨Nat.le_of_ble_eq_true rfl, Nat.le_of_ble_eq_true rfl⟩ (c_M_order hM1 p2 p1 p3 (fun x hx => ⟨(p8 x hx).1, (p8 x hx).2.1⟩) p4 p5) (kc' := 0) (ks' := 0) (by omega) (by omega) (by decide) ?_
  rintro r τ ⟨rfl, O, A, rfl, o1, o2, o3⟩
  have f2 : MFr mkR mkI σ (w_I (w_X (w_X σ1 (o + 1 + 14) O) (o + 1 + 15) A) 724 o (nI L.length)) o := ((f1.tr (MFr.X _ O (by decide))).tr (MFr.X _ A (by decide))).tr (MFr.I _ _ (by decide))
  have a1 : h_I (w_I (w_X (w_X σ1 (o + 1 + 14) O) (o + 1 + 15) A) 724 o (nI L.length)) 721 o = nI 1 := by rw [hI_n _ _ (by decide)]; exact i1
  have a2 : h_I (w_I (w_X (w_X σ1 (o + 1 + 14) O) (o + 1 + 15) A) 724 o (nI L.length)) 724 o = nI L.length := hI_w _ _ _ _
  have a3 : ∀ i, i < L.length → h_X (w_I (w_X (w_X σ1 (o + 1 + 14) O) (o + 1 + 15) A) 724 o (nI L.length)) (o + 1 + 14) i = nI (L.getD i 0) := fun i hi => by rw [hX_wI, hX_n _ _ (by omega), hX_w]; exact o1 i hi
  have a4 : h_X (w_I (w_X (w_X σ1 (o + 1 + 14) O) (o + 1 + 15) A) 724 o (nI L.length)) (o + 1 + 15) = A := by rw [hX_wI, hX_w]
  generalize w_I (w_X (w_X σ1 (o + 1 + 14) O) (o + 1 + 15) A) 724 o (nI L.length) = σ2 at f2 a1 a2 a3 a4
  clear hP1 hM1 p2 p3 p6 p7 p8
  -- the things of the ORDER
  have main : ∀ (d i : Nat) (τ : Hp) (z1 z2 : Option Value), i + d = L.length → MFr mkR mkI σ τ o → mkJ τ o n (h_X σ (o + 1 + 7)) (h_X σ (o + 1 + 6)) sc sy jo L i → Gm l D m_M_make 0 0 Q 56 [some (va_rf (some o)), some (.int (nI i)), z1, z2] [] τ 0 0 := by
    intro d
    induction d with
    | zero =>
      intro i τ z1 z2 hi hF hJ
      have hM := hF.mL hM
      obtain ⟨j1, j2, j3, j4, j5, j6, j7, j8, j9, j10⟩ := hJ
      refine r_iload_n rfl rfl ?_
      refine r_aload_n rfl rfl ?_
      (first | refine r_getIv rfl hM.1 rfl (by assumption) ?_ | refine r_getI rfl hM.1 rfl ?_)
      refine r_geN rfl (by omega) (by omega) (fun _ => ?_) (fun q => by omega)
      refine r_vret rfl rfl ?_
      rw [← hQ]
      have hiL : i = L.length := by omega
      subst hiL
      refine ⟨rfl, hF, j1, j2, j3, j4, j5, j6, fun x hx hxL => j7 x hx (fun q hq e => hxL (by rw [← e]; exact getD_mem hq)), j8, j9, j10⟩
    | succ d ih =>
      intro i τ z1 z2 hi hF hJ
      have hM := hF.mL hM
      have hPt := hP.keep hF
      have r6 : h_X τ (o + 1 + 6) = h_X σ (o + 1 + 6) := hF.row (by decide)
      have r7 : h_X τ (o + 1 + 7) = h_X σ (o + 1 + 7) := hF.row (by decide)
      obtain ⟨j1, j2, j3, j4, j5, j6, j7, j8, j9, j10⟩ := hJ
      obtain ⟨p1, p2, p3, p4, p5, p6, p7, p8⟩ := id hPt
      obtain ⟨x1, x2, x3, x4, x5⟩ := p8 _ (getD_mem (show i < L.length by omega))
      refine r_iload_n rfl rfl ?_
      refine r_aload_n rfl rfl ?_
      (first | refine r_getIv rfl hM.1 rfl (by assumption) ?_ | refine r_getI rfl hM.1 rfl ?_)
      refine r_geN rfl (by omega) (by omega) (fun q => by omega) (fun _ => ?_)
      refine r_aload_n rfl rfl ?_
      refine r_mg (j := 14) hM rfl rfl (by decide) ?_
      refine r_iload_n rfl rfl ?_
      refine r_mi (j := 14) hM rfl rfl (by decide) (by first | rfl | assumption) (show _ < 120 by omega) ?_
      rw [j3 i (by omega)]
      refine r_istore_n rfl (by decide) ?_
      refine mk_count hM hPt (show i < L.length by omega) j3 (fun z => ?_) _
      rw [r6, r7]
      generalize hct : ctO (h_X σ (o + 1 + 7)) (h_X σ (o + 1 + 6)) sc L i = ct
      have hct1 : 1 ≤ ct ∧ ct ≤ 120 := by
        rw [← hct]
        unfold ctO
        have := cntB_le (fun q => decide (h_X σ (o + 1 + 6) (L.getD q 0) = h_X σ (o + 1 + 6) (L.getD i 0)) && ssB (h_X σ (o + 1 + 7)) (h_X σ (o + 1 + 6)) (sc (h_X σ (o + 1 + 6) (L.getD i 0)).toNatClampNeg) (L.getD i 0) (L.getD q 0)) i
        omega
      obtain ⟨k, k1, k2⟩ := p6 _ x1
      rw [r6] at k2
      have kc : (h_X σ (o + 1 + 6) (L.getD i 0)).toNatClampNeg = k := by rw [k2]; exact nI_clamp (by omega)
      obtain ⟨s1, s2, s3, s4, s5, s6⟩ := p7 k k1
      rw [r6, r7] at x3 x5
      have fA : MFr mkR mkI τ (w_X τ (o + 1 + 16) (upd (h_X τ (o + 1 + 16)) (L.getD i 0) (nI ct))) o := MFr.X _ _ (by decide)
      have e16 : h_X (w_X τ (o + 1 + 16) (upd (h_X τ (o + 1 + 16)) (L.getD i 0) (nI ct))) (o + 1 + 16) = upd (h_X τ (o + 1 + 16)) (L.getD i 0) (nI ct) := hX_w _ _ _
      have eo : ∀ j, j ≠ 16 → h_X (w_X τ (o + 1 + 16) (upd (h_X τ (o + 1 + 16)) (L.getD i 0) (nI ct))) (o + 1 + j) = h_X τ (o + 1 + j) := fun j hj => hX_n _ _ (by omega)
      have eI : h_I (w_X τ (o + 1 + 16) (upd (h_X τ (o + 1 + 16)) (L.getD i 0) (nI ct))) = h_I τ := rfl
      generalize w_X τ (o + 1 + 16) (upd (h_X τ (o + 1 + 16)) (L.getD i 0) (nI ct)) = τ1 at fA e16 eo eI
      have hM1 := fA.mL hM
      generalize hx : L.getD i 0 = x at *
      refine r_aload_n rfl rfl ?_
      refine r_iload_n rfl rfl ?_
      refine r_callV (As := [_]) rfl (by decide) rfl hM1.1 rfl rfl (Nat.le_of_ble_eq_true rfl) ⟨Nat.le_of_ble_eq_true rfl, Nat.le_of_ble_eq_true rfl⟩ (c_M_makeSign (c := ct) (k := k) (s := sy k) (zs := []) hM1 (by omega) (by rw [e16, upd_s]) hct1.1 hct1.2 (by rw [eo 6 (by decide), r6]; exact k2) k1 (by rw [eo 4 (by decide)]; exact s3) s4) (kc' := 0) (ks' := 0) (by omega) (by omega) (by decide) ?_
      rintro r τ2 ⟨rfl, t1, f3⟩
      have hM2 := f3.ML hM1
      have q6 : h_X τ2 (o + 1 + 6) = h_X σ (o + 1 + 6) := by rw [f3.row (by omega) (by omega), eo 6 (by decide), r6]
      have q7 : h_X τ2 (o + 1 + 7) = h_X σ (o + 1 + 7) := by rw [f3.row (by omega) (by omega), eo 7 (by decide), r7]
      have q3 : h_X τ2 (o + 1 + 3) k = nI (sc k) := by rw [f3.row (by omega) (by omega), eo 3 (by decide)]; exact s1
      have q5 : h_X τ2 (o + 1 + 5) k = nI (jo k) := by rw [f3.row (by omega) (by omega), eo 5 (by decide)]; exact s5
      have q17 : h_X τ2 (o + 1 + 17) = h_X τ (o + 1 + 17) := by rw [f3.row (by omega) (by omega), eo 17 (by decide)]
      have tx2 : ∀ p, p < n → Tx τ2 o 18 19 p ((mkO (h_X σ (o + 1 + 7)) (h_X σ (o + 1 + 6)) sc sy jo L i).2 p) := by
        intro p hp
        have := j9 p hp
        unfold Tx at this ⊢
        rw [f3.row (b := o + 1 + 18) (by omega) (by omega), f3.row (b := o + 1 + 19) (by omega) (by omega), eo 18 (by decide), eo 19 (by decide)]
        exact this
      generalize hb0 : b0O (h_X σ (o + 1 + 7)) (h_X σ (o + 1 + 6)) sc x = b0 at x5
      generalize hnm : (mkO (h_X σ (o + 1 + 7)) (h_X σ (o + 1 + 6)) sc sy jo L i).2 b0.toNatClampNeg = nm
      refine r_aload_n rfl rfl ?_
      refine r_iload_n rfl rfl ?_
      refine r_callV (As := [_]) rfl (by decide) rfl hM2.1 rfl rfl (Nat.le_of_ble_eq_true rfl) ⟨Nat.le_of_ble_eq_true rfl, Nat.le_of_ble_eq_true rfl⟩ (c_M_makeNumber (k := k) (s := sc k) (j := jo k) (b0 := b0) (nm := nm) (sg := sgn (sy k) ct) hM2 (by omega) (by rw [q6]; exact k2) k1 q3 s2 q5 s6 (fun _ => by rw [q6, q7]; exact x3 _) (by rw [q6, q7, ← hb0]; unfold b0O; rw [kc]) t1 (sgn_len _ _).1 (by
        rcases x5 with w | ⟨p, w1, w2, w3⟩
        · exact Or.inl w
        · refine Or.inr ⟨p, by omega, w2, w3, ?_⟩
          rw [← hnm, w3, nI_clamp (by omega)]
          exact tx2 p w1)) (kc' := 0) (ks' := 0) (by omega) (by omega) (by decide) ?_
      rintro r τ3 ⟨rfl, t2, f4⟩
      refine r_iinc rfl rfl (nI_inc _) ?_
      refine r_goto rfl ?_
      have fB : MFr mkR mkI τ2 (w_X τ2 (o + 1 + 17) (upd (h_X τ2 (o + 1 + 17)) x (bsV b0 nm))) o := MFr.X _ _ (by decide)
      have hF3 : MFr mkR mkI σ τ3 o := (((hF.tr fA).tr (MFr.T f3 (by decide) (by decide))).tr fB).tr (MFr.T f4 (by decide) (by decide))
      have hI3 : ∀ f, h_I τ3 f o = h_I τ f o := fun f => by rw [f4.I]; show h_I τ2 f o = _; rw [f3.I, eI]
      have row3 : ∀ j, j ≠ 16 → j ≠ 17 → j ≠ 18 → j ≠ 19 → j ≠ 20 → j ≠ 21 → h_X τ3 (o + 1 + j) = h_X τ (o + 1 + j) := by
        intro j h1 h2 h3 h4 h5 h6
        rw [f4.row (by omega) (by omega), hX_n _ _ (by omega), f3.row (by omega) (by omega), eo j h1]
      have row16 : h_X τ3 (o + 1 + 16) = upd (h_X τ (o + 1 + 16)) x (nI ct) := by
        rw [f4.row (by omega) (by omega), hX_n _ _ (by omega), f3.row (by omega) (by omega), e16]
      have row17 : h_X τ3 (o + 1 + 17) = upd (h_X τ (o + 1 + 17)) x (bsV b0 nm) := by
        rw [f4.row (by omega) (by omega), hX_w, q17]
      have ne : ∀ q, q < i → L.getD q 0 ≠ x := fun q hq e => by
        have := getD_inj p5 (show q < L.length by omega) (show i < L.length by omega) (e.trans hx.symm)
        omega
      refine ih (i + 1) τ3 _ _ (by omega) hF3 ⟨by rw [hI3]; exact j1, by rw [hI3]; exact j2, by rw [row3 14 (by decide) (by decide) (by decide) (by decide) (by decide) (by decide)]; exact j3, by rw [row3 15 (by decide) (by decide) (by decide) (by decide) (by decide) (by decide)]; exact j4, by rw [row3 15 (by decide) (by decide) (by decide) (by decide) (by decide) (by decide)]; exact j5, fun q hq => ?_, fun y hy hq => ?_, fun y hy => ?_, fun y hy => ?_, fun q hq => ?_⟩
      · rw [row16]
        by_cases e : q = i
        · rw [e, hx, upd_s, ← hct, ]
        · rw [upd_n _ _ (ne q (by omega))]
          exact j6 q (by omega)
      · have hyx : y ≠ x := fun e => hq i (by omega) (by rw [hx, e])
        rw [row16, upd_n _ _ hyx]
        exact j7 y hy (fun q hq2 => hq q (by omega))
      · rw [row17, mkO]
        show _ = upd _ (L.getD i 0) _ y
        rw [hx, hb0, hnm]
        by_cases e : y = x
        · rw [e, upd_s, upd_s]
        · rw [upd_n _ _ e, upd_n _ _ e]
          exact j8 y hy
      · rw [mkO]
        show Tx τ3 o 18 19 y (u_1 _ (L.getD i 0) _ y)
        rw [hx, hb0, hnm, kc, hct]
        by_cases e : y = x
        · rw [e, u1_s]
          exact t2
        · rw [u1_n _ _ e]
          refine Tx.keep (by decide) f4 e ?_
          have := tx2 y hy
          unfold Tx at this ⊢
          rw [hX_n _ _ (by omega), hX_n _ _ (by omega)]
          exact this
      · have tr : ∀ z zs, Tx τ2 o 20 21 z zs → Tx τ3 o 20 21 z zs := by
          intro z zs h
          unfold Tx at h ⊢
          rw [f4.row (b := o + 1 + 20) (by omega) (by omega), f4.row (b := o + 1 + 21) (by omega) (by omega), hX_n _ _ (by omega), hX_n _ _ (by omega)]
          exact h
        by_cases e : q = i
        · rw [e, hx, kc, hct]
          exact tr _ _ t1
        · refine tr _ _ (Tx.keep (by decide) f3 (ne q (by omega)) ?_)
          have := j10 q (by omega)
          unfold Tx at this ⊢
          rw [eo 20 (by decide), eo 21 (by decide)]
          exact this
  -- all is cleared first
  have fill : ∀ (d k : Nat) (τ : Hp), k + d = n → MFr mkR mkI σ τ o → h_I τ 721 o = nI 1 → h_I τ 724 o = nI L.length → (∀ i, i < L.length → h_X τ (o + 1 + 14) i = nI (L.getD i 0)) → h_X τ (o + 1 + 15) = A → (∀ x, x < k → h_X τ (o + 1 + 16) x = nI 0 ∧ h_X τ (o + 1 + 17) x = -1 ∧ h_X τ (o + 1 + 19) x = nI 0) →
      Gm l D m_M_make 0 0 Q 19 [some (va_rf (some o)), some (.int (nI k)), none, none] [] τ 0 0 := by
    intro d
    induction d with
    | zero =>
      intro k τ hk hF b1 b2 b3 b4 b5
      have hM := hF.mL hM
      have hn := (hP.keep hF).2.1
      refine r_iload_n rfl rfl ?_
      refine r_aload_n rfl rfl ?_
      (first | refine r_getIv rfl hM.1 rfl (by assumption) ?_ | refine r_getI rfl hM.1 rfl ?_)
      refine r_geN rfl (by omega) (by omega) (fun _ => ?_) (fun q => by omega)
      refine r_iconst (v := nI 0) rfl (by decide) ?_
      refine r_istore_n rfl (by decide) ?_
      refine main L.length 0 τ _ _ (by omega) hF ⟨b1, b2, b3, by rw [b4]; exact o2, by rw [b4]; exact o3, fun q hq => by omega, fun x hx _ => (b5 x (by omega)).1, fun x hx => (b5 x (by omega)).2.1, fun x hx => ⟨(b5 x (by omega)).2.2, by show ([] : List Int32).length ≤ 60; simp, fun i hi => ?_⟩, fun q hq => by omega⟩
      exact absurd hi (by show ¬ i < ([] : List Int32).length; simp)
    | succ d ih =>
      intro k τ hk hF b1 b2 b3 b4 b5
      have hM := hF.mL hM
      have hn := (hP.keep hF).2.1
      refine r_iload_n rfl rfl ?_
      refine r_aload_n rfl rfl ?_
      (first | refine r_getIv rfl hM.1 rfl (by assumption) ?_ | refine r_getI rfl hM.1 rfl ?_)
      refine r_geN rfl (by omega) (by omega) (fun q => by omega) (fun _ => ?_)
      refine r_aload_n rfl rfl ?_
      refine r_mg (j := 19) hM rfl rfl (by decide) ?_
      refine r_iload_n rfl rfl ?_
      refine r_iconst (v := nI 0) rfl (by decide) ?_
      refine r_mis (j := 19) hM rfl rfl (by decide) (by first | rfl | assumption) (show _ < 120 by omega) ?_
      refine r_aload_n rfl rfl ?_
      refine r_mg (j := 16) hM rfl rfl (by decide) ?_
      refine r_iload_n rfl rfl ?_
      refine r_iconst (v := nI 0) rfl (by decide) ?_
      refine r_mis (j := 16) hM rfl rfl (by decide) (by first | rfl | assumption) (show _ < 120 by omega) ?_
      refine r_aload_n rfl rfl ?_
      refine r_mg (j := 17) hM rfl rfl (by decide) ?_
      refine r_iload_n rfl rfl ?_
      refine r_iconst (v := -1) rfl (by decide) ?_
      refine r_mis (j := 17) hM rfl rfl (by decide) (by first | rfl | assumption) (show _ < 120 by omega) ?_
      refine r_iinc rfl rfl (nI_inc _) ?_
      refine r_goto rfl ?_
      refine ih (k + 1) _ (by omega) (((hF.tr (MFr.X _ _ (by decide))).tr (MFr.X _ _ (by decide))).tr (MFr.X _ _ (by decide))) b1 b2 ?_ ?_ (fun x hx => ?_)
      · rw [hX_n _ _ (by omega), hX_n _ _ (by omega), hX_n _ _ (by omega)]
        exact b3
      · rw [hX_n _ _ (by omega), hX_n _ _ (by omega), hX_n _ _ (by omega)]
        exact b4
      · rw [hX_w, hX_n _ _ (show o + 1 + 16 ≠ o + 1 + 17 by omega), hX_w, hX_n _ _ (show o + 1 + 19 ≠ o + 1 + 17 by omega), hX_n _ _ (show o + 1 + 19 ≠ o + 1 + 16 by omega), hX_w, hX_n _ _ (show o + 1 + 16 ≠ o + 1 + 19 by omega), hX_n _ _ (show o + 1 + 17 ≠ o + 1 + 16 by omega), hX_n _ _ (show o + 1 + 17 ≠ o + 1 + 19 by omega)]
        by_cases e : x = k
        · rw [e, upd_s, upd_s, upd_s]
          exact ⟨rfl, rfl, rfl⟩
        · rw [upd_n _ _ e, upd_n _ _ e, upd_n _ _ e]
          exact b5 x (by omega)
  refine r_iconst (v := nI 0) rfl (by decide) ?_
  refine r_istore_n rfl (by decide) ?_
  exact fill n 0 σ2 (by omega) f2 a1 a2 a3 a4 (fun x hx => by omega)
end MC
