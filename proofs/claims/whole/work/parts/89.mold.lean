/-! ===== the reference: old, changed ===== -/
def edI (S : Sp) (e : Int32) : Option Ed := if e < 0 then none else (s_e S)[e.toNatClampNeg]?
def oldB (S : Sp) (d : Ed) (k : Nat) (x : Nat) : Bool := match d x with
  | none => false
  | some t => decide (s_k S x = k) && decide (t.2 = s_t S)
def a_old (S : Sp) (e k : Int32) : Int32 × Sp := (match edI S e, kiI k with
  | some d, some k' => oI ((List.range 120).find? (oldB S d k'))
  | _, _ => -2, sT S [])
def chB (S : Sp) (d : Ed) (x : Nat) : Bool := match d x with
  | none => false
  | some t => match ldo (s_T S) x with
    | none => true
    | some y => decide (t.1 ≠ tdT S y)
def a_chan (S : Sp) (e : Int32) : Int32 := match edI S e with
  | none => -2
  | some d => nI (cntB (chB S d) 120)
theorem edI_in {S : Sp} {e : Int32} (hl : (s_e S).length ≤ 8) (h : (decide (0 ≤ e) && decide (e < nI (s_e S).length)) = true) : ∃ p d, e = nI p ∧ p < 8 ∧ (s_e S)[p]? = some d ∧ edI S e = some d := by
  simp only [Bool.and_eq_true, decide_eq_true_eq] at h
  obtain ⟨q, hq, rfl⟩ := nI_of (Int32.not_lt.mpr h.1)
  have hql := (nI_ltI hq (by omega)).mp h.2
  have e := List.getElem?_eq_getElem hql
  refine ⟨q, _, rfl, by omega, e, ?_⟩
  unfold edI
  rw [if_neg (nI_pos hq), nI_clamp hq]
  exact e
theorem edI_no {S : Sp} {e : Int32} (hl : (s_e S).length ≤ 8) (h : (decide (0 ≤ e) && decide (e < nI (s_e S).length)) = false) : edI S e = none := by
  unfold edI
  by_cases a : e < 0
  · rw [if_pos a]
  · rw [if_neg a]
    obtain ⟨q, hq, rfl⟩ := nI_of a
    rw [decide_eq_true (nI_pos' hq), Bool.true_and, decide_eq_false_iff_not, nI_ltI hq (by omega)] at h
    rw [nI_clamp hq]
    exact List.getElem?_eq_none (by omega)
theorem haI_ed {S : Sp} {p x : Nat} {d : Ed} (hp : p < 8) (hx : x < 120) (h : (s_e S)[p]? = some d) : haI S (nI p) (nI x) = d x := by
  unfold haI
  rw [if_neg (fun q => q.elim (nI_pos (by omega)) (nI_pos (by omega))), nI_clamp (by omega), nI_clamp (by omega), h]
theorem find_step {p : Nat → Bool} {n x : Nat} (h : x < n) (h1 : ∀ z, z < x → p z = false) (h2 : p x = true) : (List.range n).find? p = some x := by
  rw [List.find?_range_eq_some]
  exact ⟨h2, List.mem_range.mpr h, fun z hz => by rw [h1 z hz]; rfl⟩
theorem find_none {p : Nat → Bool} {n : Nat} (h1 : ∀ z, z < n → p z = false) : (List.range n).find? p = none := by
  rw [List.find?_eq_none]
  intro z hz
  rw [h1 z (List.mem_range.mp hz)]
  decide
section MC
variable {l : Launch} {D : DD} {σ : Hp} {o : Nat}
set_option maxRecDepth 10000 in
set_option maxHeartbeats 1000000 in
theorem c_M_oldS {S : Sp} {e k : Int32} (h : RM σ o S) : Cn l D m_M_old 0 0 [va_rf (some o), .int e, .int k] σ (fun r τ => r = some (.int (a_old S e k).1) ∧ RM τ o (a_old S e k).2 ∧ MFr mAR mAI σ τ o) := by
  have hM := h.1
  have hS := h.2.1
  have hn9 := hS.1
  have h744 := h.2.2.2.2.2.2.2.2.1.1
  have he8 := hS.2.2.2.2.2.2.2.2.1
  obtain ⟨tp1, tp2, tp3⟩ := h.2.2.1
  have hf : MFr [0] [705] σ (w_I σ 705 o (nI 0)) o := MFr.I _ _ (by decide)
  have hR : RM (w_I σ 705 o (nI 0)) o (sT S []) := h.t hf (Tp.nil (hI_w _ _ _ _))
  have hfw : MFr mAR mAI σ (w_I σ 705 o (nI 0)) o := hf.wide (by decide) (by decide)
  generalize hQ : (fun (r : Option Value) (τ : Hp) => r = some (.int (a_old S e k).1) ∧ RM τ o (a_old S e k).2 ∧ MFr mAR mAI σ τ o) = Q
  refine Cn.of (by decide) (by repeat (first | exact ca_0 | refine ca_i ?_ | refine ca_r ?_)) (Nat.le_of_ble_eq_true rfl) ?_
  refine r_aload_n rfl rfl ?_
  (first | refine r_getIv rfl hM.1 rfl (by assumption) ?_ | refine r_getI rfl hM.1 rfl ?_)
  refine r_istore_n rfl (by decide) ?_
  refine r_aload_n rfl rfl ?_
  refine r_iconst (v := nI 0) rfl (by decide) ?_
  refine r_putI rfl hM.1 rfl (Or.inl rfl) (by first | rfl | decide) (by first | rfl | decide) ?_
  have h7442 : h_I (w_I σ 705 o (nI 0)) 744 o = nI (s_e S).length := (hI_n _ _ (by decide)).trans h744
  have tpτ : ∀ i, i < (s_t S).length → h_X (w_I σ 705 o (nI 0)) (o + 1 + 0) i = (s_t S).getD i 0 := tp3
  have hED : ∀ p d, (s_e S)[p]? = some d → RE1 (w_I σ 705 o (nI 0)) o p d := fun p d hd => hR.2.2.2.2.2.2.2.2.1.2 p d hd
  have t2 : h_X (w_I σ 705 o (nI 0)) (o + 1 + 6) = fun x => nI (s_k S x) := hR.rt.2.1
  have hM : ML (w_I σ 705 o (nI 0)) o := hM
  have hadT : ∀ e x, hadB (s_e S).length (h_X (w_I σ 705 o (nI 0)) (o + 1 + 34)) e x = (haI S e x).isSome := fun e x => had_T h e x
  generalize w_I σ 705 o (nI 0) = τ at *
  have fin : ∀ (u : Int32), u = (a_old S e k).1 → some (Value.int u) = some (.int (a_old S e k).1) ∧ RM τ o (a_old S e k).2 ∧ MFr mAR mAI σ τ o := by
    rintro u rfl
    exact ⟨rfl, hR, hfw⟩
  have no : (a_old S e k).1 = -2 → Gm l D m_M_old 0 0 Q 31 [some (va_rf (some o)), some (.int e), some (.int k), some (.int (nI (s_t S).length)), none, none, none, none] [] τ 0 0 := by
    intro ea
    refine r_bipush (v := -2) rfl (by decide) ?_
    refine r_iret rfl rfl ?_
    rw [← hQ]
    exact fin _ ea.symm
  refine r_iload_n rfl rfl ?_
  refine r_iconst (v := nI 0) rfl (by decide) ?_
  refine r_aload_n rfl rfl ?_
  (first | refine r_getIv rfl hM.1 rfl (by assumption) ?_ | refine r_getI rfl hM.1 rfl ?_)
  refine r_iconst (v := nI 1) rfl (by decide) ?_
  refine r_isub rfl ?_
  refine r_callS (As := [_, _, _]) rfl (by decide) rfl rfl rfl (Nat.le_of_ble_eq_true rfl) ⟨Nat.le_of_ble_eq_true rfl, Nat.le_of_ble_eq_true rfl⟩ (c_M_in) (kc' := 0) (ks' := 0) (by omega) (by omega) ?_
  rintro r τ ⟨rfl, rfl⟩
  rw [inB_m (by omega)]
  refine r_ifeqB rfl (fun q => no (by unfold a_old; rw [edI_no he8 q])) (fun q1 => ?_)
  obtain ⟨p, d, rfl, p8, hpd, hed⟩ := edI_in he8 q1
  refine r_iload_n rfl rfl ?_
  refine r_callS (As := [_]) rfl (by decide) rfl rfl rfl (Nat.le_of_ble_eq_true rfl) ⟨Nat.le_of_ble_eq_true rfl, Nat.le_of_ble_eq_true rfl⟩ (c_M_isKind) (kc' := 0) (ks' := 0) (by omega) (by omega) ?_
  rintro r τ ⟨rfl, rfl⟩
  refine r_ifneB rfl (fun q2 => ?_) (fun q2 => no (by unfold a_old kiI; rw [hed, q2]; rfl))
  obtain ⟨k', hk, rfl⟩ := inB_nI (m := 5) (by omega) q2
  have ea : (a_old S (nI p) (nI k')).1 = oI ((List.range 120).find? (oldB S d k')) := by
    unfold a_old
    rw [hed, kiI_nI (by omega)]
  have hdv := hS.2.2.2.2.2.2.2.2.2.2 d (List.mem_of_getElem? hpd)
  have hE1 := hED p d hpd
  refine r_iconst (v := nI 0) rfl (by decide) ?_
  refine r_istore rfl (by decide) ?_
  have lp : ∀ (c x : Nat) (z5 z6 z7 : Option Value), x + c = 120 → (∀ z, z < x → oldB S d k' z = false) → Gm l D m_M_old 0 0 Q 37 [some (va_rf (some o)), some (.int (nI p)), some (.int (nI k')), some (.int (nI (s_t S).length)), some (.int (nI x)), z5, z6, z7] [] τ 0 0 := by
    intro c
    induction c with
    | zero =>
      intro x z5 z6 z7 hx hno
      refine r_iload rfl rfl ?_
      refine r_bipush (v := nI 120) rfl (by decide) ?_
      refine r_geN rfl (by omega) (by omega) (fun _ => ?_) (fun w => by omega)
      refine r_iconst (v := -1) rfl (by decide) ?_
      refine r_iret rfl rfl ?_
      rw [← hQ]
      refine fin _ ?_
      rw [ea, find_none (fun z hz => hno z (by omega))]
      rfl
    | succ c ih =>
      intro x z5 z6 z7 hx hno
      have skip : ∀ (z5 z6 z7 : Option Value), oldB S d k' x = false → Gm l D m_M_old 0 0 Q 169 [some (va_rf (some o)), some (.int (nI p)), some (.int (nI k')), some (.int (nI (s_t S).length)), some (.int (nI x)), z5, z6, z7] [] τ 0 0 := by
        intro z5 z6 z7 hb
        refine r_iinc rfl rfl (nI_inc _) ?_
        refine r_goto rfl ?_
        refine ih (x + 1) _ _ _ (by omega) (fun z hz => ?_)
        by_cases w : z = x
        · rw [w]; exact hb
        · exact hno z (by omega)
      refine r_iload rfl rfl ?_
      refine r_bipush (v := nI 120) rfl (by decide) ?_
      refine r_geN rfl (by omega) (by omega) (fun w => by omega) (fun _ => ?_)
      refine r_aload_n rfl rfl ?_
      refine r_iload_n rfl rfl ?_
      refine r_iload rfl rfl ?_
      refine r_callV (As := [_, _]) rfl (by decide) rfl (by first | exact hM.1 | assumption) rfl rfl (Nat.le_of_ble_eq_true rfl) ⟨Nat.le_of_ble_eq_true rfl, Nat.le_of_ble_eq_true rfl⟩ (c_M_had hM h7442 he8) (kc' := 0) (ks' := 0) (by omega) (by omega) (by decide) ?_
      rintro r τ ⟨rfl, rfl⟩
      rw [hadT, haI_ed p8 (by omega) hpd]
      cases hdx : d x with
      | none =>
        refine r_ifeqB rfl (fun _ => skip _ _ _ (by unfold oldB; rw [hdx])) (fun w => by cases w)
      | some t =>
        obtain ⟨td, nm⟩ := t
        refine r_ifeqB rfl (fun w => by cases w) (fun _ => ?_)
        obtain ⟨xn, s2, s3, s4, s5⟩ := hdv x td nm hdx
        obtain ⟨g1, g2, g3⟩ := (hE1 x (by omega)).2 td nm hdx
        have eb : oldB S d k' x = (decide (s_k S x = k') && decide (nm = s_t S)) := by unfold oldB; rw [hdx]
        have hk6 := hS.2.1 x xn
        refine r_aload_n rfl rfl ?_
        refine r_mg (j := 6) hM rfl rfl (by decide) ?_
        refine r_iload rfl rfl ?_
        refine r_mi (j := 6) hM rfl rfl (by decide) (by first | rfl | assumption) (show _ < 120 by omega) ?_
        refine r_iload_n rfl rfl ?_
        rw [t2]
        refine r_eqN rfl (by omega) (by omega) (fun w1 => ?_) (fun w1 => ?_)
        · rw [decide_eq_true w1, Bool.true_and] at eb
          refine r_bipush (v := nI 120) rfl (by decide) ?_
          refine r_iload_n rfl rfl ?_
          (first | refine r_imulN rfl ?_ | refine r_imul rfl ?_)
          refine r_iload rfl rfl ?_
          (first | refine r_iaddN rfl ?_ | refine r_iadd rfl ?_)
          refine r_istore rfl (by decide) ?_
          refine r_aload_n rfl rfl ?_
          refine r_mg (j := 33) hM rfl rfl (by decide) ?_
          refine r_iload rfl rfl ?_
          refine r_mi (j := 33) hM rfl rfl (by decide) (by first | rfl | assumption) (show _ < 960 by omega) ?_
          rw [g1]
          refine r_aload_n rfl rfl ?_
          refine r_mg (j := 34) hM rfl rfl (by decide) ?_
          refine r_iload rfl rfl ?_
          refine r_mi (j := 34) hM rfl rfl (by decide) (by first | rfl | assumption) (show _ < 960 by omega) ?_
          rw [g2]
          refine r_isubN rfl (by omega) ?_
          rw [show td.length - (td.length - nm.length) = nm.length by omega]
          refine r_iload_n rfl rfl ?_
          have done : ∀ (b : Bool) (z7 : Option Value), b = decide (nm = s_t S) → Gm l D m_M_old 0 0 Q 161 [some (va_rf (some o)), some (.int (nI p)), some (.int (nI k')), some (.int (nI (s_t S).length)), some (.int (nI x)), some (.int (nI (120 * p + x))), some (.int (nI b.toNat)), z7] [] τ 0 0 := by
            intro b z7 hb
            refine r_iload rfl rfl ?_
            refine r_ifeqB rfl (fun w => skip _ _ _ (by rw [eb, ← hb, w])) (fun w => ?_)
            refine r_iload rfl rfl ?_
            refine r_iret rfl rfl ?_
            rw [← hQ]
            refine fin _ ?_
            rw [ea, find_step (by omega) hno (by rw [eb, ← hb, w])]
            rfl
          refine r_neN rfl (by omega) (by omega) (fun w2 => ?_) (fun w2 => ?_)
          · have hb : false = decide (nm = s_t S) := (decide_eq_false (fun e => w2 (by rw [e]))).symm
            refine r_iconst (v := nI 0) rfl (by decide) ?_
            refine r_istore rfl (by decide) ?_
            refine r_iconst (v := nI 0) rfl (by decide) ?_
            refine r_istore rfl (by decide) ?_
            refine r_iload rfl rfl ?_
            refine r_iload_n rfl rfl ?_
            refine r_geN rfl (by omega) (by omega) (fun _ => done false _ hb) (fun _ => ?_)
            refine r_iload rfl rfl ?_
            exact r_if_eq rfl (fun _ => done false _ hb) (fun q => absurd rfl q)
          · refine r_iconst (v := nI 1) rfl (by decide) ?_
            refine r_goto rfl ?_
            refine r_istore rfl (by decide) ?_
            refine r_iconst (v := nI 0) rfl (by decide) ?_
            refine r_istore rfl (by decide) ?_
            have inn : ∀ (c q : Nat), q + c = nm.length → (∀ j, j < q → nm.getD j 0 = (s_t S).getD j 0) → Gm l D m_M_old 0 0 Q 106 [some (va_rf (some o)), some (.int (nI p)), some (.int (nI k')), some (.int (nI (s_t S).length)), some (.int (nI x)), some (.int (nI (120 * p + x))), some (.int (nI 1)), some (.int (nI q))] [] τ 0 0 := by
              intro c
              induction c with
              | zero =>
                intro q hq hj
                refine r_iload rfl rfl ?_
                refine r_iload_n rfl rfl ?_
                refine r_geN rfl (by omega) (by omega) (fun _ => ?_) (fun w => by omega)
                refine done true _ (decide_eq_true ?_).symm
                refine List.ext_getElem w2 (fun j h1 h2 => ?_)
                have := hj j (by omega)
                rwa [getD_at h1, getD_at h2] at this
              | succ c ih2 =>
                intro q hq hj
                have gq := g3 (td.length - nm.length + q) (by omega)
                have nq : nm.getD q 0 = td.getD (td.length - nm.length + q) 0 := by
                  rw [List.getD_eq_getElem?_getD, List.getD_eq_getElem?_getD]
                  conv => lhs; rw [s4]
                  rw [List.getElem?_drop]
                refine r_iload rfl rfl ?_
                refine r_iload_n rfl rfl ?_
                refine r_geN rfl (by omega) (by omega) (fun w => by omega) (fun _ => ?_)
                refine r_iload rfl rfl ?_
                refine r_if_eq rfl (fun q => absurd q (by decide)) (fun _ => ?_)
                refine r_aload_n rfl rfl ?_
                refine r_mg (j := 32) hM rfl rfl (by decide) ?_
                refine r_bipush (v := nI 60) rfl (by decide) ?_
                refine r_iload rfl rfl ?_
                (first | refine r_imulN rfl ?_ | refine r_imul rfl ?_)
                refine r_aload_n rfl rfl ?_
                refine r_mg (j := 34) hM rfl rfl (by decide) ?_
                refine r_iload rfl rfl ?_
                refine r_mi (j := 34) hM rfl rfl (by decide) (by first | rfl | assumption) (show _ < 960 by omega) ?_
                rw [g2]
                refine r_iaddN rfl ?_
                refine r_iload rfl rfl ?_
                (first | refine r_iaddN rfl ?_ | refine r_iadd rfl ?_)
                refine r_mb (j := 32) hM rfl rfl (by decide) rfl (Nat.lt_of_lt_of_le (show 60 * (120 * p + x) + (td.length - nm.length) + q < 57600 by omega) (Nat.le_of_ble_eq_true rfl)) ?_
                rw [show 60 * (120 * p + x) + (td.length - nm.length) + q = 60 * (120 * p + x) + (td.length - nm.length + q) by omega, gq, ← nq]
                refine r_aload_n rfl rfl ?_
                refine r_mg (j := 0) hM rfl rfl (by decide) ?_
                refine r_iload rfl rfl ?_
                refine r_mb (j := 0) hM rfl rfl (by decide) (by first | rfl | assumption) (show _ < 600 by omega) ?_
                rw [tpτ q (by omega)]
                refine r_icmp_ne rfl (fun w5 => ?_) (fun w5 => ?_)
                · refine r_iconst (v := nI 0) rfl (by decide) ?_
                  refine r_istore rfl (by decide) ?_
                  refine r_iinc rfl rfl (nI_inc _) ?_
                  refine r_goto rfl ?_
                  refine r_iload rfl rfl ?_
                  refine r_iload_n rfl rfl ?_
                  have hb : false = decide (nm = s_t S) := (decide_eq_false (list_ne w2 (by omega) w5)).symm
                  refine r_geN rfl (by omega) (by omega) (fun _ => done false _ hb) (fun _ => ?_)
                  refine r_iload rfl rfl ?_
                  exact r_if_eq rfl (fun _ => done false _ hb) (fun q => absurd rfl q)
                · refine r_iconst (v := nI 1) rfl (by decide) ?_
                  refine r_goto rfl ?_
                  refine r_istore rfl (by decide) ?_
                  refine r_iinc rfl rfl (nI_inc _) ?_
                  refine r_goto rfl ?_
                  refine ih2 (q + 1) (by omega) (fun j hj2 => ?_)
                  by_cases e : j = q
                  · rw [e]; exact w5
                  · exact hj j (by omega)
            exact inn nm.length 0 (by omega) (fun j hj => by omega)
        · refine r_goto rfl ?_
          exact skip _ _ _ (by rw [eb, decide_eq_false w1]; rfl)
  exact lp 120 0 none none none (by omega) (fun z hz => by omega)
set_option maxRecDepth 10000 in
set_option maxHeartbeats 1000000 in
theorem c_M_chanS {S : Sp} {e : Int32} (h : RM σ o S) : Cn l D m_M_changed 0 0 [va_rf (some o), .int e] σ (fun r τ => r = some (.int (a_chan S e)) ∧ RM τ o S ∧ MFr mAR mAI σ τ o) := by
  have hM := h.1
  have hS := h.2.1
  have hW := hS.wf
  have hn9 := hS.1
  have h744 := h.2.2.2.2.2.2.2.2.1.1
  have he8 := hS.2.2.2.2.2.2.2.2.1
  generalize hQ : (fun (r : Option Value) (τ : Hp) => r = some (.int (a_chan S e)) ∧ RM τ o S ∧ MFr mAR mAI σ τ o) = Q
  refine Cn.of (by decide) (by repeat (first | exact ca_0 | refine ca_i ?_ | refine ca_r ?_)) (Nat.le_of_ble_eq_true rfl) ?_
  refine r_iload_n rfl rfl ?_
  refine r_iconst (v := nI 0) rfl (by decide) ?_
  refine r_aload_n rfl rfl ?_
  (first | refine r_getIv rfl hM.1 rfl (by assumption) ?_ | refine r_getI rfl hM.1 rfl ?_)
  refine r_iconst (v := nI 1) rfl (by decide) ?_
  refine r_isub rfl ?_
  refine r_callS (As := [_, _, _]) rfl (by decide) rfl rfl rfl (Nat.le_of_ble_eq_true rfl) ⟨Nat.le_of_ble_eq_true rfl, Nat.le_of_ble_eq_true rfl⟩ (c_M_in) (kc' := 0) (ks' := 0) (by omega) (by omega) ?_
  rintro r σ ⟨rfl, rfl⟩
  rw [inB_m (by omega)]
  refine r_ifneB rfl (fun q1 => ?_) (fun q1 => ?_)
  · obtain ⟨p, d, rfl, p8, hpd, hed⟩ := edI_in he8 q1
    have ea : a_chan S (nI p) = nI (cntB (chB S d) 120) := by unfold a_chan; rw [hed]
    refine r_aload_n rfl rfl ?_
    refine r_callV (As := []) rfl (by decide) rfl (by first | exact hM.1 | assumption) rfl rfl (Nat.le_of_ble_eq_true rfl) ⟨Nat.le_of_ble_eq_true rfl, Nat.le_of_ble_eq_true rfl⟩ (c_M_makeS h) (kc' := 0) (ks' := 0) (by omega) (by omega) (by decide) ?_
    rintro r τ ⟨rfl, hd, hf⟩
    have hfw : MFr mAR mAI σ τ o := hf.wide (by decide) (by decide)
    have hR := hd.1
    have hM := hR.1
    have h744 := hR.2.2.2.2.2.2.2.2.1.1
    have hdv := hS.2.2.2.2.2.2.2.2.2.2 d (List.mem_of_getElem? hpd)
    have hE1 := hR.2.2.2.2.2.2.2.2.1.2 p d hpd
    refine r_iconst (v := nI 0) rfl (by decide) ?_
    refine r_istore_n rfl (by decide) ?_
    refine r_iconst (v := nI 0) rfl (by decide) ?_
    refine r_istore_n rfl (by decide) ?_
    have lp : ∀ (c x : Nat) (z4 z5 z6 z7 : Option Value), x + c = 120 → Gm l D m_M_changed 0 0 Q 25 [some (va_rf (some o)), some (.int (nI p)), some (.int (nI (cntB (chB S d) x))), some (.int (nI x)), z4, z5, z6, z7] [] τ 0 0 := by
      intro c
      induction c with
      | zero =>
        intro x z4 z5 z6 z7 hx
        refine r_iload_n rfl rfl ?_
        refine r_bipush (v := nI 120) rfl (by decide) ?_
        refine r_geN rfl (by omega) (by omega) (fun _ => ?_) (fun w => by omega)
        refine r_iload_n rfl rfl ?_
        refine r_iret rfl rfl ?_
        rw [← hQ]
        refine ⟨?_, hR, hfw⟩
        rw [ea, show x = 120 by omega]
      | succ c ih =>
        intro x z4 z5 z6 z7 hx
        have ih := fun z4 z5 z6 z7 => ih (x + 1) z4 z5 z6 z7 (by omega)
        rw [cntB] at ih
        generalize cntB (chB S d) x = n0 at ih ⊢
        have eb : chB S d x = match d x with
          | none => false
          | some t => match ldo (s_T S) x with
            | none => true
            | some y => decide (t.1 ≠ tdT S y) := rfl
        refine r_iload_n rfl rfl ?_
        refine r_bipush (v := nI 120) rfl (by decide) ?_
        refine r_geN rfl (by omega) (by omega) (fun w => by omega) (fun _ => ?_)
        refine r_aload_n rfl rfl ?_
        refine r_iload_n rfl rfl ?_
        refine r_iload_n rfl rfl ?_
        refine r_callV (As := [_, _]) rfl (by decide) rfl (by first | exact hM.1 | assumption) rfl rfl (Nat.le_of_ble_eq_true rfl) ⟨Nat.le_of_ble_eq_true rfl, Nat.le_of_ble_eq_true rfl⟩ (c_M_had hM h744 he8) (kc' := 0) (ks' := 0) (by omega) (by omega) (by decide) ?_
        rintro r τ ⟨rfl, rfl⟩
        rw [had_T hR, haI_ed p8 (by omega) hpd]
        cases hdx : d x with
        | none =>
          rw [hdx] at eb
          rw [eb] at ih
          refine r_ifneB rfl (fun w => by cases w) (fun _ => ?_)
          refine r_goto rfl ?_
          refine r_iinc rfl rfl (nI_inc _) ?_
          refine r_goto rfl ?_
          exact ih _ _ _ _
        | some t =>
          obtain ⟨td, nm⟩ := t
          rw [hdx] at eb
          refine r_ifneB rfl (fun _ => ?_) (fun w => by cases w)
          obtain ⟨xn, s2, s3, s4, s5⟩ := hdv x td nm hdx
          obtain ⟨g1, g2, g3⟩ := (hE1 x (by omega)).2 td nm hdx
          have done : ∀ (b : Bool) (z4 z7 : Option Value), chB S d x = !b → Gm l D m_M_changed 0 0 Q 144 [some (va_rf (some o)), some (.int (nI p)), some (.int (nI n0)), some (.int (nI x)), z4, some (.int (nI (120 * p + x))), some (.int (nI b.toNat)), z7] [] τ 0 0 := by
            intro b z4 z7 hb
            rw [hb] at ih
            refine r_iload_n rfl rfl ?_
            refine r_iload rfl rfl ?_
            refine r_ifeqB rfl (fun w => ?_) (fun w => ?_)
            · rw [w] at ih
              refine r_iconst (v := nI 1) rfl (by decide) ?_
              (first | refine r_iaddN rfl ?_ | refine r_iadd rfl ?_)
              refine r_istore_n rfl (by decide) ?_
              refine r_iinc rfl rfl (nI_inc _) ?_
              refine r_goto rfl ?_
              rw [w]
              exact ih _ _ _ _
            · rw [w] at ih
              refine r_iconst (v := nI 0) rfl (by decide) ?_
              refine r_goto rfl ?_
              (first | refine r_iaddN rfl ?_ | refine r_iadd rfl ?_)
              refine r_istore_n rfl (by decide) ?_
              refine r_iinc rfl rfl (nI_inc _) ?_
              refine r_goto rfl ?_
              rw [w]
              exact ih _ _ _ _
          have stop : ∀ (z4 : Option Value) (q : Nat), q ≤ td.length → chB S d x = true → Gm l D m_M_changed 0 0 Q 90 [some (va_rf (some o)), some (.int (nI p)), some (.int (nI n0)), some (.int (nI x)), z4, some (.int (nI (120 * p + x))), some (.int (nI 0)), some (.int (nI q))] [] τ 0 0 := by
            intro z4 q hq hb
            refine r_iload rfl rfl ?_
            refine r_aload_n rfl rfl ?_
            refine r_mg (j := 33) hM rfl rfl (by decide) ?_
            refine r_iload rfl rfl ?_
            refine r_mi (j := 33) hM rfl rfl (by decide) (by first | rfl | assumption) (show _ < 960 by omega) ?_
            rw [g1]
            refine r_geN rfl (by omega) (by omega) (fun _ => done false _ _ hb) (fun _ => ?_)
            refine r_iload rfl rfl ?_
            exact r_if_eq rfl (fun _ => done false _ _ hb) (fun q => absurd rfl q)
          refine r_aload_n rfl rfl ?_
          refine r_iload_n rfl rfl ?_
          refine r_callV (As := [_]) rfl (by decide) rfl (by first | exact hM.1 | assumption) rfl rfl (Nat.le_of_ble_eq_true rfl) ⟨Nat.le_of_ble_eq_true rfl, Nat.le_of_ble_eq_true rfl⟩ (hR.lead xn) (kc' := 0) (ks' := 0) (by omega) (by omega) (by decide) ?_
          rintro r τ ⟨rfl, rfl⟩
          refine r_istore rfl (by decide) ?_
          refine r_bipush (v := nI 120) rfl (by decide) ?_
          refine r_iload_n rfl rfl ?_
          (first | refine r_imulN rfl ?_ | refine r_imul rfl ?_)
          refine r_iload_n rfl rfl ?_
          (first | refine r_iaddN rfl ?_ | refine r_iadd rfl ?_)
          refine r_istore rfl (by decide) ?_
          refine r_iload rfl rfl ?_
          refine r_iconst (v := -1) rfl (by decide) ?_
          cases hlo : ldo (s_T S) x with
          | none =>
            rw [hlo] at eb
            refine r_icmp_eq rfl (fun _ => ?_) (fun w => absurd rfl w)
            refine r_iconst (v := nI 0) rfl (by decide) ?_
            refine r_istore rfl (by decide) ?_
            refine r_iconst (v := nI 0) rfl (by decide) ?_
            refine r_istore rfl (by decide) ?_
            exact stop _ 0 (by omega) eb
          | some y =>
            rw [hlo] at eb
            have eb : chB S d x = decide (td ≠ tdT S y) := eb
            obtain ⟨yn, yt, -⟩ := ldo_lt hS hlo
            refine r_icmp_eq rfl (fun w => absurd w (nI_m1 y (by omega))) (fun _ => ?_)
            show Gm l D m_M_changed 0 0 Q 64 [some (va_rf (some o)), some (.int (nI p)), some (.int (nI n0)), some (.int (nI x)), some (.int (nI y)), some (.int (nI (120 * p + x))), _, _] [] τ 0 0
            have hk := hS.2.1 y yn
            have i2 : h_X τ (o + 1 + 6) y = nI (s_k S y) := by rw [hR.rt.2.1]
            have i3 := hR.2.2.2.1 _ hk
            have i4 := hd.tx yn
            have tl : toldL (s_w S (s_k S y)) (n_n S y) = tdT S y := rfl
            have htd := (td_ok hS yn).1
            refine r_aload_n rfl rfl ?_
            refine r_mg (j := 33) hM rfl rfl (by decide) ?_
            refine r_iload rfl rfl ?_
            refine r_mi (j := 33) hM rfl rfl (by decide) (by first | rfl | assumption) (show _ < 960 by omega) ?_
            refine r_aload_n rfl rfl ?_
            refine r_iload rfl rfl ?_
            rw [g1]
            refine r_callV (As := [_]) rfl (by decide) rfl (by first | exact hM.1 | assumption) rfl rfl (Nat.le_of_ble_eq_true rfl) ⟨Nat.le_of_ble_eq_true rfl, Nat.le_of_ble_eq_true rfl⟩ (c_M_toldSize hM (by omega) i2 hk i3 i4) (kc' := 0) (ks' := 0) (by omega) (by omega) (by decide) ?_
            rintro r τ ⟨rfl, rfl⟩
            rw [tl]
            refine r_neN rfl (by omega) (by omega) (fun w2 => ?_) (fun w2 => ?_)
            · refine r_iconst (v := nI 0) rfl (by decide) ?_
              refine r_istore rfl (by decide) ?_
              refine r_iconst (v := nI 0) rfl (by decide) ?_
              refine r_istore rfl (by decide) ?_
              exact stop _ 0 (by omega) (by rw [eb]; exact decide_eq_true (fun z => w2 (by rw [z])))
            · refine r_iconst (v := nI 1) rfl (by decide) ?_
              refine r_goto rfl ?_
              refine r_istore rfl (by decide) ?_
              refine r_iconst (v := nI 0) rfl (by decide) ?_
              refine r_istore rfl (by decide) ?_
              have inn : ∀ (c q : Nat), q + c = td.length → (∀ j, j < q → td.getD j 0 = (tdT S y).getD j 0) → Gm l D m_M_changed 0 0 Q 90 [some (va_rf (some o)), some (.int (nI p)), some (.int (nI n0)), some (.int (nI x)), some (.int (nI y)), some (.int (nI (120 * p + x))), some (.int (nI 1)), some (.int (nI q))] [] τ 0 0 := by
                intro c
                induction c with
                | zero =>
                  intro q hq hj
                  refine r_iload rfl rfl ?_
                  refine r_aload_n rfl rfl ?_
                  refine r_mg (j := 33) hM rfl rfl (by decide) ?_
                  refine r_iload rfl rfl ?_
                  refine r_mi (j := 33) hM rfl rfl (by decide) (by first | rfl | assumption) (show _ < 960 by omega) ?_
                  rw [g1]
                  refine r_geN rfl (by omega) (by omega) (fun _ => ?_) (fun w => by omega)
                  refine done true _ _ ?_
                  rw [eb]
                  refine decide_eq_false (fun z => z ?_)
                  refine List.ext_getElem w2 (fun j h1 h2 => ?_)
                  have := hj j (by omega)
                  rwa [getD_at h1, getD_at h2] at this
                | succ c ih2 =>
                  intro q hq hj
                  refine r_iload rfl rfl ?_
                  refine r_aload_n rfl rfl ?_
                  refine r_mg (j := 33) hM rfl rfl (by decide) ?_
                  refine r_iload rfl rfl ?_
                  refine r_mi (j := 33) hM rfl rfl (by decide) (by first | rfl | assumption) (show _ < 960 by omega) ?_
                  rw [g1]
                  refine r_geN rfl (by omega) (by omega) (fun w => by omega) (fun _ => ?_)
                  refine r_iload rfl rfl ?_
                  refine r_if_eq rfl (fun q => absurd q (by decide)) (fun _ => ?_)
                  refine r_aload_n rfl rfl ?_
                  refine r_mg (j := 32) hM rfl rfl (by decide) ?_
                  refine r_bipush (v := nI 60) rfl (by decide) ?_
                  refine r_iload rfl rfl ?_
                  (first | refine r_imulN rfl ?_ | refine r_imul rfl ?_)
                  refine r_iload rfl rfl ?_
                  (first | refine r_iaddN rfl ?_ | refine r_iadd rfl ?_)
                  refine r_mb (j := 32) hM rfl rfl (by decide) rfl (Nat.lt_of_lt_of_le (show 60 * (120 * p + x) + q < 57600 by omega) (Nat.le_of_ble_eq_true rfl)) ?_
                  rw [g3 q (by omega)]
                  refine r_aload_n rfl rfl ?_
                  refine r_iload rfl rfl ?_
                  refine r_iload rfl rfl ?_
                  refine r_callV (As := [_, _]) rfl (by decide) rfl (by first | exact hM.1 | assumption) rfl rfl (Nat.le_of_ble_eq_true rfl) ⟨Nat.le_of_ble_eq_true rfl, Nat.le_of_ble_eq_true rfl⟩ (c_M_toldByte hM (by omega) i2 hk i3 i4 (show q < (toldL (s_w S (s_k S y)) (n_n S y)).length by rw [tl]; omega)) (kc' := 0) (ks' := 0) (by omega) (by omega) (by decide) ?_
                  rintro r τ ⟨rfl, rfl⟩
                  rw [tl]
                  refine r_icmp_ne rfl (fun w5 => ?_) (fun w5 => ?_)
                  · refine r_iconst (v := nI 0) rfl (by decide) ?_
                    refine r_istore rfl (by decide) ?_
                    refine r_iinc rfl rfl (nI_inc _) ?_
                    refine r_goto rfl ?_
                    exact stop _ (q + 1) (by omega) (by rw [eb]; exact decide_eq_true (list_ne w2 (by omega) w5))
                  · refine r_iconst (v := nI 1) rfl (by decide) ?_
                    refine r_goto rfl ?_
                    refine r_istore rfl (by decide) ?_
                    refine r_iinc rfl rfl (nI_inc _) ?_
                    refine r_goto rfl ?_
                    refine ih2 (q + 1) (by omega) (fun j hj2 => ?_)
                    by_cases e : j = q
                    · rw [e]; exact w5
                    · exact hj j (by omega)
              exact inn td.length 0 (by omega) (fun j hj => by omega)
    exact lp 120 0 none none none none (by omega)
  · refine r_bipush (v := -2) rfl (by decide) ?_
    refine r_iret rfl rfl ?_
    rw [← hQ]
    refine ⟨?_, h, MFr.rf _ _ _ _⟩
    unfold a_chan
    rw [edI_no he8 q1]
end MC
