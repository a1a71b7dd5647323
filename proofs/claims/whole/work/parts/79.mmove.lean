/-! ===== the reference: move ===== -/
def n_mk (S : Sp) : (Nat → Int32) × (Nat → List Int32) := mkO (onT (s_n S) (s_T S)) (fun x => nI (s_k S x)) (f_c (s_f S)) (f_y (s_f S)) (f_j (s_f S)) (ordT (s_T S)) (ordT (s_T S)).length
def n_b (S : Sp) (x : Nat) : Int32 := (n_mk S).1 x
def n_n (S : Sp) (x : Nat) : List Int32 := (n_mk S).2 x
def n_c (S : Sp) (i : Nat) : Nat := ctO (onT (s_n S) (s_T S)) (fun x => nI (s_k S x)) (f_c (s_f S)) (ordT (s_T S)) i
def a_move (S : Sp) (v p i : Int32) : Int32 × Sp := match thI S v, hoI S p with
  | some x, some p' => if bel (s_T S) x p' = true then (-2, S) else if inB i 0 (nI (rmv (t_k (s_T S) p') x).length) = true then (if (s_l S).length = 200 then (-3, S) else
      (nI (cntB (fun y => t_h (s_T S) y && decide (n_n S y ≠ n_n (sG S (s_n S, s_k S, (2, x, p', i.toNatClampNeg) :: s_l S)) y)) (s_n S)), sG S (s_n S, s_k S, (2, x, p', i.toNatClampNeg) :: s_l S))) else (-2, S)
  | _, _ => (-2, S)
theorem list_ne {A B : List Int32} {q : Nat} (hl : A.length = B.length) (hq : q < A.length) (h : A.getD q 0 ≠ B.getD q 0) : A ≠ B := fun e => h (by rw [e])
section MC
variable {l : Launch} {D : DD} {σ : Hp} {o : Nat}
theorem RMd.tx {S : Sp} (h : RMd σ o S) {x : Nat} (hx : x < s_n S) : Tx σ o 18 19 x (n_n S x) := h.2.2.2.2.2.2.2.2.2.1 x hx
set_option maxRecDepth 10000 in
set_option maxHeartbeats 4000000 in
theorem c_M_moveS {S : Sp} {v w i : Int32} (h : RM σ o S) : Cn l D m_M_move 0 0 [va_rf (some o), .int v, .int w, .int i] σ (fun r τ => r = some (.int (a_move S v w i).1) ∧ RM τ o (a_move S v w i).2 ∧ MFr mAR mAI σ τ o) := by
  have hM := h.1
  have hS := h.2.1
  have hW := hS.wf
  have hn9 := hS.1
  have hG : RG σ o (s_n S, s_k S, s_l S) := h.2.2.2.2.2.1
  have hn : h_I σ 711 o = nI (s_n S) := hG.1.1
  have he : h_I σ 716 o = nI (s_l S).length := hG.2.1
  have hl := hS.2.2.2.1
  have r5 : h_X σ (o + 1 + 7) = onT (s_n S) (s_T S) := hG.1.2.2.2.2.1
  generalize hQ : (fun (r : Option Value) (τ : Hp) => r = some (.int (a_move S v w i).1) ∧ RM τ o (a_move S v w i).2 ∧ MFr mAR mAI σ τ o) = Q
  refine Cn.of (by decide) (by repeat (first | exact ca_0 | refine ca_i ?_ | refine ca_r ?_)) (Nat.le_of_ble_eq_true rfl) ?_
  have no : a_move S v w i = (-2, S) → Gm l D m_M_move 0 0 Q 59 [some (va_rf (some o)), some (.int v), some (.int w), some (.int i), none, none, none, none] [] σ 0 0 := by
    intro e
    refine r_bipush (v := -2) rfl (by decide) ?_
    refine r_iret rfl rfl ?_
    rw [← hQ]
    show _ = some (Value.int (a_move S v w i).1) ∧ RM σ o (a_move S v w i).2 ∧ _
    rw [e]
    exact ⟨rfl, h, MFr.rf _ _ _ _⟩
  refine r_aload_n rfl rfl ?_
  refine r_iload_n rfl rfl ?_
  refine r_callV (As := [_]) rfl (by decide) rfl (by first | exact hM.1 | assumption) rfl rfl (Nat.le_of_ble_eq_true rfl) ⟨Nat.le_of_ble_eq_true rfl, Nat.le_of_ble_eq_true rfl⟩ (c_M_isThere hM hn hn9) (kc' := 0) (ks' := 0) (by omega) (by omega) (by decide) ?_
  rintro r σ ⟨rfl, rfl⟩
  rw [r5]
  refine r_ifeqB rfl (fun q => no (by unfold a_move; rw [isTh_none q])) (fun q1 => ?_)
  obtain ⟨x, x1, x2, rfl, x4⟩ := isTh_some hS q1
  have cont : ∀ p, hoI S w = some p → w = cd p → liv (s_T S) p → bel (s_T S) x p = false → Gm l D m_M_move 0 0 Q 30 [some (va_rf (some o)), some (.int (nI x)), some (.int w), some (.int i), none, none, none, none] [] σ 0 0 := by
    intro p hp1 hp2 hp3 hp4
    have hlen := hW.len p
    have hlen2 : (if onT (s_n S) (s_T S) x = w then (t_k (s_T S) p).length - 1 else (t_k (s_T S) p).length) = (rmv (t_k (s_T S) p) x).length ∧ (onT (s_n S) (s_T S) x = w → 0 < (t_k (s_T S) p).length) := by
      by_cases e : onT (s_n S) (s_T S) x = w
      · have hm := (onT_iff hW x1 hp3).mp (e.trans hp2)
        obtain ⟨k, hk, e2⟩ := List.getElem_of_mem hm
        have := rmv_len (hW.2.2.1 p) (show (t_k (s_T S) p)[k]? = some x by rw [List.getElem?_eq_getElem hk, e2])
        rw [if_pos e]
        exact ⟨by omega, fun _ => by omega⟩
      · rw [if_neg e, rmv_no (fun hm => e ((onT_on hW hp3 hm).trans hp2.symm))]
        exact ⟨rfl, fun q => absurd q e⟩
    have hrl : (rmv (t_k (s_T S) p) x).length ≤ 120 := by
      have := nodup_len (rmv_nd (x := x) (hW.2.2.1 p)) (m := s_n S) (fun z hz => hW.k_lt (mem_rmv.mp hz).1)
      omega
    have go : Gm l D m_M_move 0 0 Q 53 [some (va_rf (some o)), some (.int (nI x)), some (.int w), some (.int i), none, none, none, none] [.int (nI (rmv (t_k (s_T S) p) x).length), .int 0, .int i] σ 0 0 := by
      refine r_callS (As := [_, _, _]) rfl (by decide) rfl rfl rfl (Nat.le_of_ble_eq_true rfl) ⟨Nat.le_of_ble_eq_true rfl, Nat.le_of_ble_eq_true rfl⟩ (c_M_in) (kc' := 0) (ks' := 0) (by omega) (by omega) ?_
      rintro r σ ⟨rfl, rfl⟩
      refine r_ifneB rfl (fun q2 => ?_) (fun q2 => no (by unfold a_move; rw [x4, hp1]; show (if bel (s_T S) x p = true then _ else if inB i 0 (nI (rmv (t_k (s_T S) p) x).length) = true then _ else _) = _; rw [hp4, if_neg (by decide), q2]; rfl))
      obtain ⟨i', hi, rfl⟩ := inB_nI (m := (rmv (t_k (s_T S) p) x).length) (by omega) q2
      have ea : a_move S (nI x) w (nI i') = if (s_l S).length = 200 then (-3, S) else (nI (cntB (fun y => t_h (s_T S) y && decide (n_n S y ≠ n_n (sG S (s_n S, s_k S, (2, x, p, i') :: s_l S)) y)) (s_n S)), sG S (s_n S, s_k S, (2, x, p, i') :: s_l S)) := by
        unfold a_move
        rw [x4, hp1]
        show (if bel (s_T S) x p = true then _ else if inB (nI i') 0 (nI (rmv (t_k (s_T S) p) x).length) = true then _ else _) = _
        rw [hp4, if_neg (by decide), if_pos q2, nI_clamp (by omega)]
      refine r_aload_n rfl rfl ?_
      (first | refine r_getIv rfl hM.1 rfl (by assumption) ?_ | refine r_getI rfl hM.1 rfl ?_)
      refine r_sipush (v := nI 200) rfl (by decide) ?_
      refine r_neN rfl (by omega) (by omega) (fun w2 => ?_) (fun w2 => ?_)
      · rw [if_neg w2] at ea
        refine r_aload_n rfl rfl ?_
        refine r_callV (As := []) rfl (by decide) rfl (by first | exact hM.1 | assumption) rfl rfl (Nat.le_of_ble_eq_true rfl) ⟨Nat.le_of_ble_eq_true rfl, Nat.le_of_ble_eq_true rfl⟩ (c_M_makeS h) (kc' := 0) (ks' := 0) (by omega) (by omega) (by decide) ?_
        rintro r τ ⟨rfl, hd, hf⟩
        have hM := hd.1.1
        have hn : h_I τ 711 o = nI (s_n S) := by rw [hf.fld (by decide)]; exact hn
        have hG : RG τ o (s_n S, s_k S, s_l S) := hd.1.2.2.2.2.2.1
        have htx : ∀ y, y < s_n S → Tx τ o 18 19 y (n_n S y) := fun y hy => hd.tx hy
        refine g_fits (fun hfit _ _ => ?_)
        refine r_iconst (v := nI 0) rfl (by decide) ?_
        refine r_istore rfl (by decide) ?_
        generalize hS' : sG S (s_n S, s_k S, (2, x, p, i') :: s_l S) = S' at ea
        have hv : Va (s_n S) (s_k S) (2, x, p, i') (rp (s_l S)) := Or.inr (Or.inl ⟨rfl, x2, hp3, hp4, hi⟩)
        have hSS : SOk S' := by
          rw [← hS']
          exact hS.g (Nat.le_refl _) hn9 (fun _ _ => rfl) hS.2.1 ⟨hS.2.2.1, hv⟩ (by show (s_l S).length + 1 ≤ 200; omega)
        have sn : s_n S' = s_n S := by rw [← hS']; rfl
        have sh : ∀ y, t_h (s_T S') y = t_h (s_T S) y := by
          intro y
          rw [← hS']
          rfl
        -- from the change on
        have part2 : ∀ (ρ : Hp) (z5 : Option Value), MFr [22, 23] [] τ ρ o → (∀ y, y < s_n S → Tx ρ o 22 23 y (n_n S y)) → ∀ (u4 : Option Value), Gm l D m_M_move 0 0 Q 158 [some (va_rf (some o)), some (.int (nI x)), some (.int w), some (.int (nI i')), u4, z5, none, none] [] ρ 0 0 := by
          intro ρ z5 hf2 hold u4
          have hdr := RM.kp hf2 (by decide) (by decide) hd.1
          have hM := hdr.1
          have hGr : RG ρ o (s_n S, s_k S, s_l S) := hdr.2.2.2.2.2.1
          refine r_aload_n rfl rfl ?_
          refine r_iconst (v := nI 2) rfl (by decide) ?_
          refine r_iload_n rfl rfl ?_
          refine r_iload_n rfl rfl ?_
          refine r_iload_n rfl rfl ?_
          rw [hp2]
          refine r_callV (As := [_, _, _, _]) rfl (by decide) rfl (by first | exact hM.1 | assumption) rfl rfl (Nat.le_of_ble_eq_true rfl) ⟨Nat.le_of_ble_eq_true rfl, Nat.le_of_ble_eq_true rfl⟩ (c_M_changeT (e := (2, x, p, i')) hM hn9 hGr hS.2.2.1 (by omega) hv) (kc' := 0) (ks' := 0) (by omega) (by omega) (by decide) ?_
          rintro r ρ2 ⟨rfl, t1, t2, t3⟩
          have hR2 : RM ρ2 o S' := by
            rw [← hS'] at hSS ⊢
            exact hdr.g t3 t1 t2 hSS
          have hM := hR2.1
          refine r_istore rfl (by decide) ?_
          refine r_aload_n rfl rfl ?_
          refine r_callV (As := []) rfl (by decide) rfl (by first | exact hM.1 | assumption) rfl rfl (Nat.le_of_ble_eq_true rfl) ⟨Nat.le_of_ble_eq_true rfl, Nat.le_of_ble_eq_true rfl⟩ (c_M_makeS hR2) (kc' := 0) (ks' := 0) (by omega) (by omega) (by decide) ?_
          rintro r ρ3 ⟨rfl, hd3, hf3⟩
          have hM := hd3.1.1
          have hold3 : ∀ y, y < s_n S → Tx ρ3 o 22 23 y (n_n S y) := by
            intro y hy
            have := hold y hy
            unfold Tx at this ⊢
            rw [hf3.row (j := 22) (by decide), hf3.row (j := 23) (by decide), t3.row (j := 22) (by decide), t3.row (j := 23) (by decide)]
            exact this
          have hnew : ∀ y, y < s_n S → Tx ρ3 o 18 19 y (n_n S' y) := fun y hy => hd3.tx (by rw [sn]; exact hy)
          have hn3 : h_I ρ3 711 o = nI (s_n S) := by
            have := hd3.1.2.2.2.2.2.1.1.1
            rw [show (s_g S').1 = s_n S' from rfl, sn] at this
            exact this
          have r53 : h_X ρ3 (o + 1 + 7) = onT (s_n S') (s_T S') := hd3.1.2.2.2.2.2.1.1.2.2.2.2.1
          have hall : MFr mAR mAI σ ρ3 o := (((hf.wide (by decide) (by decide)).tr (hf2.wide (by decide) (by decide))).tr (t3.wide (by decide) (by decide))).tr (hf3.wide (by decide) (by decide))
          refine r_iconst (v := nI 0) rfl (by decide) ?_
          refine r_istore rfl (by decide) ?_
          have lp : ∀ (d y c : Nat) (z6 z7 : Option Value), y + d = s_n S → c = cntB (fun y => t_h (s_T S) y && decide (n_n S y ≠ n_n S' y)) y → Gm l D m_M_move 0 0 Q 175 [some (va_rf (some o)), some (.int (nI x)), some (.int (cd p)), some (.int (nI i')), some (.int (nI c)), some (.int (nI y)), z6, z7] [] ρ3 0 0 := by
            intro d
            induction d with
            | zero =>
              intro y c z6 z7 hy hc
              refine r_iload rfl rfl ?_
              refine r_aload_n rfl rfl ?_
              (first | refine r_getIv rfl hM.1 rfl (by assumption) ?_ | refine r_getI rfl hM.1 rfl ?_)
              refine r_geN rfl (by omega) (by omega) (fun _ => ?_) (fun q => by omega)
              refine r_iload rfl rfl ?_
              refine r_iret rfl rfl ?_
              rw [← hQ]
              show _ = some (Value.int (a_move S (nI x) w (nI i')).1) ∧ RM ρ3 o (a_move S (nI x) w (nI i')).2 ∧ _
              rw [ea]
              refine ⟨?_, hd3.1, hall⟩
              rw [hc, show y = s_n S by omega]
            | succ d ih =>
              intro y c z6 z7 hy hc
              have hyn : y < s_n S := by omega
              obtain ⟨a1, a2, a3⟩ := hold3 y hyn
              obtain ⟨b1, b2, b3⟩ := hnew y hyn
              refine r_iload rfl rfl ?_
              refine r_aload_n rfl rfl ?_
              (first | refine r_getIv rfl hM.1 rfl (by assumption) ?_ | refine r_getI rfl hM.1 rfl ?_)
              refine r_geN rfl (by omega) (by omega) (fun q => by omega) (fun _ => ?_)
              refine r_aload_n rfl rfl ?_
              refine r_iload rfl rfl ?_
              refine r_callV (As := [_]) rfl (by decide) rfl (by first | exact hM.1 | assumption) rfl rfl (Nat.le_of_ble_eq_true rfl) ⟨Nat.le_of_ble_eq_true rfl, Nat.le_of_ble_eq_true rfl⟩ (c_M_isThere hM hn3 hn9) (kc' := 0) (ks' := 0) (by omega) (by omega) (by decide) ?_
              rintro r ρ3 ⟨rfl, rfl⟩
              rw [r53, ← sn, isTh_T hSS.wf (by omega), sn, decide_eq_true hyn, Bool.true_and, sh]
              refine r_ifneB rfl (fun q3 => ?_) (fun q3 => ?_)
              · have fin : ∀ (b : Bool) (z7 : Option Value), b = decide (n_n S y = n_n S' y) → Gm l D m_M_move 0 0 Q 282 [some (va_rf (some o)), some (.int (nI x)), some (.int (cd p)), some (.int (nI i')), some (.int (nI c)), some (.int (nI y)), some (.int (nI b.toNat)), z7] [] ρ3 0 0 := by
                  intro b z7 hb
                  refine r_iload rfl rfl ?_
                  refine r_iload rfl rfl ?_
                  refine r_ifeqB rfl (fun e => ?_) (fun e => ?_)
                  · refine r_iconst (v := nI 1) rfl (by decide) ?_
                    (first | refine r_iaddN rfl ?_ | refine r_iadd rfl ?_)
                    refine r_istore rfl (by decide) ?_
                    refine r_iinc rfl rfl (nI_inc _) ?_
                    refine r_goto rfl ?_
                    refine ih (y + 1) (c + 1) _ _ (by omega) ?_
                    rw [cntB, ← hc, q3]
                    rw [hb] at e
                    rw [decide_eq_true (show n_n S y ≠ n_n S' y from of_decide_eq_false e)]
                    rfl
                  · refine r_iconst (v := nI 0) rfl (by decide) ?_
                    refine r_goto rfl ?_
                    (first | refine r_iaddN rfl ?_ | refine r_iadd rfl ?_)
                    refine r_istore rfl (by decide) ?_
                    refine r_iinc rfl rfl (nI_inc _) ?_
                    refine r_goto rfl ?_
                    refine ih (y + 1) (c + 0) _ _ (by omega) ?_
                    rw [cntB, ← hc, q3]
                    rw [hb] at e
                    rw [decide_eq_false (fun w => w (of_decide_eq_true e))]
                    rfl
                refine r_aload_n rfl rfl ?_
                refine r_mg (j := 23) hM rfl rfl (by decide) ?_
                refine r_iload rfl rfl ?_
                refine r_mi (j := 23) hM rfl rfl (by decide) (by first | rfl | assumption) (show _ < 120 by omega) ?_
                refine r_aload_n rfl rfl ?_
                refine r_mg (j := 19) hM rfl rfl (by decide) ?_
                refine r_iload rfl rfl ?_
                refine r_mi (j := 19) hM rfl rfl (by decide) (by first | rfl | assumption) (show _ < 120 by omega) ?_
                rw [a1, b1]
                refine r_neN rfl (by omega) (by omega) (fun q4 => ?_) (fun q4 => ?_)
                · refine r_iconst (v := nI 0) rfl (by decide) ?_
                  refine r_istore rfl (by decide) ?_
                  refine r_iconst (v := nI 0) rfl (by decide) ?_
                  refine r_istore rfl (by decide) ?_
                  refine r_iload rfl rfl ?_
                  refine r_aload_n rfl rfl ?_
                  refine r_mg (j := 19) hM rfl rfl (by decide) ?_
                  refine r_iload rfl rfl ?_
                  refine r_mi (j := 19) hM rfl rfl (by decide) (by first | rfl | assumption) (show _ < 120 by omega) ?_
                  rw [b1]
                  have hb : false = decide (n_n S y = n_n S' y) := (decide_eq_false (fun e => q4 (by rw [e]))).symm
                  refine r_geN rfl (by omega) (by omega) (fun _ => fin false _ hb) (fun _ => ?_)
                  refine r_iload rfl rfl ?_
                  exact r_if_eq rfl (fun _ => fin false _ hb) (fun q => absurd rfl q)
                · refine r_iconst (v := nI 1) rfl (by decide) ?_
                  refine r_goto rfl ?_
                  refine r_istore rfl (by decide) ?_
                  refine r_iconst (v := nI 0) rfl (by decide) ?_
                  refine r_istore rfl (by decide) ?_
                  have inn : ∀ (d q : Nat), q + d = (n_n S y).length → (∀ j, j < q → (n_n S y).getD j 0 = (n_n S' y).getD j 0) → Gm l D m_M_move 0 0 Q 223 [some (va_rf (some o)), some (.int (nI x)), some (.int (cd p)), some (.int (nI i')), some (.int (nI c)), some (.int (nI y)), some (.int (nI 1)), some (.int (nI q))] [] ρ3 0 0 := by
                    intro d
                    induction d with
                    | zero =>
                      intro q hq hj
                      refine r_iload rfl rfl ?_
                      refine r_aload_n rfl rfl ?_
                      refine r_mg (j := 19) hM rfl rfl (by decide) ?_
                      refine r_iload rfl rfl ?_
                      refine r_mi (j := 19) hM rfl rfl (by decide) (by first | rfl | assumption) (show _ < 120 by omega) ?_
                      rw [b1]
                      refine r_geN rfl (by omega) (by omega) (fun _ => ?_) (fun q => by omega)
                      refine fin true _ (decide_eq_true ?_).symm
                      refine List.ext_getElem q4 (fun j h1 h2 => ?_)
                      have := hj j (by omega)
                      rwa [getD_at h1, getD_at h2] at this
                    | succ d ih2 =>
                      intro q hq hj
                      refine r_iload rfl rfl ?_
                      refine r_aload_n rfl rfl ?_
                      refine r_mg (j := 19) hM rfl rfl (by decide) ?_
                      refine r_iload rfl rfl ?_
                      refine r_mi (j := 19) hM rfl rfl (by decide) (by first | rfl | assumption) (show _ < 120 by omega) ?_
                      rw [b1]
                      refine r_geN rfl (by omega) (by omega) (fun w => by omega) (fun _ => ?_)
                      refine r_iload rfl rfl ?_
                      refine r_if_eq rfl (fun q => absurd q (by decide)) (fun _ => ?_)
                      refine r_aload_n rfl rfl ?_
                      refine r_mg (j := 22) hM rfl rfl (by decide) ?_
                      refine r_bipush (v := nI 60) rfl (by decide) ?_
                      refine r_iload rfl rfl ?_
                      (first | refine r_imulN rfl ?_ | refine r_imul rfl ?_)
                      refine r_iload rfl rfl ?_
                      (first | refine r_iaddN rfl ?_ | refine r_iadd rfl ?_)
                      refine r_mb (j := 22) hM rfl rfl (by decide) (by first | rfl | assumption) (show _ < 7200 by omega) ?_
                      refine r_aload_n rfl rfl ?_
                      refine r_mg (j := 18) hM rfl rfl (by decide) ?_
                      refine r_bipush (v := nI 60) rfl (by decide) ?_
                      refine r_iload rfl rfl ?_
                      (first | refine r_imulN rfl ?_ | refine r_imul rfl ?_)
                      refine r_iload rfl rfl ?_
                      (first | refine r_iaddN rfl ?_ | refine r_iadd rfl ?_)
                      refine r_mb (j := 18) hM rfl rfl (by decide) (by first | rfl | assumption) (show _ < 7200 by omega) ?_
                      rw [a3 q (by omega), b3 q (by omega)]
                      refine r_icmp_ne rfl (fun q5 => ?_) (fun q5 => ?_)
                      · refine r_iconst (v := nI 0) rfl (by decide) ?_
                        refine r_istore rfl (by decide) ?_
                        refine r_iinc rfl rfl (nI_inc _) ?_
                        refine r_goto rfl ?_
                        refine r_iload rfl rfl ?_
                        refine r_aload_n rfl rfl ?_
                        refine r_mg (j := 19) hM rfl rfl (by decide) ?_
                        refine r_iload rfl rfl ?_
                        refine r_mi (j := 19) hM rfl rfl (by decide) (by first | rfl | assumption) (show _ < 120 by omega) ?_
                        rw [b1]
                        have hb : false = decide (n_n S y = n_n S' y) := (decide_eq_false (list_ne q4 (by omega) q5)).symm
                        refine r_geN rfl (by omega) (by omega) (fun _ => fin false _ hb) (fun _ => ?_)
                        refine r_iload rfl rfl ?_
                        exact r_if_eq rfl (fun _ => fin false _ hb) (fun q => absurd rfl q)
                      · refine r_iconst (v := nI 1) rfl (by decide) ?_
                        refine r_goto rfl ?_
                        refine r_istore rfl (by decide) ?_
                        refine r_iinc rfl rfl (nI_inc _) ?_
                        refine r_goto rfl ?_
                        refine ih2 (q + 1) (by omega) (fun j hj2 => ?_)
                        by_cases e : j = q
                        · rw [e]; exact q5
                        · exact hj j (by omega)
                  exact inn (n_n S y).length 0 (by omega) (fun j hj => by omega)
              · refine r_goto rfl ?_
                refine r_iinc rfl rfl (nI_inc _) ?_
                refine r_goto rfl ?_
                refine ih (y + 1) c _ _ (by omega) ?_
                rw [cntB, ← hc, q3]
                rfl
          exact lp (s_n S) 0 0 none none (by omega) rfl
        -- the old numbers
        have lp0 : ∀ (d y : Nat) (gT gS : Nat → Int32) (z5 : Option Value), y + d = s_n S → (∀ z, z < y → gS z = nI (n_n S z).length ∧ ∀ j, j < (n_n S z).length → gT (60 * z + j) = (n_n S z).getD j 0) → Gm l D m_M_move 0 0 Q 82 [some (va_rf (some o)), some (.int (nI x)), some (.int w), some (.int (nI i')), some (.int (nI y)), z5, none, none] [] (w_X (w_X τ (o + 1 + 22) gT) (o + 1 + 23) gS) 0 0 := by
          intro d
          induction d with
          | zero =>
            intro y gT gS z5 hy h1
            have hn : h_I (w_X (w_X τ (o + 1 + 22) gT) (o + 1 + 23) gS) 711 o = nI (s_n S) := hn
            refine r_iload rfl rfl ?_
            refine r_aload_n rfl rfl ?_
            (first | refine r_getIv rfl hM.1 rfl (by assumption) ?_ | refine r_getI rfl hM.1 rfl ?_)
            refine r_geN rfl (by omega) (by omega) (fun _ => ?_) (fun q => by omega)
            refine part2 _ z5 ((MFr.X _ _ (by decide)).tr (MFr.X _ _ (by decide))) (fun z hz => ?_) _
            obtain ⟨c1, c2⟩ := h1 z (by omega)
            refine ⟨by rw [hX_w]; exact c1, (htx z hz).2.1, fun j hj => ?_⟩
            rw [hX_n _ _ (by omega), hX_w]
            exact c2 j hj
          | succ d ih =>
            intro y gT gS z5 hy h1
            have hyn : y < s_n S := by omega
            obtain ⟨b1, b2, b3⟩ := htx y hyn
            have hn : h_I (w_X (w_X τ (o + 1 + 22) gT) (o + 1 + 23) gS) 711 o = nI (s_n S) := hn
            refine r_iload rfl rfl ?_
            refine r_aload_n rfl rfl ?_
            (first | refine r_getIv rfl hM.1 rfl (by assumption) ?_ | refine r_getI rfl hM.1 rfl ?_)
            refine r_geN rfl (by omega) (by omega) (fun q => by omega) (fun _ => ?_)
            refine r_aload_n rfl rfl ?_
            refine r_mg (j := 23) hM rfl rfl (by decide) ?_
            refine r_iload rfl rfl ?_
            refine r_aload_n rfl rfl ?_
            refine r_mg (j := 19) hM rfl rfl (by decide) ?_
            refine r_iload rfl rfl ?_
            refine r_mi (j := 19) hM rfl rfl (by decide) (by first | rfl | assumption) (show _ < 120 by omega) ?_
            rw [hX_n _ _ (show o + 1 + 19 ≠ o + 1 + 23 by omega), hX_n _ _ (show o + 1 + 19 ≠ o + 1 + 22 by omega), b1]
            refine r_mis (j := 23) hM rfl rfl (by decide) rfl (show _ < 120 by omega) ?_
            refine r_iconst (v := nI 0) rfl (by decide) ?_
            refine r_istore rfl (by decide) ?_
            rw [wX_same, hX_w]
            have inn : ∀ (d q : Nat) (gT : Nat → Int32), q + d = (n_n S y).length → (∀ z, z < y → ∀ j, j < (n_n S z).length → gT (60 * z + j) = (n_n S z).getD j 0) → (∀ j, j < q → gT (60 * y + j) = (n_n S y).getD j 0) → Gm l D m_M_move 0 0 Q 108 [some (va_rf (some o)), some (.int (nI x)), some (.int w), some (.int (nI i')), some (.int (nI y)), some (.int (nI q)), none, none] [] (w_X (w_X τ (o + 1 + 22) gT) (o + 1 + 23) (upd gS y (nI (n_n S y).length))) 0 0 := by
              intro d
              induction d with
              | zero =>
                intro q gT hq g1 g2
                refine r_iload rfl rfl ?_
                refine r_aload_n rfl rfl ?_
                refine r_mg (j := 19) hM rfl rfl (by decide) ?_
                refine r_iload rfl rfl ?_
                refine r_mi (j := 19) hM rfl rfl (by decide) (by first | rfl | assumption) (show _ < 120 by omega) ?_
                rw [hX_n _ _ (show o + 1 + 19 ≠ o + 1 + 23 by omega), hX_n _ _ (show o + 1 + 19 ≠ o + 1 + 22 by omega), b1]
                refine r_geN rfl (by omega) (by omega) (fun _ => ?_) (fun w => by omega)
                refine r_iinc rfl rfl (nI_inc _) ?_
                refine r_goto rfl ?_
                refine ih (y + 1) gT _ _ (by omega) (fun z hz => ?_)
                by_cases e : z = y
                · rw [e, upd_s]
                  exact ⟨rfl, fun j hj => g2 j (by omega)⟩
                · rw [upd_n _ _ e]
                  exact ⟨(h1 z (by omega)).1, g1 z (by omega)⟩
              | succ d ih2 =>
                intro q gT hq g1 g2
                have hfv : fits .byte (.int ((n_n S y).getD q 0)) = true := by
                  rw [← b3 q (by omega)]
                  exact hfit _ (hM.2 18 (by decide)).2.1 _
                have hnv : narrow .byte (.int ((n_n S y).getD q 0)) = .int ((n_n S y).getD q 0) := by
                  show Value.int (b8 ((n_n S y).getD q 0)) = _
                  rw [fit_b8 hfv]
                refine r_iload rfl rfl ?_
                refine r_aload_n rfl rfl ?_
                refine r_mg (j := 19) hM rfl rfl (by decide) ?_
                refine r_iload rfl rfl ?_
                refine r_mi (j := 19) hM rfl rfl (by decide) (by first | rfl | assumption) (show _ < 120 by omega) ?_
                rw [hX_n _ _ (show o + 1 + 19 ≠ o + 1 + 23 by omega), hX_n _ _ (show o + 1 + 19 ≠ o + 1 + 22 by omega), b1]
                refine r_geN rfl (by omega) (by omega) (fun w => by omega) (fun _ => ?_)
                refine r_aload_n rfl rfl ?_
                refine r_mg (j := 22) hM rfl rfl (by decide) ?_
                refine r_bipush (v := nI 60) rfl (by decide) ?_
                refine r_iload rfl rfl ?_
                (first | refine r_imulN rfl ?_ | refine r_imul rfl ?_)
                refine r_iload rfl rfl ?_
                (first | refine r_iaddN rfl ?_ | refine r_iadd rfl ?_)
                refine r_aload_n rfl rfl ?_
                refine r_mg (j := 18) hM rfl rfl (by decide) ?_
                refine r_bipush (v := nI 60) rfl (by decide) ?_
                refine r_iload rfl rfl ?_
                (first | refine r_imulN rfl ?_ | refine r_imul rfl ?_)
                refine r_iload rfl rfl ?_
                (first | refine r_iaddN rfl ?_ | refine r_iadd rfl ?_)
                refine r_mb (j := 18) hM rfl rfl (by decide) (by first | rfl | assumption) (show _ < 7200 by omega) ?_
                rw [hX_n _ _ (show o + 1 + 18 ≠ o + 1 + 23 by omega), hX_n _ _ (show o + 1 + 18 ≠ o + 1 + 22 by omega), b3 q (by omega)]
                refine r_mbs (j := 22) hM rfl rfl (by decide) rfl (show _ < 7200 by omega) hnv hfv ?_
                rw [hX_n _ _ (show o + 1 + 22 ≠ o + 1 + 23 by omega), hX_w, wX_comm (w_X τ (o + 1 + 22) gT) _ _ (show o + 1 + 23 ≠ o + 1 + 22 by omega), wX_same]
                refine r_iinc rfl rfl (nI_inc _) ?_
                refine r_goto rfl ?_
                refine ih2 (q + 1) _ (by omega) (fun z hz j hj => ?_) (fun j hj => ?_)
                · have := (htx z (by omega)).2.1
                  rw [upd_n _ _ (by omega)]
                  exact g1 z hz j hj
                · by_cases e : j = q
                  · rw [e, upd_s]
                  · rw [upd_n _ _ (by omega)]
                    exact g2 j (by omega)
            exact inn (n_n S y).length 0 gT (by omega) (fun z hz => (h1 z hz).2) (fun j hj => by omega)
        have e0 : w_X (w_X τ (o + 1 + 22) (h_X τ (o + 1 + 22))) (o + 1 + 23) (h_X τ (o + 1 + 23)) = τ := by rw [wX_self, wX_self]
        have := lp0 (s_n S) 0 (h_X τ (o + 1 + 22)) (h_X τ (o + 1 + 23)) none (by omega) (fun z hz => by omega)
        rw [e0] at this
        exact this
      · rw [if_pos w2] at ea
        refine r_bipush (v := -3) rfl (by decide) ?_
        refine r_iret rfl rfl ?_
        rw [← hQ]
        show _ = some (Value.int (a_move S (nI x) w (nI i')).1) ∧ RM σ o (a_move S (nI x) w (nI i')).2 ∧ _
        rw [ea]
        exact ⟨rfl, h, MFr.rf _ _ _ _⟩
    refine r_iload_n rfl rfl ?_
    refine r_iconst (v := nI 0) rfl (by decide) ?_
    refine r_aload_n rfl rfl ?_
    refine r_iload_n rfl rfl ?_
    refine r_callV (As := [_]) rfl (by decide) rfl (by first | exact hM.1 | assumption) rfl rfl (Nat.le_of_ble_eq_true rfl) ⟨Nat.le_of_ble_eq_true rfl, Nat.le_of_ble_eq_true rfl⟩ (c_M_hanging hM hn hn9) (kc' := 0) (ks' := 0) (by omega) (by omega) (by decide) ?_
    rintro r σ ⟨rfl, rfl⟩
    rw [r5, hp2, hang_T hW hp3, ← hp2]
    refine r_aload_n rfl rfl ?_
    refine r_mg (j := 7) hM rfl rfl (by decide) ?_
    refine r_iload_n rfl rfl ?_
    refine r_mi (j := 7) hM rfl rfl (by decide) (by first | rfl | assumption) (show _ < 120 by omega) ?_
    refine r_iload_n rfl rfl ?_
    rw [r5]
    refine r_icmp_ne rfl (fun q => ?_) (fun q => ?_)
    · refine r_iconst (v := nI 0) rfl (by decide) ?_
      rw [if_neg q] at hlen2
      refine r_isubN rfl (by omega) ?_
      rw [Nat.sub_zero, hlen2.1]
      exact go
    · refine r_iconst (v := nI 1) rfl (by decide) ?_
      refine r_goto rfl ?_
      rw [if_pos q] at hlen2
      refine r_isubN rfl (by have := hlen2.2 q; omega) ?_
      rw [hlen2.1]
      exact go
  refine r_iload_n rfl rfl ?_
  refine r_iconst (v := -1) rfl (by decide) ?_
  refine r_icmp_eq rfl (fun q => cont 120 (by unfold hoI; rw [if_pos q]) q (Or.inl rfl) (bel_120 hW x1)) (fun q => ?_)
  refine r_aload_n rfl rfl ?_
  refine r_iload_n rfl rfl ?_
  refine r_callV (As := [_]) rfl (by decide) rfl (by first | exact hM.1 | assumption) rfl rfl (Nat.le_of_ble_eq_true rfl) ⟨Nat.le_of_ble_eq_true rfl, Nat.le_of_ble_eq_true rfl⟩ (c_M_isThere hM hn hn9) (kc' := 0) (ks' := 0) (by omega) (by omega) (by decide) ?_
  rintro r σ ⟨rfl, rfl⟩
  rw [r5]
  refine r_ifeqB rfl (fun q2 => no (by unfold a_move hoI; rw [x4, if_neg q, isTh_none q2])) (fun q2 => ?_)
  obtain ⟨p, p1, p2, rfl, p4⟩ := isTh_some hS q2
  have hho : hoI S (nI p) = some p := by unfold hoI; rw [if_neg q]; exact p4
  refine r_aload_n rfl rfl ?_
  refine r_iload_n rfl rfl ?_
  refine r_iload_n rfl rfl ?_
  have hup := upS_T hW (top := cd x) 200 p (fuel hW (by omega)) (Or.inr p2)
  rw [cd_n (show x ≠ 120 by omega), cd_n (show p ≠ 120 by omega), ← r5] at hup
  refine r_callV (As := [_, _]) rfl (by decide) rfl (by first | exact hM.1 | assumption) rfl rfl (Nat.le_of_ble_eq_true rfl) ⟨Nat.le_of_ble_eq_true rfl, Nat.le_of_ble_eq_true rfl⟩ (c_M_isBelow hM hup) (kc' := 0) (ks' := 0) (by omega) (by omega) (by decide) ?_
  rintro r σ ⟨rfl, rfl⟩
  have hbe := below_T hW (x := x) (by omega) (Or.inr p2)
  rw [cd_n (show x ≠ 120 by omega), cd_n (show p ≠ 120 by omega)] at hbe
  rw [r5, hbe]
  refine r_ifneB rfl (fun q3 => no ?_) (fun q3 => cont p hho (cd_n (by omega)).symm (Or.inr p2) q3)
  unfold a_move
  rw [x4, hho]
  show (if bel (s_T S) x p = true then _ else _) = _
  rw [if_pos q3]
end MC
