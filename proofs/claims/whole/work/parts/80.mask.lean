/-! ===== the reference: thing, at, told, twins, count ===== -/
def nuI (S : Sp) (v : Int32) : Option Nat := if (decide (0 ≤ v) && decide (v < nI (s_n S))) = true then some v.toNatClampNeg else none
def ixT (T : Tr) (x : Nat) : Nat := match par T x with
  | some p => (t_k T p).idxOf x
  | none => 0
def a_thN (S : Sp) (x : Nat) : Nat → Int32
  | 0 => nI (s_k S x)
  | 1 => onT (s_n S) (s_T S) x
  | 2 => if t_h (s_T S) x = true then nI (ixT (s_T S) x) else -9
  | 3 => if t_h (s_T S) x = true then nI (t_k (s_T S) x).length else 0
  | 4 => if t_h (s_T S) x = true then nI (n_c S ((ordT (s_T S)).idxOf x)) else 0
  | 5 => if t_h (s_T S) x = true then nI ((ordT (s_T S)).idxOf x) else -1
  | 6 => nI (t_h (s_T S) x).toNat
  | 7 => oI (t_i (s_T S) x)
  | 8 => n_b S x
  | _ => -10
def a_thing (S : Sp) (v w : Int32) : Int32 := match nuI S v with
  | none => -10
  | some x => if w < 0 then -10 else a_thN S x w.toNatClampNeg
def a_at (S : Sp) (v : Int32) : Int32 := if v < 0 then -1 else oI ((ordT (s_T S))[v.toNatClampNeg]?)
def tdT (S : Sp) (x : Nat) : List Int32 := toldL (s_w S (s_k S x)) (n_n S x)
def byI (xs : List Int32) (i : Int32) : Int32 := if i < 0 then -1 else xs.getD i.toNatClampNeg (-1)
def a_told (S : Sp) (v i : Int32) : Int32 := match thI S v with
  | none => -1
  | some x => byI (tdT S x) i
def twB (S : Sp) (x y : Nat) : Bool := t_h (s_T S) x && t_h (s_T S) y && decide (s_k S x = s_k S y) && decide (n_n S x = n_n S y)
/-- how many y from a up to b have it -/
def cntR (p : Nat → Bool) (a b : Nat) : Nat := ((List.range b).filter (fun y => decide (a ≤ y) && p y)).length
def sumN (f : Nat → Nat) : Nat → Nat
  | 0 => 0
  | n + 1 => sumN f n + f n
def a_twins (S : Sp) : Int32 := nI (sumN (fun x => cntB (fun y => decide (x < y) && twB S x y) (s_n S)) (s_n S))
def a_coN (S : Sp) : Nat → Int32
  | 0 => nI (s_n S)
  | 1 => nI (ordT (s_T S)).length
  | 2 => nI (s_m S).length
  | 3 => nI (s_e S).length
  | 4 => nI (s_l S).length
  | 5 => nI (s_t S).length
  | w => if 10 ≤ w ∧ w ≤ 15 then nI (f_c (s_f S) (w - 10)) else if 20 ≤ w ∧ w ≤ 25 then nI (f_y (s_f S) (w - 20)) else if 30 ≤ w ∧ w ≤ 35 then nI (f_j (s_f S) (w - 30)) else if 40 ≤ w ∧ w ≤ 45 then nI (s_w S (w - 40)).length else -1
def a_count (S : Sp) (w : Int32) : Int32 := if w < 0 then -1 else a_coN S w.toNatClampNeg
theorem sw_in {w : Int32} (m : Nat) (hm : m < 2 ^ 31) : (w.toInt < 0 ∨ (m : Int) < w.toInt) ∧ (w < 0 ∨ ∃ j, m < j ∧ j < 2 ^ 31 ∧ w = nI j) ∨ ∃ j, j ≤ m ∧ w = nI j := by
  by_cases a : w < 0
  · refine Or.inl ⟨Or.inl ?_, Or.inl a⟩
    have := Int32.lt_iff_toInt_lt.mp a
    simpa using this
  · obtain ⟨j, hj, rfl⟩ := nI_of a
    by_cases b : j ≤ m
    · exact Or.inr ⟨j, b, rfl⟩
    · refine Or.inl ⟨Or.inr ?_, Or.inr ⟨j, by omega, hj, rfl⟩⟩
      rw [nI_toInt hj]
      omega
theorem nuI_some {S : Sp} (hn : s_n S ≤ 120) {v : Int32} (h : (decide (0 ≤ v) && decide (v < nI (s_n S))) = true) : ∃ x, x < s_n S ∧ v = nI x ∧ nuI S v = some x := by
  have h' := h
  simp only [Bool.and_eq_true, decide_eq_true_eq] at h'
  obtain ⟨j, hj, rfl⟩ := nI_of (Int32.not_lt.mpr h'.1)
  refine ⟨j, (nI_ltI hj (by omega)).mp h'.2, rfl, ?_⟩
  unfold nuI
  rw [if_pos h, nI_clamp hj]
theorem idx_of {L : List Nat} (hn : L.Nodup) {i x : Nat} (h : L[i]? = some x) : L.idxOf x = i := by
  have hi := getE_lt h
  have e : L[i] = x := by rw [List.getElem?_eq_getElem hi] at h; exact Option.some.inj h
  rw [← e]
  exact List.Nodup.idxOf_getElem hn i hi
theorem idx_at {L : List Nat} {x : Nat} (h : x ∈ L) : L.idxOf x < L.length ∧ L.getD (L.idxOf x) 0 = x ∧ L[L.idxOf x]? = some x := by
  have h1 := List.idxOf_lt_length_of_mem h
  have h2 : L[L.idxOf x]? = some x := by rw [List.getElem?_eq_getElem h1, List.getElem_idxOf h1]
  exact ⟨h1, by rw [List.getD_eq_getElem?_getD, h2]; rfl, h2⟩
section MC
variable {l : Launch} {D : DD} {σ : Hp} {o : Nat}
theorem RM.rt {S : Sp} (h : RM σ o S) : h_I σ 711 o = nI (s_n S) ∧ h_X σ (o + 1 + 6) = (fun x => nI (s_k S x)) ∧ h_X σ (o + 1 + 7) = onT (s_n S) (s_T S) ∧ (∀ p, liv (s_T S) p → ∀ i z, (t_k (s_T S) p)[i]? = some z → h_X σ (o + 1 + 8) z = nI i) ∧ (∀ x, x < s_n S → h_X σ (o + 1 + 9) x = oI (t_i (s_T S) x)) := by
  obtain ⟨-, -, -, -, -, ⟨⟨r1, r2, r3, r4, r5, r6, r7⟩, -⟩, -⟩ := h
  exact ⟨r1, r2, r5, r6, r7⟩
set_option maxRecDepth 10000 in
set_option maxHeartbeats 1000000 in
theorem c_M_thingS {S : Sp} {v w : Int32} (h : RM σ o S) : Cn l D m_M_thing 0 0 [va_rf (some o), .int v, .int w] σ (fun r τ => r = some (.int (a_thing S v w)) ∧ RM τ o S ∧ MFr mAR mAI σ τ o) := by
  have hM := h.1
  have hS := h.2.1
  have hW := hS.wf
  have hn9 := hS.1
  have hn := h.rt.1
  refine Cn.of (by decide) (by repeat (first | exact ca_0 | refine ca_i ?_ | refine ca_r ?_)) (Nat.le_of_ble_eq_true rfl) ?_
  refine r_iload_n rfl rfl ?_
  refine r_iconst (v := nI 0) rfl (by decide) ?_
  refine r_aload_n rfl rfl ?_
  (first | refine r_getIv rfl hM.1 rfl (by assumption) ?_ | refine r_getI rfl hM.1 rfl ?_)
  refine r_iconst (v := nI 1) rfl (by decide) ?_
  refine r_isub rfl ?_
  refine r_callS (As := [_, _, _]) rfl (by decide) rfl rfl rfl (Nat.le_of_ble_eq_true rfl) ⟨Nat.le_of_ble_eq_true rfl, Nat.le_of_ble_eq_true rfl⟩ (c_M_in) (kc' := 0) (ks' := 0) (by omega) (by omega) ?_
  rintro r σ ⟨rfl, rfl⟩
  rw [show nI 0 = 0 from rfl, inB_n (by omega)]
  refine r_ifneB rfl (fun q => ?_) (fun q => ?_)
  · obtain ⟨x, x1, rfl, x3⟩ := nuI_some hn9 q
    refine r_aload_n rfl rfl ?_
    refine r_callV (As := []) rfl (by decide) rfl (by first | exact hM.1 | assumption) rfl rfl (Nat.le_of_ble_eq_true rfl) ⟨Nat.le_of_ble_eq_true rfl, Nat.le_of_ble_eq_true rfl⟩ (c_M_makeS h) (kc' := 0) (ks' := 0) (by omega) (by omega) (by decide) ?_
    rintro r τ ⟨rfl, hd, hf⟩
    have hM := hd.1.1
    obtain ⟨t1, t2, t3, t4, t5⟩ := hd.1.rt
    obtain ⟨hR, -, d1, d2, d3, d4, d5, d6, d7, d8, d9⟩ := hd
    have hfw : MFr mAR mAI σ τ o := hf.wide (by decide) (by decide)
    refine r_iload_n rfl rfl ?_
    have fin : ∀ (u : Int32), (∀ (ea : a_thing S (nI x) w = if w < 0 then -10 else a_thN S x w.toNatClampNeg), u = a_thing S (nI x) w) → (some (Value.int u) = some (.int (a_thing S (nI x) w)) ∧ RM τ o S ∧ MFr mAR mAI σ τ o) := by
      intro u hu
      refine ⟨by rw [hu (by unfold a_thing; rw [x3])], hR, hfw⟩
    rcases sw_in (w := w) 8 (by decide) with ⟨w1, w2⟩ | ⟨j, j1, rfl⟩
    · refine r_tswOut rfl w1 (tgt := 175) (by decide) ?_
      refine r_bipush (v := -10) rfl (by decide) ?_
      refine r_iret rfl rfl (fin _ (fun ea => ?_))
      rw [ea]
      rcases w2 with w2 | ⟨j, j1, j2, rfl⟩
      · rw [if_pos w2]
      · rw [if_neg (nI_pos j2), nI_clamp j2]
        match j, j1 with
        | j + 9, _ => rfl
    · have fin : ∀ (u : Int32), u = a_thN S x j → (some (Value.int u) = some (.int (a_thing S (nI x) (nI j))) ∧ RM τ o S ∧ MFr mAR mAI σ τ o) := fun u hu => fin u (fun ea => by rw [ea, if_neg (nI_pos (by omega)), nI_clamp (by omega), hu])
      match j, j1, fin with
      | 0, _, fin =>
        refine r_tswIn rfl (by decide) (by decide) (off := 50) (by decide) (tgt := 72) (by decide) ?_
        refine r_aload_n rfl rfl ?_
        refine r_mg (j := 6) hM rfl rfl (by decide) ?_
        refine r_iload_n rfl rfl ?_
        refine r_mi (j := 6) hM rfl rfl (by decide) (by first | rfl | assumption) (show _ < 120 by omega) ?_
        refine r_iret rfl rfl (fin _ ?_)
        rw [t2]; rfl
      | 1, _, fin =>
        refine r_tswIn rfl (by decide) (by decide) (off := 57) (by decide) (tgt := 79) (by decide) ?_
        refine r_aload_n rfl rfl ?_
        refine r_mg (j := 7) hM rfl rfl (by decide) ?_
        refine r_iload_n rfl rfl ?_
        refine r_mi (j := 7) hM rfl rfl (by decide) (by first | rfl | assumption) (show _ < 120 by omega) ?_
        refine r_iret rfl rfl (fin _ ?_)
        rw [t3]; rfl
      | 2, _, fin =>
        refine r_tswIn rfl (by decide) (by decide) (off := 64) (by decide) (tgt := 86) (by decide) ?_
        refine r_aload_n rfl rfl ?_
        refine r_mg (j := 7) hM rfl rfl (by decide) ?_
        refine r_iload_n rfl rfl ?_
        refine r_mi (j := 7) hM rfl rfl (by decide) (by first | rfl | assumption) (show _ < 120 by omega) ?_
        refine r_bipush (v := -9) rfl (by decide) ?_
        rw [t3]
        refine r_icmp_ne rfl (fun q => ?_) (fun q => ?_)
        · refine r_aload_n rfl rfl ?_
          refine r_mg (j := 8) hM rfl rfl (by decide) ?_
          refine r_iload_n rfl rfl ?_
          refine r_mi (j := 8) hM rfl rfl (by decide) (by first | rfl | assumption) (show _ < 120 by omega) ?_
          have hx : t_h (s_T S) x = true := by
            cases e : t_h (s_T S) x with
            | true => rfl
            | false => exact absurd (onT_off x1 e) q
          refine r_iret rfl rfl (fin _ ?_)
          show _ = if t_h (s_T S) x = true then nI (ixT (s_T S) x) else -9
          rw [if_pos hx]
          obtain ⟨p, i, p1, p2, p3⟩ := hW.pos hx
          rw [t4 p p1 i x p2]
          unfold ixT
          rw [p3]
          show _ = nI ((t_k (s_T S) p).idxOf x)
          rw [idx_of (hW.2.2.1 p) p2]
        · refine r_bipush (v := -9) rfl (by decide) ?_
          refine r_goto rfl ?_
          refine r_iret rfl rfl (fin _ ?_)
          show _ = if t_h (s_T S) x = true then nI (ixT (s_T S) x) else -9
          rw [(onT_9 hW x1).mp q]
          rfl
      | 3, _, fin =>
        refine r_tswIn rfl (by decide) (by decide) (off := 87) (by decide) (tgt := 109) (by decide) ?_
        refine r_aload_n rfl rfl ?_
        refine r_mg (j := 7) hM rfl rfl (by decide) ?_
        refine r_iload_n rfl rfl ?_
        refine r_mi (j := 7) hM rfl rfl (by decide) (by first | rfl | assumption) (show _ < 120 by omega) ?_
        refine r_bipush (v := -9) rfl (by decide) ?_
        rw [t3]
        refine r_icmp_ne rfl (fun q => ?_) (fun q => ?_)
        · have hx : t_h (s_T S) x = true := by
            cases e : t_h (s_T S) x with
            | true => rfl
            | false => exact absurd (onT_off x1 e) q
          refine r_aload_n rfl rfl ?_
          refine r_iload_n rfl rfl ?_
          refine r_callV (As := [_]) rfl (by decide) rfl (by first | exact hM.1 | assumption) rfl rfl (Nat.le_of_ble_eq_true rfl) ⟨Nat.le_of_ble_eq_true rfl, Nat.le_of_ble_eq_true rfl⟩ (c_M_hanging hM t1 hn9) (kc' := 0) (ks' := 0) (by omega) (by omega) (by decide) ?_
          rintro r τ ⟨rfl, rfl⟩
          have hh := hang_T hW (Or.inr hx)
          rw [cd_n (show x ≠ 120 by omega)] at hh
          rw [t3, hh]
          refine r_iret rfl rfl (fin _ ?_)
          show _ = if t_h (s_T S) x = true then nI (t_k (s_T S) x).length else 0
          rw [if_pos hx]
        · refine r_iconst (v := nI 0) rfl (by decide) ?_
          refine r_goto rfl ?_
          refine r_iret rfl rfl (fin _ ?_)
          show _ = if t_h (s_T S) x = true then nI (t_k (s_T S) x).length else 0
          rw [(onT_9 hW x1).mp q]
          rfl
      | 4, _, fin =>
        refine r_tswIn rfl (by decide) (by decide) (off := 108) (by decide) (tgt := 130) (by decide) ?_
        refine r_aload_n rfl rfl ?_
        refine r_mg (j := 16) hM rfl rfl (by decide) ?_
        refine r_iload_n rfl rfl ?_
        refine r_mi (j := 16) hM rfl rfl (by decide) (by first | rfl | assumption) (show _ < 120 by omega) ?_
        refine r_iret rfl rfl (fin _ ?_)
        show _ = if t_h (s_T S) x = true then nI (n_c S ((ordT (s_T S)).idxOf x)) else 0
        by_cases e : t_h (s_T S) x = true
        · obtain ⟨i1, i2, -⟩ := idx_at ((ord_mem hW).mpr e)
          have := d5 _ i1
          rw [i2] at this
          rw [if_pos e, this]
          rfl
        · rw [if_neg e]
          exact d6 x x1 (fun q => e ((ord_mem hW).mp q))
      | 5, _, fin =>
        refine r_tswIn rfl (by decide) (by decide) (off := 115) (by decide) (tgt := 137) (by decide) ?_
        refine r_aload_n rfl rfl ?_
        refine r_mg (j := 15) hM rfl rfl (by decide) ?_
        refine r_iload_n rfl rfl ?_
        refine r_mi (j := 15) hM rfl rfl (by decide) (by first | rfl | assumption) (show _ < 120 by omega) ?_
        refine r_iret rfl rfl (fin _ ?_)
        show _ = if t_h (s_T S) x = true then nI ((ordT (s_T S)).idxOf x) else -1
        by_cases e : t_h (s_T S) x = true
        · obtain ⟨i1, i2, -⟩ := idx_at ((ord_mem hW).mpr e)
          have := d3 _ i1
          rw [i2] at this
          rw [if_pos e, this]
        · rw [if_neg e]
          exact d4 x x1 (fun q => e ((ord_mem hW).mp q))
      | 6, _, fin =>
        refine r_tswIn rfl (by decide) (by decide) (off := 122) (by decide) (tgt := 144) (by decide) ?_
        refine r_aload_n rfl rfl ?_
        refine r_mg (j := 7) hM rfl rfl (by decide) ?_
        refine r_iload_n rfl rfl ?_
        refine r_mi (j := 7) hM rfl rfl (by decide) (by first | rfl | assumption) (show _ < 120 by omega) ?_
        refine r_bipush (v := -9) rfl (by decide) ?_
        rw [t3]
        refine r_icmp_ne rfl (fun q => ?_) (fun q => ?_)
        · have hx : t_h (s_T S) x = true := by
            cases e : t_h (s_T S) x with
            | true => rfl
            | false => exact absurd (onT_off x1 e) q
          refine r_iconst (v := nI 1) rfl (by decide) ?_
          refine r_iret rfl rfl (fin _ ?_)
          show _ = nI (t_h (s_T S) x).toNat
          rw [hx]; rfl
        · refine r_iconst (v := nI 0) rfl (by decide) ?_
          refine r_goto rfl ?_
          refine r_iret rfl rfl (fin _ ?_)
          show _ = nI (t_h (s_T S) x).toNat
          rw [(onT_9 hW x1).mp q]
          rfl
      | 7, _, fin =>
        refine r_tswIn rfl (by decide) (by decide) (off := 139) (by decide) (tgt := 161) (by decide) ?_
        refine r_aload_n rfl rfl ?_
        refine r_mg (j := 9) hM rfl rfl (by decide) ?_
        refine r_iload_n rfl rfl ?_
        refine r_mi (j := 9) hM rfl rfl (by decide) (by first | rfl | assumption) (show _ < 120 by omega) ?_
        refine r_iret rfl rfl (fin _ ?_)
        exact t5 x x1
      | 8, _, fin =>
        refine r_tswIn rfl (by decide) (by decide) (off := 146) (by decide) (tgt := 168) (by decide) ?_
        refine r_aload_n rfl rfl ?_
        refine r_mg (j := 17) hM rfl rfl (by decide) ?_
        refine r_iload_n rfl rfl ?_
        refine r_mi (j := 17) hM rfl rfl (by decide) (by first | rfl | assumption) (show _ < 120 by omega) ?_
        refine r_iret rfl rfl (fin _ ?_)
        exact d7 x x1
      | j + 9, h9, _ => omega
  · refine r_bipush (v := -10) rfl (by decide) ?_
    refine r_iret rfl rfl ⟨?_, h, MFr.rf _ _ _ _⟩
    unfold a_thing nuI
    rw [if_neg (by rw [q]; decide)]
theorem c_M_atS {S : Sp} {v : Int32} (h : RM σ o S) : Cn l D m_M_at 0 0 [va_rf (some o), .int v] σ (fun r τ => r = some (.int (a_at S v)) ∧ RM τ o S ∧ MFr mAR mAI σ τ o) := by
  have hM := h.1
  have hW := h.2.1.wf
  have hl := ord_len hW
  have hn := hW.1
  refine Cn.of (by decide) (by repeat (first | exact ca_0 | refine ca_i ?_ | refine ca_r ?_)) (Nat.le_of_ble_eq_true rfl) ?_
  refine r_aload_n rfl rfl ?_
  refine r_callV (As := []) rfl (by decide) rfl (by first | exact hM.1 | assumption) rfl rfl (Nat.le_of_ble_eq_true rfl) ⟨Nat.le_of_ble_eq_true rfl, Nat.le_of_ble_eq_true rfl⟩ (c_M_makeS h) (kc' := 0) (ks' := 0) (by omega) (by omega) (by decide) ?_
  rintro r τ ⟨rfl, hd, hf⟩
  have hfw : MFr mAR mAI σ τ o := hf.wide (by decide) (by decide)
  have hM := hd.1.1
  obtain ⟨hR, -, d1, d2, -⟩ := hd
  refine r_iload_n rfl rfl ?_
  refine r_iconst (v := nI 0) rfl (by decide) ?_
  refine r_aload_n rfl rfl ?_
  (first | refine r_getIv rfl hM.1 rfl (by assumption) ?_ | refine r_getI rfl hM.1 rfl ?_)
  refine r_iconst (v := nI 1) rfl (by decide) ?_
  refine r_isub rfl ?_
  refine r_callS (As := [_, _, _]) rfl (by decide) rfl rfl rfl (Nat.le_of_ble_eq_true rfl) ⟨Nat.le_of_ble_eq_true rfl, Nat.le_of_ble_eq_true rfl⟩ (c_M_in) (kc' := 0) (ks' := 0) (by omega) (by omega) ?_
  rintro r τ ⟨rfl, rfl⟩
  rw [show nI 0 = 0 from rfl, inB_n (by omega)]
  refine r_ifeqB rfl (fun q => ?_) (fun q => ?_)
  · refine r_iconst (v := -1) rfl (by decide) ?_
    refine r_iret rfl rfl ⟨?_, hR, hfw⟩
    unfold a_at
    by_cases a : v < 0
    · rw [if_pos a]
    · rw [if_neg a]
      obtain ⟨j, hj, rfl⟩ := nI_of a
      rw [decide_eq_true (nI_pos' hj), Bool.true_and, decide_eq_false_iff_not, nI_ltI hj (by omega)] at q
      rw [nI_clamp hj, List.getElem?_eq_none (by omega)]
      rfl
  · simp only [Bool.and_eq_true, decide_eq_true_eq] at q
    obtain ⟨j, hj, rfl⟩ := nI_of (Int32.not_lt.mpr q.1)
    have hjl := (nI_ltI hj (by omega)).mp q.2
    refine r_aload_n rfl rfl ?_
    refine r_mg (j := 14) hM rfl rfl (by decide) ?_
    refine r_iload_n rfl rfl ?_
    refine r_mi (j := 14) hM rfl rfl (by decide) (by first | rfl | assumption) (show _ < 120 by omega) ?_
    refine r_goto rfl ?_
    refine r_iret rfl rfl ⟨?_, hR, hfw⟩
    unfold a_at
    rw [if_neg (nI_pos hj), nI_clamp hj, d2 j hjl, List.getD_eq_getElem?_getD]
    rw [List.getElem?_eq_getElem hjl]
    rfl
theorem c_M_toldS {S : Sp} {v i : Int32} (h : RM σ o S) : Cn l D m_M_told 0 0 [va_rf (some o), .int v, .int i] σ (fun r τ => r = some (.int (a_told S v i)) ∧ RM τ o S ∧ MFr mAR mAI σ τ o) := by
  have hM := h.1
  have hS := h.2.1
  have hW := hS.wf
  have hn9 := hS.1
  obtain ⟨hn, -, r5, -⟩ := h.rt
  refine Cn.of (by decide) (by repeat (first | exact ca_0 | refine ca_i ?_ | refine ca_r ?_)) (Nat.le_of_ble_eq_true rfl) ?_
  refine r_aload_n rfl rfl ?_
  refine r_iload_n rfl rfl ?_
  refine r_callV (As := [_]) rfl (by decide) rfl (by first | exact hM.1 | assumption) rfl rfl (Nat.le_of_ble_eq_true rfl) ⟨Nat.le_of_ble_eq_true rfl, Nat.le_of_ble_eq_true rfl⟩ (c_M_isThere hM hn hn9) (kc' := 0) (ks' := 0) (by omega) (by omega) (by decide) ?_
  rintro r σ ⟨rfl, rfl⟩
  rw [r5]
  refine r_ifneB rfl (fun q => ?_) (fun q => ?_)
  · obtain ⟨x, x1, x2, rfl, x4⟩ := isTh_some hS q
    refine r_aload_n rfl rfl ?_
    refine r_callV (As := []) rfl (by decide) rfl (by first | exact hM.1 | assumption) rfl rfl (Nat.le_of_ble_eq_true rfl) ⟨Nat.le_of_ble_eq_true rfl, Nat.le_of_ble_eq_true rfl⟩ (c_M_makeS h) (kc' := 0) (ks' := 0) (by omega) (by omega) (by decide) ?_
    rintro r τ ⟨rfl, hd, hf⟩
    have hfw : MFr mAR mAI σ τ o := hf.wide (by decide) (by decide)
    have hM := hd.1.1
    have hR := hd.1
    have hk := hS.2.1 x x1
    have hwd := hd.1.2.2.2.1 (s_k S x) hk
    have htx := hd.tx x1
    have t2 : h_X τ (o + 1 + 6) x = nI (s_k S x) := by rw [hd.1.rt.2.1]
    have hlen : (tdT S x).length ≤ 71 := by
      unfold tdT toldL
      have := hwd.2.1
      have := htx.2.1
      split <;> simp <;> omega
    refine r_iload_n rfl rfl ?_
    refine r_iconst (v := nI 0) rfl (by decide) ?_
    refine r_aload_n rfl rfl ?_
    refine r_iload_n rfl rfl ?_
    refine r_callV (As := [_]) rfl (by decide) rfl (by first | exact hM.1 | assumption) rfl rfl (Nat.le_of_ble_eq_true rfl) ⟨Nat.le_of_ble_eq_true rfl, Nat.le_of_ble_eq_true rfl⟩ (c_M_toldSize hM (by omega) t2 hk hwd htx) (kc' := 0) (ks' := 0) (by omega) (by omega) (by decide) ?_
    rintro r τ ⟨rfl, rfl⟩
    refine r_iconst (v := nI 1) rfl (by decide) ?_
    refine r_isub rfl ?_
    refine r_callS (As := [_, _, _]) rfl (by decide) rfl rfl rfl (Nat.le_of_ble_eq_true rfl) ⟨Nat.le_of_ble_eq_true rfl, Nat.le_of_ble_eq_true rfl⟩ (c_M_in) (kc' := 0) (ks' := 0) (by omega) (by omega) ?_
    rintro r τ ⟨rfl, rfl⟩
    rw [show nI 0 = 0 from rfl, inB_n (by unfold tdT at hlen; omega)]
    have ea : a_told S (nI x) i = byI (tdT S x) i := by unfold a_told; rw [x4]
    refine r_ifeqB rfl (fun q => ?_) (fun q => ?_)
    · refine r_iconst (v := -1) rfl (by decide) ?_
      refine r_iret rfl rfl ⟨?_, hR, hfw⟩
      rw [ea]
      unfold byI
      by_cases a : i < 0
      · rw [if_pos a]
      · rw [if_neg a]
        obtain ⟨j, hj, rfl⟩ := nI_of a
        rw [decide_eq_true (nI_pos' hj), Bool.true_and, decide_eq_false_iff_not, nI_ltI hj (by unfold tdT at hlen; omega)] at q
        rw [nI_clamp hj, List.getD_eq_getElem?_getD, List.getElem?_eq_none (by unfold tdT; omega)]
        rfl
    · simp only [Bool.and_eq_true, decide_eq_true_eq] at q
      obtain ⟨j, hj, rfl⟩ := nI_of (Int32.not_lt.mpr q.1)
      have hjl := (nI_ltI hj (by unfold tdT at hlen; omega)).mp q.2
      refine r_aload_n rfl rfl ?_
      refine r_iload_n rfl rfl ?_
      refine r_iload_n rfl rfl ?_
      refine r_callV (As := [_, _]) rfl (by decide) rfl (by first | exact hM.1 | assumption) rfl rfl (Nat.le_of_ble_eq_true rfl) ⟨Nat.le_of_ble_eq_true rfl, Nat.le_of_ble_eq_true rfl⟩ (c_M_toldByte hM (by omega) t2 hk hwd htx hjl) (kc' := 0) (ks' := 0) (by omega) (by omega) (by decide) ?_
      rintro r τ ⟨rfl, rfl⟩
      refine r_goto rfl ?_
      refine r_iret rfl rfl ⟨?_, hR, hfw⟩
      rw [ea]
      unfold byI
      rw [if_neg (nI_pos hj), nI_clamp hj]
      unfold tdT
      rw [List.getD_eq_getElem?_getD, List.getD_eq_getElem?_getD, List.getElem?_eq_getElem hjl]
      rfl
  · refine r_iconst (v := -1) rfl (by decide) ?_
    refine r_iret rfl rfl ⟨?_, h, MFr.rf _ _ _ _⟩
    unfold a_told
    rw [isTh_none q]
end MC
