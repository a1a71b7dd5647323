/-! ===== the reference: add, cut, join, undo ===== -/
def sG (S : Sp) (g : Nat × (Nat → Nat) × List En) : Sp := (s_t S, s_w S, s_f S, g, s_m S, s_e S, s_d S)
def thI (S : Sp) (v : Int32) : Option Nat := if isTh (s_n S) (onT (s_n S) (s_T S)) v = true then some v.toNatClampNeg else none
def hoI (S : Sp) (v : Int32) : Option Nat := if v = -1 then some 120 else thI S v
def kiI (v : Int32) : Option Nat := if inB v 0 5 = true then some v.toNatClampNeg else none
theorem kiI_some {v : Int32} {k : Nat} (h : kiI v = some k) : v = nI k ∧ k < 6 := by
  unfold kiI at h
  by_cases a : inB v 0 5 = true
  · rw [if_pos a] at h
    obtain ⟨q, hq, rfl⟩ := inB_nI (m := 5) (by omega) a
    have := Option.some.inj h
    rw [nI_clamp (by omega)] at this
    exact ⟨by rw [this], by omega⟩
  · rw [if_neg a] at h; cases h
theorem kiI_nI {k : Nat} (h : k < 6) : kiI (nI k) = some k := by
  unfold kiI
  have : inB (nI k) 0 5 = true := by
    have h5 : (5 : Int32) = nI 5 := rfl
    unfold inB
    rw [decide_eq_true (nI_pos' (by omega)), h5, decide_eq_true (nI_le (by omega) (by omega))]
    rfl
  rw [if_pos this, nI_clamp (by omega)]
theorem isTh_some {S : Sp} (hS : SOk S) {v : Int32} (h : isTh (s_n S) (onT (s_n S) (s_T S)) v = true) : ∃ x, x < s_n S ∧ t_h (s_T S) x = true ∧ v = nI x ∧ thI S v = some x := by
  by_cases a : v < 0
  · rw [isTh_neg a] at h; cases h
  · obtain ⟨x, hx, rfl⟩ := nI_of a
    have h2 := h
    rw [isTh_T hS.wf hx] at h2
    simp only [Bool.and_eq_true, decide_eq_true_eq] at h2
    refine ⟨x, h2.1, h2.2, rfl, ?_⟩
    unfold thI
    rw [if_pos h, nI_clamp hx]
theorem isTh_none {S : Sp} {v : Int32} (h : isTh (s_n S) (onT (s_n S) (s_T S)) v = false) : thI S v = none := by
  unfold thI
  rw [h]
  rfl
theorem thI_some {S : Sp} (hS : SOk S) {v : Int32} {x : Nat} (h : thI S v = some x) : x < s_n S ∧ t_h (s_T S) x = true ∧ v = nI x := by
  unfold thI at h
  by_cases a : isTh (s_n S) (onT (s_n S) (s_T S)) v = true
  · obtain ⟨y, h1, h2, h3, h4⟩ := isTh_some hS a
    unfold thI at h4
    rw [h4] at h
    have := Option.some.inj h
    subst this
    exact ⟨h1, h2, h3⟩
  · rw [if_neg a] at h; cases h
def a_add (S : Sp) (k p i : Int32) : Int32 × Sp := match kiI k, hoI S p with
  | some k', some p' => if inB i 0 (nI (t_k (s_T S) p').length) = true then (if s_n S = 120 ∨ (s_l S).length = 200 then (-3, S) else (nI (s_n S), sG S (s_n S + 1, u_1 (s_k S) (s_n S) k', (1, s_n S, p', i.toNatClampNeg) :: s_l S))) else (-2, S)
  | _, _ => (-2, S)
def a_cut (S : Sp) (v : Int32) : Int32 × Sp := match thI S v with
  | some x => if (s_l S).length = 200 then (-3, S) else (nI (pre (s_T S) 121 x).length, sG S (s_n S, s_k S, (3, x, 0, 0) :: s_l S))
  | none => (-2, S)
def jnB (S : Sp) (x y : Nat) : Bool := decide (s_k S x = s_k S y) && decide (sib (s_T S) x = some y)
def a_join (S : Sp) (v w : Int32) : Int32 × Sp := match thI S v, thI S w with
  | some x, some y => if jnB S x y = true then (if (s_l S).length = 200 then (-3, S) else (nI ((t_k (s_T S) x).length + (t_k (s_T S) y).length), sG S (s_n S, s_k S, (4, x, y, 0) :: s_l S))) else (-2, S)
  | _, _ => (-2, S)
def a_undo (S : Sp) : Int32 × Sp := match s_l S with
  | [] => (-1, S)
  | _ :: l => (nI l.length, sG S (s_n S, s_k S, l))
theorem SOk.g {S : Sp} (h : SOk S) {n : Nat} {kd : Nat → Nat} {l : List En} (h1 : s_n S ≤ n) (h2 : n ≤ 120) (h3 : ∀ x, x < s_n S → kd x = s_k S x) (h4 : ∀ x, x < n → kd x < 6) (h5 : LogOk n kd l) (h6 : l.length ≤ 200) : SOk (sG S (n, kd, l)) := by
  obtain ⟨a1, a2, a3, a4, a5, a6, a7, a8, a9, a10, a11⟩ := h
  refine ⟨h2, h4, h5, h6, a5, a6, a7, a8, a9, fun i k f e m hm => ?_, fun d hd x td nm e => ?_⟩
  · obtain ⟨b1, b2, b3, b4, b5, b6, b7, b8, b9, b10⟩ := a10 i k f e m hm
    refine ⟨Nat.lt_of_lt_of_le b1 h1, b2, fun w => Nat.lt_of_lt_of_le (b3 w) h1, b4, b5, b6, fun w => ⟨Nat.lt_of_lt_of_le (b7 w).1 h1, (b7 w).2⟩, b8, b9, fun x hx => ?_⟩
    have c := b10 x hx
    exact ⟨Nat.lt_of_lt_of_le c.1 h1, by show kd x = f; rw [h3 x c.1]; exact c.2⟩
  · obtain ⟨b1, b2⟩ := a11 d hd x td nm e
    exact ⟨Nat.lt_of_lt_of_le b1 h1, b2⟩
section MC
variable {l : Launch} {D : DD} {σ : Hp} {o : Nat}
theorem RM.g {S : Sp} {τ : Hp} {g : Nat × (Nat → Nat) × List En} (h : RM σ o S) (hf : MFr [6, 7, 8, 9, 10, 11, 12, 13] [711, 716, 721] σ τ o) (h1 : RG τ o g) (h2 : h_I τ 721 o = nI 0) (h3 : SOk (sG S g)) : RM τ o (sG S g) := by
  obtain ⟨g1, g2, g3, g4, g5, g6, g7, g8, g9, g10⟩ := h
  refine ⟨hf.mL g1, h3, g3.kp hf (by decide) (by decide), fun k hk => (g4 k hk).kp hf (by decide) (by decide), g5.kp hf (by decide) (by decide) (by decide), h1, Or.inr h2, g8.kp hf (fun j a b => ?_) (by decide), g9.kp hf (fun j a b => ?_) (by decide), g10.kp hf (fun j a b => ?_) (by decide)⟩
  all_goals simp only [List.mem_cons, List.not_mem_nil, or_false]; omega
theorem c_M_changeT {e : En} {n : Nat} {kd : Nat → Nat} {lg : List En} (hM : ML σ o) (hn : n ≤ 120) (hG : RG σ o (n, kd, lg)) (hL : LogOk n kd lg) (h200 : lg.length < 200) (hv : Va n kd e (rp lg)) :
    Cn l D m_M_change 0 0 [va_rf (some o), .int (nI e.1), .int (nI e.2.1), .int (eB e), .int (nI e.2.2.2)] σ (fun r τ => r = some (.int (nI (dR e (rp lg)))) ∧ RG τ o (n, kd, e :: lg) ∧ h_I τ 721 o = nI 0 ∧ MFr [6, 7, 8, 9, 10, 11, 12, 13] [711, 716, 721] σ τ o) := by
  have hW := LogOk.wf hn hL
  obtain ⟨hR, hl1, hl2⟩ := hG
  have fc : MFr [10, 11, 12, 13] [716] σ (chg σ o lg.length (nI e.1) (nI e.2.1) (eB e) (nI e.2.2.2)) o :=
    ((((MFr.X _ _ (by decide)).tr (MFr.X _ _ (by decide))).tr (MFr.X _ _ (by decide))).tr (MFr.X _ _ (by decide))).tr (MFr.I _ _ (by decide))
  have hc := c_M_doesT (l := l) (D := D) (e := e) (fc.mL hM) hW (hR.kp fc (by decide) (by decide) (by decide) (by decide) (by decide)) hv
  refine c_M_change hM hl1 h200 (fun r τ q => ⟨_, q.1⟩) (Cn.mono hc ?_)
  rintro r τ ⟨rfl, t1, t2, t3⟩
  refine ⟨rfl, ⟨t1, ?_, fun k e' hk => ?_⟩, t2, (fc.wide (by decide) (by decide)).tr (t3.wide (by decide) (by decide))⟩
  · rw [t3.fld (by decide)]
    exact hI_w _ _ _ _
  · rw [t3.row (j := 10) (by decide), t3.row (j := 11) (by decide), t3.row (j := 12) (by decide), t3.row (j := 13) (by decide)]
    have e10 : h_X (chg σ o lg.length (nI e.1) (nI e.2.1) (eB e) (nI e.2.2.2)) (o + 1 + 10) = upd (h_X σ (o + 1 + 10)) lg.length (nI e.1) := by
      unfold chg
      rw [hX_wI, hX_n _ _ (by omega), hX_n _ _ (by omega), hX_n _ _ (by omega), hX_w]
    have e11 : h_X (chg σ o lg.length (nI e.1) (nI e.2.1) (eB e) (nI e.2.2.2)) (o + 1 + 11) = upd (h_X σ (o + 1 + 11)) lg.length (nI e.2.1) := by
      unfold chg
      rw [hX_wI, hX_n _ _ (by omega), hX_n _ _ (by omega), hX_w]
    have e12 : h_X (chg σ o lg.length (nI e.1) (nI e.2.1) (eB e) (nI e.2.2.2)) (o + 1 + 12) = upd (h_X σ (o + 1 + 12)) lg.length (eB e) := by
      unfold chg
      rw [hX_wI, hX_n _ _ (by omega), hX_w]
    have e13 : h_X (chg σ o lg.length (nI e.1) (nI e.2.1) (eB e) (nI e.2.2.2)) (o + 1 + 13) = upd (h_X σ (o + 1 + 13)) lg.length (nI e.2.2.2) := by
      unfold chg
      rw [hX_wI, hX_w]
    rw [e10, e11, e12, e13]
    rw [List.reverse_cons] at hk
    by_cases a : k < lg.length
    · rw [List.getElem?_append_left (by rw [List.length_reverse]; omega)] at hk
      rw [upd_n _ _ (by omega), upd_n _ _ (by omega), upd_n _ _ (by omega), upd_n _ _ (by omega)]
      exact hl2 k e' hk
    · rw [List.getElem?_append_right (by rw [List.length_reverse]; omega), List.length_reverse] at hk
      by_cases b : k = lg.length
      · rw [b, Nat.sub_self] at hk
        have : e = e' := Option.some.inj hk
        rw [b, upd_s, upd_s, upd_s, upd_s, this]
        exact ⟨rfl, rfl, rfl, rfl⟩
      · rw [show k - lg.length = (k - lg.length - 1) + 1 by omega] at hk
        cases hk
theorem c_M_cutS {S : Sp} {v : Int32} (h : RM σ o S) : Cn l D m_M_cut 0 0 [va_rf (some o), .int v] σ (fun r τ => r = some (.int (a_cut S v).1) ∧ RM τ o (a_cut S v).2 ∧ MFr mAR mAI σ τ o) := by
  have hM := h.1
  have hS := h.2.1
  have hG : RG σ o (s_n S, s_k S, s_l S) := h.2.2.2.2.2.1
  have hn : h_I σ 711 o = nI (s_n S) := hG.1.1
  have r5 : h_X σ (o + 1 + 7) = onT (s_n S) (s_T S) := hG.1.2.2.2.2.1
  refine Cn.of (by decide) (by repeat (first | exact ca_0 | refine ca_i ?_ | refine ca_r ?_)) (Nat.le_of_ble_eq_true rfl) ?_
  refine r_aload_n rfl rfl ?_
  refine r_iload_n rfl rfl ?_
  refine r_callV (As := [_]) rfl (by decide) rfl (by first | exact hM.1 | assumption) rfl rfl (Nat.le_of_ble_eq_true rfl) ⟨Nat.le_of_ble_eq_true rfl, Nat.le_of_ble_eq_true rfl⟩ (c_M_isThere hM hn hS.1) (kc' := 0) (ks' := 0) (by omega) (by omega) (by decide) ?_
  rintro r σ ⟨rfl, rfl⟩
  rw [r5]
  refine r_ifneB rfl (fun q => ?_) (fun q => ?_)
  · obtain ⟨x, x1, x2, rfl, x4⟩ := isTh_some hS q
    have hl := hS.2.2.2.1
    have he : h_I σ 716 o = nI (s_l S).length := hG.2.1
    refine r_aload_n rfl rfl ?_
    (first | refine r_getIv rfl hM.1 rfl (by assumption) ?_ | refine r_getI rfl hM.1 rfl ?_)
    refine r_sipush (v := nI 200) rfl (by decide) ?_
    unfold a_cut
    rw [x4]
    refine r_neN rfl (by omega) (by omega) (fun w => ?_) (fun w => ?_)
    · refine r_aload_n rfl rfl ?_
      refine r_iconst (v := nI 3) rfl (by decide) ?_
      refine r_iload_n rfl rfl ?_
      refine r_iconst (v := nI 0) rfl (by decide) ?_
      refine r_iconst (v := nI 0) rfl (by decide) ?_
      refine r_callV (As := [_, _, _, _]) rfl (by decide) rfl (by first | exact hM.1 | assumption) rfl rfl (Nat.le_of_ble_eq_true rfl) ⟨Nat.le_of_ble_eq_true rfl, Nat.le_of_ble_eq_true rfl⟩ (c_M_changeT (e := (3, x, 0, 0)) hM hS.1 hG hS.2.2.1 (by omega) (Or.inr (Or.inr (Or.inl ⟨rfl, x2, rfl⟩)))) (kc' := 0) (ks' := 0) (by omega) (by omega) (by decide) ?_
      rintro r τ ⟨rfl, t1, t2, t3⟩
      refine r_iret rfl rfl ?_
      show some (Value.int (nI (pre (rp (s_l S)) 121 x).length)) = some (Value.int (if (s_l S).length = 200 then ((-3 : Int32), S) else _).1) ∧ RM τ o (if (s_l S).length = 200 then ((-3 : Int32), S) else _).2 ∧ _
      rw [if_neg w]
      exact ⟨rfl, h.g t3 t1 t2 (hS.g (Nat.le_refl _) hS.1 (fun _ _ => rfl) hS.2.1 ⟨hS.2.2.1, Or.inr (Or.inr (Or.inl ⟨rfl, x2, rfl⟩))⟩ (by show (s_l S).length + 1 ≤ 200; omega)), t3.wide (by decide) (by decide)⟩
    · refine r_bipush (v := -3) rfl (by decide) ?_
      refine r_goto rfl ?_
      refine r_iret rfl rfl ?_
      show some (Value.int (-3)) = some (Value.int (if (s_l S).length = 200 then ((-3 : Int32), S) else _).1) ∧ RM σ o (if (s_l S).length = 200 then ((-3 : Int32), S) else _).2 ∧ _
      rw [if_pos w]
      exact ⟨rfl, h, MFr.rf _ _ _ _⟩
  · refine r_bipush (v := -2) rfl (by decide) ?_
    refine r_iret rfl rfl ?_
    unfold a_cut
    rw [isTh_none q]
    exact ⟨rfl, h, MFr.rf _ _ _ _⟩
end MC
