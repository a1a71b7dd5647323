/-! ===== the reference: means, goneOf, leadsOf ===== -/
def mtL (S : Sp) (m : List Nat) : List Nat := (ordT (s_T S)).filter (mtS S m)
def ledM (S : Sp) (q : Mn) : Option Nat := if q.2.1 = 0 ∨ q.2.1 = 4 then ldo (s_T S) q.2.2.1 else if q.2.1 = 1 then (mtL S q.2.2.2.2).head? else match ldo (s_T S) q.1 with
  | none => none
  | some y => if q.2.1 = 2 then nxK (fun x => nI (s_k S x)) (ordT (s_T S)) ((ordT (s_T S)).idxOf y) (nI q.2.2.1) else ltK (fun x => nI (s_k S x)) (ordT (s_T S)) (nI q.2.2.1) ((ordT (s_T S)).idxOf y)
def Mt (σ : Hp) (o : Nat) (S : Sp) (m : List Nat) : Prop := ∀ x, x < s_n S → h_X σ (o + 1 + 31) x = nI (mtS S m x).toNat
theorem fm_take {S : Sp} {m : List Nat} {k y : Nat} (h : m[k]? = some y) (x : Nat) : mtS S (m.take (k + 1)) x = (mtS S (m.take k) x || decide (ldo (s_T S) y = some x)) := by
  have hk := getE_lt h
  unfold mtS
  rw [List.take_succ_eq_append_getElem hk, List.filterMap_append]
  have e : m[k] = y := by rw [List.getElem?_eq_getElem hk] at h; exact Option.some.inj h
  rw [e]
  cases e2 : ldo (s_T S) y with
  | none =>
    rw [show [y].filterMap (ldo (s_T S)) = [] by rw [List.filterMap_cons, e2]; rfl, List.append_nil, decide_eq_false (p := none = some x) (fun q => by cases q), Bool.or_false]
  | some z =>
    rw [show [y].filterMap (ldo (s_T S)) = [z] by rw [List.filterMap_cons, e2]; rfl]
    by_cases a : x ∈ (m.take k).filterMap (ldo (s_T S))
    · rw [decide_eq_true a, decide_eq_true (List.mem_append.mpr (Or.inl a))]; rfl
    · rw [decide_eq_false a, Bool.false_or]
      by_cases b : x = z
      · rw [b, decide_eq_true (p := some z = some z) rfl, decide_eq_true (List.mem_append.mpr (Or.inr (List.mem_singleton.mpr rfl)))]
      · rw [decide_eq_false (p := some z = some x) (fun q => b (Option.some.inj q).symm), decide_eq_false]
        intro q
        rcases List.mem_append.mp q with q | q
        · exact a q
        · exact b (List.mem_singleton.mp q)
theorem go_take {S : Sp} {m : List Nat} {k y : Nat} (h : m[k]? = some y) : goN S (m.take (k + 1)) = goN S (m.take k) + (decide (ldo (s_T S) y = none)).toNat := by
  have hk := getE_lt h
  unfold goN
  rw [List.take_succ_eq_append_getElem hk, List.filter_append, List.length_append]
  have e : m[k] = y := by rw [List.getElem?_eq_getElem hk] at h; exact Option.some.inj h
  rw [e, List.filter_cons]
  cases e2 : decide (ldo (s_T S) y = none) <;> simp
section MC
variable {l : Launch} {D : DD} {σ : Hp} {o : Nat}
theorem RM.mn {S : Sp} (h : RM σ o S) {q i k f e : Nat} {m : List Nat} (hq : (s_m S)[q]? = some (i, k, f, e, m)) : q < 100 ∧ h_X σ (o + 1 + 24) q = nI i ∧ h_X σ (o + 1 + 25) q = nI k ∧ h_X σ (o + 1 + 26) q = nI f ∧ (k = 4 → h_X σ (o + 1 + 27) q = nI e) ∧ h_X σ (o + 1 + 28) q = nI m.length ∧ (∀ j y, m[j]? = some y → h_X σ (o + 1 + 29) (12 * q + j) = nI y ∧ y < s_n S) ∧ i < s_n S ∧ k < 5 ∧ m.length ≤ 12 := by
  obtain ⟨-, hS, -, -, -, -, -, hMe, -⟩ := h
  have h1 := hMe.2 q i k f e m hq
  have h2 := hS.2.2.2.2.2.2.2.2.2.1 i k f e m (List.mem_of_getElem? hq)
  have h3 : q < (s_m S).length := by
    by_cases a : q < (s_m S).length
    · exact a
    · rw [List.getElem?_eq_none (by omega)] at hq; cases hq
  have h4 := hS.2.2.2.2.2.2.2.1
  refine ⟨by omega, h1.1, h1.2.1, h1.2.2.1, h1.2.2.2.1, h1.2.2.2.2.1, fun j y hj => ?_, h2.1, h2.2.1, h2.2.2.2.2.2.2.2.2.1⟩
  have hjl := getE_lt hj
  refine ⟨?_, (h2.2.2.2.2.2.2.2.2.2 y (List.mem_of_getElem? hj)).1⟩
  rw [h1.2.2.2.2.2 j hjl, List.getD_eq_getElem?_getD, hj]
  rfl
theorem RM.lead {S : Sp} (h : RM σ o S) {x : Nat} (hx : x < s_n S) : Cn l D m_M_leadOf 0 0 [va_rf (some o), .int (nI x)] σ (fun r τ => r = some (.int (oI (ldo (s_T S) x))) ∧ τ = σ) := by
  obtain ⟨hn, -, r5, -, r7⟩ := h.rt
  obtain ⟨l1, l2, l3⟩ := lead_T h.2.1.wf r7 hx
  have := c_M_leadOf (l := l) (D := D) h.1 hn h.2.1.1 (by rw [r5]; exact l1)
  rw [r5, l2, l3] at this
  exact this
theorem RM.fo {S : Sp} (h : RM σ o S) {x : Nat} (hx : x < s_n S) : Cn l D m_M_follow 0 0 [va_rf (some o), .int (nI x)] σ (fun r τ => r = some (.int (nI (ld (s_T S) x))) ∧ τ = σ) := by
  obtain ⟨hn, -, r5, -, r7⟩ := h.rt
  obtain ⟨l1, l2, l3⟩ := lead_T h.2.1.wf r7 hx
  have := c_M_follow (l := l) (D := D) h.1 (by rw [r5]; exact l1)
  rw [r5, l2] at this
  exact this
theorem RM.th {S : Sp} (h : RM σ o S) {x : Nat} (hx : x < s_n S) : Cn l D m_M_isThere 0 0 [va_rf (some o), .int (nI x)] σ (fun r τ => r = some (.int (nI (t_h (s_T S) x).toNat)) ∧ τ = σ) := by
  obtain ⟨hn, -, r5, -, r7⟩ := h.rt
  have h9 := h.2.1.1
  have := c_M_isThere (l := l) (D := D) (v := nI x) h.1 hn h9
  rw [r5, isTh_T h.2.1.wf (by omega), decide_eq_true hx, Bool.true_and] at this
  exact this
theorem c_M_meansS {S : Sp} {q i k f e : Nat} {m : List Nat} (h : RM σ o S) (hq : (s_m S)[q]? = some (i, k, f, e, m)) : Cn l D m_M_means 0 0 [va_rf (some o), .int (nI q)] σ (fun r τ => r = none ∧ Mt τ o S m ∧ MFr [31] [] σ τ o) := by
  have hM := h.1
  have hS := h.2.1
  have hn9 := hS.1
  have hn := h.rt.1
  obtain ⟨q1, -, -, -, -, m1, m2, -, -, m3⟩ := h.mn hq
  generalize hQ : (fun (r : Option Value) (τ : Hp) => r = none ∧ Mt τ o S m ∧ MFr [31] [] σ τ o) = Q
  refine Cn.of (by decide) (by repeat (first | exact ca_0 | refine ca_i ?_ | refine ca_r ?_)) (Nat.le_of_ble_eq_true rfl) ?_
  have lp2 : ∀ (d j : Nat) (g : Nat → Int32) (z3 : Option Value), j + d = m.length → (∀ x, x < s_n S → g x = nI (mtS S (m.take j) x).toNat) → Gm l D m_M_means 0 0 Q 25 [some (va_rf (some o)), some (.int (nI q)), some (.int (nI j)), z3] [] (w_X σ (o + 1 + 31) g) 0 0 := by
    intro d
    induction d with
    | zero =>
      intro j g z3 hj hg
      refine r_iload_n rfl rfl ?_
      refine r_aload_n rfl rfl ?_
      refine r_mg (j := 28) hM rfl rfl (by decide) ?_
      refine r_iload_n rfl rfl ?_
      refine r_mi (j := 28) hM rfl rfl (by decide) (by first | rfl | assumption) (show _ < 100 by omega) ?_
      rw [hX_n _ _ (show o + 1 + 28 ≠ o + 1 + 31 by omega), m1]
      refine r_geN rfl (by omega) (by omega) (fun _ => ?_) (fun w => by omega)
      refine r_vret rfl rfl ?_
      rw [← hQ]
      refine ⟨rfl, fun x hx => ?_, MFr.X _ _ (by decide)⟩
      rw [hX_w, hg x hx, List.take_of_length_le (by omega)]
    | succ d ih =>
      intro j g z3 hj hg
      have hjl : j < m.length := by omega
      obtain ⟨e1, e2⟩ := m2 j _ (List.getElem?_eq_getElem hjl)
      have hfm := fm_take (S := S) (List.getElem?_eq_getElem hjl)
      generalize m[j] = y at e1 e2 hfm
      have hf : MFr [31] [] σ (w_X σ (o + 1 + 31) g) o := MFr.X _ _ (by decide)
      have hR := RM.kp hf (by decide) (by decide) h
      refine r_iload_n rfl rfl ?_
      refine r_aload_n rfl rfl ?_
      refine r_mg (j := 28) hM rfl rfl (by decide) ?_
      refine r_iload_n rfl rfl ?_
      refine r_mi (j := 28) hM rfl rfl (by decide) (by first | rfl | assumption) (show _ < 100 by omega) ?_
      rw [hX_n _ _ (show o + 1 + 28 ≠ o + 1 + 31 by omega), m1]
      refine r_geN rfl (by omega) (by omega) (fun w => by omega) (fun _ => ?_)
      refine r_aload_n rfl rfl ?_
      refine r_aload_n rfl rfl ?_
      refine r_mg (j := 29) hM rfl rfl (by decide) ?_
      refine r_bipush (v := nI 12) rfl (by decide) ?_
      refine r_iload_n rfl rfl ?_
      (first | refine r_imulN rfl ?_ | refine r_imul rfl ?_)
      refine r_iload_n rfl rfl ?_
      (first | refine r_iaddN rfl ?_ | refine r_iadd rfl ?_)
      refine r_mi (j := 29) hM rfl rfl (by decide) (by first | rfl | assumption) (show _ < 1200 by omega) ?_
      rw [hX_n _ _ (show o + 1 + 29 ≠ o + 1 + 31 by omega), e1]
      refine r_callV (As := [_]) rfl (by decide) rfl (by first | exact hM.1 | assumption) rfl rfl (Nat.le_of_ble_eq_true rfl) ⟨Nat.le_of_ble_eq_true rfl, Nat.le_of_ble_eq_true rfl⟩ (hR.lead e2) (kc' := 0) (ks' := 0) (by omega) (by omega) (by decide) ?_
      rintro r τ ⟨rfl, rfl⟩
      refine r_istore_n rfl (by decide) ?_
      refine r_iload_n rfl rfl ?_
      refine r_iconst (v := -1) rfl (by decide) ?_
      cases e3 : ldo (s_T S) y with
      | none =>
        refine r_icmp_eq rfl (fun _ => ?_) (fun w => absurd rfl w)
        refine r_iinc rfl rfl (nI_inc _) ?_
        refine r_goto rfl ?_
        refine ih (j + 1) g _ (by omega) (fun x hx => ?_)
        rw [hfm, e3, decide_eq_false (p := none = some x) (fun w => by cases w), Bool.or_false]
        exact hg x hx
      | some z =>
        have hz := (ldo_lt hS e3).1
        refine r_icmp_eq rfl (fun w => absurd w (nI_m1 z (by omega))) (fun _ => ?_)
        show Gm l D m_M_means 0 0 Q 56 [some (va_rf (some o)), some (.int (nI q)), some (.int (nI j)), some (.int (nI z))] [] _ 0 0
        refine r_aload_n rfl rfl ?_
        refine r_mg (j := 31) hM rfl rfl (by decide) ?_
        refine r_iload_n rfl rfl ?_
        refine r_iconst (v := nI 1) rfl (by decide) ?_
        refine r_mzs (j := 31) hM rfl rfl (by decide) (by first | rfl | assumption) (show _ < 120 by omega) (by first | rfl | decide | assumption) ?_
        rw [wX_same, hX_w]
        refine r_iinc rfl rfl (nI_inc _) ?_
        refine r_goto rfl ?_
        refine ih (j + 1) _ _ (by omega) (fun x hx => ?_)
        rw [hfm, e3]
        by_cases w : x = z
        · rw [w, upd_s, decide_eq_true (p := some z = some z) rfl, Bool.or_true]; rfl
        · rw [upd_n _ _ w, decide_eq_false (p := some z = some x) (fun v => w (Option.some.inj v).symm), Bool.or_false]
          exact hg x hx
  refine r_iconst (v := nI 0) rfl (by decide) ?_
  refine r_istore_n rfl (by decide) ?_
  have lp1 : ∀ (d x : Nat) (g : Nat → Int32), x + d = s_n S → (∀ z, z < x → g z = nI 0) → Gm l D m_M_means 0 0 Q 2 [some (va_rf (some o)), some (.int (nI q)), some (.int (nI x)), none] [] (w_X σ (o + 1 + 31) g) 0 0 := by
    intro d
    induction d with
    | zero =>
      intro x g hx hg
      have hn : h_I (w_X σ (o + 1 + 31) g) 711 o = nI (s_n S) := hn
      refine r_iload_n rfl rfl ?_
      refine r_aload_n rfl rfl ?_
      (first | refine r_getIv rfl hM.1 rfl (by assumption) ?_ | refine r_getI rfl hM.1 rfl ?_)
      refine r_geN rfl (by omega) (by omega) (fun _ => ?_) (fun w => by omega)
      refine r_iconst (v := nI 0) rfl (by decide) ?_
      refine r_istore_n rfl (by decide) ?_
      refine lp2 m.length 0 g none (by omega) (fun z hz => ?_)
      rw [hg z (by omega)]
      rfl
    | succ d ih =>
      intro x g hx hg
      have hn : h_I (w_X σ (o + 1 + 31) g) 711 o = nI (s_n S) := hn
      refine r_iload_n rfl rfl ?_
      refine r_aload_n rfl rfl ?_
      (first | refine r_getIv rfl hM.1 rfl (by assumption) ?_ | refine r_getI rfl hM.1 rfl ?_)
      refine r_geN rfl (by omega) (by omega) (fun w => by omega) (fun _ => ?_)
      refine r_aload_n rfl rfl ?_
      refine r_mg (j := 31) hM rfl rfl (by decide) ?_
      refine r_iload_n rfl rfl ?_
      refine r_iconst (v := nI 0) rfl (by decide) ?_
      refine r_mzs (j := 31) hM rfl rfl (by decide) (by first | rfl | assumption) (show _ < 120 by omega) (by first | rfl | decide | assumption) ?_
      rw [wX_same, hX_w]
      refine r_iinc rfl rfl (nI_inc _) ?_
      refine r_goto rfl ?_
      refine ih (x + 1) _ (by omega) (fun z hz => ?_)
      by_cases w : z = x
      · rw [w, upd_s]
      · rw [upd_n _ _ w]
        exact hg z (by omega)
  have := lp1 (s_n S) 0 (h_X σ (o + 1 + 31)) (by omega) (fun z hz => by omega)
  rw [wX_self] at this
  exact this
theorem c_M_goneOfS {S : Sp} {q i k f e : Nat} {m : List Nat} (h : RM σ o S) (hq : (s_m S)[q]? = some (i, k, f, e, m)) : Cn l D m_M_goneOf 0 0 [va_rf (some o), .int (nI q)] σ (fun r τ => r = some (.int (nI (gonM S (i, k, f, e, m)))) ∧ τ = σ) := by
  have hM := h.1
  have hS := h.2.1
  have hn9 := hS.1
  have hmv := hS.2.2.2.2.2.2.2.2.2.1 i k f e m (List.mem_of_getElem? hq)
  obtain ⟨q1, -, m25, m26, -, m1, m2, -, m4, m3⟩ := h.mn hq
  have one : (k = 0 ∨ k = 4) → Gm l D m_M_goneOf 0 0 (fun r τ => r = some (.int (nI (gonM S (i, k, f, e, m)))) ∧ τ = σ) 19 [some (va_rf (some o)), some (.int (nI q)), none, none] [] σ 0 0 := by
    intro hk
    have hf : f < s_n S := hk.elim (fun w => hmv.2.2.1 w) (fun w => (hmv.2.2.2.2.2.2.1 w).1)
    have ea : gonM S (i, k, f, e, m) = if ldo (s_T S) f = none then 1 else 0 := by
      unfold gonM
      exact if_pos hk
    refine r_aload_n rfl rfl ?_
    refine r_aload_n rfl rfl ?_
    refine r_mg (j := 26) hM rfl rfl (by decide) ?_
    refine r_iload_n rfl rfl ?_
    refine r_mi (j := 26) hM rfl rfl (by decide) (by first | rfl | assumption) (show _ < 100 by omega) ?_
    rw [m26]
    refine r_callV (As := [_]) rfl (by decide) rfl (by first | exact hM.1 | assumption) rfl rfl (Nat.le_of_ble_eq_true rfl) ⟨Nat.le_of_ble_eq_true rfl, Nat.le_of_ble_eq_true rfl⟩ (h.lead hf) (kc' := 0) (ks' := 0) (by omega) (by omega) (by decide) ?_
    rintro r σ ⟨rfl, rfl⟩
    refine r_iconst (v := -1) rfl (by decide) ?_
    refine r_icmp_ne rfl (fun w => ?_) (fun w => ?_)
    · refine r_iconst (v := nI 0) rfl (by decide) ?_
      refine r_iret rfl rfl ⟨?_, rfl⟩
      rw [ea, if_neg (fun v => w (by rw [v]; rfl))]
    · refine r_iconst (v := nI 1) rfl (by decide) ?_
      refine r_goto rfl ?_
      refine r_iret rfl rfl ⟨?_, rfl⟩
      rw [ea, if_pos ((ldo_m1 hS hf).mp w)]
  refine Cn.of (by decide) (by repeat (first | exact ca_0 | refine ca_i ?_ | refine ca_r ?_)) (Nat.le_of_ble_eq_true rfl) ?_
  refine r_aload_n rfl rfl ?_
  refine r_mg (j := 25) hM rfl rfl (by decide) ?_
  refine r_iload_n rfl rfl ?_
  refine r_mi (j := 25) hM rfl rfl (by decide) (by first | rfl | assumption) (show _ < 100 by omega) ?_
  rw [m25]
  refine r_if_eq rfl (fun w => one (Or.inl ?_)) (fun w1 => ?_)
  · by_cases e0 : k = 0
    · exact e0
    · exact absurd w (nI_ne0 (by omega) (by omega))
  refine r_aload_n rfl rfl ?_
  refine r_mg (j := 25) hM rfl rfl (by decide) ?_
  refine r_iload_n rfl rfl ?_
  refine r_mi (j := 25) hM rfl rfl (by decide) (by first | rfl | assumption) (show _ < 100 by omega) ?_
  refine r_iconst (v := nI 4) rfl (by decide) ?_
  rw [m25]
  refine r_neN rfl (by omega) (by omega) (fun w2 => ?_) (fun w => one (Or.inr w))
  have ea : gonM S (i, k, f, e, m) = goN S m := by
    unfold gonM
    exact if_neg (fun w => w.elim (fun v => w1 (show nI k = 0 by rw [show k = 0 from v]; rfl)) w2)
  rw [ea]
  refine r_iconst (v := nI 0) rfl (by decide) ?_
  refine r_istore_n rfl (by decide) ?_
  refine r_iconst (v := nI 0) rfl (by decide) ?_
  refine r_istore_n rfl (by decide) ?_
  have lp : ∀ (d j : Nat), j + d = m.length → Gm l D m_M_goneOf 0 0 (fun r τ => r = some (.int (nI (goN S m))) ∧ τ = σ) 43 [some (va_rf (some o)), some (.int (nI q)), some (.int (nI (goN S (m.take j)))), some (.int (nI j))] [] σ 0 0 := by
    intro d
    induction d with
    | zero =>
      intro j hj
      refine r_iload_n rfl rfl ?_
      refine r_aload_n rfl rfl ?_
      refine r_mg (j := 28) hM rfl rfl (by decide) ?_
      refine r_iload_n rfl rfl ?_
      refine r_mi (j := 28) hM rfl rfl (by decide) (by first | rfl | assumption) (show _ < 100 by omega) ?_
      rw [m1]
      refine r_geN rfl (by omega) (by omega) (fun _ => ?_) (fun w => by omega)
      refine r_iload_n rfl rfl ?_
      refine r_iret rfl rfl ⟨?_, rfl⟩
      rw [List.take_of_length_le (by omega)]
    | succ d ih =>
      intro j hj
      have hjl : j < m.length := by omega
      obtain ⟨e1, e2⟩ := m2 j _ (List.getElem?_eq_getElem hjl)
      have hgo := go_take (S := S) (List.getElem?_eq_getElem hjl)
      have ih := ih (j + 1) (by omega)
      rw [hgo] at ih
      generalize m[j] = y at e1 e2 ih
      refine r_iload_n rfl rfl ?_
      refine r_aload_n rfl rfl ?_
      refine r_mg (j := 28) hM rfl rfl (by decide) ?_
      refine r_iload_n rfl rfl ?_
      refine r_mi (j := 28) hM rfl rfl (by decide) (by first | rfl | assumption) (show _ < 100 by omega) ?_
      rw [m1]
      refine r_geN rfl (by omega) (by omega) (fun w => by omega) (fun _ => ?_)
      refine r_iload_n rfl rfl ?_
      refine r_aload_n rfl rfl ?_
      refine r_aload_n rfl rfl ?_
      refine r_mg (j := 29) hM rfl rfl (by decide) ?_
      refine r_bipush (v := nI 12) rfl (by decide) ?_
      refine r_iload_n rfl rfl ?_
      (first | refine r_imulN rfl ?_ | refine r_imul rfl ?_)
      refine r_iload_n rfl rfl ?_
      (first | refine r_iaddN rfl ?_ | refine r_iadd rfl ?_)
      refine r_mi (j := 29) hM rfl rfl (by decide) (by first | rfl | assumption) (show _ < 1200 by omega) ?_
      rw [e1]
      refine r_callV (As := [_]) rfl (by decide) rfl (by first | exact hM.1 | assumption) rfl rfl (Nat.le_of_ble_eq_true rfl) ⟨Nat.le_of_ble_eq_true rfl, Nat.le_of_ble_eq_true rfl⟩ (h.lead e2) (kc' := 0) (ks' := 0) (by omega) (by omega) (by decide) ?_
      rintro r σ ⟨rfl, rfl⟩
      refine r_iconst (v := -1) rfl (by decide) ?_
      refine r_icmp_ne rfl (fun w => ?_) (fun w => ?_)
      · rw [decide_eq_false (fun v => w (by rw [v]; rfl))] at ih
        refine r_iconst (v := nI 0) rfl (by decide) ?_
        (first | refine r_iaddN rfl ?_ | refine r_iadd rfl ?_)
        refine r_istore_n rfl (by decide) ?_
        refine r_iinc rfl rfl (nI_inc _) ?_
        refine r_goto rfl ?_
        exact ih
      · rw [decide_eq_true ((ldo_m1 hS e2).mp w)] at ih
        refine r_iconst (v := nI 1) rfl (by decide) ?_
        refine r_goto rfl ?_
        (first | refine r_iaddN rfl ?_ | refine r_iadd rfl ?_)
        refine r_istore_n rfl (by decide) ?_
        refine r_iinc rfl rfl (nI_inc _) ?_
        refine r_goto rfl ?_
        exact ih
  exact lp m.length 0 (by omega)
set_option maxHeartbeats 1000000 in
theorem c_M_leadsOfS {S : Sp} {q i k f e : Nat} {m : List Nat} (h : RM σ o S) (hq : (s_m S)[q]? = some (i, k, f, e, m)) : Cn l D m_M_leadsOf 0 0 [va_rf (some o), .int (nI q)] σ (fun r τ => r = some (.int (oI (ledM S (i, k, f, e, m)))) ∧ RMd τ o S ∧ MFr [14, 15, 16, 17, 18, 19, 20, 21, 31] [721, 724] σ τ o ∧ (k = 1 → Mt τ o S m)) := by
  have hM := h.1
  have hS := h.2.1
  have hW := hS.wf
  have hn9 := hS.1
  have hol := ord_len hW
  have hmv := hS.2.2.2.2.2.2.2.2.2.1 i k f e m (List.mem_of_getElem? hq)
  refine Cn.of (by decide) (by repeat (first | exact ca_0 | refine ca_i ?_ | refine ca_r ?_)) (Nat.le_of_ble_eq_true rfl) ?_
  refine r_aload_n rfl rfl ?_
  refine r_callV (As := []) rfl (by decide) rfl (by first | exact hM.1 | assumption) rfl rfl (Nat.le_of_ble_eq_true rfl) ⟨Nat.le_of_ble_eq_true rfl, Nat.le_of_ble_eq_true rfl⟩ (c_M_makeS h) (kc' := 0) (ks' := 0) (by omega) (by omega) (by decide) ?_
  rintro r τ ⟨rfl, hd, hf⟩
  have hfw : MFr [14, 15, 16, 17, 18, 19, 20, 21, 31] [721, 724] σ τ o := hf.wide (by decide) (by decide)
  generalize hQ : (fun (r : Option Value) (τ : Hp) => r = some (.int (oI (ledM S (i, k, f, e, m)))) ∧ RMd τ o S ∧ MFr [14, 15, 16, 17, 18, 19, 20, 21, 31] [721, 724] σ τ o ∧ (k = 1 → Mt τ o S m)) = Q
  have hR := hd.1
  have hM := hR.1
  obtain ⟨-, -, d1, d2, d3, d4, -⟩ := id hd
  obtain ⟨q1, m24, m25, m26, -, m1, m2, hi, m4, m3⟩ := hR.mn hq
  have one : (k = 0 ∨ k = 4) → Gm l D m_M_leadsOf 0 0 Q 23 [some (va_rf (some o)), some (.int (nI q)), none, none] [] τ 0 0 := by
    intro hk
    have hf : f < s_n S := hk.elim (fun w => hmv.2.2.1 w) (fun w => (hmv.2.2.2.2.2.2.1 w).1)
    refine r_aload_n rfl rfl ?_
    refine r_aload_n rfl rfl ?_
    refine r_mg (j := 26) hM rfl rfl (by decide) ?_
    refine r_iload_n rfl rfl ?_
    refine r_mi (j := 26) hM rfl rfl (by decide) (by first | rfl | assumption) (show _ < 100 by omega) ?_
    rw [m26]
    refine r_callV (As := [_]) rfl (by decide) rfl (by first | exact hM.1 | assumption) rfl rfl (Nat.le_of_ble_eq_true rfl) ⟨Nat.le_of_ble_eq_true rfl, Nat.le_of_ble_eq_true rfl⟩ (hR.lead hf) (kc' := 0) (ks' := 0) (by omega) (by omega) (by decide) ?_
    rintro r τ ⟨rfl, rfl⟩
    refine r_iret rfl rfl ?_
    rw [← hQ]
    refine ⟨?_, hd, hfw, fun w => by omega⟩
    unfold ledM
    rw [if_pos hk]
  refine r_aload_n rfl rfl ?_
  refine r_mg (j := 25) hM rfl rfl (by decide) ?_
  refine r_iload_n rfl rfl ?_
  refine r_mi (j := 25) hM rfl rfl (by decide) (by first | rfl | assumption) (show _ < 100 by omega) ?_
  rw [m25]
  refine r_if_eq rfl (fun w => one (Or.inl ?_)) (fun w1 => ?_)
  · by_cases e0 : k = 0
    · exact e0
    · exact absurd w (nI_ne0 (by omega) (by omega))
  have w1 : k ≠ 0 := fun v => w1 (by rw [v]; rfl)
  refine r_aload_n rfl rfl ?_
  refine r_mg (j := 25) hM rfl rfl (by decide) ?_
  refine r_iload_n rfl rfl ?_
  refine r_mi (j := 25) hM rfl rfl (by decide) (by first | rfl | assumption) (show _ < 100 by omega) ?_
  refine r_iconst (v := nI 4) rfl (by decide) ?_
  rw [m25]
  refine r_neN rfl (by omega) (by omega) (fun w2 => ?_) (fun w => one (Or.inr w))
  refine r_aload_n rfl rfl ?_
  refine r_aload_n rfl rfl ?_
  refine r_mg (j := 24) hM rfl rfl (by decide) ?_
  refine r_iload_n rfl rfl ?_
  refine r_mi (j := 24) hM rfl rfl (by decide) (by first | rfl | assumption) (show _ < 100 by omega) ?_
  rw [m24]
  refine r_callV (As := [_]) rfl (by decide) rfl (by first | exact hM.1 | assumption) rfl rfl (Nat.le_of_ble_eq_true rfl) ⟨Nat.le_of_ble_eq_true rfl, Nat.le_of_ble_eq_true rfl⟩ (hR.fo hi) (kc' := 0) (ks' := 0) (by omega) (by omega) (by decide) ?_
  rintro r τ ⟨rfl, rfl⟩
  have hld := (ld_lt hW hi).1
  refine r_istore_n rfl (by decide) ?_
  refine r_aload_n rfl rfl ?_
  refine r_mg (j := 25) hM rfl rfl (by decide) ?_
  refine r_iload_n rfl rfl ?_
  refine r_mi (j := 25) hM rfl rfl (by decide) (by first | rfl | assumption) (show _ < 100 by omega) ?_
  refine r_iconst (v := nI 1) rfl (by decide) ?_
  rw [m25]
  refine r_leN rfl (by omega) (by omega) (fun w3 => ?_) (fun w3 => ?_)
  · have hk1 : k = 1 := by omega
    subst hk1
    have ea : ledM S (i, 1, f, e, m) = (mtL S m).head? := by
      unfold ledM
      show (if (1 = 0 ∨ 1 = 4) then _ else if 1 = 1 then _ else _) = _
      rw [if_neg (by omega), if_pos rfl]
    refine r_aload_n rfl rfl ?_
    refine r_iload_n rfl rfl ?_
    refine r_callV (As := [_]) rfl (by decide) rfl (by first | exact hM.1 | assumption) rfl rfl (Nat.le_of_ble_eq_true rfl) ⟨Nat.le_of_ble_eq_true rfl, Nat.le_of_ble_eq_true rfl⟩ (c_M_meansS hR hq) (kc' := 0) (ks' := 0) (by omega) (by omega) (by decide) ?_
    rintro r ρ ⟨rfl, hmt, hf2⟩
    have hd2 : RMd ρ o S := by
      refine ⟨RM.kp hf2 (by decide) (by decide) hR, by rw [hf2.fld (by decide)]; exact hd.2.1, ?_⟩
      have := hd.2.2
      unfold mkD Tx at this ⊢
      rw [hf2.row (j := 14) (by decide), hf2.row (j := 15) (by decide), hf2.row (j := 16) (by decide), hf2.row (j := 17) (by decide), hf2.row (j := 18) (by decide), hf2.row (j := 19) (by decide), hf2.row (j := 20) (by decide), hf2.row (j := 21) (by decide), hf2.fld (f := 724) (by decide)]
      exact this
    have hf3 : MFr [14, 15, 16, 17, 18, 19, 20, 21, 31] [721, 724] σ ρ o := hfw.tr (hf2.wide (by decide) (by decide))
    have hM := hd2.1.1
    obtain ⟨-, -, d1, d2, -⟩ := id hd2
    refine r_iconst (v := nI 0) rfl (by decide) ?_
    refine r_istore_n rfl (by decide) ?_
    have lp : ∀ (d p : Nat), p + d = (ordT (s_T S)).length → (mtL S m).head? = (((ordT (s_T S)).drop p).filter (mtS S m)).head? → Gm l D m_M_leadsOf 0 0 Q 92 [some (va_rf (some o)), some (.int (nI q)), some (.int (nI (ld (s_T S) i))), some (.int (nI p))] [] ρ 0 0 := by
      intro d
      induction d with
      | zero =>
        intro p hp he
        refine r_iload_n rfl rfl ?_
        refine r_aload_n rfl rfl ?_
        (first | refine r_getIv rfl hM.1 rfl (by assumption) ?_ | refine r_getI rfl hM.1 rfl ?_)
        refine r_geN rfl (by omega) (by omega) (fun _ => ?_) (fun w => by omega)
        refine r_iconst (v := -1) rfl (by decide) ?_
        refine r_iret rfl rfl ?_
        rw [← hQ]
        refine ⟨?_, hd2, hf3, fun _ => hmt⟩
        rw [ea, he, List.drop_eq_nil_of_le (by omega)]
        rfl
      | succ d ih =>
        intro p hp he
        have hpl : p < (ordT (s_T S)).length := by omega
        have w14 := d2 p hpl
        have hlt : (ordT (s_T S)).getD p 0 < s_n S := hW.h_lt ((ord_mem hW).mp (getD_mem hpl))
        rw [drop_c hpl] at he
        generalize (ordT (s_T S)).getD p 0 = y at w14 hlt he
        rw [List.filter_cons] at he
        refine r_iload_n rfl rfl ?_
        refine r_aload_n rfl rfl ?_
        (first | refine r_getIv rfl hM.1 rfl (by assumption) ?_ | refine r_getI rfl hM.1 rfl ?_)
        refine r_geN rfl (by omega) (by omega) (fun w => by omega) (fun _ => ?_)
        refine r_aload_n rfl rfl ?_
        refine r_mg (j := 31) hM rfl rfl (by decide) ?_
        refine r_aload_n rfl rfl ?_
        refine r_mg (j := 14) hM rfl rfl (by decide) ?_
        refine r_iload_n rfl rfl ?_
        refine r_mi (j := 14) hM rfl rfl (by decide) (by first | rfl | assumption) (show _ < 120 by omega) ?_
        rw [w14]
        refine r_mz (j := 31) hM rfl rfl (by decide) rfl (show _ < 120 by omega) ?_
        rw [hmt y hlt]
        refine r_ifeqB rfl (fun w => ?_) (fun w => ?_)
        · rw [if_neg (by rw [w]; decide)] at he
          refine r_iinc rfl rfl (nI_inc _) ?_
          refine r_goto rfl ?_
          exact ih (p + 1) (by omega) he
        · rw [if_pos w] at he
          refine r_aload_n rfl rfl ?_
          refine r_mg (j := 14) hM rfl rfl (by decide) ?_
          refine r_iload_n rfl rfl ?_
          refine r_mi (j := 14) hM rfl rfl (by decide) (by first | rfl | assumption) (show _ < 120 by omega) ?_
          rw [w14]
          refine r_iret rfl rfl ?_
          rw [← hQ]
          refine ⟨?_, hd2, hf3, fun _ => hmt⟩
          rw [ea, he]
          rfl
    exact lp (ordT (s_T S)).length 0 (by omega) rfl
  · have ea : ledM S (i, k, f, e, m) = match ldo (s_T S) i with
        | none => none
        | some y => if k = 2 then nxK (fun x => nI (s_k S x)) (ordT (s_T S)) ((ordT (s_T S)).idxOf y) (nI f) else ltK (fun x => nI (s_k S x)) (ordT (s_T S)) (nI f) ((ordT (s_T S)).idxOf y) := by
      unfold ledM
      show (if (k = 0 ∨ k = 4) then _ else if k = 1 then _ else _) = _
      rw [if_neg (by omega), if_neg (by omega)]
    refine r_aload_n rfl rfl ?_
    refine r_iload_n rfl rfl ?_
    refine r_callV (As := [_]) rfl (by decide) rfl (by first | exact hM.1 | assumption) rfl rfl (Nat.le_of_ble_eq_true rfl) ⟨Nat.le_of_ble_eq_true rfl, Nat.le_of_ble_eq_true rfl⟩ (hR.th hld) (kc' := 0) (ks' := 0) (by omega) (by omega) (by decide) ?_
    rintro r τ ⟨rfl, rfl⟩
    refine r_ifeqB rfl (fun w4 => ?_) (fun w4 => ?_)
    · refine r_iconst (v := -1) rfl (by decide) ?_
      refine r_iret rfl rfl ?_
      rw [← hQ]
      refine ⟨?_, hd, hfw, fun w => by omega⟩
      rw [ea]
      unfold ldo
      rw [if_neg (by rw [w4]; decide)]
      rfl
    · have hlo : ldo (s_T S) i = some (ld (s_T S) i) := by unfold ldo; rw [if_pos w4]
      rw [hlo] at ea
      obtain ⟨i1, i2, -⟩ := idx_at ((ord_mem hW).mpr w4)
      have ha := d3 _ i1
      rw [i2] at ha
      have ho : ∀ q, q < (ordT (s_T S)).length → h_X τ (o + 1 + 14) q = nI ((ordT (s_T S)).getD q 0) ∧ (ordT (s_T S)).getD q 0 < 120 := fun q hq => ⟨d2 q hq, by have := hW.h_lt ((ord_mem hW).mp (getD_mem hq)); omega⟩
      have t2 : h_X τ (o + 1 + 6) = fun x => nI (s_k S x) := hR.rt.2.1
      refine r_aload_n rfl rfl ?_
      refine r_iload_n rfl rfl ?_
      refine r_aload_n rfl rfl ?_
      refine r_mg (j := 26) hM rfl rfl (by decide) ?_
      refine r_iload_n rfl rfl ?_
      refine r_mi (j := 26) hM rfl rfl (by decide) (by first | rfl | assumption) (show _ < 100 by omega) ?_
      refine r_aload_n rfl rfl ?_
      refine r_mg (j := 25) hM rfl rfl (by decide) ?_
      refine r_iload_n rfl rfl ?_
      refine r_mi (j := 25) hM rfl rfl (by decide) (by first | rfl | assumption) (show _ < 100 by omega) ?_
      rw [m26, m25]
      rcases (show k = 2 ∨ k = 3 by omega) with rfl | rfl
      · refine r_callV (As := [_, _, _]) rfl (by decide) rfl (by first | exact hM.1 | assumption) rfl rfl (Nat.le_of_ble_eq_true rfl) ⟨Nat.le_of_ble_eq_true rfl, Nat.le_of_ble_eq_true rfl⟩ (c_M_beside2 hM (by omega) d1 (by omega) ho ha i1) (kc' := 0) (ks' := 0) (by omega) (by omega) (by decide) ?_
        rintro r τ ⟨rfl, rfl⟩
        refine r_goto rfl ?_
        refine r_iret rfl rfl ?_
        rw [← hQ]
        refine ⟨?_, hd, hfw, fun w => by omega⟩
        rw [ea, t2]
        rfl
      · refine r_callV (As := [_, _, _]) rfl (by decide) rfl (by first | exact hM.1 | assumption) rfl rfl (Nat.le_of_ble_eq_true rfl) ⟨Nat.le_of_ble_eq_true rfl, Nat.le_of_ble_eq_true rfl⟩ (c_M_beside3 hM (by omega) (by omega) ho ha i1) (kc' := 0) (ks' := 0) (by omega) (by omega) (by decide) ?_
        rintro r τ ⟨rfl, rfl⟩
        refine r_goto rfl ?_
        refine r_iret rfl rfl ?_
        rw [← hQ]
        refine ⟨?_, hd, hfw, fun w => by omega⟩
        rw [ea, t2]
        rfl
end MC
