/-! ===== the reference: mention, frozen, leads, range ===== -/
def sM (S : Sp) (ms : List Mn) : Sp := (s_t S, s_w S, s_f S, s_g S, ms, s_e S, s_d S)
def haI (S : Sp) (e x : Int32) : Option (List Int32 × List Int32) := if e < 0 ∨ x < 0 then none else match (s_e S)[e.toNatClampNeg]? with
  | none => none
  | some d => d x.toNatClampNeg
def tellS (S : Sp) (m : Mn) : Int32 × Sp := if (s_m S).length = 100 then (-3, S) else (nI (s_m S).length, sM S (s_m S ++ [m]))
def a_ment (S : Sp) (i k f : Int32) : Int32 × Sp := match thI S i with
  | none => (-2, S)
  | some x => if k = 0 then (match thI S f with
      | none => (-2, S)
      | some y => tellS S (x, 0, y, 0, [])) else if k = 2 ∨ k = 3 then (match kiI f with
      | none => (-2, S)
      | some y => tellS S (x, k.toNatClampNeg, y, 0, [])) else (-2, S)
def a_froz (S : Sp) (i f e : Int32) : Int32 × Sp := match thI S i, haI S e f with
  | some x, some _ => tellS S (x, 4, f.toNatClampNeg, e.toNatClampNeg, [])
  | _, _ => (-2, S)
def a_leads (S : Sp) (e x : Int32) : Int32 := match haI S e x with
  | none => -2
  | some _ => oI (ldo (s_T S) x.toNatClampNeg)
/-- the things from place a to place b of a kind -/
def rngL (S : Sp) (k a b : Nat) : List Nat := (((ordT (s_T S)).drop a).take (b + 1 - a)).filter (fun x => decide (s_k S x = k))
def a_range (S : Sp) (i k a b : Int32) : Int32 × Sp := match thI S i, kiI k with
  | some x, some k' => if (decide (0 ≤ a) && decide (a ≤ b) && decide (b < nI (ordT (s_T S)).length)) = true then (if 2 ≤ (rngL S k' a.toNatClampNeg b.toNatClampNeg).length ∧ (rngL S k' a.toNatClampNeg b.toNatClampNeg).length ≤ 12 then tellS S (x, 1, k', 0, rngL S k' a.toNatClampNeg b.toNatClampNeg) else (-2, S)) else (-2, S)
  | _, _ => (-2, S)
theorem SOk.m {S : Sp} (h : SOk S) {i k f e : Nat} {m : List Nat} (h0 : (s_m S).length < 100) (h1 : i < s_n S ∧ k < 5 ∧ (k = 0 → f < s_n S) ∧ (k = 1 → f < 6) ∧ (k = 2 → f < 6) ∧ (k = 3 → f < 6) ∧ (k = 4 → f < s_n S ∧ ∃ d, (s_e S)[e]? = some d ∧ d f ≠ none) ∧ (k ≠ 1 → m = []) ∧ m.length ≤ 12 ∧ ∀ x ∈ m, x < s_n S ∧ s_k S x = f) : SOk (sM S (s_m S ++ [(i, k, f, e, m)])) := by
  obtain ⟨a1, a2, a3, a4, a5, a6, a7, a8, a9, a10, a11⟩ := h
  refine ⟨a1, a2, a3, a4, a5, a6, a7, ?_, a9, fun i' k' f' e' m' hm => ?_, a11⟩
  · show (s_m S ++ [(i, k, f, e, m)]).length ≤ 100
    rw [List.length_append, List.length_singleton]
    omega
  · rcases List.mem_append.mp (show _ ∈ s_m S ++ [(i, k, f, e, m)] from hm) with hm | hm
    · exact a10 i' k' f' e' m' hm
    · have := List.mem_singleton.mp hm
      injection this with b1 b2
      injection b2 with b2 b3
      injection b3 with b3 b4
      injection b4 with b4 b5
      subst b1 b2 b3 b4 b5
      exact h1
section MC
variable {l : Launch} {D : DD} {σ : Hp} {o : Nat}
theorem RM.m {S : Sp} {τ : Hp} {ms : List Mn} (h : RM σ o S) (hf : MFr [24, 25, 26, 27, 28, 29] [733] σ τ o) (h1 : RMe τ o ms) (h3 : SOk (sM S ms)) : RM τ o (sM S ms) := by
  obtain ⟨g1, g2, g3, g4, g5, g6, g7, g8, g9, g10⟩ := h
  refine ⟨hf.mL g1, h3, g3.kp hf (by decide) (by decide), fun k hk => (g4 k hk).kp hf (by decide) (by decide), g5.kp hf (by decide) (by decide) (by decide), g6.kp hf (fun j a b => ?_) (by decide) (by decide), g7.kp hf (fun j a b => ?_) (by decide) (by decide), h1, g9.kp hf (fun j a b => ?_) (by decide), g10.kp hf (fun j a b => ?_) (by decide)⟩
  all_goals simp only [List.mem_cons, List.not_mem_nil, or_false]; omega
theorem c_M_tellT {ms : List Mn} {i k f e : Nat} {e' : Int32} (hM : ML σ o) (h : RMe σ o ms) (hl : ms.length < 100) (he : k = 4 → e' = nI e) : Cn l D m_M_tell 0 0 [va_rf (some o), .int (nI i), .int (nI k), .int (nI f), .int e'] σ (fun r τ => r = some (.int (nI ms.length)) ∧ RMe τ o (ms ++ [(i, k, f, e, [])]) ∧ MFr [24, 25, 26, 27, 28, 29] [733] σ τ o) := by
  refine Cn.mono (c_M_tell hM h.1 hl) ?_
  rintro r τ ⟨rfl, rfl⟩
  refine ⟨rfl, ⟨?_, fun q i' k' f' e2 m' hq => ?_⟩, (((((MFr.X _ _ (by decide)).tr (MFr.X _ _ (by decide))).tr (MFr.X _ _ (by decide))).tr (MFr.X _ _ (by decide))).tr (MFr.X _ _ (by decide))).tr (MFr.I _ _ (by decide))⟩
  · rw [hI_w, List.length_append, List.length_singleton]
  · rw [hX_wI]
    have e24 : h_X (w_X (w_X (w_X (w_X (w_X σ (o + 1 + 24) (upd (h_X σ (o + 1 + 24)) ms.length (nI i))) (o + 1 + 25) (upd (h_X σ (o + 1 + 25)) ms.length (nI k))) (o + 1 + 26) (upd (h_X σ (o + 1 + 26)) ms.length (nI f))) (o + 1 + 27) (upd (h_X σ (o + 1 + 27)) ms.length e')) (o + 1 + 28) (upd (h_X σ (o + 1 + 28)) ms.length (nI 0))) (o + 1 + 24) = upd (h_X σ (o + 1 + 24)) ms.length (nI i) := by
      rw [hX_n _ _ (by omega), hX_n _ _ (by omega), hX_n _ _ (by omega), hX_n _ _ (by omega), hX_w]
    rw [e24]
    rw [hX_n _ _ (show o + 1 + 25 ≠ o + 1 + 28 by omega), hX_n _ _ (show o + 1 + 25 ≠ o + 1 + 27 by omega), hX_n _ _ (show o + 1 + 25 ≠ o + 1 + 26 by omega), hX_w, hX_n _ _ (show o + 1 + 26 ≠ o + 1 + 28 by omega), hX_n _ _ (show o + 1 + 26 ≠ o + 1 + 27 by omega), hX_w, hX_n _ _ (show o + 1 + 27 ≠ o + 1 + 28 by omega), hX_w, hX_w, hX_n _ _ (show o + 1 + 29 ≠ o + 1 + 28 by omega), hX_n _ _ (show o + 1 + 29 ≠ o + 1 + 27 by omega), hX_n _ _ (show o + 1 + 29 ≠ o + 1 + 26 by omega), hX_n _ _ (show o + 1 + 29 ≠ o + 1 + 25 by omega), hX_n _ _ (show o + 1 + 29 ≠ o + 1 + 24 by omega)]
    by_cases a : q < ms.length
    · rw [List.getElem?_append_left a] at hq
      rw [upd_n _ _ (by omega), upd_n _ _ (by omega), upd_n _ _ (by omega), upd_n _ _ (by omega), upd_n _ _ (by omega)]
      exact h.2 q i' k' f' e2 m' hq
    · rw [List.getElem?_append_right (by omega)] at hq
      by_cases b : q = ms.length
      · rw [b, Nat.sub_self] at hq
        have hq : (i, k, f, e, ([] : List Nat)) = (i', k', f', e2, m') := Option.some.inj hq
        injection hq with b1 b2
        injection b2 with b2 b3
        injection b3 with b3 b4
        injection b4 with b4 b5
        subst b1 b2 b3 b4 b5
        rw [b, upd_s, upd_s, upd_s, upd_s, upd_s]
        exact ⟨rfl, rfl, rfl, he, rfl, fun j hj => by cases hj⟩
      · rw [show q - ms.length = (q - ms.length - 1) + 1 by omega] at hq
        cases hq
theorem had_T {S : Sp} (h : RM σ o S) (e x : Int32) : hadB (s_e S).length (h_X σ (o + 1 + 34)) e x = (haI S e x).isSome := by
  obtain ⟨-, hS, -, -, -, -, -, -, hE, -⟩ := h
  have h8 := hS.2.2.2.2.2.2.2.2.1
  unfold hadB haI
  by_cases a : e < 0
  · rw [if_pos (Or.inl a), decide_eq_false (fun q => absurd a (Int32.not_lt.mpr q))]
    rfl
  · obtain ⟨p, hp, rfl⟩ := nI_of a
    by_cases b : x < 0
    · rw [if_pos (Or.inr b)]
      unfold inB
      rw [decide_eq_false (p := (0 : Int32) ≤ x) (fun q => absurd b (Int32.not_lt.mpr q))]
      simp
    · obtain ⟨z, hz, rfl⟩ := nI_of b
      rw [if_neg (fun q => q.elim a b), nI_clamp hp, nI_clamp hz, decide_eq_true (nI_pos' hp), Bool.true_and]
      by_cases c : p < (s_e S).length
      · rw [decide_eq_true (nI_lt c (by omega)), Bool.true_and, List.getElem?_eq_getElem c]
        have h1 := hE.2 p _ (List.getElem?_eq_getElem c)
        have h2 := hS.2.2.2.2.2.2.2.2.2.2 _ (List.getElem_mem c)
        generalize (s_e S)[p] = d at h1 h2
        have e119 : inB (nI z) 0 119 = decide (z < 120) := by
          unfold inB
          rw [decide_eq_true (nI_pos' hz), Bool.true_and, show (119 : Int32) = nI 119 from rfl]
          by_cases w : z < 120
          · rw [decide_eq_true w, decide_eq_true (nI_le (by omega) (by decide))]
          · rw [decide_eq_false w, decide_eq_false (nI_ge (by omega) (by omega))]
        rw [e119]
        show _ = (d z).isSome
        cases e2 : d z with
        | none =>
          by_cases w : z < 120
          · rw [(h1 z w).1 e2]
            simp
          · rw [decide_eq_false w]
            rfl
        | some t =>
          obtain ⟨td, nm⟩ := t
          have h3 := h2 z td nm e2
          have w : z < 120 := by have := hS.1; omega
          rw [decide_eq_true w, ((h1 z w).2 td nm e2).2.1]
          have : decide (nI (td.length - nm.length) ≠ -1) = true := decide_eq_true (nI_m1 _ (by omega))
          rw [this]
          rfl
      · rw [decide_eq_false (nI_nlt (by omega) (by omega)), List.getElem?_eq_none (by omega)]
        rfl
theorem haI_some {S : Sp} (hS : SOk S) {e x : Int32} (h : (haI S e x).isSome = true) : ∃ p z d td nm, e = nI p ∧ x = nI z ∧ (s_e S)[p]? = some d ∧ d z = some (td, nm) ∧ z < s_n S ∧ p < 8 ∧ haI S e x = some (td, nm) := by
  have h8 := hS.2.2.2.2.2.2.2.2.1
  unfold haI at h ⊢
  by_cases a : e < 0 ∨ x < 0
  · rw [if_pos a] at h; cases h
  · rw [if_neg a] at h ⊢
    obtain ⟨p, hp, rfl⟩ := nI_of (fun q => a (Or.inl q))
    obtain ⟨z, hz, rfl⟩ := nI_of (fun q => a (Or.inr q))
    rw [nI_clamp hp, nI_clamp hz] at h ⊢
    cases e1 : (s_e S)[p]? with
    | none => rw [e1] at h; cases h
    | some d =>
      rw [e1] at h
      have h : (d z).isSome = true := h
      have hm := List.mem_of_getElem? e1
      have hpl : p < (s_e S).length := by
        by_cases w : p < (s_e S).length
        · exact w
        · rw [List.getElem?_eq_none (by omega)] at e1; cases e1
      cases e2 : d z with
      | none => rw [e2] at h; cases h
      | some t =>
        obtain ⟨td, nm⟩ := t
        exact ⟨p, z, d, td, nm, rfl, rfl, e1, e2, (hS.2.2.2.2.2.2.2.2.2.2 d hm z td nm e2).1, by omega, e2⟩
theorem c_M_mentS {S : Sp} {i k f : Int32} (h : RM σ o S) : Cn l D m_M_mention 0 0 [va_rf (some o), .int i, .int k, .int f] σ (fun r τ => r = some (.int (a_ment S i k f).1) ∧ RM τ o (a_ment S i k f).2 ∧ MFr mAR mAI σ τ o) := by
  have hM := h.1
  have hS := h.2.1
  have hn9 := hS.1
  obtain ⟨hn, -, r5, -⟩ := h.rt
  have hMe := h.2.2.2.2.2.2.2.1
  have h733 := hMe.1
  have hml := hS.2.2.2.2.2.2.2.1
  generalize hQ : (fun (r : Option Value) (τ : Hp) => r = some (.int (a_ment S i k f).1) ∧ RM τ o (a_ment S i k f).2 ∧ MFr mAR mAI σ τ o) = Q
  refine Cn.of (by decide) (by repeat (first | exact ca_0 | refine ca_i ?_ | refine ca_r ?_)) (Nat.le_of_ble_eq_true rfl) ?_
  have no : a_ment S i k f = (-2, S) → Gm l D m_M_mention 0 0 Q 43 [some (va_rf (some o)), some (.int i), some (.int k), some (.int f), none] [] σ 0 0 := by
    intro e
    refine r_iconst (v := nI 0) rfl (by decide) ?_
    refine r_istore rfl (by decide) ?_
    refine r_iload rfl rfl ?_
    refine r_if_ne rfl (fun q => absurd rfl q) (fun _ => ?_)
    refine r_bipush (v := -2) rfl (by decide) ?_
    refine r_iret rfl rfl ?_
    rw [← hQ]
    show _ = some (Value.int (a_ment S i k f).1) ∧ RM σ o (a_ment S i k f).2 ∧ _
    rw [e]
    exact ⟨rfl, h, MFr.rf _ _ _ _⟩
  have yes : ∀ (x k' f' : Nat), i = nI x → k = nI k' → f = nI f' → a_ment S i k f = tellS S (x, k', f', 0, []) → x < s_n S → k' < 4 → (k' = 0 → f' < s_n S) → k' ≠ 1 → (k' = 2 → f' < 6) → (k' = 3 → f' < 6) → Gm l D m_M_mention 0 0 Q 39 [some (va_rf (some o)), some (.int i), some (.int k), some (.int f), none] [] σ 0 0 := by
    rintro x k' f' rfl rfl rfl e h1 h2 h3 h4 h5 h6
    refine r_iconst (v := nI 1) rfl (by decide) ?_
    refine r_goto rfl ?_
    refine r_istore rfl (by decide) ?_
    refine r_iload rfl rfl ?_
    refine r_if_ne rfl (fun _ => ?_) (fun q => absurd q (by decide))
    unfold tellS at e
    refine r_aload_n rfl rfl ?_
    (first | refine r_getIv rfl hM.1 rfl (by assumption) ?_ | refine r_getI rfl hM.1 rfl ?_)
    refine r_bipush (v := nI 100) rfl (by decide) ?_
    refine r_neN rfl (by omega) (by omega) (fun w => ?_) (fun w => ?_)
    · refine r_aload_n rfl rfl ?_
      refine r_iload_n rfl rfl ?_
      refine r_iload_n rfl rfl ?_
      refine r_iload_n rfl rfl ?_
      refine r_iconst (v := -1) rfl (by decide) ?_
      refine r_callV (As := [_, _, _, _]) rfl (by decide) rfl (by first | exact hM.1 | assumption) rfl rfl (Nat.le_of_ble_eq_true rfl) ⟨Nat.le_of_ble_eq_true rfl, Nat.le_of_ble_eq_true rfl⟩ (c_M_tellT (e := 0) hM hMe (by omega) (fun q => by omega)) (kc' := 0) (ks' := 0) (by omega) (by omega) (by decide) ?_
      rintro r τ ⟨rfl, t1, t2⟩
      refine r_iret rfl rfl ?_
      rw [← hQ]
      show _ = some (Value.int (a_ment S (nI x) (nI k') (nI f')).1) ∧ RM τ o (a_ment S (nI x) (nI k') (nI f')).2 ∧ _
      rw [e, if_neg w]
      refine ⟨rfl, h.m t2 t1 (hS.m (by omega) ⟨h1, by omega, h3, fun q => absurd q h4, h5, h6, fun q => by omega, fun _ => rfl, by simp, fun x hx => by cases hx⟩), t2.wide (by decide) (by decide)⟩
    · refine r_bipush (v := -3) rfl (by decide) ?_
      refine r_goto rfl ?_
      refine r_iret rfl rfl ?_
      rw [← hQ]
      show _ = some (Value.int (a_ment S (nI x) (nI k') (nI f')).1) ∧ RM σ o (a_ment S (nI x) (nI k') (nI f')).2 ∧ _
      rw [e, if_pos w]
      exact ⟨rfl, h, MFr.rf _ _ _ _⟩
  refine r_aload_n rfl rfl ?_
  refine r_iload_n rfl rfl ?_
  refine r_callV (As := [_]) rfl (by decide) rfl (by first | exact hM.1 | assumption) rfl rfl (Nat.le_of_ble_eq_true rfl) ⟨Nat.le_of_ble_eq_true rfl, Nat.le_of_ble_eq_true rfl⟩ (c_M_isThere hM hn hn9) (kc' := 0) (ks' := 0) (by omega) (by omega) (by decide) ?_
  rintro r σ ⟨rfl, rfl⟩
  rw [r5]
  refine r_ifeqB rfl (fun q => no (by unfold a_ment; rw [isTh_none q])) (fun q1 => ?_)
  obtain ⟨x, x1, x2, rfl, x4⟩ := isTh_some hS q1
  refine r_iload_n rfl rfl ?_
  refine r_if_ne rfl (fun q2 => ?_) (fun q2 => ?_)
  · refine r_iload_n rfl rfl ?_
    refine r_iconst (v := nI 2) rfl (by decide) ?_
    refine r_iconst (v := nI 3) rfl (by decide) ?_
    refine r_callS (As := [_, _, _]) rfl (by decide) rfl rfl rfl (Nat.le_of_ble_eq_true rfl) ⟨Nat.le_of_ble_eq_true rfl, Nat.le_of_ble_eq_true rfl⟩ (c_M_in) (kc' := 0) (ks' := 0) (by omega) (by omega) ?_
    rintro r σ ⟨rfl, rfl⟩
    refine r_ifeqB rfl (fun q3 => no ?_) (fun q3 => ?_)
    · unfold a_ment
      rw [x4]
      show (if k = 0 then _ else if k = 2 ∨ k = 3 then _ else _) = _
      rw [if_neg q2, if_neg]
      rintro (rfl | rfl) <;> revert q3 <;> decide
    · have hk : k = nI 2 ∨ k = nI 3 := by
        unfold inB at q3
        simp only [Bool.and_eq_true, decide_eq_true_eq] at q3
        have : ¬ k < 0 := by
          intro q0
          have a1 := Int32.le_iff_toInt_le.mp q3.1
          have a2 := Int32.lt_iff_toInt_lt.mp q0
          rw [nI_toInt (by omega)] at a1
          have a2 : k.toInt < 0 := by simpa using a2
          omega
        obtain ⟨j, hj, rfl⟩ := nI_of this
        have a1 := (nI_leI (by omega) hj).mp q3.1
        have a2 := (nI_leI hj (by omega)).mp q3.2
        rcases (show j = 2 ∨ j = 3 by omega) with rfl | rfl
        · exact Or.inl rfl
        · exact Or.inr rfl
      refine r_iload_n rfl rfl ?_
      refine r_callS (As := [_]) rfl (by decide) rfl rfl rfl (Nat.le_of_ble_eq_true rfl) ⟨Nat.le_of_ble_eq_true rfl, Nat.le_of_ble_eq_true rfl⟩ (c_M_isKind) (kc' := 0) (ks' := 0) (by omega) (by omega) ?_
      rintro r σ ⟨rfl, rfl⟩
      have ea : a_ment S (nI x) k f = match kiI f with
          | none => (-2, S)
          | some y => tellS S (x, k.toNatClampNeg, y, 0, []) := by
        unfold a_ment
        rw [x4]
        show (if k = 0 then _ else if k = 2 ∨ k = 3 then _ else _) = _
        rw [if_neg q2, if_pos (show k = 2 ∨ k = 3 from hk)]
      refine r_ifeqB rfl (fun q4 => no ?_) (fun q4 => ?_)
      · rw [ea]
        unfold kiI
        rw [q4]
        rfl
      · obtain ⟨f', hf, rfl⟩ := inB_nI (m := 5) (by omega) q4
        rw [kiI_nI (by omega)] at ea
        rcases hk with rfl | rfl
        · exact yes x 2 f' rfl rfl rfl ea x1 (by omega) (fun q => by omega) (by omega) (fun _ => by omega) (fun q => by omega)
        · exact yes x 3 f' rfl rfl rfl ea x1 (by omega) (fun q => by omega) (by omega) (fun q => by omega) (fun _ => by omega)
  · subst q2
    refine r_aload_n rfl rfl ?_
    refine r_iload_n rfl rfl ?_
    refine r_callV (As := [_]) rfl (by decide) rfl (by first | exact hM.1 | assumption) rfl rfl (Nat.le_of_ble_eq_true rfl) ⟨Nat.le_of_ble_eq_true rfl, Nat.le_of_ble_eq_true rfl⟩ (c_M_isThere hM hn hn9) (kc' := 0) (ks' := 0) (by omega) (by omega) (by decide) ?_
    rintro r σ ⟨rfl, rfl⟩
    rw [r5]
    have ea : a_ment S (nI x) 0 f = match thI S f with
        | none => (-2, S)
        | some y => tellS S (x, 0, y, 0, []) := by
      unfold a_ment
      rw [x4]
      show (if (0 : Int32) = 0 then _ else _) = _
      rw [if_pos rfl]
    refine r_ifeqB rfl (fun q3 => no (by rw [ea, isTh_none q3])) (fun q3 => ?_)
    obtain ⟨y, y1, y2, rfl, y4⟩ := isTh_some hS q3
    rw [y4] at ea
    refine r_goto rfl ?_
    exact yes x 0 y rfl rfl rfl ea x1 (by omega) (fun _ => y1) (by omega) (fun q => by omega) (fun q => by omega)
theorem c_M_frozS {S : Sp} {i f e : Int32} (h : RM σ o S) : Cn l D m_M_frozen 0 0 [va_rf (some o), .int i, .int f, .int e] σ (fun r τ => r = some (.int (a_froz S i f e).1) ∧ RM τ o (a_froz S i f e).2 ∧ MFr mAR mAI σ τ o) := by
  have hM := h.1
  have hS := h.2.1
  have hn9 := hS.1
  obtain ⟨hn, -, r5, -⟩ := h.rt
  have hMe := h.2.2.2.2.2.2.2.1
  have h733 := hMe.1
  have h744 := h.2.2.2.2.2.2.2.2.1.1
  have hml := hS.2.2.2.2.2.2.2.1
  generalize hQ : (fun (r : Option Value) (τ : Hp) => r = some (.int (a_froz S i f e).1) ∧ RM τ o (a_froz S i f e).2 ∧ MFr mAR mAI σ τ o) = Q
  refine Cn.of (by decide) (by repeat (first | exact ca_0 | refine ca_i ?_ | refine ca_r ?_)) (Nat.le_of_ble_eq_true rfl) ?_
  have no : a_froz S i f e = (-2, S) → Gm l D m_M_frozen 0 0 Q 17 [some (va_rf (some o)), some (.int i), some (.int f), some (.int e)] [] σ 0 0 := by
    intro ea
    refine r_bipush (v := -2) rfl (by decide) ?_
    refine r_iret rfl rfl ?_
    rw [← hQ]
    show _ = some (Value.int (a_froz S i f e).1) ∧ RM σ o (a_froz S i f e).2 ∧ _
    rw [ea]
    exact ⟨rfl, h, MFr.rf _ _ _ _⟩
  refine r_aload_n rfl rfl ?_
  refine r_iload_n rfl rfl ?_
  refine r_callV (As := [_]) rfl (by decide) rfl (by first | exact hM.1 | assumption) rfl rfl (Nat.le_of_ble_eq_true rfl) ⟨Nat.le_of_ble_eq_true rfl, Nat.le_of_ble_eq_true rfl⟩ (c_M_isThere hM hn hn9) (kc' := 0) (ks' := 0) (by omega) (by omega) (by decide) ?_
  rintro r σ ⟨rfl, rfl⟩
  rw [r5]
  refine r_ifeqB rfl (fun q => no (by unfold a_froz; rw [isTh_none q])) (fun q1 => ?_)
  obtain ⟨x, x1, x2, rfl, x4⟩ := isTh_some hS q1
  refine r_aload_n rfl rfl ?_
  refine r_iload_n rfl rfl ?_
  refine r_iload_n rfl rfl ?_
  refine r_callV (As := [_, _]) rfl (by decide) rfl (by first | exact hM.1 | assumption) rfl rfl (Nat.le_of_ble_eq_true rfl) ⟨Nat.le_of_ble_eq_true rfl, Nat.le_of_ble_eq_true rfl⟩ (c_M_had hM h744 hS.2.2.2.2.2.2.2.2.1) (kc' := 0) (ks' := 0) (by omega) (by omega) (by decide) ?_
  rintro r σ ⟨rfl, rfl⟩
  rw [had_T h]
  refine r_ifneB rfl (fun q2 => ?_) (fun q2 => no ?_)
  · obtain ⟨p, z, d, td, nm, rfl, rfl, e1, e2, z1, z2, z3⟩ := haI_some hS q2
    have ea : a_froz S (nI x) (nI z) (nI p) = tellS S (x, 4, z, p, []) := by
      unfold a_froz
      rw [x4, z3, nI_clamp (by omega), nI_clamp (by omega)]
    unfold tellS at ea
    refine r_aload_n rfl rfl ?_
    (first | refine r_getIv rfl hM.1 rfl (by assumption) ?_ | refine r_getI rfl hM.1 rfl ?_)
    refine r_bipush (v := nI 100) rfl (by decide) ?_
    refine r_neN rfl (by omega) (by omega) (fun w => ?_) (fun w => ?_)
    · refine r_aload_n rfl rfl ?_
      refine r_iload_n rfl rfl ?_
      refine r_iconst (v := nI 4) rfl (by decide) ?_
      refine r_iload_n rfl rfl ?_
      refine r_iload_n rfl rfl ?_
      refine r_callV (As := [_, _, _, _]) rfl (by decide) rfl (by first | exact hM.1 | assumption) rfl rfl (Nat.le_of_ble_eq_true rfl) ⟨Nat.le_of_ble_eq_true rfl, Nat.le_of_ble_eq_true rfl⟩ (c_M_tellT (e := p) hM hMe (by omega) (fun q => rfl)) (kc' := 0) (ks' := 0) (by omega) (by omega) (by decide) ?_
      rintro r τ ⟨rfl, t1, t2⟩
      refine r_iret rfl rfl ?_
      rw [← hQ]
      show _ = some (Value.int (a_froz S (nI x) (nI z) (nI p)).1) ∧ RM τ o (a_froz S (nI x) (nI z) (nI p)).2 ∧ _
      rw [ea, if_neg w]
      refine ⟨rfl, h.m t2 t1 (hS.m (by omega) ⟨x1, by omega, fun q => by omega, fun q => by omega, fun q => by omega, fun q => by omega, fun _ => ⟨z1, d, e1, by rw [e2]; exact fun q => by cases q⟩, fun _ => rfl, by simp, fun x hx => by cases hx⟩), t2.wide (by decide) (by decide)⟩
    · refine r_bipush (v := -3) rfl (by decide) ?_
      refine r_goto rfl ?_
      refine r_iret rfl rfl ?_
      rw [← hQ]
      show _ = some (Value.int (a_froz S (nI x) (nI z) (nI p)).1) ∧ RM σ o (a_froz S (nI x) (nI z) (nI p)).2 ∧ _
      rw [ea, if_pos w]
      exact ⟨rfl, h, MFr.rf _ _ _ _⟩
  · unfold a_froz
    rw [x4]
    cases e3 : haI S e f with
    | none => rfl
    | some t => rw [e3] at q2; cases q2
theorem c_M_leadsS {S : Sp} {e x : Int32} (h : RM σ o S) : Cn l D m_M_leads 0 0 [va_rf (some o), .int e, .int x] σ (fun r τ => r = some (.int (a_leads S e x)) ∧ RM τ o S ∧ MFr mAR mAI σ τ o) := by
  have hM := h.1
  have hS := h.2.1
  have hn9 := hS.1
  obtain ⟨hn, -, r5, -, r7⟩ := h.rt
  have h744 := h.2.2.2.2.2.2.2.2.1.1
  refine Cn.of (by decide) (by repeat (first | exact ca_0 | refine ca_i ?_ | refine ca_r ?_)) (Nat.le_of_ble_eq_true rfl) ?_
  refine r_aload_n rfl rfl ?_
  refine r_iload_n rfl rfl ?_
  refine r_iload_n rfl rfl ?_
  refine r_callV (As := [_, _]) rfl (by decide) rfl (by first | exact hM.1 | assumption) rfl rfl (Nat.le_of_ble_eq_true rfl) ⟨Nat.le_of_ble_eq_true rfl, Nat.le_of_ble_eq_true rfl⟩ (c_M_had hM h744 hS.2.2.2.2.2.2.2.2.1) (kc' := 0) (ks' := 0) (by omega) (by omega) (by decide) ?_
  rintro r σ ⟨rfl, rfl⟩
  rw [had_T h]
  refine r_ifeqB rfl (fun q => ?_) (fun q => ?_)
  · refine r_bipush (v := -2) rfl (by decide) ?_
    refine r_iret rfl rfl ⟨?_, h, MFr.rf _ _ _ _⟩
    unfold a_leads
    cases e3 : haI S e x with
    | none => rfl
    | some t => rw [e3] at q; cases q
  · obtain ⟨p, z, d, td, nm, rfl, rfl, e1, e2, z1, z2, z3⟩ := haI_some hS q
    obtain ⟨l1, l2, l3⟩ := lead_T hS.wf r7 z1
    rw [← r5] at l1
    refine r_aload_n rfl rfl ?_
    refine r_iload_n rfl rfl ?_
    refine r_callV (As := [_]) rfl (by decide) rfl (by first | exact hM.1 | assumption) rfl rfl (Nat.le_of_ble_eq_true rfl) ⟨Nat.le_of_ble_eq_true rfl, Nat.le_of_ble_eq_true rfl⟩ (c_M_leadOf hM hn hn9 l1) (kc' := 0) (ks' := 0) (by omega) (by omega) (by decide) ?_
    rintro r σ ⟨rfl, rfl⟩
    rw [r5, l2, l3]
    refine r_goto rfl ?_
    refine r_iret rfl rfl ⟨?_, h, MFr.rf _ _ _ _⟩
    unfold a_leads
    rw [z3, nI_clamp (by omega)]
end MC
