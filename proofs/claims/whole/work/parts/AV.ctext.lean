/-! ===== the class: the text of a mention ===== -/
section TL
variable {l : Launch} {D : DD} {σ : Hp} {c B : Nat} {ow ad : Nat → Nat} {S : Sp} {F : Nat → Bool}
theorem mtL_one (hS : SOk S) (f : Nat) : (mtL S [f]).head? = ldo (s_T S) f := by
  unfold mtL
  cases h : ldo (s_T S) f with
  | none =>
    have e : (ordT (s_T S)).filter (mtS S [f]) = [] := by
      rw [List.filter_eq_nil_iff]
      intro x _
      unfold mtS
      rw [List.filterMap_cons_none h, List.filterMap_nil, decide_eq_false (fun w => by cases w)]
      decide
    rw [e]
    rfl
  | some y =>
    have hyt := (ldo_lt hS h).2.1
    have hym := (ord_mem hS.wf).mpr hyt
    have hf : ∀ x, mtS S [f] x = decide (x = y) := by
      intro x
      unfold mtS
      rw [List.filterMap_cons_some h, List.filterMap_nil]
      exact decide_eq_decide.mpr List.mem_singleton
    cases hfl : (ordT (s_T S)).filter (mtS S [f]) with
    | nil =>
      rw [List.filter_eq_nil_iff] at hfl
      exact absurd (by rw [hf, decide_eq_true rfl]) (hfl y hym)
    | cons z r =>
      have : z ∈ (ordT (s_T S)).filter (mtS S [f]) := by rw [hfl]; exact List.mem_cons_self
      have := (List.mem_filter.mp this).2
      rw [hf] at this
      rw [of_decide_eq_true this]
      rfl
theorem led_el (hS : SOk S) {q : Mn} (h : q.2.1 = 0 ∨ q.2.1 = 4 ∨ q.2.1 = 1) : ledM S q = (mtL S (elM q)).head? := by
  unfold ledM elM
  by_cases h1 : q.2.1 = 0 ∨ q.2.1 = 4
  · rw [if_pos h1, if_pos h1, mtL_one hS]
  · have h2 : q.2.1 = 1 := by rcases h with w | w | w; exact absurd (Or.inl w) h1; exact absurd (Or.inr w) h1; exact w
    rw [if_neg h1, if_neg h1, if_pos h2, if_pos h2]
theorem c_firstMeant {a : Nat} {q : Mn} (g : RCd ow σ c ad B S) (hB : B < 2 ^ 30) (hq : q ∈ s_m S) (hm : CM1 ow σ ad S a q) : Cn l D m_Teller_firstMeant 0 0 [va_rf (some (c + 39)), va_rf (some a)] σ (fun r τ => r = some (va_rf ((ledM S q).map ad)) ∧ RCd ow τ c ad (B + 1) S ∧ Fm ow [449, 529] [] [] σ τ ∧ (q.2.1 = 1 → PK τ c ad S (mtS S (elM q)))) := by
  have hS := g.1.1
  have hW := hS.wf
  have k39 : h_K σ (c + 39) = 8 := g.1.2.1.2.1 (39, 8) (by decide)
  have p448 : h_P σ 448 (c + 39) = some (c + 4) := g.1.2.1.2.2.1 (448, 39, 4) (by decide)
  obtain ⟨-, -, -, hin, hk5⟩ := el_ok hS hq
  have ka : h_K σ a = 5 := hm.2.1
  have i256 : h_I σ 256 a = nI q.2.1 := hm.2.2.1
  have p257 : h_P σ 257 a = some (ad q.1) := hm.2.2.2.1
  have i258 := hm.2.2.2.2.1
  have kin := g.1.2.2.2.1.1 q.1 (Or.inl hin)
  have hsf : (q.2.1 = 2 ∨ q.2.1 = 3) → q.2.2.1 < 6 := by
    obtain ⟨i, k, f, e, m⟩ := q
    obtain ⟨b1, b2, b3, b4, b5, b6, b7, b8, b9, b10⟩ := hS.2.2.2.2.2.2.2.2.2.1 i k f e m hq
    exact fun w => w.elim b5 b6
  have stay : RCd ow σ c ad (B + 1) S := ⟨g.1.more (by omega), g.2⟩
  generalize hQ : (fun (r : Option Value) (τ : Hp) => r = some (va_rf ((ledM S q).map ad)) ∧ RCd ow τ c ad (B + 1) S ∧ Fm ow [449, 529] [] [] σ τ ∧ (q.2.1 = 1 → PK τ c ad S (mtS S (elM q)))) = Q
  refine Cn.of (by decide) (by repeat (first | exact ca_0 | refine ca_i ?_ | refine ca_r ?_)) (Nat.le_of_ble_eq_true rfl) ?_
  refine r_aload_n rfl rfl ?_
  (first | refine r_getIv rfl (by first | assumption | rfl) rfl (by assumption) ?_ | refine r_getI rfl (by first | assumption | rfl) rfl ?_)
  by_cases h2 : q.2.1 = 2
  · have i258 : h_I σ 258 a = nI q.2.2.1 := i258 (Or.inl h2)
    rw [h2]
    refine r_lsw rfl (by decide) (off := 28) (by decide) (tgt := 32) (by decide) ?_
    refine r_aload_n rfl rfl ?_
    (first | refine r_getPv rfl (by first | assumption | rfl) rfl (by assumption) ?_ | refine r_getP rfl (by first | assumption | rfl) rfl ?_)
    refine r_callV (As := []) rfl (by decide) rfl kin rfl rfl (Nat.le_of_ble_eq_true rfl) ⟨Nat.le_of_ble_eq_true rfl, Nat.le_of_ble_eq_true rfl⟩ (c_leadTC g.1 hin) (kc' := 0) (ks' := 0) (by omega) (by omega) (by decide) ?_
    rintro r σ ⟨rfl, rfl⟩
    refine r_aload_n rfl rfl ?_
    (first | refine r_getIv rfl (by first | assumption | rfl) rfl (by assumption) ?_ | refine r_getI rfl (by first | assumption | rfl) rfl ?_)
    refine r_callS (As := [_, _]) rfl (by decide) rfl rfl rfl (Nat.le_of_ble_eq_true rfl) ⟨Nat.le_of_ble_eq_true rfl, Nat.le_of_ble_eq_true rfl⟩ (c_nextOfKind g (hsf (Or.inl h2)) (fun y hy => (ldo_lt hS hy).2.1)) (kc' := 0) (ks' := 0) (by omega) (by omega) ?_
    rintro r σ ⟨rfl, rfl⟩
    refine r_aret rfl rfl ?_
    rw [← hQ]
    refine ⟨?_, stay, Fm.rf _ _ _ _ _, fun e => by omega⟩
    unfold ledM
    rw [if_neg (by omega), if_neg (by omega)]
    cases ldo (s_T S) q.1 with
    | none => rfl
    | some y =>
      show _ = some (va_rf (Option.map ad (if q.2.1 = 2 then _ else _)))
      rw [if_pos h2]
  · by_cases h3 : q.2.1 = 3
    · have i258 : h_I σ 258 a = nI q.2.2.1 := i258 (Or.inr h3)
      rw [h3]
      refine r_lsw rfl (by decide) (off := 43) (by decide) (tgt := 47) (by decide) ?_
      refine r_aload_n rfl rfl ?_
      refine r_aload_n rfl rfl ?_
      (first | refine r_getPv rfl (by first | assumption | rfl) rfl (by assumption) ?_ | refine r_getP rfl (by first | assumption | rfl) rfl ?_)
      refine r_callV (As := []) rfl (by decide) rfl kin rfl rfl (Nat.le_of_ble_eq_true rfl) ⟨Nat.le_of_ble_eq_true rfl, Nat.le_of_ble_eq_true rfl⟩ (c_leadTC g.1 hin) (kc' := 0) (ks' := 0) (by omega) (by omega) (by decide) ?_
      rintro r σ ⟨rfl, rfl⟩
      refine r_aload_n rfl rfl ?_
      (first | refine r_getIv rfl (by first | assumption | rfl) rfl (by assumption) ?_ | refine r_getI rfl (by first | assumption | rfl) rfl ?_)
      refine r_callV (As := [_, _]) rfl (by decide) rfl k39 rfl rfl (Nat.le_of_ble_eq_true rfl) ⟨Nat.le_of_ble_eq_true rfl, Nat.le_of_ble_eq_true rfl⟩ (c_latestOfKind g (hsf (Or.inr h3)) (fun y hy => (ldo_lt hS hy).2.1)) (kc' := 0) (ks' := 0) (by omega) (by omega) (by decide) ?_
      rintro r σ ⟨rfl, rfl⟩
      refine r_aret rfl rfl ?_
      rw [← hQ]
      refine ⟨?_, stay, Fm.rf _ _ _ _ _, fun e => by omega⟩
      unfold ledM
      rw [if_neg (by omega), if_neg (by omega)]
      cases ldo (s_T S) q.1 with
      | none => rfl
      | some y =>
        show _ = some (va_rf (Option.map ad (if q.2.1 = 2 then _ else _)))
        rw [if_neg h2]
    · have h0 : q.2.1 = 0 ∨ q.2.1 = 4 ∨ q.2.1 = 1 := by omega
      have go : Gm l D m_Teller_firstMeant 0 0 Q 63 [some (va_rf (some (c + 39))), some (va_rf (some a))] [] σ 0 0 := by
        refine r_aload_n rfl rfl ?_
        refine r_aload_n rfl rfl ?_
        refine r_callV (As := [_]) rfl (by decide) rfl k39 rfl rfl (Nat.le_of_ble_eq_true rfl) ⟨Nat.le_of_ble_eq_true rfl, Nat.le_of_ble_eq_true rfl⟩ (c_pickMeant g hB hq hm) (kc' := 0) (ks' := 0) (by omega) (by omega) (by decide) ?_
        rintro r σ1 ⟨rfl, g1, p1, f1⟩
        have k391 : h_K σ1 (c + 39) = 8 := g1.1.2.1.2.1 (39, 8) (by decide)
        have p4481 : h_P σ1 448 (c + 39) = some (c + 4) := g1.1.2.1.2.2.1 (448, 39, 4) (by decide)
        have hpb := c_pickedBehind (l := l) (D := D) (m := 0) (z := 120) g1 p1 rfl
        rw [g1.1.2.2.1.2.1] at hpb
        refine r_aload_n rfl rfl ?_
        refine r_aload_n rfl rfl ?_
        (first | refine r_getPv rfl (by first | assumption | rfl) rfl (by assumption) ?_ | refine r_getP rfl (by first | assumption | rfl) rfl ?_)
        refine r_callV (As := [_]) rfl (by decide) rfl k391 rfl rfl (Nat.le_of_ble_eq_true rfl) ⟨Nat.le_of_ble_eq_true rfl, Nat.le_of_ble_eq_true rfl⟩ (hpb) (kc' := 0) (ks' := 0) (by omega) (by omega) (by decide) ?_
        rintro r σ1 ⟨rfl, rfl⟩
        refine r_aret rfl rfl ?_
        rw [← hQ]
        refine ⟨?_, g1, f1, fun _ => p1⟩
        rw [led_el hS h0, List.drop_zero]
        rfl
      rcases h0 with w | w | w
      · rw [w]
        exact r_lsw rfl (by decide) (off := 59) (by decide) (tgt := 63) (by decide) go
      · rw [w]
        exact r_lsw rfl (by decide) (off := 59) (by decide) (tgt := 63) (by decide) go
      · rw [w]
        exact r_lsw rfl (by decide) (off := 59) (by decide) (tgt := 63) (by decide) go
/-- has the mention a text? -/
def hsT (S : Sp) (q : Mn) : Bool := decide (ldo (s_T S) q.1 ≠ none) && (decide (q.2.1 = 4) || decide (ledM S q ≠ none))
theorem c_hasText {a : Nat} {q : Mn} (g : RC ow σ c ad B S) (hq : q ∈ s_m S) (hm : CM1 ow σ ad S a q) : Cn l D m_Teller_hasText 0 0 [va_rf (some a), va_rf ((ledM S q).map ad)] σ (fun r τ => r = some (.int (nI (hsT S q).toNat)) ∧ τ = σ) := by
  have hS := g.1
  obtain ⟨-, -, -, hin, hk5⟩ := el_ok hS hq
  have ka : h_K σ a = 5 := hm.2.1
  have p257 : h_P σ 257 a = some (ad q.1) := hm.2.2.2.1
  have kin := g.2.2.2.1.1 q.1 (Or.inl hin)
  generalize hQ : (fun (r : Option Value) (τ : Hp) => r = some (.int (nI (hsT S q).toNat)) ∧ τ = σ) = Q
  refine Cn.of (by decide) (by repeat (first | exact ca_0 | refine ca_i ?_ | refine ca_r ?_)) (Nat.le_of_ble_eq_true rfl) ?_
  have no : ∀ (ls : List (Option Value)), ls.length = 2 → hsT S q = false → Gm l D m_Teller_hasText 0 0 Q 25 ls [] σ 0 0 := by
    intro ls hls e
    refine r_iconst (v := nI 0) rfl (by decide) ?_
    refine r_zret rfl rfl (by decide) ?_
    rw [← hQ, e]
    exact ⟨rfl, rfl⟩
  have yes : ∀ (ls : List (Option Value)), ls.length = 2 → hsT S q = true → Gm l D m_Teller_hasText 0 0 Q 21 ls [] σ 0 0 := by
    intro ls hls e
    refine r_iconst (v := nI 1) rfl (by decide) ?_
    refine r_goto rfl ?_
    refine r_zret rfl rfl (by decide) ?_
    rw [← hQ, e]
    exact ⟨rfl, rfl⟩
  refine r_aload_n rfl rfl ?_
  (first | refine r_getPv rfl (by first | assumption | rfl) rfl (by assumption) ?_ | refine r_getP rfl (by first | assumption | rfl) rfl ?_)
  refine r_callV (As := []) rfl (by decide) rfl kin rfl rfl (Nat.le_of_ble_eq_true rfl) ⟨Nat.le_of_ble_eq_true rfl, Nat.le_of_ble_eq_true rfl⟩ (c_leadTC g hin) (kc' := 0) (ks' := 0) (by omega) (by omega) (by decide) ?_
  rintro r σ ⟨rfl, rfl⟩
  cases hld : ldo (s_T S) q.1 with
  | none => exact r_ifnull rfl (fun _ => no _ rfl (by unfold hsT; rw [hld, decide_eq_false (fun w => w rfl), Bool.false_and])) (fun _ hq => by cases hq)
  | some y =>
    have e1 : decide (ldo (s_T S) q.1 ≠ none) = true := by rw [hld]; exact decide_eq_true (fun w => by cases w)
    refine r_ifnull rfl (fun hq => by cases hq) (fun _ _ => ?_)
    by_cases h4 : q.2.1 = 4
    · obtain ⟨b, b1, -⟩ := hm.2.2.2.2.2.2.1 h4
      refine r_aload_n rfl rfl ?_
      (first | refine r_getPv rfl (by first | assumption | rfl) rfl (by assumption) ?_ | refine r_getP rfl (by first | assumption | rfl) rfl ?_)
      refine r_ifnonnull rfl (fun _ _ => yes _ rfl (by unfold hsT; rw [e1, decide_eq_true h4]; rfl)) (fun hq => by cases hq)
    · have p259 : h_P σ 259 a = none := hm.2.2.2.2.2.1 h4
      refine r_aload_n rfl rfl ?_
      (first | refine r_getPv rfl (by first | assumption | rfl) rfl (by assumption) ?_ | refine r_getP rfl (by first | assumption | rfl) rfl ?_)
      refine r_ifnonnull rfl (fun _ hq => by cases hq) (fun _ => ?_)
      refine r_aload_n rfl rfl ?_
      cases hle : ledM S q with
      | none => exact r_ifnull rfl (fun _ => no _ rfl (by unfold hsT; rw [e1, decide_eq_false h4, hle, decide_eq_false (fun w => w rfl)]; rfl)) (fun _ hq => by cases hq)
      | some z => exact r_ifnull rfl (fun hq => by cases hq) (fun _ _ => yes _ rfl (by unfold hsT; rw [e1, decide_eq_false h4, hle]; rfl))
theorem hsT_no {q : Mn} (h : hsT S q = false) : lnM S q = ([], 0) := by
  unfold hsT at h
  unfold lnM
  by_cases h1 : ldo (s_T S) q.1 = none
  · rw [if_pos h1]
  · rw [decide_eq_true h1, Bool.true_and, Bool.or_eq_false_iff] at h
    rw [if_neg h1, if_neg (of_decide_eq_false h.1)]
    have : ledM S q = none := by
      cases e : ledM S q with
      | none => rfl
      | some y => rw [e] at h; exact absurd (fun w => by cases w) (of_decide_eq_false h.2)
    rw [this]
theorem hsT_yes {q : Mn} (h : hsT S q = true) : ldo (s_T S) q.1 ≠ none ∧ (q.2.1 = 4 ∨ ledM S q ≠ none) := by
  unfold hsT at h
  rw [Bool.and_eq_true, Bool.or_eq_true] at h
  exact ⟨of_decide_eq_true h.1, h.2.elim (fun w => Or.inl (of_decide_eq_true w)) (fun w => Or.inr (of_decide_eq_true w))⟩
theorem c_countRuns {a : Nat} {q : Mn} (g0 : RCd ow σ c ad B S) (hB : B < 2 ^ 30) (hq : q ∈ s_m S) (hm : CM1 ow σ ad S a q) : Cn l D m_Teller_countRuns 0 0 [va_rf (some (c + 39)), va_rf (some a)] σ (fun r τ => r = some (.int (nI (lnM S q).2)) ∧ RCd ow τ c ad (B + 1) S ∧ Fm ow [449, 529] [] [] σ τ) := by
  have hS := g0.1.1
  have k39 : h_K σ (c + 39) = 8 := g0.1.2.1.2.1 (39, 8) (by decide)
  generalize hQ : (fun (r : Option Value) (τ : Hp) => r = some (.int (nI (lnM S q).2)) ∧ RCd ow τ c ad (B + 1) S ∧ Fm ow [449, 529] [] [] σ τ) = Q
  refine Cn.of (by decide) (by repeat (first | exact ca_0 | refine ca_i ?_ | refine ca_r ?_)) (Nat.le_of_ble_eq_true rfl) ?_
  refine r_aload_n rfl rfl ?_
  refine r_aload_n rfl rfl ?_
  refine r_callV (As := [_]) rfl (by decide) rfl k39 rfl rfl (Nat.le_of_ble_eq_true rfl) ⟨Nat.le_of_ble_eq_true rfl, Nat.le_of_ble_eq_true rfl⟩ (c_firstMeant g0 hB hq hm) (kc' := 0) (ks' := 0) (by omega) (by omega) (by decide) ?_
  rintro r σ1 ⟨rfl, g, f1, p1⟩
  have hm1 : CM1 ow σ1 ad S a q := hm.kp f1 (by decide) (fun f _ q => by cases q) (fun q => by cases q) (fun _ _ => rfl) (fun _ => rfl)
  have ka1 : h_K σ1 a = 5 := hm1.2.1
  have i256 : h_I σ1 256 a = nI q.2.1 := hm1.2.2.1
  have k391 : h_K σ1 (c + 39) = 8 := g.1.2.1.2.1 (39, 8) (by decide)
  obtain ⟨-, -, -, hin, hk5⟩ := el_ok hS hq
  refine r_astore_n rfl (by decide) ?_
  refine r_aload_n rfl rfl ?_
  refine r_aload_n rfl rfl ?_
  refine r_callS (As := [_, _]) rfl (by decide) rfl rfl rfl (Nat.le_of_ble_eq_true rfl) ⟨Nat.le_of_ble_eq_true rfl, Nat.le_of_ble_eq_true rfl⟩ (c_hasText g.1 hq hm1) (kc' := 0) (ks' := 0) (by omega) (by omega) ?_
  rintro r σ1 ⟨rfl, rfl⟩
  cases hh : hsT S q with
  | false =>
    refine r_if_ne rfl (fun q => absurd rfl q) (fun _ => ?_)
    refine r_iconst (v := nI 0) rfl (by decide) ?_
    refine r_iret rfl rfl ?_
    rw [← hQ, hsT_no hh]
    exact ⟨rfl, g, f1⟩
  | true =>
    obtain ⟨y1, y2⟩ := hsT_yes hh
    refine r_if_ne rfl (fun _ => ?_) (fun q => absurd q (by decide))
    refine r_aload_n rfl rfl ?_
    (first | refine r_getIv rfl (by first | assumption | rfl) rfl (by assumption) ?_ | refine r_getI rfl (by first | assumption | rfl) rfl ?_)
    refine r_iconst (v := nI 1) rfl (by decide) ?_
    refine r_eqN rfl (by omega) (by omega) (fun h1 => ?_) (fun h1 => ?_)
    · have hne : ledM S q ≠ none := y2.resolve_left (by omega)
      have eP : ledM S q = (mtL S (elM q)).head? := led_el hS (Or.inr (Or.inr h1))
      have hp := p1 h1
      have eln : (lnM S q).2 = (rns S (mtL S (elM q))).length := by
        have ee : elM q = q.2.2.2.2 := by unfold elM; rw [if_neg (by omega), if_pos h1]
        unfold lnM
        rw [if_neg y1, if_neg (by omega)]
        cases e : ledM S q with
        | none => exact absurd e hne
        | some y =>
          show (if q.2.1 = 1 then ((_ : List Int32), (_ : Nat)) else _).2 = _
          rw [if_pos h1, ee]
      have loop : ∀ (n : Nat) (cur : List Nat) (m k : Nat), cur.length ≤ n → ((ordT (s_T S)).drop m).filter (mtS S (elM q)) = cur → k + (rns S cur).length = (lnM S q).2 → Gm l D m_Teller_countRuns 0 0 Q 31 [some (va_rf (some (c + 39))), some (va_rf (some a)), some (va_rf ((ledM S q).map ad)), some (.int (nI k)), some (va_rf (cur.head?.map ad))] [] σ1 0 0 := by
        intro n
        induction n with
        | zero =>
          intro cur m k hn hc hk
          cases cur with
          | cons x r => rw [List.length_cons] at hn; omega
          | nil =>
            refine r_aload rfl rfl ?_
            refine r_ifnull rfl (fun _ => ?_) (fun _ hq => by cases hq)
            refine r_iload_n rfl rfl ?_
            refine r_iret rfl rfl ?_
            rw [← hQ, ← hk]
            exact ⟨rfl, g, f1⟩
        | succ n ih =>
          intro cur m k hn hc hk
          cases cur with
          | nil =>
            refine r_aload rfl rfl ?_
            refine r_ifnull rfl (fun _ => ?_) (fun _ hq => by cases hq)
            refine r_iload_n rfl rfl ?_
            refine r_iret rfl rfl ?_
            rw [← hQ, ← hk]
            exact ⟨rfl, g, f1⟩
          | cons x r =>
            obtain ⟨i, -, hx, -, hr⟩ := nx_pos hc
            obtain ⟨il, -, hil, hil2⟩ := lst_pos r i x hx hr
            have hlen := (lstR_len S r x).1
            rw [List.length_cons] at hn
            have hk : k + (rnG S x x r).length = _ := hk
            rw [rnG_lst, List.length_cons] at hk
            refine r_aload rfl rfl ?_
            refine r_ifnull rfl (fun hq => by cases hq) (fun _ _ => ?_)
            show Gm l D m_Teller_countRuns 0 0 Q 36 [some (va_rf (some (c + 39))), some (va_rf (some a)), some (va_rf ((ledM S q).map ad)), some (.int (nI k)), some (va_rf (some (ad x)))] [] σ1 0 0
            refine r_iinc rfl rfl (nI_inc _) ?_
            refine r_aload_n rfl rfl ?_
            refine r_aload_n rfl rfl ?_
            refine r_aload rfl rfl ?_
            refine r_callV (As := [_]) rfl (by decide) rfl k391 rfl rfl (Nat.le_of_ble_eq_true rfl) ⟨Nat.le_of_ble_eq_true rfl, Nat.le_of_ble_eq_true rfl⟩ (c_lastOfRun g hp hx) (kc' := 0) (ks' := 0) (by omega) (by omega) (by decide) ?_
            rintro r' σ1 ⟨rfl, rfl⟩
            rw [hr]
            refine r_callV (As := [_]) rfl (by decide) rfl k391 rfl rfl (Nat.le_of_ble_eq_true rfl) ⟨Nat.le_of_ble_eq_true rfl, Nat.le_of_ble_eq_true rfl⟩ (c_pickedBehind (m := il + 1) g hp hil) (kc' := 0) (ks' := 0) (by omega) (by omega) (by decide) ?_
            rintro r' σ1 ⟨rfl, rfl⟩
            rw [hil2]
            refine r_astore rfl (by decide) ?_
            refine r_goto rfl ?_
            exact ih (lstR S x r).2 (il + 1) (k + 1) (by omega) hil2 (by omega)
      refine r_iconst (v := nI 0) rfl (by decide) ?_
      refine r_istore_n rfl (by decide) ?_
      refine r_aload_n rfl rfl ?_
      refine r_astore rfl (by decide) ?_
      have := loop (mtL S (elM q)).length (mtL S (elM q)) 0 0 (Nat.le_refl _) (by rw [List.drop_zero]; rfl) (by rw [eln]; omega)
      rw [eP]
      rw [eP] at this
      exact this
    · have e1 : (lnM S q).2 = 1 := by
        unfold lnM
        rw [if_neg y1]
        by_cases h4 : q.2.1 = 4
        · rw [if_pos h4]
        · rw [if_neg h4]
          cases e : ledM S q with
          | none => exact absurd e (y2.resolve_left h4)
          | some y =>
            show (if q.2.1 = 1 then ((_ : List Int32), (_ : Nat)) else _).2 = _
            rw [if_neg h1]
      refine r_iconst (v := nI 1) rfl (by decide) ?_
      refine r_iret rfl rfl ?_
      rw [← hQ, e1]
      exact ⟨rfl, g, f1⟩
theorem c_writeRun {x y : Nat} {i j : Nat} {zs : List Int32} (g : RCd ow σ c ad B S) (hx : (ordT (s_T S))[i]? = some x) (hy : (ordT (s_T S))[j]? = some y) (hz : Ln σ (c + 43) 539 zs) (h1 : zs.length + 40 ≤ 539) (h2 : x ≠ y → zs.length + 84 ≤ 539) : Cn l D m_Teller_writeRun 0 0 [va_rf (some (ad x)), va_rf (some (ad y)), va_rf (some (c + 43))] σ (fun r τ => r = none ∧ Ln τ (c + 43) 539 (zs ++ n_n S x ++ (if x = y then [] else [b8 (nI 32), b8 (nI 116), b8 (nI 111), b8 (nI 32)] ++ n_n S y)) ∧ LF σ τ (c + 43)) := by
  have hS := g.1.1
  have hxn := (ord_at hS hx).2.2.2.1
  have hyn := (ord_at hS hy).2.2.2.1
  have kx := g.1.2.2.2.1.1 x (Or.inl hxn)
  have ky := g.1.2.2.2.1.1 y (Or.inl hyn)
  obtain ⟨-, fx, -, -, -, -, -, -, -, px, -⟩ := g.1.2.2.1.2.2.2 x hxn
  obtain ⟨-, fy, -, -, -, -, -, -, -, py, -⟩ := g.1.2.2.1.2.2.2 y hyn
  have lx := (g.2.2.2 i x hx).2.2.2.2
  have ly := (g.2.2.2 j y hy).2.2.2.2
  have x40 := (n_ok hS x).1
  have y40 := (n_ok hS y).1
  generalize hQ : (fun (r : Option Value) (τ : Hp) => r = none ∧ Ln τ (c + 43) 539 (zs ++ n_n S x ++ (if x = y then [] else [b8 (nI 32), b8 (nI 116), b8 (nI 111), b8 (nI 32)] ++ n_n S y)) ∧ LF σ τ (c + 43)) = Q
  refine Cn.of (by decide) (by repeat (first | exact ca_0 | refine ca_i ?_ | refine ca_r ?_)) (Nat.le_of_ble_eq_true rfl) ?_
  refine r_aload_n rfl rfl ?_
  refine r_aload_n rfl rfl ?_
  (first | refine r_getPv rfl (by first | assumption | rfl) rfl (by assumption) ?_ | refine r_getP rfl (by first | assumption | rfl) rfl ?_)
  refine r_callV (As := [_]) rfl (by decide) rfl hz.1 rfl rfl (Nat.le_of_ble_eq_true rfl) ⟨Nat.le_of_ble_eq_true rfl, Nat.le_of_ble_eq_true rfl⟩ (c_putLine hz lx (by omega)) (kc' := 0) (ks' := 0) (by omega) (by omega) (by decide) ?_
  rintro r σ1 ⟨rfl, a1, a2⟩
  refine r_aload_n rfl rfl ?_
  refine r_aload_n rfl rfl ?_
  refine r_acmp_eq rfl (fun q => ?_) (fun q => ?_)
  · have e : y = x := g.1.2.2.2.1.2.1 y x (Or.inl hyn) (Or.inl hxn) (Option.some.inj q)
    refine r_vret rfl rfl ?_
    rw [← hQ, if_pos e.symm, List.append_nil]
    exact ⟨rfl, a1, a2⟩
  · have e : x ≠ y := fun w => q (by rw [w])
    have h84 := h2 e
    have l1 : (zs ++ n_n S x).length ≤ zs.length + 40 := by rw [List.length_append]; omega
    refine r_aload_n rfl rfl ?_
    refine r_bipush (v := nI 32) rfl (by decide) ?_
    refine r_callV (As := [_]) rfl (by decide) rfl a1.1 rfl rfl (Nat.le_of_ble_eq_true rfl) ⟨Nat.le_of_ble_eq_true rfl, Nat.le_of_ble_eq_true rfl⟩ (c_put a1 (by omega)) (kc' := 0) (ks' := 0) (by omega) (by omega) (by decide) ?_
    rintro r σ2 ⟨rfl, b1, b2⟩
    refine r_aload_n rfl rfl ?_
    refine r_bipush (v := nI 116) rfl (by decide) ?_
    refine r_callV (As := [_]) rfl (by decide) rfl b1.1 rfl rfl (Nat.le_of_ble_eq_true rfl) ⟨Nat.le_of_ble_eq_true rfl, Nat.le_of_ble_eq_true rfl⟩ (c_put b1 (by rw [List.length_append, List.length_singleton]; omega)) (kc' := 0) (ks' := 0) (by omega) (by omega) (by decide) ?_
    rintro r σ3 ⟨rfl, d1, d2⟩
    refine r_aload_n rfl rfl ?_
    refine r_bipush (v := nI 111) rfl (by decide) ?_
    refine r_callV (As := [_]) rfl (by decide) rfl d1.1 rfl rfl (Nat.le_of_ble_eq_true rfl) ⟨Nat.le_of_ble_eq_true rfl, Nat.le_of_ble_eq_true rfl⟩ (c_put d1 (by rw [List.length_append, List.length_append, List.length_singleton, List.length_singleton]; omega)) (kc' := 0) (ks' := 0) (by omega) (by omega) (by decide) ?_
    rintro r σ4 ⟨rfl, e1, e2⟩
    refine r_aload_n rfl rfl ?_
    refine r_bipush (v := nI 32) rfl (by decide) ?_
    refine r_callV (As := [_]) rfl (by decide) rfl e1.1 rfl rfl (Nat.le_of_ble_eq_true rfl) ⟨Nat.le_of_ble_eq_true rfl, Nat.le_of_ble_eq_true rfl⟩ (c_put e1 (by rw [List.length_append, List.length_append, List.length_append, List.length_singleton, List.length_singleton, List.length_singleton]; omega)) (kc' := 0) (ks' := 0) (by omega) (by omega) (by decide) ?_
    rintro r σ5 ⟨rfl, f1, f2⟩
    have lf := (((a2.tr b2).tr d2).tr e2).tr f2
    have ky5 : h_K σ5 (ad y) = 9 := by rw [lf.2.1]; exact ky
    have py5 : h_P σ5 527 (ad y) = some (ad y + 4) := by rw [lf.2.2.1]; exact py
    refine r_aload_n rfl rfl ?_
    refine r_aload_n rfl rfl ?_
    (first | refine r_getPv rfl (by first | assumption | rfl) rfl (by assumption) ?_ | refine r_getP rfl (by first | assumption | rfl) rfl ?_)
    refine r_callV (As := [_]) rfl (by decide) rfl f1.1 rfl rfl (Nat.le_of_ble_eq_true rfl) ⟨Nat.le_of_ble_eq_true rfl, Nat.le_of_ble_eq_true rfl⟩ (c_putLine f1 (lf.keep (by omega) ly) (by simp only [List.length_append, List.length_singleton]; rw [List.length_append] at l1; omega)) (kc' := 0) (ks' := 0) (by omega) (by omega) (by decide) ?_
    rintro r σ6 ⟨rfl, u1, u2⟩
    refine r_vret rfl rfl ?_
    rw [← hQ, if_neg e]
    refine ⟨rfl, ?_, lf.tr u2⟩
    simp only [List.append_assoc, List.cons_append, List.nil_append] at u1 ⊢
    exact u1
set_option maxHeartbeats 1000000 in
theorem c_writeRange {x0 : Nat} {r0 : List Nat} (g0 : RCd ow σ c ad B S) (hp0 : PK σ c ad S F) (hP : (ordT (s_T S)).filter F = x0 :: r0) (hl : r0.length + 1 ≤ 12) (hz : Ln σ (c + 43) 539 []) : Cn l D m_Teller_writeRange 0 0 [va_rf (some (c + 39)), va_rf (some (ad x0)), va_rf (some (c + 43))] σ (fun r τ => r = none ∧ Ln τ (c + 43) 539 (wpL (s_w S (s_k S x0)) ++ txR S 0 (rns S (x0 :: r0))) ∧ LF σ τ (c + 43)) := by
  have hS := g0.1.1
  have hW := hS.wf
  obtain ⟨i0, -, hx0, -, hr0⟩ := nx_pos (m := 0) (S := S) (by rw [List.drop_zero]; exact hP)
  have hxn := (ord_at hS hx0).2.2.2.1
  have hk6 := hS.2.1 x0 hxn
  have kx := g0.1.2.2.2.1.1 x0 (Or.inl hxn)
  obtain ⟨-, fx, -, -, -, -, p514, -, -, px, -⟩ := g0.1.2.2.1.2.2.2 x0 hxn
  obtain ⟨f1, f2, -⟩ := g0.1.2.1.form hk6
  have lw := (g0.1.2.2.2.2.2.2.1 _ hk6).1
  have w10 := (hS.2.2.2.2.1 _ hk6).1
  have kw := lw.1
  have iw : h_I σ 193 (c + 18 + 3 * s_k S x0) = nI (s_w S (s_k S x0)).length := lw.2.2.1
  generalize hQ : (fun (r : Option Value) (τ : Hp) => r = none ∧ Ln τ (c + 43) 539 (wpL (s_w S (s_k S x0)) ++ txR S 0 (rns S (x0 :: r0))) ∧ LF σ τ (c + 43)) = Q
  refine Cn.of (by decide) (by repeat (first | exact ca_0 | refine ca_i ?_ | refine ca_r ?_)) (Nat.le_of_ble_eq_true rfl) ?_
  have loop : ∀ (n : Nat) (cur : List Nat) (m k : Nat) (zs : List Int32) (τ : Hp), cur.length ≤ n → ((ordT (s_T S)).drop m).filter F = cur → (k = 0 ∧ cur = x0 :: r0 ∨ 0 < k ∧ i0 < m) → Ln τ (c + 43) 539 zs → LF σ τ (c + 43) → zs.length + 44 * cur.length ≤ 539 → zs ++ txR S k (rns S cur) = wpL (s_w S (s_k S x0)) ++ txR S 0 (rns S (x0 :: r0)) → Gm l D m_Teller_writeRange 0 0 Q 29 [some (va_rf (some (c + 39))), some (va_rf (some (ad x0))), some (va_rf (some (c + 43))), some (va_rf (some (c + 18 + 3 * s_k S x0))), some (va_rf (cur.head?.map ad))] [] τ 0 0 := by
    intro n
    induction n with
    | zero =>
      intro cur m k zs τ hn hc hk h1 h2 h3 h4
      cases cur with
      | cons x r => rw [List.length_cons] at hn; omega
      | nil =>
        refine r_aload rfl rfl ?_
        refine r_ifnull rfl (fun _ => ?_) (fun _ hq => by cases hq)
        refine r_vret rfl rfl ?_
        rw [← hQ, ← h4]
        refine ⟨rfl, ?_, h2⟩
        show Ln τ (c + 43) 539 (zs ++ [])
        rw [List.append_nil]
        exact h1
    | succ n ih =>
      intro cur m k zs τ hn hc hk h1 h2 h3 h4
      cases cur with
      | nil =>
        refine r_aload rfl rfl ?_
        refine r_ifnull rfl (fun _ => ?_) (fun _ hq => by cases hq)
        refine r_vret rfl rfl ?_
        rw [← hQ, ← h4]
        refine ⟨rfl, ?_, h2⟩
        show Ln τ (c + 43) 539 (zs ++ [])
        rw [List.append_nil]
        exact h1
      | cons x r =>
        obtain ⟨i, him, hx, -, hr⟩ := nx_pos hc
        obtain ⟨il, hge, hil, hil2⟩ := lst_pos r i x hx hr
        obtain ⟨ln1, ln2⟩ := lstR_len S r x
        have hxn' := (ord_at hS hx).2.2.2.1
        rw [List.length_cons] at hn h3
        have h4 : zs ++ txR S k (rnG S x x r) = _ := h4
        rw [rnG_lst] at h4
        have h4 : zs ++ (runT k (decide (x = (lstR S x r).1)) (n_n S x) (n_n S (lstR S x r).1) ++ txR S (k + 1) (rns S (lstR S x r).2)) = _ := h4
        generalize hla : (lstR S x r).1 = la at h4 hil ln2
        generalize hrs : (lstR S x r).2 = rs at h4 hil2 ln1 ln2
        -- the run itself
        have run : ∀ (ys : List Int32) (ρ : Hp), Ln ρ (c + 43) 539 ys → LF σ ρ (c + 43) → ys = zs ++ (if 0 < k then [b8 (nI 44), b8 (nI 32)] else []) → Gm l D m_Teller_writeRange 0 0 Q 52 [some (va_rf (some (c + 39))), some (va_rf (some (ad x0))), some (va_rf (some (c + 43))), some (va_rf (some (c + 18 + 3 * s_k S x0))), some (va_rf (some (ad x)))] [] ρ 0 0 := by
          intro ys ρ q1 q2 q3
          obtain ⟨gr, fr⟩ := g0.scr q2 q1
          have hpr := hp0.kp g0.1 fr (fun q => by cases q) (fun q => by cases q)
          have k39r : h_K ρ (c + 39) = 8 := gr.1.2.1.2.1 (39, 8) (by decide)
          have yl : ys.length ≤ zs.length + 2 := by
            rw [q3, List.length_append]
            by_cases e : 0 < k
            · rw [if_pos e]; exact Nat.le_refl _
            · rw [if_neg e]; exact Nat.le_add_right _ _
          refine r_aload rfl rfl ?_
          refine r_aload_n rfl rfl ?_
          refine r_aload rfl rfl ?_
          refine r_callV (As := [_]) rfl (by decide) rfl k39r rfl rfl (Nat.le_of_ble_eq_true rfl) ⟨Nat.le_of_ble_eq_true rfl, Nat.le_of_ble_eq_true rfl⟩ (c_lastOfRun gr hpr hx) (kc' := 0) (ks' := 0) (by omega) (by omega) (by decide) ?_
          rintro r' ρ ⟨rfl, rfl⟩
          rw [hr, hla]
          refine r_aload_n rfl rfl ?_
          refine r_callS (As := [_, _, _]) rfl (by decide) rfl rfl rfl (Nat.le_of_ble_eq_true rfl) ⟨Nat.le_of_ble_eq_true rfl, Nat.le_of_ble_eq_true rfl⟩ (c_writeRun gr hx hil q1 (by omega) (fun w => by rcases ln2 with w2 | w2; exact absurd w2.symm w; omega)) (kc' := 0) (ks' := 0) (by omega) (by omega) ?_
          rintro r' ρ2 ⟨rfl, u1, u2⟩
          have lf2 := q2.tr u2
          obtain ⟨gr2, fr2⟩ := g0.scr lf2 u1
          have hpr2 := hp0.kp g0.1 fr2 (fun q => by cases q) (fun q => by cases q)
          have k39r2 : h_K ρ2 (c + 39) = 8 := gr2.1.2.1.2.1 (39, 8) (by decide)
          refine r_aload_n rfl rfl ?_
          refine r_aload_n rfl rfl ?_
          refine r_aload rfl rfl ?_
          refine r_callV (As := [_]) rfl (by decide) rfl k39r2 rfl rfl (Nat.le_of_ble_eq_true rfl) ⟨Nat.le_of_ble_eq_true rfl, Nat.le_of_ble_eq_true rfl⟩ (c_lastOfRun gr2 hpr2 hx) (kc' := 0) (ks' := 0) (by omega) (by omega) (by decide) ?_
          rintro r' ρ2 ⟨rfl, rfl⟩
          rw [hr, hla]
          refine r_callV (As := [_]) rfl (by decide) rfl k39r2 rfl rfl (Nat.le_of_ble_eq_true rfl) ⟨Nat.le_of_ble_eq_true rfl, Nat.le_of_ble_eq_true rfl⟩ (c_pickedBehind (m := il + 1) gr2 hpr2 hil) (kc' := 0) (ks' := 0) (by omega) (by omega) (by decide) ?_
          rintro r' ρ2 ⟨rfl, rfl⟩
          rw [hil2]
          have x40 := (n_ok hS x).1
          have y40 := (n_ok hS la).1
          refine r_astore rfl (by decide) ?_
          refine r_goto rfl ?_
          have hil0 : i0 < il + 1 := by
            rcases hk with ⟨-, e⟩ | ⟨-, w⟩
            · injection e with e1 e2
              have : i = i0 := by
                rw [e1] at hx
                rw [← idx_of (ord_nd hW) hx, ← idx_of (ord_nd hW) hx0]
              omega
            · omega
          refine ih rs (il + 1) (k + 1) _ ρ2 (by omega) hil2 (Or.inr ⟨by omega, hil0⟩) u1 lf2 ?_ ?_
          · rw [List.length_append, List.length_append]
            by_cases e : x = la
            · rw [if_pos e]
              show _ + _ + 0 + _ ≤ _
              omega
            · have := ln2.resolve_left (fun w => e w.symm)
              rw [if_neg e, List.length_append]
              show _ + _ + (4 + _) + _ ≤ _
              omega
          · rw [← h4, q3]
            unfold runT
            by_cases e : x = la
            · rw [if_pos e, decide_eq_true e, if_pos rfl]
              simp only [List.append_assoc, List.append_nil]
            · rw [if_neg e, decide_eq_false e, if_neg (show ¬ (false = true) by decide)]
              simp only [List.append_assoc]
        refine r_aload rfl rfl ?_
        refine r_ifnull rfl (fun hq => by cases hq) (fun _ _ => ?_)
        show Gm l D m_Teller_writeRange 0 0 Q 34 [some (va_rf (some (c + 39))), some (va_rf (some (ad x0))), some (va_rf (some (c + 43))), some (va_rf (some (c + 18 + 3 * s_k S x0))), some (va_rf (some (ad x)))] [] τ 0 0
        refine r_aload rfl rfl ?_
        refine r_aload_n rfl rfl ?_
        rcases hk with ⟨rfl, e⟩ | ⟨hk0, him0⟩
        · injection e with e1 e2
          subst e1
          refine r_acmp_eq rfl (fun _ => ?_) (fun q => absurd rfl q)
          exact run zs τ h1 h2 (by rw [if_neg (by omega), List.append_nil])
        · have hne : x ≠ x0 := fun w => by
            rw [w] at hx
            have : i = i0 := by rw [← idx_of (ord_nd hW) hx, ← idx_of (ord_nd hW) hx0]
            omega
          refine r_acmp_eq rfl (fun q => absurd (g0.1.2.2.2.1.2.1 x x0 (Or.inl hxn') (Or.inl hxn) (Option.some.inj q)) hne) (fun _ => ?_)
          refine r_aload_n rfl rfl ?_
          refine r_bipush (v := nI 44) rfl (by decide) ?_
          refine r_callV (As := [_]) rfl (by decide) rfl h1.1 rfl rfl (Nat.le_of_ble_eq_true rfl) ⟨Nat.le_of_ble_eq_true rfl, Nat.le_of_ble_eq_true rfl⟩ (c_put h1 (by omega)) (kc' := 0) (ks' := 0) (by omega) (by omega) (by decide) ?_
          rintro r' ρ1 ⟨rfl, a1, a2⟩
          refine r_aload_n rfl rfl ?_
          refine r_bipush (v := nI 32) rfl (by decide) ?_
          refine r_callV (As := [_]) rfl (by decide) rfl a1.1 rfl rfl (Nat.le_of_ble_eq_true rfl) ⟨Nat.le_of_ble_eq_true rfl, Nat.le_of_ble_eq_true rfl⟩ (c_put a1 (by rw [List.length_append, List.length_singleton]; omega)) (kc' := 0) (ks' := 0) (by omega) (by omega) (by decide) ?_
          rintro r' ρ2 ⟨rfl, b1, b2⟩
          exact run _ ρ2 b1 ((h2.tr a2).tr b2) (by rw [if_pos hk0, List.append_assoc]; rfl)
  refine r_aload_n rfl rfl ?_
  (first | refine r_getPv rfl (by first | assumption | rfl) rfl (by assumption) ?_ | refine r_getP rfl (by first | assumption | rfl) rfl ?_)
  (first | refine r_getPv rfl (by first | assumption | rfl) rfl (by assumption) ?_ | refine r_getP rfl (by first | assumption | rfl) rfl ?_)
  refine r_astore_n rfl (by decide) ?_
  refine r_aload_n rfl rfl ?_
  (first | refine r_getIv rfl (by first | assumption | rfl) rfl (by assumption) ?_ | refine r_getI rfl (by first | assumption | rfl) rfl ?_)
  by_cases hw : (s_w S (s_k S x0)).length = 0
  · rw [hw]
    refine r_if_le rfl (fun _ => ?_) (fun q => absurd (by decide) q)
    refine r_aload_n rfl rfl ?_
    refine r_astore rfl (by decide) ?_
    refine loop (r0.length + 1) (x0 :: r0) 0 0 [] σ (Nat.le_refl _) (by rw [List.drop_zero]; exact hP) (Or.inl ⟨rfl, rfl⟩) hz (LF.rf _ _) (by rw [List.length_cons]; show 0 + _ ≤ _; omega) ?_
    unfold wpL
    rw [if_pos hw]
  · refine r_if_le rfl (fun q => ?_) (fun _ => ?_)
    · exact absurd (nI_lt (show 0 < (s_w S (s_k S x0)).length by omega) (by omega)) (Int32.not_lt.mpr q)
    · refine r_aload_n rfl rfl ?_
      refine r_aload_n rfl rfl ?_
      refine r_callV (As := [_]) rfl (by decide) rfl hz.1 rfl rfl (Nat.le_of_ble_eq_true rfl) ⟨Nat.le_of_ble_eq_true rfl, Nat.le_of_ble_eq_true rfl⟩ (c_putLine hz lw (by show 0 + _ ≤ _; omega)) (kc' := 0) (ks' := 0) (by omega) (by omega) (by decide) ?_
      rintro r σ1 ⟨rfl, a1, a2⟩
      rw [List.nil_append] at a1
      refine r_aload_n rfl rfl ?_
      refine r_bipush (v := nI 32) rfl (by decide) ?_
      refine r_callV (As := [_]) rfl (by decide) rfl a1.1 rfl rfl (Nat.le_of_ble_eq_true rfl) ⟨Nat.le_of_ble_eq_true rfl, Nat.le_of_ble_eq_true rfl⟩ (c_put a1 (by omega)) (kc' := 0) (ks' := 0) (by omega) (by omega) (by decide) ?_
      rintro r σ2 ⟨rfl, b1, b2⟩
      refine r_aload_n rfl rfl ?_
      refine r_astore rfl (by decide) ?_
      refine loop (r0.length + 1) (x0 :: r0) 0 0 _ σ2 (Nat.le_refl _) (by rw [List.drop_zero]; exact hP) (Or.inl ⟨rfl, rfl⟩) b1 (a2.tr b2) (by rw [List.length_append, List.length_singleton, List.length_cons]; omega) ?_
      unfold wpL
      rw [if_neg hw]
      rfl
theorem ltK_mem {kd : Nat → Int32} {L : List Nat} {k : Int32} {y : Nat} : ∀ (i : Nat), i ≤ L.length → ltK kd L k i = some y → y ∈ L
  | 0, _, h => by cases h
  | i + 1, hi, h => by
    have h : (if kd (L.getD i 0) = k then some (L.getD i 0) else ltK kd L k i) = some y := h
    by_cases e : kd (L.getD i 0) = k
    · rw [if_pos e] at h
      rw [← Option.some.inj h]
      exact getD_mem (by omega)
    · rw [if_neg e] at h
      exact ltK_mem i (by omega) h
theorem led_kind (hS : SOk S) {q : Mn} {y : Nat} (hq : q ∈ s_m S) (h1 : q.2.1 = 1) (h : y ∈ mtL S (elM q)) : s_k S y = q.2.2.1 := by
  have hm := (List.mem_filter.mp h).2
  unfold mtS at hm
  obtain ⟨z, z1, z2⟩ := List.mem_filterMap.mp (of_decide_eq_true hm)
  have ee : elM q = q.2.2.2.2 := by unfold elM; rw [if_neg (by omega), if_pos h1]
  rw [ee] at z1
  obtain ⟨i, k, f, e, m⟩ := q
  have hz := (hS.2.2.2.2.2.2.2.2.2.1 i k f e m hq).2.2.2.2.2.2.2.2.2 z z1
  rw [(ldo_lt hS z2).2.2, (ld_lt hS.wf hz.1).2]
  exact hz.2
set_option maxHeartbeats 1000000 in
theorem c_writeText {a : Nat} {q : Mn} (g0 : RCd ow σ c ad B S) (hB : B < 2 ^ 30) (hq : q ∈ s_m S) (hm : CM1 ow σ ad S a q) : Cn l D m_Teller_writeText 0 0 [va_rf (some (c + 39)), va_rf (some a), va_rf (some (c + 43))] σ (fun r τ => r = none ∧ RCd ow τ c ad (B + 1) S ∧ Fm ow [449, 529] [] [2] σ τ ∧ Ln τ (c + 43) 539 (lnM S q).1) := by
  have hS := g0.1.1
  have hW := hS.wf
  have z0 := g0.1.2.1.1
  have k39 : h_K σ (c + 39) = 8 := g0.1.2.1.2.1 (39, 8) (by decide)
  have k43 : h_K σ (c + 43) = 4 := g0.1.2.1.2.1 (43, 4) (by decide)
  obtain ⟨xs, hxs⟩ := g0.1.2.2.2.2.2.1
  generalize hQ : (fun (r : Option Value) (τ : Hp) => r = none ∧ RCd ow τ c ad (B + 1) S ∧ Fm ow [449, 529] [] [2] σ τ ∧ Ln τ (c + 43) 539 (lnM S q).1) = Q
  refine Cn.of (by decide) (by repeat (first | exact ca_0 | refine ca_i ?_ | refine ca_r ?_)) (Nat.le_of_ble_eq_true rfl) ?_
  refine r_aload_n rfl rfl ?_
  refine r_iconst (v := nI 0) rfl (by decide) ?_
  refine r_putI rfl (by first | assumption | rfl) rfl (by first | exact Or.inl rfl | exact Or.inr ⟨rfl, rfl⟩) (by first | rfl | decide | assumption) (by first | rfl | decide) ?_
  obtain ⟨c1, c2⟩ := hxs.cut 0 (Nat.zero_le _)
  rw [List.take_zero] at c1
  generalize hσ1 : w_I σ 193 (c + 43) (nI 0) = σ1 at c1 c2 ⊢
  obtain ⟨g1, f1⟩ := g0.scr c2 c1
  have hm1 : CM1 ow σ1 ad S a q := hm.kp f1 (fun f _ q => by cases q) (fun f _ q => by cases q) (by decide) (fun _ _ => rfl) (fun _ => rfl)
  have k391 : h_K σ1 (c + 39) = 8 := g1.1.2.1.2.1 (39, 8) (by decide)
  refine r_aload_n rfl rfl ?_
  refine r_aload_n rfl rfl ?_
  refine r_callV (As := [_]) rfl (by decide) rfl k391 rfl rfl (Nat.le_of_ble_eq_true rfl) ⟨Nat.le_of_ble_eq_true rfl, Nat.le_of_ble_eq_true rfl⟩ (c_firstMeant g1 hB hq hm1) (kc' := 0) (ks' := 0) (by omega) (by omega) (by decide) ?_
  rintro r σ2 ⟨rfl, g2, f2, p2⟩
  have hm2 : CM1 ow σ2 ad S a q := hm1.kp f2 (by decide) (fun f _ q => by cases q) (fun q => by cases q) (fun _ _ => rfl) (fun _ => rfl)
  have o43 : ow (c + 43) = 2 := g0.1.2.1.tag (q := (43, 2)) (by decide)
  have o44 : ow (c + 44) = 2 := g0.1.2.1.tag (q := (44, 2)) (by decide)
  have c3 : Ln σ2 (c + 43) 539 [] := c1.kp f2 (by have := f1.1; omega) (fun q => by cases q) (fun q => by cases q) (fun q => by cases q) (by decide)
  have f02 : Fm ow [449, 529] [] [2] σ σ2 := (f1.wide (fun f q => by cases q) (fun f q => by cases q) (by decide)).tr (f2.wide (by decide) (fun f q => by cases q) (fun f q => by cases q))
  have ka2 : h_K σ2 a = 5 := hm2.2.1
  have i256 : h_I σ2 256 a = nI q.2.1 := hm2.2.2.1
  have k392 : h_K σ2 (c + 39) = 8 := g2.1.2.1.2.1 (39, 8) (by decide)
  obtain ⟨-, -, -, hin, hk5⟩ := el_ok hS hq
  -- the end, when the scratch Line was written
  have fin : ∀ (τ : Hp) (ls : List (Option Value)), LF σ2 τ (c + 43) → Ln τ (c + 43) 539 (lnM S q).1 → Q none τ := by
    intro τ ls h1 h2
    obtain ⟨g3, f3⟩ := g2.scr h1 h2
    rw [← hQ]
    exact ⟨rfl, g3, f02.tr (f3.wide (fun f q => by cases q) (fun f q => by cases q) (by decide)), h2⟩
  refine r_astore_n rfl (by decide) ?_
  refine r_aload_n rfl rfl ?_
  refine r_aload_n rfl rfl ?_
  refine r_callS (As := [_, _]) rfl (by decide) rfl rfl rfl (Nat.le_of_ble_eq_true rfl) ⟨Nat.le_of_ble_eq_true rfl, Nat.le_of_ble_eq_true rfl⟩ (c_hasText g2.1 hq hm2) (kc' := 0) (ks' := 0) (by omega) (by omega) ?_
  rintro r σ2 ⟨rfl, rfl⟩
  cases hh : hsT S q with
  | false =>
    refine r_if_ne rfl (fun q => absurd rfl q) (fun _ => ?_)
    refine r_vret rfl rfl ?_
    exact fin σ2 [] (LF.rf _ _) (by rw [hsT_no hh]; exact c3)
  | true =>
    obtain ⟨y1, y2⟩ := hsT_yes hh
    refine r_if_ne rfl (fun _ => ?_) (fun q => absurd q (by decide))
    by_cases h4 : q.2.1 = 4
    · obtain ⟨b, b1, b2⟩ := hm2.2.2.2.2.2.2.1 h4
      have el : (lnM S q).1 = edT S q.2.2.2.1 q.2.2.1 := by
        unfold lnM
        rw [if_neg y1, if_pos h4]
      have hed : (edT S q.2.2.2.1 q.2.2.1).length ≤ 60 := by
        obtain ⟨i, k, f, e, m⟩ := q
        obtain ⟨-, d, d1, d2⟩ := (hS.2.2.2.2.2.2.2.2.2.1 i k f e m hq).2.2.2.2.2.2.1 h4
        unfold edT
        show (match (s_e S)[e]? with | none => [] | some d => match d f with | none => [] | some t => t.1).length ≤ 60
        rw [d1]
        show (match d f with | none => [] | some t => t.1).length ≤ 60
        cases e2 : d f with
        | none => exact absurd e2 d2
        | some t => exact (hS.2.2.2.2.2.2.2.2.2.2 d (List.mem_of_getElem? d1) f t.1 t.2 e2).2.1
      refine r_aload_n rfl rfl ?_
      (first | refine r_getPv rfl (by first | assumption | rfl) rfl (by assumption) ?_ | refine r_getP rfl (by first | assumption | rfl) rfl ?_)
      refine r_ifnull rfl (fun hq => by cases hq) (fun _ _ => ?_)
      refine r_aload_n rfl rfl ?_
      refine r_aload_n rfl rfl ?_
      (first | refine r_getPv rfl (by first | assumption | rfl) rfl (by assumption) ?_ | refine r_getP rfl (by first | assumption | rfl) rfl ?_)
      refine r_callV (As := [_]) rfl (by decide) rfl c3.1 rfl rfl (Nat.le_of_ble_eq_true rfl) ⟨Nat.le_of_ble_eq_true rfl, Nat.le_of_ble_eq_true rfl⟩ (c_putLine c3 b2.2.2.2 (by show 0 + _ ≤ _; omega)) (kc' := 0) (ks' := 0) (by omega) (by omega) (by decide) ?_
      rintro r τ ⟨rfl, u1, u2⟩
      refine r_goto rfl ?_
      refine r_vret rfl rfl ?_
      exact fin τ [] u2 (by rw [el]; exact u1)
    · have p259 : h_P σ2 259 a = none := hm2.2.2.2.2.2.1 h4
      have hne := y2.resolve_left h4
      refine r_aload_n rfl rfl ?_
      (first | refine r_getPv rfl (by first | assumption | rfl) rfl (by assumption) ?_ | refine r_getP rfl (by first | assumption | rfl) rfl ?_)
      refine r_ifnull rfl (fun _ => ?_) (fun _ hq => by cases hq)
      cases hle : ledM S q with
      | none => exact absurd hle hne
      | some y =>
        have kk : ∀ z, ledM S q = some z → True := fun _ _ => trivial
        refine r_aload_n rfl rfl ?_
        refine r_ifnull rfl (fun hq => by cases hq) (fun _ _ => ?_)
        refine r_aload_n rfl rfl ?_
        (first | refine r_getIv rfl (by first | assumption | rfl) rfl (by assumption) ?_ | refine r_getI rfl (by first | assumption | rfl) rfl ?_)
        refine r_iconst (v := nI 1) rfl (by decide) ?_
        refine r_neN rfl (by omega) (by omega) (fun h1 => ?_) (fun h1 => ?_)
        · have hyt : t_h (s_T S) y = true := by
            unfold ledM at hle
            by_cases h0 : q.2.1 = 0 ∨ q.2.1 = 4
            · rw [if_pos h0] at hle; exact (ldo_lt hS hle).2.1
            · rw [if_neg h0, if_neg h1] at hle
              cases hd : ldo (s_T S) q.1 with
              | none => rw [hd] at hle; cases hle
              | some w =>
                rw [hd] at hle
                have hle : (if q.2.1 = 2 then nxK (fun x => nI (s_k S x)) (ordT (s_T S)) ((ordT (s_T S)).idxOf w) (nI q.2.2.1) else ltK (fun x => nI (s_k S x)) (ordT (s_T S)) (nI q.2.2.1) ((ordT (s_T S)).idxOf w)) = some y := hle
                by_cases h2 : q.2.1 = 2
                · rw [if_pos h2] at hle
                  exact (ord_mem hW).mp (List.mem_of_mem_drop (List.mem_of_find?_eq_some hle))
                · rw [if_neg h2] at hle
                  exact (ord_mem hW).mp (ltK_mem _ (Nat.le_of_lt (idx_at ((ord_mem hW).mpr (ldo_lt hS hd).2.1)).1) hle)
          have el : (lnM S q).1 = tdT S y := by
            unfold lnM
            rw [if_neg y1, if_neg h4, hle]
            show (if q.2.1 = 1 then ((_ : List Int32), (_ : Nat)) else _).1 = _
            rw [if_neg h1]
          have ky := g2.1.2.2.2.1.1 y (Or.inl (hW.h_lt hyt))
          refine r_aload_n rfl rfl ?_
          refine r_ifnull rfl (fun hq => by cases hq) (fun _ _ => ?_)
          show Gm l D m_Teller_writeText 0 0 Q 63 [some (va_rf (some (c + 39))), some (va_rf (some a)), some (va_rf (some (c + 43))), some (va_rf (some (ad y)))] [] σ2 0 0
          refine r_aload_n rfl rfl ?_
          refine r_aload_n rfl rfl ?_
          refine r_callV (As := [_]) rfl (by decide) rfl ky rfl rfl (Nat.le_of_ble_eq_true rfl) ⟨Nat.le_of_ble_eq_true rfl, Nat.le_of_ble_eq_true rfl⟩ (c_tellC g2 hyt c3 (by show 0 + 60 ≤ 539; omega)) (kc' := 0) (ks' := 0) (by omega) (by omega) (by decide) ?_
          rintro r τ ⟨rfl, u1, u2⟩
          refine r_vret rfl rfl ?_
          exact fin τ [] u2 (by rw [el]; exact u1)
        · have hp := p2 h1
          have eP : ledM S q = (mtL S (elM q)).head? := led_el hS (Or.inr (Or.inr h1))
          have ee : elM q = q.2.2.2.2 := by unfold elM; rw [if_neg (by omega), if_pos h1]
          cases hmt : mtL S (elM q) with
          | nil => rw [eP, hmt] at hle; cases hle
          | cons x0 r0 =>
            rw [eP, hmt] at hle
            have e0 : x0 = y := Option.some.inj hle
            subst e0
            have hl12 : r0.length + 1 ≤ 12 := by
              have q1 := mtL_len hS (m := elM q)
              rw [hmt, List.length_cons] at q1
              have q2 := el_ok hS hq
              omega
            have ekd := led_kind hS hq h1 (y := x0) (by rw [hmt]; exact List.mem_cons_self)
            have el : (lnM S q).1 = wpL (s_w S (s_k S x0)) ++ txR S 0 (rns S (x0 :: r0)) := by
              unfold lnM
              rw [if_neg y1, if_neg h4, eP, hmt]
              show (if q.2.1 = 1 then ((_ : List Int32), (_ : Nat)) else _).1 = _
              rw [if_pos h1, ← ee, hmt, ekd]
            refine r_aload_n rfl rfl ?_
            refine r_aload_n rfl rfl ?_
            refine r_aload_n rfl rfl ?_
            refine r_callV (As := [_, _]) rfl (by decide) rfl k392 rfl rfl (Nat.le_of_ble_eq_true rfl) ⟨Nat.le_of_ble_eq_true rfl, Nat.le_of_ble_eq_true rfl⟩ (c_writeRange g2 hp hmt hl12 c3) (kc' := 0) (ks' := 0) (by omega) (by omega) (by decide) ?_
            rintro r τ ⟨rfl, u1, u2⟩
            refine r_goto rfl ?_
            refine r_vret rfl rfl ?_
            exact fin τ [] u2 (by rw [el]; exact u1)
end TL
