/-! ===== class Line, second half ===== -/
def ln_at (xs : List Int32) (i : Int32) : Int32 := if i < 0 ∨ nI xs.length ≤ i then -1 else xs.getD i.toNatClampNeg 0 &&& 255
theorem ln_at_nI {xs : List Int32} {j : Nat} (h : j < xs.length) (hl : xs.length < 2 ^ 31) : ln_at xs (nI j) = xs.getD j 0 &&& 255 := by
  unfold ln_at
  rw [if_neg, nI_clamp (by omega)]
  rintro (q | q)
  · exact nI_pos (by omega) q
  · exact nI_ge h hl q
theorem getD_at {xs : List Int32} {j : Nat} (h : j < xs.length) : xs.getD j 0 = xs[j] := by simp [List.getD_eq_getElem?_getD, h]
section LC
variable {l : Launch} {D : DD} {σ : Hp} {a b cap cb : Nat} {xs ys : List Int32}
theorem c_byteAt {i : Int32} (h : Ln σ a cap xs) : Cn l D m_Line_byteAt 0 0 [va_rf (some a), .int i] σ (fun r τ => r = some (.int (ln_at xs i)) ∧ τ = σ) := by
  obtain ⟨k1, p1, i1, k2, l1, hle, hcap, hx⟩ := id h
  refine Cn.of (by decide) (by repeat (first | exact ca_0 | refine ca_i ?_ | refine ca_r ?_)) (Nat.le_of_ble_eq_true rfl) ?_
  have no : (i < 0 ∨ nI xs.length ≤ i) → Gm l D m_Line_byteAt 0 0 (fun r τ => r = some (.int (ln_at xs i)) ∧ τ = σ) 25 (en_L [va_rf (some a), .int i] 2) [] σ 0 0 := by
    intro q
    refine r_iconst (v := -1) rfl (by decide) ?_
    refine r_iret rfl rfl ⟨?_, rfl⟩
    unfold ln_at
    rw [if_pos q]
  refine r_iload_n rfl rfl ?_
  refine r_if_lt rfl (fun q => no (Or.inl q)) (fun q1 => ?_)
  refine r_iload_n rfl rfl ?_
  refine r_aload_n rfl rfl ?_
  (first | refine r_getIv rfl (by first | assumption | rfl) rfl (by assumption) ?_ | refine r_getI rfl (by first | assumption | rfl) rfl ?_)
  refine r_icmp_ge rfl (fun q => no (Or.inr q)) (fun q2 => ?_)
  refine r_aload_n rfl rfl ?_
  (first | refine r_getPv rfl (by first | assumption | rfl) rfl (by assumption) ?_ | refine r_getP rfl (by first | assumption | rfl) rfl ?_)
  refine r_iload_n rfl rfl ?_
  obtain ⟨j, hj, rfl⟩ := nI_of q1
  have hj2 : j < xs.length := by
    rcases Nat.lt_or_ge j xs.length with q | q
    · exact q
    · exact absurd (nI_le q hj) q2
  refine r_bald rfl k2 rfl (by omega) (by omega) ?_
  refine r_sipush (v := nI 255) rfl (by decide) ?_
  refine r_iand rfl ?_
  refine r_goto rfl ?_
  refine r_iret rfl rfl ⟨?_, rfl⟩
  rw [hx j hj2, ln_at_nI hj2 (by omega)]
  rfl
theorem c_standsIn {j : Nat} (h : Ln σ a cap xs) (g : Ln σ b cb ys) (hj : j ≤ ys.length) : Cn l D m_Line_standsIn 0 0 [va_rf (some a), va_rf (some b), .int (nI j)] σ (fun r τ => r = some (.int (nI (xs.isPrefixOf (ys.drop j)).toNat)) ∧ τ = σ) := by
  obtain ⟨k1, p1, i1, k2, l1, hle, hcap, hx⟩ := id h
  obtain ⟨k1', p1', i1', k2', l1', hle', hcap', hx'⟩ := id g
  refine Cn.of (by decide) (by repeat (first | exact ca_0 | refine ca_i ?_ | refine ca_r ?_)) (Nat.le_of_ble_eq_true rfl) ?_
  refine r_iload_n rfl rfl ?_
  refine r_if_lt rfl (fun q => absurd q (nI_pos (by omega))) (fun _ => ?_)
  refine r_aload_n rfl rfl ?_
  (first | refine r_getIv rfl (by first | assumption | rfl) rfl (by assumption) ?_ | refine r_getI rfl (by first | assumption | rfl) rfl ?_)
  refine r_aload_n rfl rfl ?_
  (first | refine r_getIv rfl (by first | assumption | rfl) rfl (by assumption) ?_ | refine r_getI rfl (by first | assumption | rfl) rfl ?_)
  refine r_iload_n rfl rfl ?_
  refine r_isubN rfl hj ?_
  refine r_leN rfl (by omega) (by omega) (fun hq => ?_) (fun hq => ?_)
  · refine r_iconst (v := nI 0) rfl (by decide) ?_
    refine r_istore_n rfl (by decide) ?_
    have loop : ∀ (d i : Nat), i + d = xs.length → (∀ q, q < i → xs.getD q 0 = ys.getD (j + q) 0) → Gm l D m_Line_standsIn 0 0 (fun r τ => r = some (.int (nI (xs.isPrefixOf (ys.drop j)).toNat)) ∧ τ = σ) 21 [some (va_rf (some a)), some (va_rf (some b)), some (.int (nI j)), some (.int (nI i))] [] σ 0 0 := by
      intro d
      induction d with
      | zero =>
        intro i hi hp
        refine r_iload_n rfl rfl ?_
        refine r_aload_n rfl rfl ?_
        (first | refine r_getIv rfl (by first | assumption | rfl) rfl (by assumption) ?_ | refine r_getI rfl (by first | assumption | rfl) rfl ?_)
        refine r_geN rfl (by omega) (by omega) (fun _ => ?_) (fun q => by omega)
        refine r_iconst (v := nI 1) rfl (by decide) ?_
        refine r_zret rfl rfl (by decide) ⟨?_, rfl⟩
        have e : xs.isPrefixOf (ys.drop j) = true := by
          rw [List.isPrefixOf_iff_prefix, List.prefix_iff_eq_take]
          refine List.ext_getElem (by simp; omega) (fun q h1 h2 => ?_)
          have := hp q (by omega)
          rw [getD_at h1, getD_at (by omega)] at this
          simp only [List.getElem_take, List.getElem_drop]
          exact this
        rw [e]
        rfl
      | succ d ih =>
        intro i hi hp
        refine r_iload_n rfl rfl ?_
        refine r_aload_n rfl rfl ?_
        (first | refine r_getIv rfl (by first | assumption | rfl) rfl (by assumption) ?_ | refine r_getI rfl (by first | assumption | rfl) rfl ?_)
        refine r_geN rfl (by omega) (by omega) (fun q => by omega) (fun _ => ?_)
        refine r_aload_n rfl rfl ?_
        (first | refine r_getPv rfl (by first | assumption | rfl) rfl (by assumption) ?_ | refine r_getP rfl (by first | assumption | rfl) rfl ?_)
        refine r_iload_n rfl rfl ?_
        refine r_bald rfl k2 rfl (by omega) (by omega) ?_
        refine r_aload_n rfl rfl ?_
        (first | refine r_getPv rfl (by first | assumption | rfl) rfl (by assumption) ?_ | refine r_getP rfl (by first | assumption | rfl) rfl ?_)
        refine r_iload_n rfl rfl ?_
        refine r_iload_n rfl rfl ?_
        (first | refine r_iaddN rfl ?_ | refine r_iadd rfl ?_)
        refine r_bald rfl k2' rfl (by omega) (by omega) ?_
        rw [hx i (by omega), hx' (j + i) (by omega)]
        refine r_icmp_eq rfl (fun q => ?_) (fun q => ?_)
        · refine r_iinc rfl rfl (nI_inc _) ?_
          refine r_goto rfl ?_
          refine ih (i + 1) (by omega) (fun q2 h2 => ?_)
          by_cases e : q2 = i
          · rw [e]; exact q
          · exact hp q2 (by omega)
        · refine r_iconst (v := nI 0) rfl (by decide) ?_
          refine r_zret rfl rfl (by decide) ⟨?_, rfl⟩
          have e : xs.isPrefixOf (ys.drop j) = false := by
            rw [Bool.eq_false_iff]
            intro e
            rw [List.isPrefixOf_iff_prefix, List.prefix_iff_eq_take] at e
            apply q
            rw [getD_at (by omega), getD_at (by omega)]
            have e2 : xs[i]? = ((ys.drop j).take xs.length)[i]? := by rw [← e]
            rw [List.getElem?_take, if_pos (by omega), List.getElem?_drop, List.getElem?_eq_getElem (by omega), List.getElem?_eq_getElem (by omega)] at e2
            exact Option.some.inj e2
          rw [e]
          rfl
    exact loop xs.length 0 (by omega) (fun q hq => by omega)
  · refine r_iconst (v := nI 0) rfl (by decide) ?_
    refine r_zret rfl rfl (by decide) ⟨?_, rfl⟩
    have e : xs.isPrefixOf (ys.drop j) = false := by
      rw [Bool.eq_false_iff]
      intro e
      rw [List.isPrefixOf_iff_prefix] at e
      have := e.length_le
      rw [List.length_drop] at this
      omega
    rw [e]
    rfl
theorem c_isSame (h : Ln σ a cap xs) (g : Ln σ b cb ys) : Cn l D m_Line_isSame 0 0 [va_rf (some a), va_rf (some b)] σ (fun r τ => r = some (.int (nI (decide (xs = ys)).toNat)) ∧ τ = σ) := by
  obtain ⟨k1, p1, i1, k2, l1, hle, hcap, hx⟩ := id h
  obtain ⟨k1', p1', i1', k2', l1', hle', hcap', hx'⟩ := id g
  refine Cn.of (by decide) (by repeat (first | exact ca_0 | refine ca_i ?_ | refine ca_r ?_)) (Nat.le_of_ble_eq_true rfl) ?_
  have no : xs ≠ ys → Gm l D m_Line_isSame 0 0 (fun r τ => r = some (.int (nI (decide (xs = ys)).toNat)) ∧ τ = σ) 24 (en_L [va_rf (some a), va_rf (some b)] 2) [] σ 0 0 := by
    intro q
    refine r_iconst (v := nI 0) rfl (by decide) ?_
    refine r_zret rfl rfl (by decide) ⟨?_, rfl⟩
    rw [decide_eq_false q]
    rfl
  refine r_aload_n rfl rfl ?_
  (first | refine r_getIv rfl (by first | assumption | rfl) rfl (by assumption) ?_ | refine r_getI rfl (by first | assumption | rfl) rfl ?_)
  refine r_aload_n rfl rfl ?_
  (first | refine r_getIv rfl (by first | assumption | rfl) rfl (by assumption) ?_ | refine r_getI rfl (by first | assumption | rfl) rfl ?_)
  refine r_neN rfl (by omega) (by omega) (fun q => no (fun e => q (by rw [e]))) (fun q => ?_)
  refine r_aload_n rfl rfl ?_
  refine r_aload_n rfl rfl ?_
  refine r_iconst (v := nI 0) rfl (by decide) ?_
  refine r_callV (As := [_, _]) rfl (by decide) rfl k1 rfl rfl (Nat.le_of_ble_eq_true rfl) ⟨Nat.le_of_ble_eq_true rfl, Nat.le_of_ble_eq_true rfl⟩ (c_standsIn h g (j := 0) (by omega)) (kc' := 0) (ks' := 0) (by omega) (by omega) (by decide) ?_
  rintro r τ ⟨rfl, rfl⟩
  have e : xs.isPrefixOf (ys.drop 0) = decide (xs = ys) := by
    rw [List.drop_zero, Bool.eq_iff_iff, List.isPrefixOf_iff_prefix, decide_eq_true_iff]
    constructor
    · intro e
      exact e.eq_of_length q
    · rintro rfl
      exact List.prefix_refl _
  rw [e]
  refine r_ifeqB rfl (fun q2 => no (of_decide_eq_false q2)) (fun q2 => ?_)
  refine r_iconst (v := nI 1) rfl (by decide) ?_
  refine r_goto rfl ?_
  refine r_zret rfl rfl (by decide) ⟨?_, rfl⟩
  rw [q2]
  rfl
theorem c_isLettersAlone (h : Ln σ a cap xs) : Cn l D m_Line_isLettersAlone 0 0 [va_rf (some a)] σ (fun r τ => r = some (.int (nI (xs.all isL).toNat)) ∧ τ = σ) := by
  obtain ⟨k1, p1, i1, k2, l1, hle, hcap, hx⟩ := id h
  refine Cn.of (by decide) (by repeat (first | exact ca_0 | refine ca_i ?_ | refine ca_r ?_)) (Nat.le_of_ble_eq_true rfl) ?_
  refine r_iconst (v := nI 0) rfl (by decide) ?_
  refine r_istore_n rfl (by decide) ?_
  have loop : ∀ (d i : Nat), i + d = xs.length → (∀ q, q < i → isL (xs.getD q 0) = true) → Gm l D m_Line_isLettersAlone 0 0 (fun r τ => r = some (.int (nI (xs.all isL).toNat)) ∧ τ = σ) 2 [some (va_rf (some a)), some (.int (nI i))] [] σ 0 0 := by
    intro d
    induction d with
    | zero =>
      intro i hi hp
      refine r_iload_n rfl rfl ?_
      refine r_aload_n rfl rfl ?_
      (first | refine r_getIv rfl (by first | assumption | rfl) rfl (by assumption) ?_ | refine r_getI rfl (by first | assumption | rfl) rfl ?_)
      refine r_geN rfl (by omega) (by omega) (fun _ => ?_) (fun q => by omega)
      refine r_iconst (v := nI 1) rfl (by decide) ?_
      refine r_zret rfl rfl (by decide) ⟨?_, rfl⟩
      have e : xs.all isL = true := by
        rw [List.all_eq_true]
        intro v hv
        obtain ⟨q, hq, rfl⟩ := List.getElem_of_mem hv
        rw [← getD_at hq]
        exact hp q (by omega)
      rw [e]
      rfl
    | succ d ih =>
      intro i hi hp
      refine r_iload_n rfl rfl ?_
      refine r_aload_n rfl rfl ?_
      (first | refine r_getIv rfl (by first | assumption | rfl) rfl (by assumption) ?_ | refine r_getI rfl (by first | assumption | rfl) rfl ?_)
      refine r_geN rfl (by omega) (by omega) (fun q => by omega) (fun _ => ?_)
      refine r_aload_n rfl rfl ?_
      (first | refine r_getPv rfl (by first | assumption | rfl) rfl (by assumption) ?_ | refine r_getP rfl (by first | assumption | rfl) rfl ?_)
      refine r_iload_n rfl rfl ?_
      refine r_bald rfl k2 rfl (by omega) (by omega) ?_
      rw [hx i (by omega)]
      refine r_callSN (As := [_]) (z := 118) rfl (by decide) rfl (by decide +kernel) rfl rfl (Nat.le_of_ble_eq_true rfl) ⟨Nat.le_of_ble_eq_true rfl, Nat.le_of_ble_eq_true rfl⟩ c_isLetter (kc' := 0) (ks' := 0) (by omega) (by omega) ?_
      rintro r τ ⟨rfl, rfl⟩
      refine r_ifneB rfl (fun q => ?_) (fun q => ?_)
      · refine r_iinc rfl rfl (nI_inc _) ?_
        refine r_goto rfl ?_
        refine ih (i + 1) (by omega) (fun q2 h2 => ?_)
        by_cases e : q2 = i
        · rw [e]; exact q
        · exact hp q2 (by omega)
      · refine r_iconst (v := nI 0) rfl (by decide) ?_
        refine r_zret rfl rfl (by decide) ⟨?_, rfl⟩
        have e : xs.all isL = false := by
          rw [Bool.eq_false_iff]
          intro e
          have := List.all_eq_true.mp e (xs.getD i 0) (by rw [getD_at (by omega)]; exact List.getElem_mem _)
          rw [this] at q
          cases q
        rw [e]
        rfl
  exact loop xs.length 0 (by omega) (fun q hq => by omega)
theorem NF.LF {τ ρ : Hp} {k : Nat} (h : NF σ τ k) (hb : h_z σ ≤ b) (g : LF τ ρ b) : NF σ ρ k := by
  obtain ⟨g1, g2, g3, g4, g5, g6, g7⟩ := g
  refine ⟨g1.trans h.1, fun a ha => ?_⟩
  obtain ⟨h1, h2, h3, h4, h5, h6⟩ := h.2 a ha
  refine ⟨by rw [g2]; exact h1, fun f => (g6 f a (fun q => by omega)).trans (h2 f), fun f => by rw [g3]; exact h3 f, by rw [g4]; exact h4, by rw [g7 a (by omega)]; exact h5, by rw [g5]; exact h6⟩
theorem c_copy (h : Ln σ a cap xs) : Cn l D m_Line_copy 2 (2 + xs.length) [va_rf (some a)] σ (fun r τ => r = some (va_rf (some (h_z σ))) ∧ Ln τ (h_z σ) xs.length xs ∧ NF σ τ 2) := by
  obtain ⟨k1, p1, i1, k2, l1, hle, hcap, hx⟩ := id h
  refine Cn.of (by decide) (by repeat (first | exact ca_0 | refine ca_i ?_ | refine ca_r ?_)) (Nat.le_of_ble_eq_true rfl) ?_
  refine g_fits (fun _ hlt hz0 => ?_)
  have ha : a + 1 < h_z σ := hlt _ (by omega)
  refine r_new (kc := 1) (ks := xs.length) rfl (fun _ => ?_) |> G.less (by omega) (by show xs.length + 2 ≤ _; omega)
  have kn : h_K (n_O σ 4) (h_z σ) = 4 := u1_s _ _ _
  have ka : h_K (n_O σ 4) a = 4 := (u1_n _ _ (by omega)).trans k1
  have ia : h_I (n_O σ 4) 193 a = nI xs.length := (if_neg (by omega)).trans i1
  refine r_dup rfl (by first | rfl | exact rf_cat _) ?_
  refine r_aload_n rfl rfl ?_
  (first | refine r_getIv rfl (by first | assumption | rfl) rfl (by assumption) ?_ | refine r_getI rfl (by first | assumption | rfl) rfl ?_)
  refine r_callI (As := [_]) rfl (by decide) rfl rfl rfl (Nat.le_of_ble_eq_true rfl) ⟨Nat.le_of_ble_eq_true rfl, Nat.le_of_ble_eq_true rfl⟩ (c_Line_init kn (by omega)) (kc' := 0) (ks' := 0) (by omega) (by omega) ?_
  rintro r τ ⟨rfl, rfl, hz1⟩
  have ez : h_z (n_O σ 4) = h_z σ + 1 := rfl
  have hn : Ln (w_P (n_A (n_O σ 4) 20 xs.length) 192 (h_z σ) (some (h_z (n_O σ 4)))) (h_z σ) xs.length [] := by
    refine ⟨?_, ?_, ?_, ?_, ?_, by simp, by omega, fun i hi => by simp at hi⟩
    · show u_1 (u_1 (h_K σ) (h_z σ) 4) (h_z σ + 1) 20 (h_z σ) = 4
      rw [u1_n _ _ (by omega), u1_s]
    · exact u2_s _ _ _ _
    · show (if h_z σ = h_z σ then 0 else _) = _
      rw [if_pos rfl]
      rfl
    · exact u1_s _ _ _
    · exact u1_s _ _ _
  have hnf : NF σ (w_P (n_A (n_O σ 4) 20 xs.length) 192 (h_z σ) (some (h_z (n_O σ 4)))) 2 := by
    refine ⟨rfl, fun q hq => ⟨?_, fun f => ?_, fun f => ?_, ?_, ?_, ?_⟩⟩
    · show u_1 (u_1 (h_K σ) (h_z σ) 4) (h_z σ + 1) 20 q = _
      rw [u1_n _ _ (by omega), u1_n _ _ (by omega)]
    · show (if q = h_z σ then 0 else _) = _
      rw [if_neg (by omega)]
    · show u_2 (fun f a => if a = h_z σ then none else h_P σ f a) 192 (h_z σ) _ f q = _
      rw [u2_n2 _ _ (by omega), if_neg (by omega)]
    · show u_1 (h_L σ) (h_z σ + 1) _ q = _
      rw [u1_n _ _ (by omega)]
    · show u_1 (h_X σ) (h_z σ + 1) _ q = _
      rw [u1_n _ _ (by omega)]
    · show u_1 (h_Y σ) (h_z σ + 1) _ q = _
      rw [u1_n _ _ (by omega)]
  generalize w_P (n_A (n_O σ 4) 20 xs.length) 192 (h_z σ) (some (h_z (n_O σ 4))) = ρ at hn hnf
  have g : Ln ρ a cap xs := by
    obtain ⟨q1, q2, q3, q4, q5, q6⟩ := hnf.2 a (by omega)
    obtain ⟨r1, r2, r3, r4, r5, r6⟩ := hnf.2 (a + 1) (by omega)
    exact ⟨q1.trans k1, (q3 192).trans p1, (q2 193).trans i1, r1.trans k2, r4.trans l1, hle, hcap, fun i hi => by rw [r5]; exact hx i hi⟩
  refine r_astore_n rfl (by decide) ?_
  refine r_aload_n rfl rfl ?_
  refine r_aload_n rfl rfl ?_
  refine r_callV (As := [_]) rfl (by decide) rfl hn.1 rfl rfl (Nat.le_of_ble_eq_true rfl) ⟨Nat.le_of_ble_eq_true rfl, Nat.le_of_ble_eq_true rfl⟩ (c_putLine hn g (by simp)) (kc' := 0) (ks' := 0) (by omega) (by omega) (by decide) ?_
  rintro r τ ⟨rfl, g1, f1⟩
  refine r_aload_n rfl rfl ?_
  exact r_aret rfl rfl ⟨rfl, by simpa using g1, hnf.LF (by omega) f1⟩
end LC
