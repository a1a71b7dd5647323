/-! ===== the class: range ===== -/
section NK
variable {l : Launch} {D : DD} {σ : Hp} {c B : Nat} {ow ad : Nat → Nat} {S : Sp}
theorem CFm.pre {ow' : Nat → Nat} {σ1 ρ : Hp} (h : Fm ow cAI cAP cAR σ σ1) (g : CFm ow ow' σ1 ρ) : CFm ow ow' σ ρ := ⟨h.tr g.1, fun a ha => g.2 a (by have := h.1; omega)⟩
/-- those of kind k from place a up to place m -/
def rnF (S : Sp) (k a m : Nat) : List Nat := (((ordT (s_T S)).drop a).take (m - a)).filter (fun x => decide (s_k S x = k))
theorem rnF_s {k a m x : Nat} (ha : a ≤ m) (hx : (ordT (s_T S))[m]? = some x) : rnF S k a (m + 1) = rnF S k a m ++ (if s_k S x = k then [x] else []) := by
  have hl := getE_lt hx
  unfold rnF
  have e1 : ((ordT (s_T S)).drop a).take (m + 1 - a) = ((ordT (s_T S)).drop a).take (m - a) ++ [x] := by
    have hl2 : m - a < ((ordT (s_T S)).drop a).length := by rw [List.length_drop]; omega
    rw [show m + 1 - a = m - a + 1 by omega, List.take_succ_eq_append_getElem hl2]
    congr 2
    rw [List.getElem_drop]
    have : (ordT (s_T S))[a + (m - a)]? = some x := by rw [show a + (m - a) = m by omega]; exact hx
    rw [List.getElem?_eq_getElem (by omega)] at this
    exact Option.some.inj this
  rw [e1, List.filter_append, List.filter_cons]
  by_cases e : s_k S x = k
  · rw [if_pos (decide_eq_true e), if_pos e]; rfl
  · rw [if_neg (by rw [decide_eq_false e]; decide), if_neg e]; rfl
set_option maxHeartbeats 2000000 in
theorem c_NK_range {i k a b : Int32} (g0 : RC ow σ c ad B S) : Cn l D m_NK_range 2 18 [va_rf (some c), .int i, .int k, .int a, .int b] σ (fun r τ => r = some (.int (a_range S i k a b).1) ∧ ∃ ow' ad', RC ow' τ c ad' (B + 200) (a_range S i k a b).2 ∧ CFm ow ow' σ τ) := by
  have k0 : h_K σ c = 11 := g0.2.1.2.1 (0, 11) (by decide)
  have k3 : h_K σ (c + 3) = 10 := g0.2.1.2.1 (3, 10) (by decide)
  have k35 : h_K σ (c + 35) = 6 := g0.2.1.2.1 (35, 6) (by decide)
  have p641 : h_P σ 641 c = some (c + 3) := g0.2.1.2.2.1 (641, 0, 3) (by decide)
  have p642 : h_P σ 642 c = some (c + 35) := g0.2.1.2.2.1 (642, 0, 35) (by decide)
  have hS := g0.1
  have hW := hS.wf
  have hn := hS.1
  have hll := ord_len hW
  generalize hQ : (fun (r : Option Value) (τ : Hp) => r = some (.int (a_range S i k a b).1) ∧ ∃ ow' ad', RC ow' τ c ad' (B + 200) (a_range S i k a b).2 ∧ CFm ow ow' σ τ) = Q
  refine Cn.of (by decide) (by repeat (first | exact ca_0 | refine ca_i ?_ | refine ca_r ?_)) (Nat.le_of_ble_eq_true rfl) ?_
  refine r_aload_n rfl rfl ?_
  (first | refine r_getPv rfl (by first | assumption | rfl) rfl (by assumption) ?_ | refine r_getP rfl (by first | assumption | rfl) rfl ?_)
  refine r_iload_n rfl rfl ?_
  refine r_callV (As := [_]) rfl (by decide) rfl k3 rfl rfl (Nat.le_of_ble_eq_true rfl) ⟨Nat.le_of_ble_eq_true rfl, Nat.le_of_ble_eq_true rfl⟩ (c_thereAs g0.2.1 g0.2.2.1 g0.2.2.2.1 hS) (kc' := 2) (ks' := 18) (by omega) (by omega) (by decide) ?_
  rintro r σ ⟨rfl, rfl⟩
  refine r_astore rfl (by decide) ?_
  refine r_aload_n rfl rfl ?_
  (first | refine r_getPv rfl (by first | assumption | rfl) rfl (by assumption) ?_ | refine r_getP rfl (by first | assumption | rfl) rfl ?_)
  refine r_callV (As := []) rfl (by decide) rfl k35 rfl rfl (Nat.le_of_ble_eq_true rfl) ⟨Nat.le_of_ble_eq_true rfl, Nat.le_of_ble_eq_true rfl⟩ (c_renew g0) (kc' := 2) (ks' := 18) (by omega) (by omega) (by decide) ?_
  rintro r σ1 ⟨rfl, g, f1, -⟩
  have fw : Fm ow cAI cAP cAR σ σ1 := f1.wide (by decide) (by decide) (by decide)
  have z1 := g.1.2.1.1
  have k01 : h_K σ1 c = 11 := g.1.2.1.2.1 (0, 11) (by decide)
  have k31 : h_K σ1 (c + 3) = 10 := g.1.2.1.2.1 (3, 10) (by decide)
  have p6411 : h_P σ1 641 c = some (c + 3) := g.1.2.1.2.2.1 (641, 0, 3) (by decide)
  have no : ∀ (u v w x y : Option Value), a_range S i k a b = (-2, S) → Gm l D m_NK_range 2 18 Q 60 [some (va_rf (some c)), some (.int i), some (.int k), some (.int a), some (.int b), u, v, w, x, y] [] σ1 2 18 := by
    intro u v w x y e
    refine r_bipush (v := -2) rfl (by decide) ?_
    refine r_iret rfl rfl ?_
    rw [← hQ]
    show _ = some (Value.int (a_range S i k a b).1) ∧ ∃ ow' ad', RC ow' σ1 c ad' (B + 200) (a_range S i k a b).2 ∧ _
    rw [e]
    exact ⟨rfl, g.1.fin f1⟩
  refine r_aload_n rfl rfl ?_
  (first | refine r_getPv rfl (by first | assumption | rfl) rfl (by assumption) ?_ | refine r_getP rfl (by first | assumption | rfl) rfl ?_)
  refine r_iload_n rfl rfl ?_
  refine r_callV (As := [_]) rfl (by decide) rfl k31 rfl rfl (Nat.le_of_ble_eq_true rfl) ⟨Nat.le_of_ble_eq_true rfl, Nat.le_of_ble_eq_true rfl⟩ (c_placedAt g) (kc' := 2) (ks' := 18) (by omega) (by omega) (by decide) ?_
  rintro r σ1 ⟨rfl, rfl⟩
  refine r_astore rfl (by decide) ?_
  refine r_aload rfl rfl ?_
  cases hth : thI S i with
  | none => exact r_ifnull rfl (fun _ => no _ _ _ _ _ (by unfold a_range; rw [hth])) (fun _ hq => by cases hq)
  | some x =>
    obtain ⟨hxn, hxt, rfl⟩ := thI_some hS hth
    refine r_ifnull rfl (fun hq => by cases hq) (fun _ _ => ?_)
    refine r_aload_n rfl rfl ?_
    (first | refine r_getPv rfl (by first | assumption | rfl) rfl (by assumption) ?_ | refine r_getP rfl (by first | assumption | rfl) rfl ?_)
    refine r_iload_n rfl rfl ?_
    refine r_callV (As := [_]) rfl (by decide) rfl k31 rfl rfl (Nat.le_of_ble_eq_true rfl) ⟨Nat.le_of_ble_eq_true rfl, Nat.le_of_ble_eq_true rfl⟩ (c_formOf g.1.2.1) (kc' := 2) (ks' := 18) (by omega) (by omega) (by decide) ?_
    rintro r σ1 ⟨rfl, rfl⟩
    cases hki : kiI k with
    | none => exact r_ifnull rfl (fun _ => no _ _ _ _ _ (by unfold a_range; rw [hth, hki])) (fun _ hq => by cases hq)
    | some k' =>
      obtain ⟨rfl, hk6⟩ := kiI_some hki
      have ea : a_range S (nI x) (nI k') a b = if (decide (0 ≤ a) && decide (a ≤ b) && decide (b < nI (ordT (s_T S)).length)) = true then (if 2 ≤ (rngL S k' a.toNatClampNeg b.toNatClampNeg).length ∧ (rngL S k' a.toNatClampNeg b.toNatClampNeg).length ≤ 12 then tellS S (x, 1, k', 0, rngL S k' a.toNatClampNeg b.toNatClampNeg) else (-2, S)) else (-2, S) := by
        unfold a_range
        rw [hth, hki]
      refine r_ifnull rfl (fun hq => by cases hq) (fun _ _ => ?_)
      refine r_aload rfl rfl ?_
      by_cases ha0 : a < 0
      · rw [if_pos ha0]
        refine r_ifnull rfl (fun _ => ?_) (fun _ hq => by cases hq)
        have := no (some (va_rf (some (ad x)))) (some (va_rf none)) none none none (by rw [ea, if_neg]; rw [decide_eq_false (p := (0 : Int32) ≤ a) (fun q => absurd ha0 (Int32.not_lt.mpr q)), Bool.false_and, Bool.false_and]; decide)
        exact this
      obtain ⟨a', ha', rfl⟩ := nI_of ha0
      rw [if_neg ha0, nI_clamp ha']
      rw [nI_clamp ha', decide_eq_true (nI_pos' ha'), Bool.true_and] at ea
      cases hxa : (ordT (s_T S))[a']? with
      | none =>
        refine r_ifnull rfl (fun _ => ?_) (fun _ hq => by cases hq)
        have hla : (ordT (s_T S)).length ≤ a' := List.getElem?_eq_none_iff.mp hxa
        refine no (some (va_rf (some (ad x)))) (some (va_rf none)) none none none ?_
        rw [ea, if_neg]
        intro q
        rw [Bool.and_eq_true] at q
        have q1 := of_decide_eq_true q.1
        have q2 := of_decide_eq_true q.2
        exact absurd (Int32.lt_of_le_of_lt q1 q2) (nI_nlt (by omega) (by omega))
      | some y0 =>
        refine r_ifnull rfl (fun hq => by cases hq) (fun _ _ => ?_)
        have hla := getE_lt hxa
        refine r_aload_n rfl rfl ?_
        (first | refine r_getPv rfl (by first | assumption | rfl) rfl (by assumption) ?_ | refine r_getP rfl (by first | assumption | rfl) rfl ?_)
        refine r_iload rfl rfl ?_
        refine r_callV (As := [_]) rfl (by decide) rfl k31 rfl rfl (Nat.le_of_ble_eq_true rfl) ⟨Nat.le_of_ble_eq_true rfl, Nat.le_of_ble_eq_true rfl⟩ (c_placedAt g) (kc' := 2) (ks' := 18) (by omega) (by omega) (by decide) ?_
        rintro r σ1 ⟨rfl, rfl⟩
        by_cases hb0 : b < 0
        · rw [if_pos hb0]
          refine r_ifnonnull rfl (fun _ hq => by cases hq) (fun _ => ?_)
          refine no (some (va_rf (some (ad x)))) (some (va_rf (some (ad y0)))) none none none ?_
          rw [ea, if_neg]
          intro q
          rw [Bool.and_eq_true] at q
          have q1 := of_decide_eq_true q.1
          exact absurd (Int32.lt_of_le_of_lt q1 hb0) (nI_pos (by omega))
        obtain ⟨b', hb', rfl⟩ := nI_of hb0
        rw [if_neg hb0, nI_clamp hb']
        rw [nI_clamp hb'] at ea
        cases hxb : (ordT (s_T S))[b']? with
        | none =>
          have hlb : (ordT (s_T S)).length ≤ b' := List.getElem?_eq_none_iff.mp hxb
          refine r_ifnonnull rfl (fun _ hq => by cases hq) (fun _ => ?_)
          refine no (some (va_rf (some (ad x)))) (some (va_rf (some (ad y0)))) none none none ?_
          rw [ea, if_neg]
          intro q
          rw [Bool.and_eq_true] at q
          exact absurd (of_decide_eq_true q.2) (nI_nlt (by omega) (by omega))
        | some y1 =>
          have hlb := getE_lt hxb
          refine r_ifnonnull rfl (fun _ _ => ?_) (fun hq => by cases hq)
          rw [decide_eq_true (nI_lt hlb (by omega)), Bool.and_true] at ea
          refine r_new (kc := 1) (ks := 12) rfl (fun _ => ?_) |> G.less (by omega) (by show 12 + 6 ≤ _; omega)
          show Gm l D m_NK_range 2 18 Q 66 [some (va_rf (some c)), some (.int (nI x)), some (.int (nI k')), some (.int (nI a')), some (.int (nI b')), some (va_rf (some (ad x))), some (va_rf (some (ad y0))), none, none, none] [va_rf (some (h_z σ1))] (n_O σ1 5) 1 12
          refine r_dup rfl (by first | rfl | exact rf_cat _) ?_
          refine r_iconst (v := nI 1) rfl (by decide) ?_
          refine r_aload rfl rfl ?_
          refine r_iload_n rfl rfl ?_
          refine r_bipush (v := nI 12) rfl (by decide) ?_
          refine r_null rfl ?_
          refine r_callI (As := [_, _, _, _, _]) rfl (by decide) rfl rfl rfl (Nat.le_of_ble_eq_true rfl) ⟨Nat.le_of_ble_eq_true rfl, Nat.le_of_ble_eq_true rfl⟩ (c_Mention_init (ow := ow) (k := nI 1) (i := ad x) (km := nI k') (m' := 12) (fz := none) (by decide)) (kc' := 0) (ks' := 0) (by omega) (by omega) ?_
          rintro r τ0 ⟨rfl, hb0'⟩
          -- the end of the loop
          have fin : ∀ (m : Nat) (τ : Hp) (w : Option Value), a' ≤ m → (m = b' + 1 ∨ b' < a' ∧ m = a') → MB ow σ1 τ 12 (nI 1) (ad x) (nI k') none (((rnF S k' a' m).take 12).map ad) → Gm l D m_NK_range 2 18 Q 130 [some (va_rf (some c)), some (.int (nI x)), some (.int (nI k')), some (.int (nI a')), some (.int (nI b')), some (va_rf (some (ad x))), some (va_rf (some (ad y0))), some (va_rf (some (h_z σ1))), some (.int (nI (rnF S k' a' m).length)), w] [] τ 0 0 := by
            intro m τ w ham hm hmb
            have hrl : (rnF S k' a' m).length ≤ 120 := by
              have h1 : (rnF S k' a' m).length ≤ (((ordT (s_T S)).drop a').take (m - a')).length := List.length_filter_le _ _
              have h2 := List.length_take_le (m - a') ((ordT (s_T S)).drop a')
              rw [List.length_take, List.length_drop] at h1
              omega
            have out : a_range S (nI x) (nI k') (nI a') (nI b') = (-2, S) → Gm l D m_NK_range 2 18 Q 143 [some (va_rf (some c)), some (.int (nI x)), some (.int (nI k')), some (.int (nI a')), some (.int (nI b')), some (va_rf (some (ad x))), some (va_rf (some (ad y0))), some (va_rf (some (h_z σ1))), some (.int (nI (rnF S k' a' m).length)), w] [] τ 0 0 := by
              intro e
              refine r_bipush (v := -2) rfl (by decide) ?_
              refine r_goto rfl ?_
              refine r_iret rfl rfl ?_
              rw [← hQ]
              show _ = some (Value.int (a_range S (nI x) (nI k') (nI a') (nI b')).1) ∧ ∃ ow' ad', RC ow' τ c ad' (B + 200) (a_range S (nI x) (nI k') (nI a') (nI b')).2 ∧ _
              rw [e]
              refine ⟨rfl, ow, ad, (g.1.still hmb.1).more (by omega), fw.tr (hmb.1.wide (fun f q => by cases q) (fun f q => by cases q) (fun f q => by cases q)), fun _ _ => rfl⟩
            have er : a' ≤ b' → rnF S k' a' m = rngL S k' a' b' := by
              intro h
              have : m = b' + 1 := by omega
              rw [this]
              rfl
            have e0 : b' < a' → (rnF S k' a' m).length = 0 := by
              intro h
              have : m - a' = 0 := by omega
              unfold rnF
              rw [this]
              rfl
            refine r_iload rfl rfl ?_
            refine r_iconst (v := nI 2) rfl (by decide) ?_
            refine r_ltN rfl (by omega) (by omega) (fun q => out ?_) (fun q1 => ?_)
            · rw [ea]
              by_cases hab : a' ≤ b'
              · rw [if_pos (decide_eq_true (nI_le hab (by omega))), if_neg (fun w => by rw [← er hab] at w; omega)]
              · rw [if_neg]
                intro w
                exact absurd (of_decide_eq_true w) (Int32.not_le.mpr (nI_lt (by omega) (by omega)))
            · have hab : a' ≤ b' := by
                rcases Nat.lt_or_ge b' a' with w | w
                · have := e0 w; omega
                · exact w
              rw [if_pos (decide_eq_true (nI_le hab (by omega))), ← er hab] at ea
              refine r_iload rfl rfl ?_
              refine r_bipush (v := nI 12) rfl (by decide) ?_
              refine r_leN rfl (by omega) (by omega) (fun q2 => ?_) (fun q2 => out ?_)
              · rw [if_pos ⟨q1, q2⟩] at ea
                have hz : ∀ z ∈ rnF S k' a' m, z < s_n S ∧ s_k S z = k' := by
                  intro z hz
                  unfold rnF at hz
                  obtain ⟨h1, h2⟩ := List.mem_filter.mp hz
                  have h3 := List.mem_of_mem_drop (List.mem_of_mem_take h1)
                  exact ⟨hW.h_lt ((ord_mem hW).mp h3), of_decide_eq_true h2⟩
                have k0t : h_K τ c = 11 := by rw [(hmb.1.2 c (by omega)).1]; exact k01
                have et12 : (rnF S k' a' m).take 12 = rnF S k' a' m := List.take_of_length_le q2
                rw [et12] at hmb
                refine r_aload_n rfl rfl ?_
                refine r_aload rfl rfl ?_
                refine r_callV (As := [_]) rfl (by decide) rfl k0t rfl rfl (Nat.le_of_ble_eq_true rfl) ⟨Nat.le_of_ble_eq_true rfl, Nat.le_of_ble_eq_true rfl⟩ (c_keepM (q := (x, 1, k', 0, rnF S k' a' m)) g.1 hmb (fun h => hS.m h ⟨hxn, by decide, (fun e => by cases e), fun _ => hk6, (fun e => by cases e), (fun e => by cases e), (fun e => by cases e), (fun e => absurd rfl e), q2, hz⟩) rfl rfl (fun e => by rcases e with e | e <;> cases e) (fun _ => rfl) (fun e => by cases e) rfl (fun j hj => rfl)) (kc' := 0) (ks' := 0) (by omega) (by omega) (by decide) ?_
                rintro r ρ ⟨rfl, ow', ad', h1, h2⟩
                refine r_iret rfl rfl ?_
                rw [← hQ]
                show _ = some (Value.int (a_range S (nI x) (nI k') (nI a') (nI b')).1) ∧ ∃ ow' ad', RC ow' ρ c ad' (B + 200) (a_range S (nI x) (nI k') (nI a') (nI b')).2 ∧ _
                rw [ea]
                exact ⟨rfl, ow', ad', h1, h2.pre fw⟩
              · rw [ea, if_neg (fun w => by omega)]
          have loop : ∀ (d m : Nat) (τ : Hp), m + d = (ordT (s_T S)).length → a' ≤ m → (m ≤ b' + 1 ∨ m = a') → MB ow σ1 τ 12 (nI 1) (ad x) (nI k') none (((rnF S k' a' m).take 12).map ad) → Gm l D m_NK_range 2 18 Q 86 [some (va_rf (some c)), some (.int (nI x)), some (.int (nI k')), some (.int (nI a')), some (.int (nI b')), some (va_rf (some (ad x))), some (va_rf (some (ad y0))), some (va_rf (some (h_z σ1))), some (.int (nI (rnF S k' a' m).length)), some (va_rf (((ordT (s_T S))[m]?).map ad))] [] τ 0 0 := by
            intro d
            induction d with
            | zero =>
              intro m τ hm h1 h2 h3
              rw [List.getElem?_eq_none (by omega)]
              refine r_aload rfl rfl ?_
              refine r_ifnull rfl (fun _ => ?_) (fun _ hq => by cases hq)
              exact fin m τ _ h1 (by omega) h3
            | succ d ih =>
              intro m τ hm h1 h2 h3
              obtain ⟨y, hy⟩ : ∃ y, (ordT (s_T S))[m]? = some y := ⟨_, List.getElem?_eq_getElem (by omega)⟩
              obtain ⟨hml, -, -, hyn, -⟩ := ord_at hS hy
              have hylt := TN.lt g.1.2.1 g.1.2.2.1 (Or.inl hyn)
              obtain ⟨v1, -, v3, v4, -⟩ := h3.1.2 (ad y) hylt
              have ky : h_K τ (ad y) = 9 := by rw [v1]; exact g.1.2.2.2.1.1 y (Or.inl hyn)
              have i521 : h_I τ 521 (ad y) = nI m := by rw [v3 521 (fun q => by cases q) (fun e => by cases e)]; exact (g.2.2.2 m y hy).1
              have i513 : h_I τ 513 (ad y) = nI (s_k S y) := by rw [v3 513 (fun q => by cases q) (fun e => by cases e)]; exact (g.1.2.2.1.2.2.2 y hyn).2.2.2.2.1
              have p520 : h_P τ 520 (ad y) = ((ordT (s_T S))[m + 1]?).map ad := by rw [v4 520 (fun q => by cases q)]; exact g.nx.2 m y hy
              have hy6 := hS.2.1 y hyn
              rw [hy]
              refine r_aload rfl rfl ?_
              refine r_ifnull rfl (fun hq => by cases hq) (fun _ _ => ?_)
              show Gm l D m_NK_range 2 18 Q 91 [some (va_rf (some c)), some (.int (nI x)), some (.int (nI k')), some (.int (nI a')), some (.int (nI b')), some (va_rf (some (ad x))), some (va_rf (some (ad y0))), some (va_rf (some (h_z σ1))), some (.int (nI (rnF S k' a' m).length)), some (va_rf (some (ad y)))] [] τ 0 0
              refine r_aload rfl rfl ?_
              (first | refine r_getIv rfl (by first | assumption | rfl) rfl (by assumption) ?_ | refine r_getI rfl (by first | assumption | rfl) rfl ?_)
              refine r_iload rfl rfl ?_
              refine r_gtN rfl (by omega) (by omega) (fun q => fin m τ _ h1 (by omega) h3) (fun q => ?_)
              have es := rnF_s (k := k') h1 hy
              refine r_aload rfl rfl ?_
              (first | refine r_getIv rfl (by first | assumption | rfl) rfl (by assumption) ?_ | refine r_getI rfl (by first | assumption | rfl) rfl ?_)
              refine r_iload_n rfl rfl ?_
              refine r_neN rfl (by omega) (by omega) (fun q2 => ?_) (fun q2 => ?_)
              · rw [if_neg q2, List.append_nil] at es
                refine r_aload rfl rfl ?_
                (first | refine r_getPv rfl (by first | assumption | rfl) rfl (by assumption) ?_ | refine r_getP rfl (by first | assumption | rfl) rfl ?_)
                refine r_astore rfl (by decide) ?_
                refine r_goto rfl ?_
                have := ih (m + 1) τ (by omega) (by omega) (by omega) (by rw [es]; exact h3)
                rw [es] at this
                exact this
              · rw [if_pos q2] at es
                have kA := h3.2.2.1
                refine r_aload rfl rfl ?_
                refine r_aload rfl rfl ?_
                have cont : ∀ ρ, MB ow σ1 ρ 12 (nI 1) (ad x) (nI k') none (((rnF S k' a' (m + 1)).take 12).map ad) → Gm l D m_NK_range 2 18 Q 117 [some (va_rf (some c)), some (.int (nI x)), some (.int (nI k')), some (.int (nI a')), some (.int (nI b')), some (va_rf (some (ad x))), some (va_rf (some (ad y0))), some (va_rf (some (h_z σ1))), some (.int (nI (rnF S k' a' m).length)), some (va_rf (some (ad y)))] [] ρ 0 0 := by
                  intro ρ hρ
                  obtain ⟨u1, -, u3, u4, -⟩ := hρ.1.2 (ad y) hylt
                  have kyr : h_K ρ (ad y) = 9 := by rw [u1]; exact g.1.2.2.2.1.1 y (Or.inl hyn)
                  have p520r : h_P ρ 520 (ad y) = ((ordT (s_T S))[m + 1]?).map ad := by rw [u4 520 (fun q => by cases q)]; exact g.nx.2 m y hy
                  refine r_iinc rfl rfl (nI_inc _) ?_
                  refine r_aload rfl rfl ?_
                  (first | refine r_getPv rfl (by first | assumption | rfl) rfl (by assumption) ?_ | refine r_getP rfl (by first | assumption | rfl) rfl ?_)
                  refine r_astore rfl (by decide) ?_
                  refine r_goto rfl ?_
                  have := ih (m + 1) ρ (by omega) (by omega) (by omega) hρ
                  rw [es, List.length_append, List.length_singleton] at this
                  exact this
                by_cases hfl : (rnF S k' a' m).length < 12
                · have et : (rnF S k' a' m).take 12 = rnF S k' a' m := List.take_of_length_le (by omega)
                  rw [et] at h3
                  refine r_callV (As := [_]) rfl (by decide) rfl kA rfl rfl (Nat.le_of_ble_eq_true rfl) ⟨Nat.le_of_ble_eq_true rfl, Nat.le_of_ble_eq_true rfl⟩ (c_addMeant h3 (by rw [List.length_map]; exact hfl) ky) (kc' := 0) (ks' := 0) (by omega) (by omega) (by decide) ?_
                  rintro r ρ ⟨rfl, hb2, -⟩
                  refine cont ρ ?_
                  rw [es, List.take_of_length_le (by rw [List.length_append, List.length_singleton]; omega), List.map_append]
                  exact hb2
                · refine r_callV (As := [_]) rfl (by decide) rfl kA rfl rfl (Nat.le_of_ble_eq_true rfl) ⟨Nat.le_of_ble_eq_true rfl, Nat.le_of_ble_eq_true rfl⟩ (c_addMeant0 h3 (by rw [List.length_map, List.length_take]; omega)) (kc' := 0) (ks' := 0) (by omega) (by omega) (by decide) ?_
                  rintro r τ ⟨rfl, rfl⟩
                  refine cont τ ?_
                  rw [es, List.take_append_of_le_length (by omega)]
                  exact h3
          refine r_astore rfl (by decide) ?_
          refine r_iconst (v := nI 0) rfl (by decide) ?_
          refine r_istore rfl (by decide) ?_
          refine r_aload rfl rfl ?_
          refine r_astore rfl (by decide) ?_
          have em : rnF S k' a' a' = [] := by
            unfold rnF
            rw [Nat.sub_self]
            rfl
          have := loop ((ordT (s_T S)).length - a') a' τ0 (by omega) (Nat.le_refl _) (Or.inr rfl) (by rw [em]; exact hb0')
          rw [em, hxa] at this
          exact this
end NK
