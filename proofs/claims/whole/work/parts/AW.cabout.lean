/-! ===== the class: about, text, trouble ===== -/
section TL
variable {l : Launch} {D : DD} {σ : Hp} {c B : Nat} {ow ad : Nat → Nat} {S : Sp}
theorem gon_el (hS : SOk S) {q : Mn} (hq : q ∈ s_m S) : gonM S q = ((elM q).filter (fun x => decide (ldo (s_T S) x = none))).length := by
  unfold gonM elM
  by_cases h1 : q.2.1 = 0 ∨ q.2.1 = 4
  · rw [if_pos h1, if_pos h1, List.filter_cons]
    by_cases h2 : ldo (s_T S) q.2.2.1 = none
    · rw [if_pos h2, if_pos (decide_eq_true h2)]; rfl
    · rw [if_neg h2, if_neg (by rw [decide_eq_false h2]; decide)]; rfl
  · rw [if_neg h1, if_neg h1]
    by_cases h2 : q.2.1 = 1
    · rw [if_pos h2]; rfl
    · rw [if_neg h2]
      obtain ⟨i, k, f, e, m⟩ := q
      have : m = [] := (hS.2.2.2.2.2.2.2.2.2.1 i k f e m hq).2.2.2.2.2.2.2.1 h2
      show goN S m = _
      rw [this]
      rfl
theorem c_countGone {a : Nat} {q : Mn} (g : RC ow σ c ad B S) (hq : q ∈ s_m S) (hm : CM1 ow σ ad S a q) : Cn l D m_Mention_countGone 0 0 [va_rf (some a)] σ (fun r τ => r = some (.int (nI (gonM S q))) ∧ τ = σ) := by
  have hS := g.1
  obtain ⟨b, b1, b2, b3, b4, b5⟩ := hm.cl
  obtain ⟨e1, e2, e3, -, -⟩ := el_ok hS hq
  have ka : h_K σ a = 5 := hm.2.1
  generalize hQ : (fun (r : Option Value) (τ : Hp) => r = some (.int (nI (gonM S q))) ∧ τ = σ) = Q
  refine Cn.of (by decide) (by repeat (first | exact ca_0 | refine ca_i ?_ | refine ca_r ?_)) (Nat.le_of_ble_eq_true rfl) ?_
  have loop : ∀ (d j : Nat) (w5 : Option Value), j + d = mLen q → Gm l D m_Mention_countGone 0 0 Q 13 [some (va_rf (some a)), some (.int (nI (((elM q).take j).filter (fun x => decide (ldo (s_T S) x = none))).length)), some (va_rf (some b)), some (.int (nI (mLen q))), some (.int (nI j)), w5] [] σ 0 0 := by
    intro d
    induction d with
    | zero =>
      intro j w5 hj
      rw [List.take_of_length_le (by omega)]
      refine r_iload rfl rfl ?_
      refine r_iload_n rfl rfl ?_
      refine r_geN rfl (by omega) (by omega) (fun _ => ?_) (fun w => by omega)
      refine r_iload_n rfl rfl ?_
      refine r_iret rfl rfl ?_
      rw [← hQ, gon_el hS hq]
      exact ⟨rfl, rfl⟩
    | succ d ih =>
      intro j w5 hj
      have yb := b5 j (by omega)
      refine r_iload rfl rfl ?_
      refine r_iload_n rfl rfl ?_
      refine r_geN rfl (by omega) (by omega) (fun w => by omega) (fun _ => ?_)
      refine r_aload_n rfl rfl ?_
      refine r_iload rfl rfl ?_
      refine r_aald (t := 5) rfl b3 (by decide) rfl (by rw [b4]; omega) (by rw [b4]; omega) ?_
      rw [yb]
      refine r_astore rfl (by decide) ?_
      refine r_aload rfl rfl ?_
      cases hx : (elM q)[j]? with
      | none =>
        have hle : (elM q).length ≤ j := List.getElem?_eq_none_iff.mp hx
        have ih := ih (j + 1) (some (va_rf none)) (by omega)
        rw [List.take_of_length_le (by omega)] at ih ⊢
        refine r_ifnull rfl (fun _ => ?_) (fun _ hq => by cases hq)
        refine r_iinc rfl rfl (nI_inc _) ?_
        refine r_goto rfl ?_
        exact ih
      | some x =>
        have hxn := e1 x (List.mem_of_getElem? hx)
        have hjl := getE_lt hx
        have kx := g.2.2.2.1.1 x (Or.inl hxn)
        have ej : (elM q)[j] = x := by rw [List.getElem?_eq_getElem hjl] at hx; exact Option.some.inj hx
        have ih := ih (j + 1) (some (va_rf (some (ad x)))) (by omega)
        rw [List.take_succ_eq_append_getElem hjl, ej, List.filter_append, List.length_append, List.filter_cons] at ih
        refine r_ifnull rfl (fun hq => by cases hq) (fun _ _ => ?_)
        refine r_aload rfl rfl ?_
        refine r_callV (As := []) rfl (by decide) rfl kx rfl rfl (Nat.le_of_ble_eq_true rfl) ⟨Nat.le_of_ble_eq_true rfl, Nat.le_of_ble_eq_true rfl⟩ (c_leadTC g hxn) (kc' := 0) (ks' := 0) (by omega) (by omega) (by decide) ?_
        rintro r σ ⟨rfl, rfl⟩
        cases hld : ldo (s_T S) x with
        | none =>
          rw [hld, if_pos (decide_eq_true rfl)] at ih
          refine r_ifnonnull rfl (fun _ hq => by cases hq) (fun _ => ?_)
          refine r_iinc rfl rfl (nI_inc _) ?_
          refine r_iinc rfl rfl (nI_inc _) ?_
          refine r_goto rfl ?_
          exact ih
        | some y =>
          rw [hld, decide_eq_false (show ¬ some y = none from fun w => by cases w), if_neg (by decide)] at ih
          refine r_ifnonnull rfl (fun _ _ => ?_) (fun hq => by cases hq)
          refine r_iinc rfl rfl (nI_inc _) ?_
          refine r_goto rfl ?_
          exact ih
  refine r_iconst (v := nI 0) rfl (by decide) ?_
  refine r_istore_n rfl (by decide) ?_
  refine r_aload_n rfl rfl ?_
  (first | refine r_getPv rfl (by first | assumption | rfl) rfl (by assumption) ?_ | refine r_getP rfl (by first | assumption | rfl) rfl ?_)
  refine r_astore_n rfl (by decide) ?_
  refine r_aload_n rfl rfl ?_
  refine r_alen rfl (Or.inr (by rw [b3]; decide)) ?_
  rw [b4]
  refine r_istore_n rfl (by decide) ?_
  refine r_iconst (v := nI 0) rfl (by decide) ?_
  refine r_istore rfl (by decide) ?_
  exact loop (mLen q) 0 none (by omega)
theorem led_lt (hS : SOk S) {q : Mn} {y : Nat} (h : ledM S q = some y) : t_h (s_T S) y = true := by
  have hW := hS.wf
  unfold ledM at h
  by_cases h0 : q.2.1 = 0 ∨ q.2.1 = 4
  · rw [if_pos h0] at h; exact (ldo_lt hS h).2.1
  · rw [if_neg h0] at h
    by_cases h1 : q.2.1 = 1
    · rw [if_pos h1] at h
      exact (ord_mem hW).mp (List.mem_filter.mp (List.mem_of_head? h)).1
    · rw [if_neg h1] at h
      cases hd : ldo (s_T S) q.1 with
      | none => rw [hd] at h; cases h
      | some w =>
        rw [hd] at h
        have h : (if q.2.1 = 2 then nxK (fun x => nI (s_k S x)) (ordT (s_T S)) ((ordT (s_T S)).idxOf w) (nI q.2.2.1) else ltK (fun x => nI (s_k S x)) (ordT (s_T S)) (nI q.2.2.1) ((ordT (s_T S)).idxOf w)) = some y := h
        by_cases h2 : q.2.1 = 2
        · rw [if_pos h2] at h
          exact (ord_mem hW).mp (List.mem_of_mem_drop (List.mem_of_find?_eq_some h))
        · rw [if_neg h2] at h
          exact (ord_mem hW).mp (ltK_mem _ (Nat.le_of_lt (idx_at ((ord_mem hW).mpr (ldo_lt hS hd).2.1)).1) h)
/-- the texts that editions keep are plain -/
def EOk (S : Sp) : Prop := ∀ d, d ∈ s_e S → ∀ x td nm, d x = some (td, nm) → ∀ v ∈ td, v &&& 255 = v
theorem runT_asc {r : Nat} {b : Bool} {x y : List Int32} (hx : ∀ v ∈ x, v &&& 255 = v) (hy : ∀ v ∈ y, v &&& 255 = v) : ∀ v ∈ runT r b x y, v &&& 255 = v := by
  have c1 : ∀ v ∈ [b8 (nI 44), b8 (nI 32)], v &&& 255 = v := by decide
  have c2 : ∀ v ∈ [b8 (nI 32), b8 (nI 116), b8 (nI 111), b8 (nI 32)], v &&& 255 = v := by decide
  intro v hv
  unfold runT at hv
  rcases List.mem_append.mp hv with h | h
  · rcases List.mem_append.mp h with h | h
    · by_cases e : 0 < r
      · rw [if_pos e] at h; exact c1 v h
      · rw [if_neg e] at h; cases h
    · exact hx v h
  · by_cases e : b = true
    · rw [if_pos e] at h; cases h
    · rw [if_neg e] at h
      rcases List.mem_append.mp h with h | h
      · exact c2 v h
      · exact hy v h
theorem txR_asc (hS : SOk S) : ∀ (A : List (Nat × Nat)) (r : Nat), ∀ v ∈ txR S r A, v &&& 255 = v
  | [], _, v, h => by cases h
  | q :: A, r, v, h => by
    rcases List.mem_append.mp (show v ∈ runT r (decide (q.1 = q.2)) (n_n S q.1) (n_n S q.2) ++ txR S (r + 1) A from h) with h | h
    · exact runT_asc (n_asc hS _) (n_asc hS _) v h
    · exact txR_asc hS A (r + 1) v h
theorem lnM_asc (hS : SOk S) (hE : EOk S) {q : Mn} (hq : q ∈ s_m S) : ∀ v ∈ (lnM S q).1, v &&& 255 = v := by
  intro v hv
  unfold lnM at hv
  by_cases h1 : ldo (s_T S) q.1 = none
  · rw [if_pos h1] at hv; cases hv
  · rw [if_neg h1] at hv
    by_cases h4 : q.2.1 = 4
    · rw [if_pos h4] at hv
      have hv : v ∈ edT S q.2.2.2.1 q.2.2.1 := hv
      unfold edT at hv
      cases hd : (s_e S)[q.2.2.2.1]? with
      | none => rw [hd] at hv; cases hv
      | some d =>
        rw [hd] at hv
        have hv : v ∈ (match d q.2.2.1 with | none => [] | some t => t.1) := hv
        cases ht : d q.2.2.1 with
        | none => rw [ht] at hv; cases hv
        | some t =>
          rw [ht] at hv
          exact hE d (List.mem_of_getElem? hd) q.2.2.1 t.1 t.2 ht v hv
    · rw [if_neg h4] at hv
      cases hle : ledM S q with
      | none => rw [hle] at hv; cases hv
      | some y =>
        rw [hle] at hv
        have hv : v ∈ (if q.2.1 = 1 then (wpL (s_w S q.2.2.1) ++ txR S 0 (rns S (mtL S q.2.2.2.2)), (rns S (mtL S q.2.2.2.2)).length) else (tdT S y, 1)).1 := hv
        by_cases h2 : q.2.1 = 1
        · rw [if_pos h2] at hv
          rcases List.mem_append.mp hv with h | h
          · have hf6 : q.2.2.1 < 6 := by
              obtain ⟨i, k, f, e, m⟩ := q
              exact (hS.2.2.2.2.2.2.2.2.2.1 i k f e m hq).2.2.2.1 h2
            have hw := (hS.2.2.2.2.1 _ hf6).2
            unfold wpL at h
            by_cases e : (s_w S q.2.2.1).length = 0
            · rw [if_pos e] at h; cases h
            · rw [if_neg e] at h
              rcases List.mem_append.mp h with h | h
              · exact isL_asc (List.all_eq_true.mp hw v h)
              · rw [List.mem_singleton.mp h]; decide
          · exact txR_asc hS _ _ v h
        · rw [if_neg h2] at hv
          exact told_asc hS (hS.wf.h_lt (led_lt hS hle)) v hv
theorem RCd.out {τ : Hp} {B' : Nat} (g : RCd ow τ c ad B' S) (hB : B' ≤ B + 200) (h : Fm ow cAI cAP cAR σ τ) : ∃ ow' ad', RC ow' τ c ad' (B + 200) S ∧ CFm ow ow' σ τ := ⟨ow, ad, g.1.more hB, h, fun _ _ => rfl⟩
set_option maxHeartbeats 1000000 in
theorem c_NK_about {v w : Int32} (g : RC ow σ c ad B S) (hB : B < 2 ^ 30) : Cn l D m_NK_about 0 0 [va_rf (some c), .int v, .int w] σ (fun r τ => r = some (.int (a_about S v w)) ∧ ∃ ow' ad', RC ow' τ c ad' (B + 200) S ∧ CFm ow ow' σ τ) := by
  have hS := g.1
  have k0 : h_K σ c = 11 := g.2.1.2.1 (0, 11) (by decide)
  have k35 : h_K σ (c + 35) = 6 := g.2.1.2.1 (35, 6) (by decide)
  have p642 : h_P σ 642 c = some (c + 35) := g.2.1.2.2.1 (642, 0, 35) (by decide)
  generalize hQ : (fun (r : Option Value) (τ : Hp) => r = some (.int (a_about S v w)) ∧ ∃ ow' ad', RC ow' τ c ad' (B + 200) S ∧ CFm ow ow' σ τ) = Q
  refine Cn.of (by decide) (by repeat (first | exact ca_0 | refine ca_i ?_ | refine ca_r ?_)) (Nat.le_of_ble_eq_true rfl) ?_
  refine r_aload_n rfl rfl ?_
  refine r_iload_n rfl rfl ?_
  refine r_callV (As := [_]) rfl (by decide) rfl k0 rfl rfl (Nat.le_of_ble_eq_true rfl) ⟨Nat.le_of_ble_eq_true rfl, Nat.le_of_ble_eq_true rfl⟩ (c_mentionOf g) (kc' := 0) (ks' := 0) (by omega) (by omega) (by decide) ?_
  rintro r σ ⟨rfl, hmo⟩
  rcases hmo with ⟨hnone, rfl⟩ | ⟨q, a, hsome, hq, rfl, hm⟩
  · refine r_astore_n rfl (by decide) ?_
    refine r_aload_n rfl rfl ?_
    refine r_ifnonnull rfl (fun _ hq => by cases hq) (fun _ => ?_)
    refine r_bipush (v := -10) rfl (by decide) ?_
    refine r_iret rfl rfl ?_
    rw [← hQ]
    refine ⟨?_, ow, ad, g.more (by omega), CFm.rf _ _⟩
    unfold a_about
    rw [hnone]
  · refine r_astore_n rfl (by decide) ?_
    refine r_aload_n rfl rfl ?_
    refine r_ifnonnull rfl (fun _ _ => ?_) (fun hq => by cases hq)
    refine r_aload_n rfl rfl ?_
    (first | refine r_getPv rfl (by first | assumption | rfl) rfl (by assumption) ?_ | refine r_getP rfl (by first | assumption | rfl) rfl ?_)
    refine r_callV (As := []) rfl (by decide) rfl k35 rfl rfl (Nat.le_of_ble_eq_true rfl) ⟨Nat.le_of_ble_eq_true rfl, Nat.le_of_ble_eq_true rfl⟩ (c_renew g) (kc' := 0) (ks' := 0) (by omega) (by omega) (by decide) ?_
    rintro r σ1 ⟨rfl, g1, f1, -⟩
    have hm1 : CM1 ow σ1 ad S a q := hm.kp f1 (by decide) (by decide) (by decide) (fun _ _ => rfl) (fun _ => rfl)
    have fw : Fm ow cAI cAP cAR σ σ1 := f1.wide (by decide) (by decide) (by decide)
    have ka1 : h_K σ1 a = 5 := hm1.2.1
    have i256 : h_I σ1 256 a = nI q.2.1 := hm1.2.2.1
    have p257 : h_P σ1 257 a = some (ad q.1) := hm1.2.2.2.1
    have k01 : h_K σ1 c = 11 := g1.1.2.1.2.1 (0, 11) (by decide)
    have k391 : h_K σ1 (c + 39) = 8 := g1.1.2.1.2.1 (39, 8) (by decide)
    have p6471 : h_P σ1 647 c = some (c + 39) := g1.1.2.1.2.2.1 (647, 0, 39) (by decide)
    have p6511 : h_P σ1 651 c = some (c + 43) := g1.1.2.1.2.2.1 (651, 0, 43) (by decide)
    obtain ⟨-, -, -, hin, -⟩ := el_ok hS hq
    have kin := g1.1.2.2.2.1.1 q.1 (Or.inl hin)
    have ea : ∀ j, j < 2 ^ 31 → w = nI j → a_about S v w = a_abN S q j := by
      intro j hj e
      unfold a_about
      rw [hsome, e]
      show (if nI j < 0 then _ else a_abN S q (nI j).toNatClampNeg) = _
      rw [if_neg (nI_pos hj), nI_clamp hj]
    refine r_iload_n rfl rfl ?_
    rcases sw_in (w := w) 5 (by decide) with ⟨w1, w2⟩ | ⟨j, j1, hj⟩
    · refine r_tswOut rfl w1 (tgt := 122) (by decide) ?_
      refine r_bipush (v := -10) rfl (by decide) ?_
      refine r_iret rfl rfl ?_
      rw [← hQ]
      refine ⟨?_, g1.out (by omega) fw⟩
      rcases w2 with h0 | ⟨j, j1, j2, j3⟩
      · unfold a_about
        rw [hsome]
        show _ = some (Value.int (if w < 0 then -10 else _))
        rw [if_pos h0]
      · rw [ea j j2 j3]
        match j, j1 with
        | k + 6, _ => rfl
    · have ea := ea j (by omega) hj
      subst hj
      match j, j1 with
      | 0, _ =>
        refine r_tswIn rfl (by decide) (by decide) (off := 39) (by decide) (tgt := 60) (by decide) ?_
        refine r_aload_n rfl rfl ?_
        (first | refine r_getIv rfl (by first | assumption | rfl) rfl (by assumption) ?_ | refine r_getI rfl (by first | assumption | rfl) rfl ?_)
        refine r_iret rfl rfl ?_
        rw [← hQ]
        exact ⟨by rw [ea]; rfl, g1.out (by omega) fw⟩
      | 1, _ =>
        refine r_tswIn rfl (by decide) (by decide) (off := 44) (by decide) (tgt := 65) (by decide) ?_
        refine r_aload_n rfl rfl ?_
        (first | refine r_getPv rfl (by first | assumption | rfl) rfl (by assumption) ?_ | refine r_getP rfl (by first | assumption | rfl) rfl ?_)
        refine r_callV (As := []) rfl (by decide) rfl kin rfl rfl (Nat.le_of_ble_eq_true rfl) ⟨Nat.le_of_ble_eq_true rfl, Nat.le_of_ble_eq_true rfl⟩ (c_leadC g1.1 hin) (kc' := 0) (ks' := 0) (by omega) (by omega) (by decide) ?_
        rintro r σ1 ⟨rfl, rfl⟩
        refine r_callS (As := [_]) rfl (by decide) rfl rfl rfl (Nat.le_of_ble_eq_true rfl) ⟨Nat.le_of_ble_eq_true rfl, Nat.le_of_ble_eq_true rfl⟩ (c_numberOf (x := some (ld (s_T S) q.1)) g1.1 (fun z hz => by cases hz; exact (ld_lt hS.wf hin).1)) (kc' := 0) (ks' := 0) (by omega) (by omega) ?_
        rintro r σ1 ⟨rfl, rfl⟩
        refine r_iret rfl rfl ?_
        rw [← hQ]
        exact ⟨by rw [ea]; rfl, g1.out (by omega) fw⟩
      | 2, _ =>
        refine r_tswIn rfl (by decide) (by decide) (off := 55) (by decide) (tgt := 76) (by decide) ?_
        refine r_aload_n rfl rfl ?_
        (first | refine r_getPv rfl (by first | assumption | rfl) rfl (by assumption) ?_ | refine r_getP rfl (by first | assumption | rfl) rfl ?_)
        refine r_aload_n rfl rfl ?_
        refine r_callV (As := [_]) rfl (by decide) rfl k391 rfl rfl (Nat.le_of_ble_eq_true rfl) ⟨Nat.le_of_ble_eq_true rfl, Nat.le_of_ble_eq_true rfl⟩ (c_firstMeant g1 hB hq hm1) (kc' := 0) (ks' := 0) (by omega) (by omega) (by decide) ?_
        rintro r σ2 ⟨rfl, g2, f2, -⟩
        refine r_callS (As := [_]) rfl (by decide) rfl rfl rfl (Nat.le_of_ble_eq_true rfl) ⟨Nat.le_of_ble_eq_true rfl, Nat.le_of_ble_eq_true rfl⟩ (c_numberOf g2.1 (fun z hz => hS.wf.h_lt (led_lt hS hz))) (kc' := 0) (ks' := 0) (by omega) (by omega) ?_
        rintro r σ2 ⟨rfl, rfl⟩
        refine r_iret rfl rfl ?_
        rw [← hQ]
        exact ⟨by rw [ea]; rfl, g2.out (by omega) (fw.tr (f2.wide (by decide) (fun f q => by cases q) (fun f q => by cases q)))⟩
      | 3, _ =>
        refine r_tswIn rfl (by decide) (by decide) (off := 67) (by decide) (tgt := 88) (by decide) ?_
        refine r_aload_n rfl rfl ?_
        (first | refine r_getPv rfl (by first | assumption | rfl) rfl (by assumption) ?_ | refine r_getP rfl (by first | assumption | rfl) rfl ?_)
        refine r_aload_n rfl rfl ?_
        refine r_callV (As := [_]) rfl (by decide) rfl k391 rfl rfl (Nat.le_of_ble_eq_true rfl) ⟨Nat.le_of_ble_eq_true rfl, Nat.le_of_ble_eq_true rfl⟩ (c_countRuns g1 hB hq hm1) (kc' := 0) (ks' := 0) (by omega) (by omega) (by decide) ?_
        rintro r σ2 ⟨rfl, g2, f2⟩
        refine r_iret rfl rfl ?_
        rw [← hQ]
        exact ⟨by rw [ea]; rfl, g2.out (by omega) (fw.tr (f2.wide (by decide) (fun f q => by cases q) (fun f q => by cases q)))⟩
      | 4, _ =>
        refine r_tswIn rfl (by decide) (by decide) (off := 76) (by decide) (tgt := 97) (by decide) ?_
        refine r_aload_n rfl rfl ?_
        refine r_callV (As := []) rfl (by decide) rfl ka1 rfl rfl (Nat.le_of_ble_eq_true rfl) ⟨Nat.le_of_ble_eq_true rfl, Nat.le_of_ble_eq_true rfl⟩ (c_countGone g1.1 hq hm1) (kc' := 0) (ks' := 0) (by omega) (by omega) (by decide) ?_
        rintro r σ1 ⟨rfl, rfl⟩
        refine r_iret rfl rfl ?_
        rw [← hQ]
        exact ⟨by rw [ea]; rfl, g1.out (by omega) fw⟩
      | 5, _ =>
        refine r_tswIn rfl (by decide) (by decide) (off := 81) (by decide) (tgt := 102) (by decide) ?_
        refine r_aload_n rfl rfl ?_
        (first | refine r_getPv rfl (by first | assumption | rfl) rfl (by assumption) ?_ | refine r_getP rfl (by first | assumption | rfl) rfl ?_)
        refine r_aload_n rfl rfl ?_
        refine r_aload_n rfl rfl ?_
        (first | refine r_getPv rfl (by first | assumption | rfl) rfl (by assumption) ?_ | refine r_getP rfl (by first | assumption | rfl) rfl ?_)
        refine r_callV (As := [_, _]) rfl (by decide) rfl k391 rfl rfl (Nat.le_of_ble_eq_true rfl) ⟨Nat.le_of_ble_eq_true rfl, Nat.le_of_ble_eq_true rfl⟩ (c_writeText g1 hB hq hm1) (kc' := 0) (ks' := 0) (by omega) (by omega) (by decide) ?_
        rintro r σ2 ⟨rfl, g2, f2, l2⟩
        have k02 : h_K σ2 c = 11 := g2.1.2.1.2.1 (0, 11) (by decide)
        have k432 := l2.1
        have p6512 : h_P σ2 651 c = some (c + 43) := g2.1.2.1.2.2.1 (651, 0, 43) (by decide)
        have i193 := l2.2.2.1
        refine r_aload_n rfl rfl ?_
        (first | refine r_getPv rfl (by first | assumption | rfl) rfl (by assumption) ?_ | refine r_getP rfl (by first | assumption | rfl) rfl ?_)
        (first | refine r_getIv rfl (by first | assumption | rfl) rfl (by assumption) ?_ | refine r_getI rfl (by first | assumption | rfl) rfl ?_)
        refine r_iret rfl rfl ?_
        rw [← hQ]
        exact ⟨by rw [ea]; rfl, g2.out (by omega) (fw.tr (f2.wide (by decide) (fun f q => by cases q) (by decide)))⟩
      | j + 6, h9 => omega
theorem c_NK_text {v i : Int32} (g : RC ow σ c ad B S) (hB : B < 2 ^ 30) (hE : EOk S) : Cn l D m_NK_text 0 0 [va_rf (some c), .int v, .int i] σ (fun r τ => r = some (.int (a_text S v i)) ∧ ∃ ow' ad', RC ow' τ c ad' (B + 200) S ∧ CFm ow ow' σ τ) := by
  have hS := g.1
  have k0 : h_K σ c = 11 := g.2.1.2.1 (0, 11) (by decide)
  have k35 : h_K σ (c + 35) = 6 := g.2.1.2.1 (35, 6) (by decide)
  have p642 : h_P σ 642 c = some (c + 35) := g.2.1.2.2.1 (642, 0, 35) (by decide)
  generalize hQ : (fun (r : Option Value) (τ : Hp) => r = some (.int (a_text S v i)) ∧ ∃ ow' ad', RC ow' τ c ad' (B + 200) S ∧ CFm ow ow' σ τ) = Q
  refine Cn.of (by decide) (by repeat (first | exact ca_0 | refine ca_i ?_ | refine ca_r ?_)) (Nat.le_of_ble_eq_true rfl) ?_
  refine r_aload_n rfl rfl ?_
  refine r_iload_n rfl rfl ?_
  refine r_callV (As := [_]) rfl (by decide) rfl k0 rfl rfl (Nat.le_of_ble_eq_true rfl) ⟨Nat.le_of_ble_eq_true rfl, Nat.le_of_ble_eq_true rfl⟩ (c_mentionOf g) (kc' := 0) (ks' := 0) (by omega) (by omega) (by decide) ?_
  rintro r σ ⟨rfl, hmo⟩
  rcases hmo with ⟨hnone, rfl⟩ | ⟨q, a, hsome, hq, rfl, hm⟩
  · refine r_astore_n rfl (by decide) ?_
    refine r_aload_n rfl rfl ?_
    refine r_ifnonnull rfl (fun _ hq => by cases hq) (fun _ => ?_)
    refine r_iconst (v := -1) rfl (by decide) ?_
    refine r_iret rfl rfl ?_
    rw [← hQ]
    refine ⟨?_, ow, ad, g.more (by omega), CFm.rf _ _⟩
    unfold a_text
    rw [hnone]
  · refine r_astore_n rfl (by decide) ?_
    refine r_aload_n rfl rfl ?_
    refine r_ifnonnull rfl (fun _ _ => ?_) (fun hq => by cases hq)
    refine r_aload_n rfl rfl ?_
    (first | refine r_getPv rfl (by first | assumption | rfl) rfl (by assumption) ?_ | refine r_getP rfl (by first | assumption | rfl) rfl ?_)
    refine r_callV (As := []) rfl (by decide) rfl k35 rfl rfl (Nat.le_of_ble_eq_true rfl) ⟨Nat.le_of_ble_eq_true rfl, Nat.le_of_ble_eq_true rfl⟩ (c_renew g) (kc' := 0) (ks' := 0) (by omega) (by omega) (by decide) ?_
    rintro r σ1 ⟨rfl, g1, f1, -⟩
    have hm1 : CM1 ow σ1 ad S a q := hm.kp f1 (by decide) (by decide) (by decide) (fun _ _ => rfl) (fun _ => rfl)
    have fw : Fm ow cAI cAP cAR σ σ1 := f1.wide (by decide) (by decide) (by decide)
    have k01 : h_K σ1 c = 11 := g1.1.2.1.2.1 (0, 11) (by decide)
    have k391 : h_K σ1 (c + 39) = 8 := g1.1.2.1.2.1 (39, 8) (by decide)
    have p6471 : h_P σ1 647 c = some (c + 39) := g1.1.2.1.2.2.1 (647, 0, 39) (by decide)
    have p6511 : h_P σ1 651 c = some (c + 43) := g1.1.2.1.2.2.1 (651, 0, 43) (by decide)
    refine r_aload_n rfl rfl ?_
    (first | refine r_getPv rfl (by first | assumption | rfl) rfl (by assumption) ?_ | refine r_getP rfl (by first | assumption | rfl) rfl ?_)
    refine r_aload_n rfl rfl ?_
    refine r_aload_n rfl rfl ?_
    (first | refine r_getPv rfl (by first | assumption | rfl) rfl (by assumption) ?_ | refine r_getP rfl (by first | assumption | rfl) rfl ?_)
    refine r_callV (As := [_, _]) rfl (by decide) rfl k391 rfl rfl (Nat.le_of_ble_eq_true rfl) ⟨Nat.le_of_ble_eq_true rfl, Nat.le_of_ble_eq_true rfl⟩ (c_writeText g1 hB hq hm1) (kc' := 0) (ks' := 0) (by omega) (by omega) (by decide) ?_
    rintro r σ2 ⟨rfl, g2, f2, l2⟩
    have k02 : h_K σ2 c = 11 := g2.1.2.1.2.1 (0, 11) (by decide)
    have p6512 : h_P σ2 651 c = some (c + 43) := g2.1.2.1.2.2.1 (651, 0, 43) (by decide)
    refine r_aload_n rfl rfl ?_
    (first | refine r_getPv rfl (by first | assumption | rfl) rfl (by assumption) ?_ | refine r_getP rfl (by first | assumption | rfl) rfl ?_)
    refine r_iload_n rfl rfl ?_
    refine r_callV (As := [_]) rfl (by decide) rfl l2.1 rfl rfl (Nat.le_of_ble_eq_true rfl) ⟨Nat.le_of_ble_eq_true rfl, Nat.le_of_ble_eq_true rfl⟩ (c_byteAt l2) (kc' := 0) (ks' := 0) (by omega) (by omega) (by decide) ?_
    rintro r σ2 ⟨rfl, rfl⟩
    refine r_iret rfl rfl ?_
    rw [← hQ]
    refine ⟨?_, g2.out (by omega) (fw.tr (f2.wide (by decide) (fun f q => by cases q) (by decide)))⟩
    unfold a_text
    rw [hsome, by_at (lnM_asc hS hE hq) (by have := l2.2.2.2.2.2.1; omega)]
theorem lnM_2 {q : Mn} (h : q.2.1 ≠ 1) : (lnM S q).2 ≤ 1 := by
  unfold lnM
  by_cases h1 : ldo (s_T S) q.1 = none
  · rw [if_pos h1]; exact Nat.zero_le _
  · rw [if_neg h1]
    by_cases h4 : q.2.1 = 4
    · rw [if_pos h4]; exact Nat.le_refl _
    · rw [if_neg h4]
      cases ledM S q with
      | none => exact Nat.zero_le _
      | some y =>
        show (if q.2.1 = 1 then ((_ : List Int32), (_ : Nat)) else _).2 ≤ 1
        rw [if_neg h]
        exact Nat.le_refl _
theorem ln2_le (hS : SOk S) {q : Mn} (hq : q ∈ s_m S) : (lnM S q).2 ≤ 12 := by
  by_cases h : q.2.1 = 1
  · unfold lnM
    by_cases h1 : ldo (s_T S) q.1 = none
    · rw [if_pos h1]; exact Nat.zero_le _
    · rw [if_neg h1]
      by_cases h4 : q.2.1 = 4
      · omega
      · rw [if_neg h4]
        cases ledM S q with
        | none => exact Nat.zero_le _
        | some y =>
          show (if q.2.1 = 1 then ((_ : List Int32), (_ : Nat)) else _).2 ≤ 12
          rw [if_pos h]
          have e1 := rns_len S (mtL S q.2.2.2.2)
          have e2 := mtL_len hS (m := q.2.2.2.2)
          have e3 : q.2.2.2.2.length ≤ 12 := by
            obtain ⟨i, k, f, e, m⟩ := q
            exact (hS.2.2.2.2.2.2.2.2.2.1 i k f e m hq).2.2.2.2.2.2.2.2.1
          exact Nat.le_trans e1 (Nat.le_trans e2 e3)
  · have := lnM_2 (S := S) h
    omega
set_option maxHeartbeats 1000000 in
theorem c_NK_trouble (g0 : RC ow σ c ad B S) (hB : B < 2 ^ 29) : Cn l D m_NK_trouble 0 0 [va_rf (some c)] σ (fun r τ => r = some (.int (a_troub S)) ∧ ∃ ow' ad', RC ow' τ c ad' (B + 200) S ∧ CFm ow ow' σ τ) := by
  have hS := g0.1
  have hml := hS.2.2.2.2.2.2.2.1
  have k0 : h_K σ c = 11 := g0.2.1.2.1 (0, 11) (by decide)
  have k35 : h_K σ (c + 35) = 6 := g0.2.1.2.1 (35, 6) (by decide)
  have p642 : h_P σ 642 c = some (c + 35) := g0.2.1.2.2.1 (642, 0, 35) (by decide)
  generalize hQ : (fun (r : Option Value) (τ : Hp) => r = some (.int (a_troub S)) ∧ ∃ ow' ad', RC ow' τ c ad' (B + 200) S ∧ CFm ow ow' σ τ) = Q
  refine Cn.of (by decide) (by repeat (first | exact ca_0 | refine ca_i ?_ | refine ca_r ?_)) (Nat.le_of_ble_eq_true rfl) ?_
  refine r_aload_n rfl rfl ?_
  (first | refine r_getPv rfl (by first | assumption | rfl) rfl (by assumption) ?_ | refine r_getP rfl (by first | assumption | rfl) rfl ?_)
  refine r_callV (As := []) rfl (by decide) rfl k35 rfl rfl (Nat.le_of_ble_eq_true rfl) ⟨Nat.le_of_ble_eq_true rfl, Nat.le_of_ble_eq_true rfl⟩ (c_renew g0) (kc' := 0) (ks' := 0) (by omega) (by omega) (by decide) ?_
  rintro r σ1 ⟨rfl, g1, f1, -⟩
  have fw : Fm ow cAI cAP cAR σ σ1 := f1.wide (by decide) (by decide) (by decide)
  have loop : ∀ (d m : Nat) (τ : Hp) (w3 : Option Value), m + d = (s_m S).length → RCd ow τ c ad (B + m) S → Fm ow cAI cAP cAR σ τ → Gm l D m_NK_trouble 0 0 Q 11 [some (va_rf (some c)), some (.int (nI (((s_m S).take m).filter (trB S)).length)), some (.int (nI m)), w3] [] τ 0 0 := by
    intro d
    induction d with
    | zero =>
      intro m τ w3 hm g fr
      have k0t : h_K τ c = 11 := g.1.2.1.2.1 (0, 11) (by decide)
      have i646 : h_I τ 646 c = nI (s_m S).length := g.1.2.2.2.2.2.2.2.2.2.1.1
      refine r_iload_n rfl rfl ?_
      refine r_aload_n rfl rfl ?_
      (first | refine r_getIv rfl (by first | assumption | rfl) rfl (by assumption) ?_ | refine r_getI rfl (by first | assumption | rfl) rfl ?_)
      refine r_geN rfl (by omega) (by omega) (fun _ => ?_) (fun w => by omega)
      refine r_iload_n rfl rfl ?_
      refine r_iret rfl rfl ?_
      rw [← hQ]
      refine ⟨?_, g.out (by omega) fr⟩
      rw [List.take_of_length_le (by omega)]
      rfl
    | succ d ih =>
      intro m τ w3 hm g fr
      have k0t : h_K τ c = 11 := g.1.2.1.2.1 (0, 11) (by decide)
      have i646 : h_I τ 646 c = nI (s_m S).length := g.1.2.2.2.2.2.2.2.2.2.1.1
      have hml2 : m < (s_m S).length := by omega
      refine r_iload_n rfl rfl ?_
      refine r_aload_n rfl rfl ?_
      (first | refine r_getIv rfl (by first | assumption | rfl) rfl (by assumption) ?_ | refine r_getI rfl (by first | assumption | rfl) rfl ?_)
      refine r_geN rfl (by omega) (by omega) (fun w => by omega) (fun _ => ?_)
      refine r_aload_n rfl rfl ?_
      refine r_iload_n rfl rfl ?_
      refine r_callV (As := [_]) rfl (by decide) rfl k0t rfl rfl (Nat.le_of_ble_eq_true rfl) ⟨Nat.le_of_ble_eq_true rfl, Nat.le_of_ble_eq_true rfl⟩ (c_mentionOf g.1) (kc' := 0) (ks' := 0) (by omega) (by omega) (by decide) ?_
      rintro r τ ⟨rfl, hmo⟩
      have emn : mnI S (nI m) = (s_m S)[m]? := by
        unfold mnI
        rw [if_neg (nI_pos (by omega)), nI_clamp (by omega)]
      rcases hmo with ⟨hnone, rfl⟩ | ⟨q, a, hsome, hq, rfl, hmm⟩
      · rw [emn, List.getElem?_eq_getElem hml2] at hnone
        cases hnone
      · rw [emn] at hsome
        have eq : (s_m S)[m] = q := by rw [List.getElem?_eq_getElem hml2] at hsome; exact Option.some.inj hsome
        have etk : (((s_m S).take (m + 1)).filter (trB S)).length = (((s_m S).take m).filter (trB S)).length + (trB S q).toNat := by
          rw [List.take_succ_eq_append_getElem hml2, eq, List.filter_append, List.length_append, List.filter_cons]
          cases trB S q with
          | true => rfl
          | false => rfl
        obtain ⟨-, -, -, hin, hk5⟩ := el_ok hS hq
        have ka : h_K τ a = 5 := hmm.2.1
        have p257 : h_P τ 257 a = some (ad q.1) := hmm.2.2.2.1
        have kin := g.1.2.2.2.1.1 q.1 (Or.inl hin)
        have l12 := ln2_le hS hq
        have g12 : gonM S q ≤ 12 := by
          rw [gon_el hS hq]
          have e1 := List.length_filter_le (fun x => decide (ldo (s_T S) x = none)) (elM q)
          have e2 := el_ok hS hq
          omega
        have skip : ∀ (ρ : Hp), RCd ow ρ c ad (B + (m + 1)) S → Fm ow cAI cAP cAR σ ρ → trB S q = false → Gm l D m_NK_trouble 0 0 Q 61 [some (va_rf (some c)), some (.int (nI (((s_m S).take m).filter (trB S)).length)), some (.int (nI m)), some (va_rf (some a))] [] ρ 0 0 := by
          intro ρ q1 q2 q3
          have := ih (m + 1) ρ (some (va_rf (some a))) (by omega) q1 q2
          rw [etk, q3] at this
          refine r_iinc rfl rfl (nI_inc _) ?_
          refine r_goto rfl ?_
          exact this
        have hit : ∀ (ρ : Hp), RCd ow ρ c ad (B + (m + 1)) S → Fm ow cAI cAP cAR σ ρ → trB S q = true → Gm l D m_NK_trouble 0 0 Q 58 [some (va_rf (some c)), some (.int (nI (((s_m S).take m).filter (trB S)).length)), some (.int (nI m)), some (va_rf (some a))] [] ρ 0 0 := by
          intro ρ q1 q2 q3
          have := ih (m + 1) ρ (some (va_rf (some a))) (by omega) q1 q2
          rw [etk, q3] at this
          refine r_iinc rfl rfl (nI_inc _) ?_
          refine r_iinc rfl rfl (nI_inc _) ?_
          refine r_goto rfl ?_
          exact this
        have stay : RCd ow τ c ad (B + (m + 1)) S := ⟨g.1.more (by omega), g.2⟩
        refine r_astore_n rfl (by decide) ?_
        refine r_aload_n rfl rfl ?_
        refine r_ifnull rfl (fun hq => by cases hq) (fun _ _ => ?_)
        refine r_aload_n rfl rfl ?_
        (first | refine r_getPv rfl (by first | assumption | rfl) rfl (by assumption) ?_ | refine r_getP rfl (by first | assumption | rfl) rfl ?_)
        refine r_callV (As := []) rfl (by decide) rfl kin rfl rfl (Nat.le_of_ble_eq_true rfl) ⟨Nat.le_of_ble_eq_true rfl, Nat.le_of_ble_eq_true rfl⟩ (c_leadTC g.1 hin) (kc' := 0) (ks' := 0) (by omega) (by omega) (by decide) ?_
        rintro r τ ⟨rfl, rfl⟩
        cases hld : ldo (s_T S) q.1 with
        | none => exact r_ifnull rfl (fun _ => skip τ stay fr (by unfold trB; rw [hld, decide_eq_false (fun w => w rfl), Bool.false_and])) (fun _ hq => by cases hq)
        | some y =>
          have e1 : decide (ldo (s_T S) q.1 ≠ none) = true := by rw [hld]; exact decide_eq_true (fun w => by cases w)
          refine r_ifnull rfl (fun hq => by cases hq) (fun _ _ => ?_)
          refine r_aload_n rfl rfl ?_
          refine r_callV (As := []) rfl (by decide) rfl ka rfl rfl (Nat.le_of_ble_eq_true rfl) ⟨Nat.le_of_ble_eq_true rfl, Nat.le_of_ble_eq_true rfl⟩ (c_countGone g.1 hq hmm) (kc' := 0) (ks' := 0) (by omega) (by omega) (by decide) ?_
          rintro r τ ⟨rfl, rfl⟩
          by_cases hg : 0 < gonM S q
          · refine r_if_gt rfl (fun _ => hit τ stay fr ?_) (fun w => absurd (nI_lt hg (by omega)) w)
            unfold trB
            rw [e1, decide_eq_true hg]
            simp
          · refine r_if_gt rfl (fun w => ?_) (fun _ => ?_)
            · have e0 : gonM S q = 0 := by omega
              rw [e0] at w
              exact absurd w (by decide)
            · have k39t : h_K τ (c + 39) = 8 := g.1.2.1.2.1 (39, 8) (by decide)
              have p647 : h_P τ 647 c = some (c + 39) := g.1.2.1.2.2.1 (647, 0, 39) (by decide)
              refine r_aload_n rfl rfl ?_
              (first | refine r_getPv rfl (by first | assumption | rfl) rfl (by assumption) ?_ | refine r_getP rfl (by first | assumption | rfl) rfl ?_)
              refine r_aload_n rfl rfl ?_
              refine r_callV (As := [_]) rfl (by decide) rfl k39t rfl rfl (Nat.le_of_ble_eq_true rfl) ⟨Nat.le_of_ble_eq_true rfl, Nat.le_of_ble_eq_true rfl⟩ (c_countRuns g (by omega) hq hmm) (kc' := 0) (ks' := 0) (by omega) (by omega) (by decide) ?_
              rintro r ρ ⟨rfl, g2, f2⟩
              have fr2 : Fm ow cAI cAP cAR σ ρ := fr.tr (f2.wide (by decide) (fun f q => by cases q) (fun f q => by cases q))
              refine r_iconst (v := nI 1) rfl (by decide) ?_
              refine r_eqN rfl (by omega) (by omega) (fun h1 => skip ρ g2 fr2 ?_) (fun h1 => ?_)
              · unfold trB
                rw [e1, h1, decide_eq_false hg]
                simp
              · refine hit ρ g2 fr2 ?_
                unfold trB
                rw [e1, Bool.true_and]
                by_cases hk1 : q.2.1 = 1
                · rcases Nat.lt_or_ge (lnM S q).2 1 with w | w
                  · rw [decide_eq_true (show (lnM S q).2 = 0 by omega)]; rfl
                  · rw [decide_eq_true hk1, decide_eq_true (show 1 < (lnM S q).2 by omega)]; simp
                · have := lnM_2 (S := S) hk1
                  rw [decide_eq_true (show (lnM S q).2 = 0 by omega)]; rfl
  refine r_iconst (v := nI 0) rfl (by decide) ?_
  refine r_istore_n rfl (by decide) ?_
  refine r_iconst (v := nI 0) rfl (by decide) ?_
  refine r_istore_n rfl (by decide) ?_
  exact loop (s_m S).length 0 σ1 none (by omega) g1 fw
end TL
