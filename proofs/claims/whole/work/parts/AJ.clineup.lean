/-! ===== the class: lineUp ===== -/
theorem wk_at {nx : Nat → Option Nat} : ∀ {L : List Nat} {cur : Option Nat}, Wk nx L cur → cur = L[0]? ∧ ∀ q z, L[q]? = some z → nx z = L[q + 1]?
  | [], _, h => ⟨h, fun q z hz => by cases hz⟩
  | y :: L, _, h => by
    obtain ⟨h1, h2⟩ := wk_at h.2
    refine ⟨h.1, fun q z hz => ?_⟩
    cases q with
    | zero =>
      have e : y = z := Option.some.inj hz
      rw [← e, h1]
      rfl
    | succ q => exact h2 q z hz
theorem ch_of {τ : Hp} {ad : Nat → Nat} : ∀ (M : List Nat) (z0 : Nat), (∀ z ∈ M, h_K τ (ad z) = 9) → (∀ (q z : Nat), (z0 :: M)[q]? = some z → h_P τ 520 (ad z) = (M[q]?).map ad) → Ch τ 520 (M.map ad) (h_P τ 520 (ad z0))
  | [], z0, _, h => h 0 z0 rfl
  | y :: M, z0, hk, h => by
    refine ⟨h 0 z0 rfl, hk y List.mem_cons_self, ?_⟩
    exact ch_of M y (fun z hz => hk z (List.mem_cons_of_mem _ hz)) (fun q z hz => h (q + 1) z hz)
section LU
variable {l : Launch} {D : DD} {σ : Hp} {c : Nat} {ow ad : Nat → Nat} {S : Sp}
def luB (c n : Nat) (ad : Nat → Nat) (b : Nat) : Prop := b = c + 36 ∨ ∃ z, z < n ∧ b = ad z + 1
set_option maxHeartbeats 1000000 in
theorem c_lineUp (hS : SOk S) (hc : CF ow σ c) (ht : TC ow σ c (s_n S) (s_k S) ad) (hct : CT σ (s_n S) (s_T S) ad) : Cn l D m_Numbering_lineUp 0 0 [va_rf (some (c + 35))] σ (fun r τ => r = none ∧ NuF [521] [520] (luB c (s_n S) ad) σ τ ∧ Ch τ 520 ((ordT (s_T S)).map ad) (h_P τ 520 (c + 4)) ∧ ∀ q z, (ordT (s_T S))[q]? = some z → h_I τ 521 (ad z) = nI q ∧ ∀ k, k < 6 → h_X τ (ad z + 1) k = nI (cK S k (q + 1))) := by
  have hW := hS.wf
  have hn := hS.1
  have k35 : h_K σ (c + 35) = 6 := hc.2.1 (35, 6) (by decide)
  have k36 : h_K σ (c + 36) = 21 := hc.2.1 (36, 21) (by decide)
  have l36 : h_L σ (c + 36) = 6 := hc.2.2.2.1 (36, 6) (by decide)
  have p322 : h_P σ 322 (c + 35) = some (c + 36) := hc.2.2.1 (322, 35, 36) (by decide)
  have p321 : h_P σ 321 (c + 35) = some (c + 4) := hc.2.2.1 (321, 35, 4) (by decide)
  have h120 : ad 120 = c + 4 := ht.2.1
  obtain ⟨w1, w2⟩ := wk_at (ord_wk hW)
  have hll := ord_len hW
  have hcs := hct.cs
  have hadi := hct.2.1
  generalize hQ : (fun (r : Option Value) (τ : Hp) => r = none ∧ NuF [521] [520] (luB c (s_n S) ad) σ τ ∧ Ch τ 520 ((ordT (s_T S)).map ad) (h_P τ 520 (c + 4)) ∧ ∀ q z, (ordT (s_T S))[q]? = some z → h_I τ 521 (ad z) = nI q ∧ ∀ k, k < 6 → h_X τ (ad z + 1) k = nI (cK S k (q + 1))) = Q
  have live : ∀ q z, (ordT (s_T S))[q]? = some z → t_h (s_T S) z = true ∧ z < s_n S := fun q z hz => by
    have := ord_at hS hz
    exact ⟨this.2.2.1, this.2.2.2.1⟩
  have tl : ∀ (q z : Nat), ((120 :: ordT (s_T S)))[q]? = some z → TN (s_n S) z := by
    intro q z hz
    cases q with
    | zero => exact Or.inr (Option.some.inj hz).symm
    | succ q => exact Or.inl (live q z hz).2
  have nd120 : (120 :: ordT (s_T S)).Nodup := List.nodup_cons.mpr ⟨fun hm => by have := hW.h_lt ((ord_mem hW).mp hm); omega, ord_nd hW⟩
  refine Cn.of (by decide) (by repeat (first | exact ca_0 | refine ca_i ?_ | refine ca_r ?_)) (Nat.le_of_ble_eq_true rfl) ?_
  refine r_aload_n rfl rfl ?_
  (first | refine r_getPv rfl (by first | assumption | rfl) rfl (by assumption) ?_ | refine r_getP rfl (by first | assumption | rfl) rfl ?_)
  refine r_iconst (v := nI 0) rfl (by decide) ?_
  refine r_callS (As := [_, _]) rfl (by decide) rfl rfl rfl (Nat.le_of_ble_eq_true rfl) ⟨Nat.le_of_ble_eq_true rfl, Nat.le_of_ble_eq_true rfl⟩ (c_fill k36 (by rw [l36]; decide)) (kc' := 0) (ks' := 0) (by omega) (by omega) ?_
  rintro r σ1 ⟨rfl, hσ1⟩
  have hf1 : NuF [521] [520] (luB c (s_n S) ad) σ σ1 := by rw [hσ1]; exact NuF.X _ _ (Or.inl rfl)
  have hx1 : ∀ k, k < 6 → h_X σ1 (c + 36) k = nI (cK S k 0) := by
    intro k hk6
    rw [hσ1, hX_w, l36, if_pos hk6]
    rfl
  have kCS : ∀ τ, NuF [521] [520] (luB c (s_n S) ad) σ τ → CS τ (s_n S) (s_T S) ad := fun τ hf => hcs.kp (fun _ _ => by rw [hf.2.1]) (fun f z _ hq => hf.2.2.2.2.2.1 f (by simp only [List.mem_cons, List.not_mem_nil, or_false]; omega) _) (fun z d _ hd => hW.k_lt hd)
  have hnx : ∀ τ x, NuF [521] [520] (luB c (s_n S) ad) σ τ → TN (s_n S) x → 120 ∈ upl (s_T S) 200 x → Cn l D m_Thing_nextWithin 0 0 [va_rf (some (ad x)), va_rf (some (c + 4))] τ (fun r ρ => r = some (va_rf ((nxT (s_T S) 120 x).map ad)) ∧ ρ = τ) := by
    intro τ x hf hx hu
    have := c_nextT (l := l) (D := D) (kCS τ hf) hW hx (Or.inr rfl) hu
    rw [h120] at this
    exact this
  have loop : ∀ (d m lst : Nat) (τ : Hp), m + d = (ordT (s_T S)).length → (120 :: ordT (s_T S))[m]? = some lst → NuF [521] [520] (luB c (s_n S) ad) σ τ → (∀ (q z : Nat), q < m → (120 :: ordT (s_T S))[q]? = some z → h_P τ 520 (ad z) = ((ordT (s_T S))[q]?).map ad) → (∀ (q z : Nat), q < m → (ordT (s_T S))[q]? = some z → h_I τ 521 (ad z) = nI q ∧ ∀ k, k < 6 → h_X τ (ad z + 1) k = nI (cK S k (q + 1))) → (∀ k, k < 6 → h_X τ (c + 36) k = nI (cK S k m)) → Gm l D m_Numbering_lineUp 0 0 Q 27 [some (va_rf (some (c + 35))), some (va_rf (some (ad lst))), some (.int (nI m)), some (va_rf (((ordT (s_T S))[m]?).map ad))] [] τ 0 0 := by
    intro d
    induction d with
    | zero =>
      intro m lst τ hm hl hf h1 h2 h3
      have kl : h_K τ (ad lst) = 9 := (kCS τ hf).1 lst (tl m lst hl)
      rw [List.getElem?_eq_none (by omega)]
      refine r_aload_n rfl rfl ?_
      refine r_ifnull rfl (fun _ => ?_) (fun _ hq => by cases hq)
      refine r_aload_n rfl rfl ?_
      refine r_null rfl ?_
      refine r_putP rfl (by first | assumption | rfl) rfl (by first | exact Or.inl rfl | exact Or.inr ⟨rfl, rfl⟩) ?_
      refine r_vret rfl rfl ?_
      generalize hτ1 : w_P τ 520 (ad lst) none = τ1
      have hft : NuF [521] [520] (luB c (s_n S) ad) τ τ1 := by rw [← hτ1]; exact NuF.P _ _ _ (by decide)
      have hf2 := hf.tr hft
      rw [← hQ]
      refine ⟨rfl, hf2, ?_, fun q z hz => ?_⟩
      · rw [← h120]
        refine ch_of _ 120 (fun z hz => (kCS τ1 hf2).1 z (Or.inl (hW.h_lt ((ord_mem hW).mp hz)))) (fun q z hz => ?_)
        by_cases e : q = m
        · subst e
          rw [hl] at hz
          cases hz
          rw [← hτ1, hP_w, List.getElem?_eq_none (by omega)]
          rfl
        · have hzl : z ≠ lst := fun w => by
            rw [w] at hz
            have := idx_of nd120 hz
            rw [idx_of nd120 hl] at this
            exact e this.symm
          have hq := getE_lt hz
          rw [List.length_cons] at hq
          rw [← hτ1, hP_m _ _ (fun w => hzl (hadi z lst (tl q z hz) (tl m lst hl) w))]
          exact h1 q z (by omega) hz
      · have := h2 q z (by have := getE_lt hz; omega) hz
        rw [← hτ1]
        exact this
    | succ d ih =>
      intro m lst τ hm hl hf h1 h2 h3
      have hml : m < (ordT (s_T S)).length := by omega
      obtain ⟨x, hx⟩ : ∃ x, (ordT (s_T S))[m]? = some x := ⟨_, List.getElem?_eq_getElem hml⟩
      obtain ⟨hxt, hxn⟩ := live m x hx
      have hx6 := hS.2.1 x hxn
      obtain ⟨-, t2, t3, -, t5, -, -, t8, -, -, -, t12, t13, -⟩ := ht.2.2.2 x hxn
      have kl : h_K τ (ad lst) = 9 := (kCS τ hf).1 lst (tl m lst hl)
      have kx : h_K τ (ad x) = 9 := (kCS τ hf).1 x (Or.inl hxn)
      have hxl : x ≠ lst := fun w => by
        have e1 : (120 :: ordT (s_T S))[m + 1]? = some x := hx
        rw [w] at e1
        have := idx_of nd120 e1
        rw [idx_of nd120 hl] at this
        omega
      rw [hx]
      refine r_aload_n rfl rfl ?_
      refine r_ifnull rfl (fun hq => by cases hq) (fun _ _ => ?_)
      show Gm l D m_Numbering_lineUp 0 0 Q 31 [some (va_rf (some (c + 35))), some (va_rf (some (ad lst))), some (.int (nI m)), some (va_rf (some (ad x)))] [] τ 0 0
      refine r_aload_n rfl rfl ?_
      refine r_aload_n rfl rfl ?_
      refine r_putP rfl (by first | assumption | rfl) rfl (by first | exact Or.inl rfl | exact Or.inr ⟨rfl, rfl⟩) ?_
      generalize hτ1 : w_P τ 520 (ad lst) (some (ad x)) = τ1
      have hf1 : NuF [521] [520] (luB c (s_n S) ad) τ τ1 := by rw [← hτ1]; exact NuF.P _ _ _ (by decide)
      have kx1 : h_K τ1 (ad x) = 9 := by rw [hf1.2.1]; exact kx
      refine r_aload_n rfl rfl ?_
      refine r_astore_n rfl (by decide) ?_
      refine r_aload_n rfl rfl ?_
      refine r_iload_n rfl rfl ?_
      refine r_putI rfl (by first | assumption | rfl) rfl (by first | exact Or.inl rfl | exact Or.inr ⟨rfl, rfl⟩) (by first | rfl | decide | assumption) (by first | rfl | decide) ?_
      generalize hτ2 : w_I τ1 521 (ad x) (nI m) = τ2
      have hf2 : NuF [521] [520] (luB c (s_n S) ad) τ1 τ2 := by rw [← hτ2]; exact NuF.I _ _ _ (by decide)
      have hf02 := (hf.tr hf1).tr hf2
      have kx2 : h_K τ2 (ad x) = 9 := by rw [hf2.2.1]; exact kx1
      have k352 : h_K τ2 (c + 35) = 6 := by rw [hf02.2.1]; exact k35
      have k362 : h_K τ2 (c + 36) = 21 := by rw [hf02.2.1]; exact k36
      have l362 : h_L τ2 (c + 36) = 6 := by rw [hf02.2.2.1]; exact l36
      have p3222 : h_P τ2 322 (c + 35) = some (c + 36) := by rw [hf02.2.2.2.2.2.1 322 (by decide)]; exact p322
      have i5132 : h_I τ2 513 (ad x) = nI (s_k S x) := by rw [hf02.2.2.2.2.1 513 (by decide)]; exact t5
      have hx2 : ∀ k, k < 6 → h_X τ2 (c + 36) k = nI (cK S k m) := by rw [← hτ2, ← hτ1]; exact h3
      refine r_iinc rfl rfl (nI_inc _) ?_
      refine r_aload_n rfl rfl ?_
      refine r_aload_n rfl rfl ?_
      (first | refine r_getIv rfl (by first | assumption | rfl) rfl (by assumption) ?_ | refine r_getI rfl (by first | assumption | rfl) rfl ?_)
      refine r_callV (As := [_]) rfl (by decide) rfl k352 rfl rfl (Nat.le_of_ble_eq_true rfl) ⟨Nat.le_of_ble_eq_true rfl, Nat.le_of_ble_eq_true rfl⟩ (c_tallyUp k352 p3222 k362 l362 hx6 (hx2 _ hx6)) (kc' := 0) (ks' := 0) (by omega) (by omega) (by decide) ?_
      rintro r τx ⟨rfl, rfl⟩
      generalize hτ3 : w_X τ2 (c + 36) (upd (h_X τ2 (c + 36)) (s_k S x) (nI (cK S (s_k S x) m + 1))) = τ3
      have hf3 : NuF [521] [520] (luB c (s_n S) ad) τ2 τ3 := by rw [← hτ3]; exact NuF.X _ _ (Or.inl rfl)
      have hf03 := hf02.tr hf3
      have kx3 : h_K τ3 (ad x) = 9 := by rw [hf3.2.1]; exact kx2
      have k353 : h_K τ3 (c + 35) = 6 := by rw [hf3.2.1]; exact k352
      have k363 : h_K τ3 (c + 36) = 21 := by rw [hf3.2.1]; exact k362
      have l363 : h_L τ3 (c + 36) = 6 := by rw [hf3.2.2.1]; exact l362
      have kx13 : h_K τ3 (ad x + 1) = 21 := by rw [hf03.2.1]; exact t12
      have lx13 : h_L τ3 (ad x + 1) = 6 := by rw [hf03.2.2.1]; exact t13
      have p3223 : h_P τ3 322 (c + 35) = some (c + 36) := by rw [hf03.2.2.2.2.2.1 322 (by decide)]; exact p322
      have p3213 : h_P τ3 321 (c + 35) = some (c + 4) := by rw [hf03.2.2.2.2.2.1 321 (by decide)]; exact p321
      have p5253 : h_P τ3 525 (ad x) = some (ad x + 1) := by rw [hf03.2.2.2.2.2.1 525 (by decide)]; exact t8
      have hx3 : ∀ k, k < 6 → h_X τ3 (c + 36) k = nI (cK S k (m + 1)) := by
        intro k hk6
        rw [← hτ3, hX_w, cK_s hS hx]
        by_cases e : k = s_k S x
        · rw [e, upd_s, decide_eq_true rfl]; rfl
        · rw [upd_n _ _ e, hx2 k hk6, decide_eq_false (fun w => e w.symm)]; rfl
      refine r_pop rfl (by first | rfl | exact rf_cat _) ?_
      refine r_aload_n rfl rfl ?_
      (first | refine r_getPv rfl (by first | assumption | rfl) rfl (by assumption) ?_ | refine r_getP rfl (by first | assumption | rfl) rfl ?_)
      refine r_iconst (v := nI 0) rfl (by decide) ?_
      refine r_aload_n rfl rfl ?_
      (first | refine r_getPv rfl (by first | assumption | rfl) rfl (by assumption) ?_ | refine r_getP rfl (by first | assumption | rfl) rfl ?_)
      refine r_iconst (v := nI 0) rfl (by decide) ?_
      refine r_bipush (v := nI 6) rfl (by decide) ?_
      refine r_copy (t := 1) (js := 0) (jd := 0) (cnt := 6) rfl (by decide) k363 kx13 rfl rfl rfl (by rw [l363]; decide) (by rw [lx13]; decide) (by rw [l363]; decide) (by rw [lx13]; decide) (Nat.le_of_ble_eq_true rfl) ⟨Nat.le_of_ble_eq_true rfl, Nat.le_of_ble_eq_true rfl⟩ ?_
      generalize hτ4 : w_X τ3 (ad x + 1) (va_cpy (h_X τ3 (c + 36)) (h_X τ3 (ad x + 1)) 0 0 6) = τ4
      have hf4 : NuF [521] [520] (luB c (s_n S) ad) τ3 τ4 := by rw [← hτ4]; exact NuF.X _ _ (Or.inr ⟨x, hxn, rfl⟩)
      have hf04 := hf03.tr hf4
      have kx4 : h_K τ4 (ad x) = 9 := by rw [hf4.2.1]; exact kx3
      have k354 : h_K τ4 (c + 35) = 6 := by rw [hf4.2.1]; exact k353
      have p3214 : h_P τ4 321 (c + 35) = some (c + 4) := by rw [hf04.2.2.2.2.2.1 321 (by decide)]; exact p321
      refine r_aload_n rfl rfl ?_
      refine r_aload_n rfl rfl ?_
      (first | refine r_getPv rfl (by first | assumption | rfl) rfl (by assumption) ?_ | refine r_getP rfl (by first | assumption | rfl) rfl ?_)
      refine r_callV (As := [_]) rfl (by decide) rfl kx4 rfl rfl (Nat.le_of_ble_eq_true rfl) ⟨Nat.le_of_ble_eq_true rfl, Nat.le_of_ble_eq_true rfl⟩ (hnx τ4 x hf04 (Or.inl hxn) (liv_up hW hxt)) (kc' := 0) (ks' := 0) (by omega) (by omega) (by decide) ?_
      rintro r τ4 ⟨rfl, rfl⟩
      rw [w2 m x hx]
      refine r_astore_n rfl (by decide) ?_
      refine r_goto rfl ?_
      have eX : h_X τ4 (ad x + 1) = va_cpy (h_X τ3 (c + 36)) (h_X τ3 (ad x + 1)) 0 0 6 := by rw [← hτ4]; exact u1_s _ _ _
      have eXn : ∀ b, b ≠ ad x + 1 → h_X τ4 b = h_X τ3 b := fun b hb => by rw [← hτ4]; exact u1_n _ _ hb
      have eX3 : ∀ b, b ≠ c + 36 → h_X τ3 b = h_X τ b := fun b hb => by rw [← hτ3, ← hτ2, ← hτ1]; exact u1_n _ _ hb
      have eP : h_P τ4 = h_P τ1 := by rw [← hτ4, ← hτ3, ← hτ2]; rfl
      have eI : h_I τ4 = h_I τ2 := by rw [← hτ4, ← hτ3]; rfl
      refine ih (m + 1) x τ4 (by omega) hx hf04 (fun q z hq hz => ?_) (fun q z hq hz => ?_) (fun k hk6 => ?_)
      · rw [eP, ← hτ1]
        by_cases e : q = m
        · subst e
          rw [hl] at hz
          cases hz
          rw [hP_w, hx]
          rfl
        · have hzl : z ≠ lst := fun w => by
            rw [w] at hz
            have := idx_of nd120 hz
            rw [idx_of nd120 hl] at this
            exact e this.symm
          rw [hP_m _ _ (fun w => hzl (hadi z lst (tl q z hz) (tl m lst hl) w))]
          exact h1 q z (by omega) hz
      · rw [eI, ← hτ2]
        by_cases e : q = m
        · subst e
          rw [hx] at hz
          cases hz
          refine ⟨hI_w _ _ _ _, fun k hk6 => ?_⟩
          rw [eX]
          unfold va_cpy
          rw [if_pos (by omega)]
          show h_X τ3 (c + 36) (0 + (k - 0)) = _
          rw [show 0 + (k - 0) = k by omega]
          exact hx3 k hk6
        · have hzn := (live q z hz).2
          have hzx : z ≠ x := fun w => by
            rw [w] at hz
            have := idx_of (ord_nd hW) hz
            rw [idx_of (ord_nd hW) hx] at this
            exact e this.symm
          have hdis := ht.2.2.1 z x hzn hxn hzx
          have hz2 := (ht.2.2.2 z hzn).2.1
          obtain ⟨g1, g2⟩ := h2 q z (by omega) hz
          refine ⟨?_, fun k hk6 => ?_⟩
          · rw [hI_m _ _ (by omega), ← hτ1]
            exact g1
          · rw [eXn _ (by omega), eX3 _ (by omega)]
            exact g2 k hk6
      · rw [eXn _ (by omega)]
        exact hx3 k hk6
  have k351 : h_K σ1 (c + 35) = 6 := by rw [hf1.2.1]; exact k35
  have p3211 : h_P σ1 321 (c + 35) = some (c + 4) := by rw [hf1.2.2.2.2.2.1 321 (by decide)]; exact p321
  have k41 : h_K σ1 (c + 4) = 9 := by rw [hf1.2.1, ← h120]; exact hct.1 120 (Or.inr rfl)
  refine r_aload_n rfl rfl ?_
  (first | refine r_getPv rfl (by first | assumption | rfl) rfl (by assumption) ?_ | refine r_getP rfl (by first | assumption | rfl) rfl ?_)
  refine r_astore_n rfl (by decide) ?_
  refine r_iconst (v := nI 0) rfl (by decide) ?_
  refine r_istore_n rfl (by decide) ?_
  refine r_aload_n rfl rfl ?_
  (first | refine r_getPv rfl (by first | assumption | rfl) rfl (by assumption) ?_ | refine r_getP rfl (by first | assumption | rfl) rfl ?_)
  refine r_aload_n rfl rfl ?_
  (first | refine r_getPv rfl (by first | assumption | rfl) rfl (by assumption) ?_ | refine r_getP rfl (by first | assumption | rfl) rfl ?_)
  have hst := hnx σ1 120 hf1 (Or.inr rfl) upl_self
  rw [h120] at hst
  refine r_callV (As := [_]) rfl (by decide) rfl k41 rfl rfl (Nat.le_of_ble_eq_true rfl) ⟨Nat.le_of_ble_eq_true rfl, Nat.le_of_ble_eq_true rfl⟩ (hst) (kc' := 0) (ks' := 0) (by omega) (by omega) (by decide) ?_
  rintro r σ1 ⟨rfl, rfl⟩
  rw [w1]
  refine r_astore_n rfl (by decide) ?_
  have := loop (ordT (s_T S)).length 0 120 σ1 (by omega) rfl hf1 (fun q z hq => by omega) (fun q z hq => by omega) hx1
  rw [h120] at this
  exact this
end LU
