/-! ===== the class: numbers remembered, others counted; move ===== -/
section RB
variable {l : Launch} {D : DD} {σ : Hp} {c B : Nat} {ow ad : Nat → Nat} {S : Sp}
theorem RCd.bef {τ : Hp} {x : Nat} {ys : List Int32} (g : RCd ow σ c ad B S) (hx : x < s_n S) (h : LF σ τ (ad x + 6)) (hl : Ln τ (ad x + 6) 40 ys) : RCd ow τ c ad B S ∧ Fm ow ([] : List Nat) [] [4] σ τ := by
  obtain ⟨g0, i320, hcn⟩ := g
  obtain ⟨hS, gF, gT, gC, -⟩ := id g0
  have hW := hS.wf
  obtain ⟨-, -, -, -, -, -, -, -, -, -, -, -, -, t14, -, -, ⟨xb, t17⟩⟩ := gT.2.2.2 x hx
  have fm : Fm ow ([] : List Nat) [] [4] σ τ := Fm.L h (by rw [t14 6 (by omega) (by omega)]; decide) (by rw [show ad x + 6 + 1 = ad x + 7 by omega, t14 7 (by omega) (by omega)]; decide)
  have keep : ∀ z, z < s_n S → ∀ j, j ≤ 4 → ad z + j ≠ ad x + 6 := by
    intro z hz j hj
    by_cases e : z = x
    · rw [e]; omega
    · have := gT.2.2.1 z x hz hx e; omega
  have cT : TC ow τ c (s_n S) (s_k S) ad := by
    refine gT.kp fm gF (fun f _ q => by cases q) (fun f _ q => by cases q) (by decide) (fun z hz => ⟨fun cap ⟨w, hw⟩ => ⟨w, h.keep (keep z hz 2 (by omega)) hw⟩, fun cap ⟨w, hw⟩ => ⟨w, h.keep (keep z hz 4 (by omega)) hw⟩, fun cap ⟨w, hw⟩ => ?_⟩) (fun _ _ => rfl)
    by_cases e : z = x
    · rw [e] at hw ⊢
      have e1 : cap = 40 := hw.2.2.2.2.1.symm.trans t17.2.2.2.2.1
      exact ⟨ys, by rw [e1]; exact hl⟩
    · have := gT.2.2.1 z x hz hx e
      exact ⟨w, h.keep (by omega) hw⟩
  have hI : ∀ f b, f ≠ 193 → h_I τ f b = h_I σ f b := fun f b w => h.2.2.2.2.2.1 f b (fun e => w e.1)
  refine ⟨g0.num (fm.wide (fun f q => by cases q) (fun f q => by cases q) (by decide)) cT (by rw [hI _ _ (by decide)]; exact i320) ⟨?_, fun i z hz => ?_⟩, fm⟩
  · rw [h.2.2.1]
    exact Ch.ext (σ := σ) (fun b _ => ⟨by rw [h.2.1], by rw [h.2.2.1]⟩) hcn.1
  · obtain ⟨q1, q2, q3, q4, q5⟩ := hcn.2 i z hz
    have hzn := (ord_at hS hz).2.2.2.1
    exact ⟨by rw [hI _ _ (by decide)]; exact q1, by rw [hI _ _ (by decide)]; exact q2, by rw [h.2.2.1]; exact q3, h.keep (keep z hzn 2 (by omega)) q4, h.keep (keep z hzn 4 (by omega)) q5⟩
theorem RCd.nx (g : RCd ow σ c ad B S) : h_P σ 520 (c + 4) = ((ordT (s_T S))[0]?).map ad ∧ ∀ (q z : Nat), (ordT (s_T S))[q]? = some z → h_P σ 520 (ad z) = ((ordT (s_T S))[q + 1]?).map ad := ch_at g.2.2.1
theorem c_remember (g : RCd ow σ c ad B S) : Cn l D m_Numbering_rememberNumbers 0 0 [va_rf (some (c + 35))] σ (fun r τ => r = none ∧ RCd ow τ c ad B S ∧ Fm ow ([] : List Nat) [] [4] σ τ ∧ ∀ (q z : Nat), (ordT (s_T S))[q]? = some z → Ln τ (ad z + 6) 40 (n_n S z)) := by
  obtain ⟨hS, gF, -⟩ := id g.1
  have k35 : h_K σ (c + 35) = 6 := gF.2.1 (35, 6) (by decide)
  have k4 : h_K σ (c + 4) = 9 := gF.2.1 (4, 9) (by decide)
  have p321 : h_P σ 321 (c + 35) = some (c + 4) := gF.2.2.1 (321, 35, 4) (by decide)
  have p520 := g.nx.1
  generalize hQ : (fun (r : Option Value) (τ : Hp) => r = none ∧ RCd ow τ c ad B S ∧ Fm ow ([] : List Nat) [] [4] σ τ ∧ ∀ (q z : Nat), (ordT (s_T S))[q]? = some z → Ln τ (ad z + 6) 40 (n_n S z)) = Q
  refine Cn.of (by decide) (by repeat (first | exact ca_0 | refine ca_i ?_ | refine ca_r ?_)) (Nat.le_of_ble_eq_true rfl) ?_
  have loop : ∀ (d m : Nat) (τ : Hp), m + d = (ordT (s_T S)).length → RCd ow τ c ad B S → Fm ow ([] : List Nat) [] [4] σ τ → (∀ (q z : Nat), q < m → (ordT (s_T S))[q]? = some z → Ln τ (ad z + 6) 40 (n_n S z)) → Gm l D m_Numbering_rememberNumbers 0 0 Q 8 [some (va_rf (some (c + 35))), some (va_rf (((ordT (s_T S))[m]?).map ad))] [] τ 0 0 := by
    intro d
    induction d with
    | zero =>
      intro m τ hm h1 h2 h3
      rw [List.getElem?_eq_none (by omega)]
      refine r_aload_n rfl rfl ?_
      refine r_ifnull rfl (fun _ => ?_) (fun _ hq => by cases hq)
      refine r_vret rfl rfl ?_
      rw [← hQ]
      exact ⟨rfl, h1, h2, fun q z hz => h3 q z (by have := getE_lt hz; omega) hz⟩
    | succ d ih =>
      intro m τ hm h1 h2 h3
      obtain ⟨x, hx⟩ : ∃ x, (ordT (s_T S))[m]? = some x := ⟨_, List.getElem?_eq_getElem (by omega)⟩
      have hxn := (ord_at hS hx).2.2.2.1
      have kx := h1.1.2.2.2.1.1 x (Or.inl hxn)
      obtain ⟨-, -, -, -, -, -, -, -, -, p527, p528, -, -, -, -, -, ⟨xb, t17⟩⟩ := h1.1.2.2.1.2.2.2 x hxn
      have hnm := (h1.2.2.2 m x hx).2.2.2.2
      have hdis := h1.1.2.2.1.2.2.1
      rw [hx]
      refine r_aload_n rfl rfl ?_
      refine r_ifnull rfl (fun hq => by cases hq) (fun _ _ => ?_)
      show Gm l D m_Numbering_rememberNumbers 0 0 Q 12 [some (va_rf (some (c + 35))), some (va_rf (some (ad x)))] [] τ 0 0
      refine r_aload_n rfl rfl ?_
      (first | refine r_getPv rfl (by first | assumption | rfl) rfl (by assumption) ?_ | refine r_getP rfl (by first | assumption | rfl) rfl ?_)
      refine r_aload_n rfl rfl ?_
      (first | refine r_getPv rfl (by first | assumption | rfl) rfl (by assumption) ?_ | refine r_getP rfl (by first | assumption | rfl) rfl ?_)
      refine r_callV (As := [_]) rfl (by decide) rfl t17.1 rfl rfl (Nat.le_of_ble_eq_true rfl) ⟨Nat.le_of_ble_eq_true rfl, Nat.le_of_ble_eq_true rfl⟩ (c_setTo t17 hnm (by omega) (n_ok hS x).1) (kc' := 0) (ks' := 0) (by omega) (by omega) (by decide) ?_
      rintro r ρ ⟨rfl, b1, b2⟩
      obtain ⟨h1', f1⟩ := h1.bef hxn b2 b1
      have kx' := h1'.1.2.2.2.1.1 x (Or.inl hxn)
      have nx' := h1'.nx.2 m x hx
      refine r_aload_n rfl rfl ?_
      (first | refine r_getPv rfl (by first | assumption | rfl) rfl (by assumption) ?_ | refine r_getP rfl (by first | assumption | rfl) rfl ?_)
      refine r_astore_n rfl (by decide) ?_
      refine r_goto rfl ?_
      refine ih (m + 1) ρ (by omega) h1' (h2.tr f1) (fun q z hq hz => ?_)
      by_cases e : z = x
      · rw [e]; exact b1
      · have hzn := (ord_at hS hz).2.2.2.1
        have := hdis z x hzn hxn e
        have hqm : q ≠ m := fun w => by rw [w, hx] at hz; exact e (Option.some.inj hz).symm
        exact b2.keep (by omega) (h3 q z (by omega) hz)
  refine r_aload_n rfl rfl ?_
  (first | refine r_getPv rfl (by first | assumption | rfl) rfl (by assumption) ?_ | refine r_getP rfl (by first | assumption | rfl) rfl ?_)
  (first | refine r_getPv rfl (by first | assumption | rfl) rfl (by assumption) ?_ | refine r_getP rfl (by first | assumption | rfl) rfl ?_)
  refine r_astore_n rfl (by decide) ?_
  exact loop (ordT (s_T S)).length 0 σ (by omega) g (Fm.rf _ _ _ _ _) (fun q z hq => by omega)
theorem c_countOther {F : Nat → List Int32} (g : RCd ow σ c ad B S) (hb : ∀ (q z : Nat), (ordT (s_T S))[q]? = some z → Ln σ (ad z + 6) 40 (F z)) : Cn l D m_Numbering_countOtherNumbers 0 0 [va_rf (some (c + 35))] σ (fun r τ => r = some (.int (nI ((ordT (s_T S)).filter (fun z => !decide (F z = n_n S z))).length)) ∧ τ = σ) := by
  obtain ⟨hS, gF, -⟩ := id g.1
  have hll := ord_len hS.wf
  have hn := hS.1
  have k35 : h_K σ (c + 35) = 6 := gF.2.1 (35, 6) (by decide)
  have k4 : h_K σ (c + 4) = 9 := gF.2.1 (4, 9) (by decide)
  have p321 : h_P σ 321 (c + 35) = some (c + 4) := gF.2.2.1 (321, 35, 4) (by decide)
  have p520 := g.nx.1
  generalize hQ : (fun (r : Option Value) (τ : Hp) => r = some (.int (nI ((ordT (s_T S)).filter (fun z => !decide (F z = n_n S z))).length)) ∧ τ = σ) = Q
  refine Cn.of (by decide) (by repeat (first | exact ca_0 | refine ca_i ?_ | refine ca_r ?_)) (Nat.le_of_ble_eq_true rfl) ?_
  have loop : ∀ (d m : Nat), m + d = (ordT (s_T S)).length → Gm l D m_Numbering_countOtherNumbers 0 0 Q 10 [some (va_rf (some (c + 35))), some (.int (nI (((ordT (s_T S)).take m).filter (fun z => !decide (F z = n_n S z))).length)), some (va_rf (((ordT (s_T S))[m]?).map ad))] [] σ 0 0 := by
    intro d
    induction d with
    | zero =>
      intro m hm
      rw [List.getElem?_eq_none (by omega), List.take_of_length_le (by omega)]
      refine r_aload_n rfl rfl ?_
      refine r_ifnull rfl (fun _ => ?_) (fun _ hq => by cases hq)
      refine r_iload_n rfl rfl ?_
      refine r_iret rfl rfl ?_
      rw [← hQ]
      exact ⟨rfl, rfl⟩
    | succ d ih =>
      intro m hm
      obtain ⟨x, hx⟩ : ∃ x, (ordT (s_T S))[m]? = some x := ⟨_, List.getElem?_eq_getElem (by omega)⟩
      obtain ⟨hml, ex, -, hxn, -⟩ := ord_at hS hx
      have kx := g.1.2.2.2.1.1 x (Or.inl hxn)
      obtain ⟨-, -, -, -, -, -, -, -, -, p527, p528, -⟩ := g.1.2.2.1.2.2.2 x hxn
      have hnm := (g.2.2.2 m x hx).2.2.2.2
      have hbe := hb m x hx
      have nx' := g.nx.2 m x hx
      have ih := ih (m + 1) (by omega)
      rw [filt_take hml, ex] at ih
      rw [hx]
      refine r_aload_n rfl rfl ?_
      refine r_ifnull rfl (fun hq => by cases hq) (fun _ _ => ?_)
      show Gm l D m_Numbering_countOtherNumbers 0 0 Q 14 [some (va_rf (some (c + 35))), some (.int (nI (((ordT (s_T S)).take m).filter (fun z => !decide (F z = n_n S z))).length)), some (va_rf (some (ad x)))] [] σ 0 0
      refine r_aload_n rfl rfl ?_
      (first | refine r_getPv rfl (by first | assumption | rfl) rfl (by assumption) ?_ | refine r_getP rfl (by first | assumption | rfl) rfl ?_)
      refine r_aload_n rfl rfl ?_
      (first | refine r_getPv rfl (by first | assumption | rfl) rfl (by assumption) ?_ | refine r_getP rfl (by first | assumption | rfl) rfl ?_)
      refine r_callV (As := [_]) rfl (by decide) rfl hbe.1 rfl rfl (Nat.le_of_ble_eq_true rfl) ⟨Nat.le_of_ble_eq_true rfl, Nat.le_of_ble_eq_true rfl⟩ (c_isSame hbe hnm) (kc' := 0) (ks' := 0) (by omega) (by omega) (by decide) ?_
      rintro r σ ⟨rfl, rfl⟩
      by_cases e : F x = n_n S x
      · rw [decide_eq_true e]
        rw [show (!decide (F x = n_n S x)) = false by rw [decide_eq_true e]; rfl, if_neg (by decide), List.append_nil] at ih
        refine r_if_ne rfl (fun _ => ?_) (fun q => absurd q (by decide))
        refine r_aload_n rfl rfl ?_
        (first | refine r_getPv rfl (by first | assumption | rfl) rfl (by assumption) ?_ | refine r_getP rfl (by first | assumption | rfl) rfl ?_)
        refine r_astore_n rfl (by decide) ?_
        refine r_goto rfl ?_
        exact ih
      · rw [decide_eq_false e]
        rw [show (!decide (F x = n_n S x)) = true by rw [decide_eq_false e]; rfl, if_pos rfl, List.length_append, List.length_singleton] at ih
        refine r_if_ne rfl (fun q => absurd rfl q) (fun _ => ?_)
        refine r_iinc rfl rfl (nI_inc _) ?_
        refine r_aload_n rfl rfl ?_
        (first | refine r_getPv rfl (by first | assumption | rfl) rfl (by assumption) ?_ | refine r_getP rfl (by first | assumption | rfl) rfl ?_)
        refine r_astore_n rfl (by decide) ?_
        refine r_goto rfl ?_
        exact ih
  refine r_iconst (v := nI 0) rfl (by decide) ?_
  refine r_istore_n rfl (by decide) ?_
  refine r_aload_n rfl rfl ?_
  (first | refine r_getPv rfl (by first | assumption | rfl) rfl (by assumption) ?_ | refine r_getP rfl (by first | assumption | rfl) rfl ?_)
  (first | refine r_getPv rfl (by first | assumption | rfl) rfl (by assumption) ?_ | refine r_getP rfl (by first | assumption | rfl) rfl ?_)
  refine r_astore_n rfl (by decide) ?_
  exact loop (ordT (s_T S)).length 0 (by omega)
theorem CS.ups {n : Nat} {kd : Nat → Nat} {T : Tr} (h : CS σ n T ad) (hW : Wf n kd T) : ∀ (f z : Nat), (upl T f z).length < f → liv T z → Ch σ 515 ((upl T f z).map ad) (some (ad z)) := by
  intro f
  induction f with
  | zero => intro z hl; omega
  | succ f ih =>
    intro z hl lz
    rw [upl_s] at hl ⊢
    refine ⟨rfl, h.1 z (hW.tn lz), ?_⟩
    rcases lz with rfl | hz
    · rw [hW.par_120, h.2.2.2.2]
      rfl
    · obtain ⟨p, lp, hp, hpar⟩ := hW.h_par hz
      rw [hpar] at hl ⊢
      rw [h.2.2.2.1 p z (hW.tn lp) hp]
      have hl : (upl T f p).length + 1 < f + 1 := hl
      exact ih p (by omega) lp
theorem c_within {n : Nat} {kd : Nat → Nat} {T : Tr} {x z : Nat} (h : CS σ n T ad) (hW : Wf n kd T) (lz : liv T z) (hx : TN n x) : Cn l D m_Thing_isWithin 0 0 [va_rf (some (ad z)), va_rf (some (ad x))] σ (fun r τ => r = some (.int (nI (bel T x z).toNat)) ∧ τ = σ) := by
  have e : decide (ad x ∈ (upl T 200 z).map ad) = bel T x z := by
    unfold bel
    refine decide_eq_decide.mpr ⟨fun w => ?_, fun w => List.mem_map.mpr ⟨x, w, rfl⟩⟩
    obtain ⟨d, hd, e2⟩ := List.mem_map.mp w
    rw [← h.2.1 d x (upl_TN hW 200 z d (hW.tn lz) hd) hx e2]
    exact hd
  rw [← e]
  exact c_isWithin (h.ups hW 200 z (fuel hW (hW.liv_le lz)) lz)
end RB
