/-! ===== the class: picking, runs ===== -/
theorem flt_pos {F : Nat → Bool} : ∀ {M : List Nat} {x : Nat} {r : List Nat}, M.filter F = x :: r → ∃ j, M[j]? = some x ∧ F x = true ∧ (M.drop (j + 1)).filter F = r
  | [], _, _, h => by cases h
  | y :: M, x, r, h => by
    rw [List.filter_cons] at h
    cases hy : F y with
    | true =>
      rw [hy, if_pos rfl] at h
      injection h with h1 h2
      subst h1
      exact ⟨0, rfl, hy, h2⟩
    | false =>
      rw [hy, if_neg (by decide)] at h
      obtain ⟨j, j1, j2, j3⟩ := flt_pos h
      exact ⟨j + 1, j1, j2, j3⟩
/-- the run that goes on from a: its last one, and what is behind it -/
def lstR (S : Sp) : Nat → List Nat → Nat × List Nat
  | a, [] => (a, [])
  | a, x :: r => if adj S a x = true then lstR S x r else (a, x :: r)
theorem rnG_lst (S : Sp) : ∀ (r : List Nat) (f a : Nat), rnG S f a r = (f, (lstR S a r).1) :: rns S (lstR S a r).2
  | [], _, _ => rfl
  | x :: r, f, a => by
    show (if adj S a x = true then rnG S f x r else (f, a) :: rnG S x x r) = (f, (if adj S a x = true then lstR S x r else (a, x :: r)).1) :: rns S (if adj S a x = true then lstR S x r else (a, x :: r)).2
    by_cases h : adj S a x = true
    · rw [if_pos h, if_pos h]; exact rnG_lst S r f x
    · rw [if_neg h, if_neg h]; rfl
theorem lstR_len (S : Sp) : ∀ (r : List Nat) (a : Nat), (lstR S a r).2.length ≤ r.length ∧ ((lstR S a r).1 = a ∨ (lstR S a r).2.length < r.length)
  | [], _ => ⟨Nat.le_refl _, Or.inl rfl⟩
  | x :: r, a => by
    show (if adj S a x = true then lstR S x r else (a, x :: r)).2.length ≤ r.length + 1 ∧ ((if adj S a x = true then lstR S x r else (a, x :: r)).1 = a ∨ (if adj S a x = true then lstR S x r else (a, x :: r)).2.length < r.length + 1)
    have := (lstR_len S r x).1
    by_cases h : adj S a x = true
    · rw [if_pos h]; exact ⟨by omega, Or.inr (by omega)⟩
    · rw [if_neg h]; exact ⟨Nat.le_refl _, Or.inl rfl⟩
section TL
variable {l : Launch} {D : DD} {σ : Hp} {c B : Nat} {ow ad : Nat → Nat} {S : Sp} {F : Nat → Bool}
theorem nx_pos {m x : Nat} {r : List Nat} (h : ((ordT (s_T S)).drop m).filter F = x :: r) : ∃ i, m ≤ i ∧ (ordT (s_T S))[i]? = some x ∧ F x = true ∧ ((ordT (s_T S)).drop (i + 1)).filter F = r := by
  obtain ⟨j, j1, j2, j3⟩ := flt_pos h
  rw [List.getElem?_drop] at j1
  rw [List.drop_drop] at j3
  exact ⟨m + j, by omega, j1, j2, by rw [← j3]; congr 2⟩
theorem lst_pos : ∀ (r : List Nat) (i x : Nat), (ordT (s_T S))[i]? = some x → ((ordT (s_T S)).drop (i + 1)).filter F = r → ∃ il, i ≤ il ∧ (ordT (s_T S))[il]? = some (lstR S x r).1 ∧ ((ordT (s_T S)).drop (il + 1)).filter F = (lstR S x r).2
  | [], i, x, hx, hr => ⟨i, Nat.le_refl _, hx, hr⟩
  | y :: r, i, x, hx, hr => by
    obtain ⟨j, j1, j2, -, j4⟩ := nx_pos hr
    show ∃ il, i ≤ il ∧ (ordT (s_T S))[il]? = some (if adj S x y = true then lstR S y r else (x, y :: r)).1 ∧ ((ordT (s_T S)).drop (il + 1)).filter F = (if adj S x y = true then lstR S y r else (x, y :: r)).2
    by_cases h : adj S x y = true
    · rw [if_pos h]
      obtain ⟨il, q1, q2⟩ := lst_pos r j y j2 j4
      exact ⟨il, by omega, q2⟩
    · rw [if_neg h]; exact ⟨i, Nat.le_refl _, hx, hr⟩
theorem oI_inj {o p : Option Nat} (ho : ∀ x, o = some x → x < 2 ^ 31) (hp : ∀ x, p = some x → x < 2 ^ 31) (h : oI o = oI p) : o = p := by
  cases o with
  | none =>
    cases p with
    | none => rfl
    | some y =>
      have := nI_pos (hp y rfl)
      have h : (-1 : Int32) = nI y := h
      rw [← h] at this
      exact absurd (by decide) this
  | some x =>
    cases p with
    | none =>
      have := nI_pos (ho x rfl)
      have h : nI x = (-1 : Int32) := h
      rw [h] at this
      exact absurd (by decide) this
    | some y => rw [(nI_eq (ho x rfl) (hp y rfl)).mp h]
theorem nbO_lt (hS : SOk S) {i x b : Nat} (hx : (ordT (s_T S))[i]? = some x) (h : nbO S x = some b) : b < s_n S := by
  rw [(mk_S hS hx).1] at h
  obtain ⟨q, -, q2⟩ := nbC_before hS hx h
  exact (ord_at hS q2).2.2.2.1
theorem c_lastOfRun {i x : Nat} (g : RCd ow σ c ad B S) (hp : PK σ c ad S F) (hx : (ordT (s_T S))[i]? = some x) : Cn l D m_Teller_lastOfRun 0 0 [va_rf (some (c + 39)), va_rf (some (ad x))] σ (fun r τ => r = some (va_rf (some (ad (lstR S x (((ordT (s_T S)).drop (i + 1)).filter F)).1))) ∧ τ = σ) := by
  have hS := g.1.1
  have hW := hS.wf
  have hn := hS.1
  have k39 : h_K σ (c + 39) = 8 := g.1.2.1.2.1 (39, 8) (by decide)
  generalize hQ : (fun (r : Option Value) (τ : Hp) => r = some (va_rf (some (ad (lstR S x (((ordT (s_T S)).drop (i + 1)).filter F)).1))) ∧ τ = σ) = Q
  refine Cn.of (by decide) (by repeat (first | exact ca_0 | refine ca_i ?_ | refine ca_r ?_)) (Nat.le_of_ble_eq_true rfl) ?_
  have loop : ∀ (r : List Nat) (ia a : Nat), (ordT (s_T S))[ia]? = some a → ((ordT (s_T S)).drop (ia + 1)).filter F = r → (lstR S a r).1 = (lstR S x (((ordT (s_T S)).drop (i + 1)).filter F)).1 → Gm l D m_Teller_lastOfRun 0 0 Q 8 [some (va_rf (some (c + 39))), some (va_rf (some (ad x))), some (va_rf (some (ad a))), some (va_rf (r.head?.map ad))] [] σ 0 0 := by
    intro r
    induction r with
    | nil =>
      intro ia a ha hr he
      refine r_aload_n rfl rfl ?_
      refine r_ifnull rfl (fun _ => ?_) (fun _ hq => by cases hq)
      refine r_aload_n rfl rfl ?_
      refine r_aret rfl rfl ?_
      rw [← hQ, ← he]
      exact ⟨rfl, rfl⟩
    | cons y r ih =>
      intro ia a ha hr he
      obtain ⟨iy, -, hy, -, hr2⟩ := nx_pos hr
      obtain ⟨-, -, hat, han, hl120⟩ := ord_at hS ha
      obtain ⟨-, -, hyt, hyn, -⟩ := ord_at hS hy
      have ka := g.1.2.2.2.1.1 a (Or.inl han)
      have ky := g.1.2.2.2.1.1 y (Or.inl hyn)
      obtain ⟨-, ca, pa, -, -⟩ := g.2.2.2 ia a ha
      obtain ⟨-, cy, py, -, -⟩ := g.2.2.2 iy y hy
      have eca : ctX S a = n_c S ia := by unfold ctX; rw [idx_of (ord_nd hW) ha]
      have ecy : ctX S y = n_c S iy := by unfold ctX; rw [idx_of (ord_nd hW) hy]
      have la : n_c S ia ≤ ia + 1 := (ctO_le ia).2
      have ly : n_c S iy ≤ iy + 1 := (ctO_le iy).2
      have l1 := getE_lt ha
      have l2 := getE_lt hy
      have he : (if adj S a y = true then lstR S y r else (a, y :: r)).1 = _ := he
      have stop : adj S a y = false → Gm l D m_Teller_lastOfRun 0 0 Q 50 [some (va_rf (some (c + 39))), some (va_rf (some (ad x))), some (va_rf (some (ad a))), some (va_rf (some (ad y)))] [] σ 0 0 := by
        intro e
        rw [e, if_neg (by decide)] at he
        refine r_aload_n rfl rfl ?_
        refine r_aret rfl rfl ?_
        rw [← hQ, ← he]
        exact ⟨rfl, rfl⟩
      refine r_aload_n rfl rfl ?_
      refine r_ifnull rfl (fun hq => by cases hq) (fun _ _ => ?_)
      show Gm l D m_Teller_lastOfRun 0 0 Q 12 [some (va_rf (some (c + 39))), some (va_rf (some (ad x))), some (va_rf (some (ad a))), some (va_rf (some (ad y)))] [] σ 0 0
      refine r_aload_n rfl rfl ?_
      (first | refine r_getPv rfl (by first | assumption | rfl) rfl (by assumption) ?_ | refine r_getP rfl (by first | assumption | rfl) rfl ?_)
      refine r_aload_n rfl rfl ?_
      (first | refine r_getPv rfl (by first | assumption | rfl) rfl (by assumption) ?_ | refine r_getP rfl (by first | assumption | rfl) rfl ?_)
      refine r_acmp_ne rfl (fun w => stop ?_) (fun w => ?_)
      · unfold adj
        rw [decide_eq_false, Bool.false_and]
        intro e
        rw [← oI_nb hS hyt, ← oI_nb hS hat] at e
        exact w (by rw [oI_inj (fun b hb => by have := nbO_lt hS hy hb; omega) (fun b hb => by have := nbO_lt hS ha hb; omega) e])
      · have eb : nbO S y = nbO S a := by
          cases hby : nbO S y with
          | none =>
            cases hba : nbO S a with
            | none => rfl
            | some b => rw [hby, hba] at w; cases w
          | some b =>
            cases hba : nbO S a with
            | none => rw [hby, hba] at w; cases w
            | some b' =>
              rw [hby, hba] at w
              rw [g.1.2.2.2.1.2.1 b b' (Or.inl (nbO_lt hS hy hby)) (Or.inl (nbO_lt hS ha hba)) (Option.some.inj w)]
        have enb : n_b S y = n_b S a := by rw [← oI_nb hS hyt, ← oI_nb hS hat, eb]
        refine r_aload_n rfl rfl ?_
        (first | refine r_getIv rfl (by first | assumption | rfl) rfl (by assumption) ?_ | refine r_getI rfl (by first | assumption | rfl) rfl ?_)
        refine r_aload_n rfl rfl ?_
        (first | refine r_getIv rfl (by first | assumption | rfl) rfl (by assumption) ?_ | refine r_getI rfl (by first | assumption | rfl) rfl ?_)
        refine r_iconst (v := nI 1) rfl (by decide) ?_
        (first | refine r_iaddN rfl ?_ | refine r_iadd rfl ?_)
        refine r_eqN rfl (by omega) (by omega) (fun q => ?_) (fun q => ?_)
        · have ead : adj S a y = true := by
            unfold adj
            rw [decide_eq_true enb, eca, ecy, decide_eq_true q]
            rfl
          rw [ead, if_pos rfl] at he
          refine r_aload_n rfl rfl ?_
          refine r_astore_n rfl (by decide) ?_
          refine r_aload_n rfl rfl ?_
          refine r_aload_n rfl rfl ?_
          refine r_callV (As := [_]) rfl (by decide) rfl k39 rfl rfl (Nat.le_of_ble_eq_true rfl) ⟨Nat.le_of_ble_eq_true rfl, Nat.le_of_ble_eq_true rfl⟩ (c_pickedBehind (m := iy + 1) g hp hy) (kc' := 0) (ks' := 0) (by omega) (by omega) (by decide) ?_
          rintro r σ ⟨rfl, rfl⟩
          rw [hr2]
          refine r_astore_n rfl (by decide) ?_
          refine r_goto rfl ?_
          exact ih iy y hy hr2 he
        · refine r_goto rfl ?_
          refine stop ?_
          unfold adj
          rw [eca, ecy, decide_eq_false q, Bool.and_false]
  refine r_aload_n rfl rfl ?_
  refine r_astore_n rfl (by decide) ?_
  refine r_aload_n rfl rfl ?_
  refine r_aload_n rfl rfl ?_
  refine r_callV (As := [_]) rfl (by decide) rfl k39 rfl rfl (Nat.le_of_ble_eq_true rfl) ⟨Nat.le_of_ble_eq_true rfl, Nat.le_of_ble_eq_true rfl⟩ (c_pickedBehind (m := i + 1) g hp hx) (kc' := 0) (ks' := 0) (by omega) (by omega) (by decide) ?_
  rintro r σ ⟨rfl, rfl⟩
  refine r_astore_n rfl (by decide) ?_
  exact loop _ i x hx rfl rfl
theorem CM1.cl {a : Nat} {q : Mn} (h : CM1 ow σ ad S a q) : ∃ b, h_P σ 260 a = some b ∧ b < h_z σ ∧ h_K σ b = 35 ∧ h_L σ b = mLen q ∧ ∀ j, j < mLen q → h_Y σ b j = ((elM q)[j]?).map ad := by
  obtain ⟨-, -, -, -, -, -, -, b, b1, b2, -, b4, b5, b6⟩ := h
  refine ⟨b, b1, b2, b4, b5, fun j hj => ?_⟩
  rw [b6 j hj, mRow_el, List.getElem?_map]
set_option maxHeartbeats 1000000 in
theorem c_pickMeant {a : Nat} {q : Mn} (g : RCd ow σ c ad B S) (hB : B < 2 ^ 30) (hq : q ∈ s_m S) (hm : CM1 ow σ ad S a q) : Cn l D m_Teller_pickMeant 0 0 [va_rf (some (c + 39)), va_rf (some a)] σ (fun r τ => r = none ∧ RCd ow τ c ad (B + 1) S ∧ PK τ c ad S (mtS S (elM q)) ∧ Fm ow [449, 529] [] [] σ τ) := by
  have hS := g.1.1
  have hW := hS.wf
  have z0 := g.1.2.1.1
  have k39 : h_K σ (c + 39) = 8 := g.1.2.1.2.1 (39, 8) (by decide)
  obtain ⟨s, i449, s2, s3⟩ := g.1.2.2.2.2.2.2.2.2.2.2.2.2
  obtain ⟨b, b1, b2, b3, b4, b5⟩ := hm.cl
  obtain ⟨e1, e2, e3, -, -⟩ := el_ok hS hq
  have ha := hm.1
  have ka : h_K σ a = 5 := hm.2.1
  have hlt : ∀ x, x < s_n S → ad x < h_z σ := fun x hx => TN.lt g.1.2.1 g.1.2.2.1 (Or.inl hx)
  generalize hQ : (fun (r : Option Value) (τ : Hp) => r = none ∧ RCd ow τ c ad (B + 1) S ∧ PK τ c ad S (mtS S (elM q)) ∧ Fm ow [449, 529] [] [] σ τ) = Q
  refine Cn.of (by decide) (by repeat (first | exact ca_0 | refine ca_i ?_ | refine ca_r ?_)) (Nat.le_of_ble_eq_true rfl) ?_
  have mk : ∀ (j : Nat) (τ : Hp), Fm ow [449, 529] [] [] σ τ → h_I τ 449 (c + 39) = nI (s + 1) → (∀ x, x < s_n S → h_I τ 529 (ad x) = if x ∈ ((elM q).take j).filterMap (ldo (s_T S)) then nI (s + 1) else h_I σ 529 (ad x)) → RCd ow τ c ad (B + 1) S := by
    intro j τ h1 h2 h3
    refine g.stp h1 ⟨s + 1, h2, by omega, fun x hx => ?_⟩
    obtain ⟨p, p1, p2⟩ := s3 x hx
    by_cases e : x ∈ ((elM q).take j).filterMap (ldo (s_T S))
    · exact ⟨s + 1, Nat.le_refl _, by rw [h3 x hx, if_pos e]⟩
    · exact ⟨p, by omega, by rw [h3 x hx, if_neg e]; exact p2⟩
  have loop : ∀ (d j : Nat) (τ : Hp) (w5 w6 : Option Value), j + d = mLen q → Fm ow [449, 529] [] [] σ τ → h_I τ 449 (c + 39) = nI (s + 1) → (∀ x, x < s_n S → h_I τ 529 (ad x) = if x ∈ ((elM q).take j).filterMap (ldo (s_T S)) then nI (s + 1) else h_I σ 529 (ad x)) → Gm l D m_Teller_pickMeant 0 0 Q 21 [some (va_rf (some (c + 39))), some (va_rf (some a)), some (va_rf (some b)), some (.int (nI (mLen q))), some (.int (nI j)), w5, w6] [] τ 0 0 := by
    intro d
    induction d with
    | zero =>
      intro j τ w5 w6 hj h1 h2 h3
      refine r_iload rfl rfl ?_
      refine r_iload_n rfl rfl ?_
      refine r_geN rfl (by omega) (by omega) (fun _ => ?_) (fun w => by omega)
      refine r_vret rfl rfl ?_
      rw [← hQ]
      refine ⟨rfl, mk j τ h1 h2 h3, ⟨s + 1, by omega, h2, fun x hx => ?_⟩, h1⟩
      rw [List.take_of_length_le (by omega)] at h3
      obtain ⟨p, p1, p2⟩ := s3 x hx
      by_cases e : x ∈ (elM q).filterMap (ldo (s_T S))
      · exact ⟨s + 1, by omega, by rw [h3 x hx, if_pos e], ⟨fun _ => decide_eq_true e, fun _ => rfl⟩⟩
      · exact ⟨p, by omega, by rw [h3 x hx, if_neg e]; exact p2, ⟨fun w => by omega, fun w => absurd (of_decide_eq_true w) e⟩⟩
    | succ d ih =>
      intro j τ w5 w6 hj h1 h2 h3
      have gt := mk j τ h1 h2 h3
      obtain ⟨v1, v2, -, -, v5⟩ := h1.2 b b2
      have kb : h_K τ b = 35 := by rw [v1]; exact b3
      have lb : h_L τ b = mLen q := by rw [v2]; exact b4
      have yb : h_Y τ b j = ((elM q)[j]?).map ad := by rw [(v5 (fun q => by cases q)).2]; exact b5 j (by omega)
      have k39t : h_K τ (c + 39) = 8 := gt.1.2.1.2.1 (39, 8) (by decide)
      have next : ∀ (ρ : Hp) (u5 u6 : Option Value), Fm ow [449, 529] [] [] σ ρ → h_I ρ 449 (c + 39) = nI (s + 1) → (∀ x, x < s_n S → h_I ρ 529 (ad x) = if x ∈ ((elM q).take (j + 1)).filterMap (ldo (s_T S)) then nI (s + 1) else h_I σ 529 (ad x)) → Gm l D m_Teller_pickMeant 0 0 Q 63 [some (va_rf (some (c + 39))), some (va_rf (some a)), some (va_rf (some b)), some (.int (nI (mLen q))), some (.int (nI j)), u5, u6] [] ρ 0 0 := by
        intro ρ u5 u6 q1 q2 q3
        refine r_iinc rfl rfl (nI_inc _) ?_
        refine r_goto rfl ?_
        exact ih (j + 1) ρ u5 u6 (by omega) q1 q2 q3
      refine r_iload rfl rfl ?_
      refine r_iload_n rfl rfl ?_
      refine r_geN rfl (by omega) (by omega) (fun w => by omega) (fun _ => ?_)
      refine r_aload_n rfl rfl ?_
      refine r_iload rfl rfl ?_
      refine r_aald (t := 5) rfl kb (by decide) rfl (by rw [lb]; omega) (by rw [lb]; omega) ?_
      rw [yb]
      refine r_astore rfl (by decide) ?_
      refine r_aload rfl rfl ?_
      cases hx : (elM q)[j]? with
      | none =>
        have hle : (elM q).length ≤ j := List.getElem?_eq_none_iff.mp hx
        refine r_ifnonnull rfl (fun _ hq => by cases hq) (fun _ => ?_)
        refine r_null rfl ?_
        refine r_goto rfl ?_
        refine r_astore rfl (by decide) ?_
        refine r_aload rfl rfl ?_
        refine r_ifnull rfl (fun _ => ?_) (fun _ hq => by cases hq)
        refine next τ _ _ h1 h2 ?_
        rw [List.take_of_length_le (by omega)]
        rw [List.take_of_length_le (by omega)] at h3
        exact h3
      | some x =>
        have hxm := List.mem_of_getElem? hx
        have hxn := e1 x hxm
        have hjl := getE_lt hx
        have kx := gt.1.2.2.2.1.1 x (Or.inl hxn)
        have etk : (elM q).take (j + 1) = (elM q).take j ++ [x] := by
          have ej : (elM q)[j] = x := by rw [List.getElem?_eq_getElem hjl] at hx; exact Option.some.inj hx
          rw [List.take_succ_eq_append_getElem hjl, ej]
        refine r_ifnonnull rfl (fun _ _ => ?_) (fun hq => by cases hq)
        refine r_aload rfl rfl ?_
        refine r_callV (As := []) rfl (by decide) rfl kx rfl rfl (Nat.le_of_ble_eq_true rfl) ⟨Nat.le_of_ble_eq_true rfl, Nat.le_of_ble_eq_true rfl⟩ (c_leadTC gt.1 hxn) (kc' := 0) (ks' := 0) (by omega) (by omega) (by decide) ?_
        rintro r τ ⟨rfl, rfl⟩
        refine r_astore rfl (by decide) ?_
        refine r_aload rfl rfl ?_
        cases hld : ldo (s_T S) x with
        | none =>
          refine r_ifnull rfl (fun _ => ?_) (fun _ hq => by cases hq)
          refine next τ _ _ h1 h2 ?_
          rw [etk, List.filterMap_append, List.filterMap_cons_none hld, List.filterMap_nil, List.append_nil]
          exact h3
        | some y =>
          have hyn := (ldo_lt hS hld).1
          have ky := gt.1.2.2.2.1.1 y (Or.inl hyn)
          refine r_ifnull rfl (fun hq => by cases hq) (fun _ _ => ?_)
          refine r_aload rfl rfl ?_
          refine r_aload_n rfl rfl ?_
          (first | refine r_getIv rfl (by first | assumption | rfl) rfl (by assumption) ?_ | refine r_getI rfl (by first | assumption | rfl) rfl ?_)
          refine r_putI rfl (by first | assumption | rfl) rfl (by first | exact Or.inl rfl | exact Or.inr ⟨rfl, rfl⟩) (by first | rfl | decide | assumption) (by first | rfl | decide) ?_
          refine next _ _ _ (h1.tr (Fm.I _ _ _ (by decide))) ((hI_n _ _ (by decide)).trans h2) (fun z hz => ?_)
          rw [etk, List.filterMap_append, List.filterMap_cons_some hld, List.filterMap_nil]
          by_cases e : z = y
          · rw [e, hI_w, if_pos (List.mem_append_right _ List.mem_cons_self)]
          · rw [hI_m _ _ (fun w => e (gt.1.2.2.2.1.2.1 z y (Or.inl hz) (Or.inl hyn) w)), h3 z hz]
            by_cases e2 : z ∈ ((elM q).take j).filterMap (ldo (s_T S))
            · rw [if_pos e2, if_pos (List.mem_append_left _ e2)]
            · rw [if_neg e2, if_neg (fun w => (List.mem_append.mp w).elim e2 (fun w => e (List.mem_singleton.mp w)))]
  refine r_aload_n rfl rfl ?_
  refine r_dup rfl (by first | rfl | exact rf_cat _) ?_
  (first | refine r_getIv rfl (by first | assumption | rfl) rfl (by assumption) ?_ | refine r_getI rfl (by first | assumption | rfl) rfl ?_)
  refine r_iconst (v := nI 1) rfl (by decide) ?_
  (first | refine r_iaddN rfl ?_ | refine r_iadd rfl ?_)
  refine r_putI rfl (by first | assumption | rfl) rfl (by first | exact Or.inl rfl | exact Or.inr ⟨rfl, rfl⟩) (by first | rfl | decide | assumption) (by first | rfl | decide) ?_
  generalize hσ1 : w_I σ 449 (c + 39) (nI (s + 1)) = σ1
  have f1 : Fm ow [449, 529] [] [] σ σ1 := by rw [← hσ1]; exact Fm.I _ _ _ (by decide)
  have i1 : h_I σ1 449 (c + 39) = nI (s + 1) := by rw [← hσ1]; exact hI_w _ _ _ _
  have ka1 : h_K σ1 a = 5 := by rw [← hσ1]; exact ka
  have p1 : h_P σ1 260 a = some b := by rw [← hσ1]; exact b1
  have kb1 : h_K σ1 b = 35 := by rw [← hσ1]; exact b3
  have lb1 : h_L σ1 b = mLen q := by rw [← hσ1]; exact b4
  refine r_aload_n rfl rfl ?_
  (first | refine r_getPv rfl (by first | assumption | rfl) rfl (by assumption) ?_ | refine r_getP rfl (by first | assumption | rfl) rfl ?_)
  refine r_astore_n rfl (by decide) ?_
  refine r_aload_n rfl rfl ?_
  refine r_alen rfl (Or.inr (by rw [kb1]; decide)) ?_
  rw [lb1]
  refine r_istore_n rfl (by decide) ?_
  refine r_iconst (v := nI 0) rfl (by decide) ?_
  refine r_istore rfl (by decide) ?_
  exact loop (mLen q) 0 σ1 none none (by omega) f1 i1 (fun x hx => by rw [List.take_zero, List.filterMap_nil, if_neg (fun w => by cases w), ← hσ1]; exact hI_n _ _ (by decide))
end TL
