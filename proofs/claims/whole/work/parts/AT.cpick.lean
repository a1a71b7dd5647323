/-! ===== the class: what mentions mean ===== -/
section TL
variable {l : Launch} {D : DD} {σ : Hp} {c B : Nat} {ow ad : Nat → Nat} {S : Sp}
theorem find_hd {f : Nat → Bool} : ∀ (L : List Nat), L.find? f = (L.filter f).head?
  | [] => rfl
  | x :: L => by
    rw [List.find?_cons, List.filter_cons]
    cases f x with
    | true => rfl
    | false => exact find_hd L
/-- the things of a mention -/
def elM (q : Mn) : List Nat := if q.2.1 = 0 ∨ q.2.1 = 4 then [q.2.2.1] else if q.2.1 = 1 then q.2.2.2.2 else []
theorem mRow_el (q : Mn) : mRow ad q = (elM q).map ad := by
  unfold mRow elM
  by_cases h1 : q.2.1 = 0 ∨ q.2.1 = 4
  · rw [if_pos h1, if_pos h1]; rfl
  · rw [if_neg h1, if_neg h1]
    by_cases h2 : q.2.1 = 1
    · rw [if_pos h2, if_pos h2]
    · rw [if_neg h2, if_neg h2]; rfl
theorem el_ok (hS : SOk S) {q : Mn} (hq : q ∈ s_m S) : (∀ x ∈ elM q, x < s_n S) ∧ (elM q).length ≤ mLen q ∧ mLen q ≤ 12 ∧ q.1 < s_n S ∧ q.2.1 < 5 := by
  obtain ⟨i, k, f, e, m⟩ := q
  obtain ⟨b1, b2, b3, b4, b5, b6, b7, b8, b9, b10⟩ := hS.2.2.2.2.2.2.2.2.2.1 i k f e m hq
  unfold elM mLen
  show (∀ x ∈ (if k = 0 ∨ k = 4 then [f] else if k = 1 then m else []), x < s_n S) ∧ (if k = 0 ∨ k = 4 then [f] else if k = 1 then m else []).length ≤ (if k = 0 ∨ k = 4 then 1 else if k = 1 then 12 else 0) ∧ (if k = 0 ∨ k = 4 then 1 else if k = 1 then 12 else 0) ≤ 12 ∧ i < s_n S ∧ k < 5
  by_cases h1 : k = 0 ∨ k = 4
  · rw [if_pos h1, if_pos h1]
    refine ⟨fun x hx => ?_, Nat.le_refl _, by decide, b1, b2⟩
    rw [List.mem_singleton.mp hx]
    exact h1.elim b3 (fun w => (b7 w).1)
  · rw [if_neg h1, if_neg h1]
    by_cases h2 : k = 1
    · rw [if_pos h2, if_pos h2]
      exact ⟨fun x hx => (b10 x hx).1, b9, by decide, b1, b2⟩
    · rw [if_neg h2, if_neg h2]
      exact ⟨fun x hx => (by cases hx), by decide, by decide, b1, b2⟩
/-- the stamps of those for which F holds, and of no others, are the newest -/
def PK (σ : Hp) (c : Nat) (ad : Nat → Nat) (S : Sp) (F : Nat → Bool) : Prop := ∃ s, s < 2 ^ 31 ∧ h_I σ 449 (c + 39) = nI s ∧ ∀ x, x < s_n S → ∃ p, p < 2 ^ 31 ∧ h_I σ 529 (ad x) = nI p ∧ (p = s ↔ F x = true)
/-- stamps alone have changed -/
theorem RCd.stp {τ : Hp} {B' : Nat} (g : RCd ow σ c ad B S) (h : Fm ow [449, 529] [] [] σ τ) (hp : CP τ c (s_n S) ad B') : RCd ow τ c ad B' S := by
  obtain ⟨⟨g1, g2, g3, g4, g5, ⟨xs, g6⟩, g7, g8, g9, g10, g11, g12, g13⟩, i320, hcn⟩ := g
  have z0 := g2.1
  have np : ∀ L : List Nat, ∀ f ∈ L, f ∉ ([] : List Nat) := fun L f _ q => by cases q
  have cn : CN τ c ad S := hcn.kp h g2 g1 g3 (fun x hx => g4.1 x (Or.inl hx)) (by decide) (np _) (fun q => by cases q)
  have i3 : h_I τ 320 (c + 35) = nI 0 := by rw [(h.2 (c + 35) (by omega)).2.2.1 320 (by decide) (fun e => by cases e)]; exact i320
  exact ⟨⟨g1, g2.kp h (by decide) (by decide) (fun q _ w => by cases w) (fun q => by cases q) (fun _ _ => rfl), g3.kp h g2 (by decide) (np _) (fun q => by cases q) (g3.lk h (fun q => by cases q) (fun q => by cases q) (by decide)) (fun _ _ => rfl), g4.kp h g2 g3 g1.wf.w0 (by decide) (np _), g5.kp h (by omega) (fun q => by cases q) (fun q => by cases q) (by decide) (by decide), ⟨xs, g6.kp h (by omega) (fun q => by cases q) (fun q => by cases q) (by decide) (by decide)⟩, g7.kp h g2 (by decide) (by decide) (fun q => by cases q) rfl rfl, Or.inr ⟨i3, cn⟩, g9.kp h g2 (by decide) (np _) (fun q => by cases q), g10.kp h g2 (by decide) (np _) (fun q => by cases q) (fun q => by cases q) (fun _ _ => rfl) rfl (fun _ _ _ => rfl), g11.kp h g2 (by decide) (np _) (fun q => by cases q) (fun q => by cases q) (fun _ _ => rfl) rfl, g12.kp h g2 (by decide) (fun q => by cases q) rfl, hp⟩, i3, cn⟩
theorem PK.kp {τ : Hp} {F : Nat → Bool} {FI FP RS : List Nat} (g : RC ow σ c ad B S) (h : Fm ow FI FP RS σ τ) (h1 : 449 ∉ FI) (h2 : 529 ∉ FI) (hp : PK σ c ad S F) : PK τ c ad S F := by
  have z0 := g.2.1.1
  obtain ⟨s, s1, s2, s3⟩ := hp
  refine ⟨s, s1, by rw [(h.2 (c + 39) (by omega)).2.2.1 449 h1 (fun e => by cases e)]; exact s2, fun x hx => ?_⟩
  obtain ⟨p, p1, p2, p3⟩ := s3 x hx
  exact ⟨p, p1, by rw [(h.2 (ad x) (TN.lt g.2.1 g.2.2.1 (Or.inl hx))).2.2.1 529 h2 (fun e => by cases e)]; exact p2, p3⟩
theorem c_nextOfKind {o : Option Nat} {k : Nat} (g : RCd ow σ c ad B S) (hk : k < 6) (ho : ∀ y, o = some y → t_h (s_T S) y = true) : Cn l D m_Teller_nextOfKind 0 0 [va_rf (o.map ad), .int (nI k)] σ (fun r τ => r = some (va_rf ((match o with
    | none => none
    | some y => nxK (fun x => nI (s_k S x)) (ordT (s_T S)) ((ordT (s_T S)).idxOf y) (nI k)).map ad)) ∧ τ = σ) := by
  have hS := g.1.1
  have hW := hS.wf
  generalize hQ : (fun (r : Option Value) (τ : Hp) => r = some (va_rf ((match o with
    | none => none
    | some y => nxK (fun x => nI (s_k S x)) (ordT (s_T S)) ((ordT (s_T S)).idxOf y) (nI k)).map ad)) ∧ τ = σ) = Q
  refine Cn.of (by decide) (by repeat (first | exact ca_0 | refine ca_i ?_ | refine ca_r ?_)) (Nat.le_of_ble_eq_true rfl) ?_
  refine r_aload_n rfl rfl ?_
  have loop : ∀ (d m : Nat) (w : Value), m + d = (ordT (s_T S)).length → (∀ τ, τ = σ → Q (some (va_rf ((((ordT (s_T S)).drop m).find? (fun y => decide (nI (s_k S y) = nI k))).map ad))) τ) → Gm l D m_Teller_nextOfKind 0 0 Q 13 [some w, some (.int (nI k)), some (va_rf (((ordT (s_T S))[m]?).map ad))] [] σ 0 0 := by
    intro d
    induction d with
    | zero =>
      intro m w hm hq
      rw [List.getElem?_eq_none (by omega)]
      rw [List.drop_eq_nil_of_le (by omega)] at hq
      refine r_aload_n rfl rfl ?_
      refine r_ifnull rfl (fun _ => ?_) (fun _ hq => by cases hq)
      refine r_null rfl ?_
      exact r_aret rfl rfl (hq σ rfl)
    | succ d ih =>
      intro m w hm hq
      obtain ⟨x, hx⟩ : ∃ x, (ordT (s_T S))[m]? = some x := ⟨_, List.getElem?_eq_getElem (by omega)⟩
      obtain ⟨hml, ex, -, hxn, -⟩ := ord_at hS hx
      have kx := g.1.2.2.2.1.1 x (Or.inl hxn)
      have i513 := (g.1.2.2.1.2.2.2 x hxn).2.2.2.2.1
      have nx := g.nx.2 m x hx
      have hx6 := hS.2.1 x hxn
      rw [drop_c hml, ex, List.find?_cons] at hq
      rw [hx]
      refine r_aload_n rfl rfl ?_
      refine r_ifnull rfl (fun hq => by cases hq) (fun _ _ => ?_)
      show Gm l D m_Teller_nextOfKind 0 0 Q 17 [some w, some (.int (nI k)), some (va_rf (some (ad x)))] [] σ 0 0
      refine r_aload_n rfl rfl ?_
      (first | refine r_getIv rfl (by first | assumption | rfl) rfl (by assumption) ?_ | refine r_getI rfl (by first | assumption | rfl) rfl ?_)
      refine r_iload_n rfl rfl ?_
      refine r_neN rfl (by omega) (by omega) (fun q => ?_) (fun q => ?_)
      · rw [decide_eq_false (fun e => q ((nI_eq (by omega) (by omega)).mp e))] at hq
        refine r_aload_n rfl rfl ?_
        (first | refine r_getPv rfl (by first | assumption | rfl) rfl (by assumption) ?_ | refine r_getP rfl (by first | assumption | rfl) rfl ?_)
        refine r_astore_n rfl (by decide) ?_
        refine r_goto rfl ?_
        exact ih (m + 1) w (by omega) hq
      · rw [decide_eq_true (by rw [q])] at hq
        refine r_aload_n rfl rfl ?_
        exact r_aret rfl rfl (hq σ rfl)
  cases o with
  | none =>
    refine r_ifnonnull rfl (fun _ hq => by cases hq) (fun _ => ?_)
    refine r_null rfl ?_
    refine r_goto rfl ?_
    refine r_astore_n rfl (by decide) ?_
    refine r_aload_n rfl rfl ?_
    refine r_ifnull rfl (fun _ => ?_) (fun _ hq => by cases hq)
    refine r_null rfl ?_
    refine r_aret rfl rfl ?_
    rw [← hQ]
    exact ⟨rfl, rfl⟩
  | some y =>
    obtain ⟨a1, -, a3⟩ := idx_at ((ord_mem hW).mpr (ho y rfl))
    have ky := g.1.2.2.2.1.1 y (Or.inl (hW.h_lt (ho y rfl)))
    have ny := g.nx.2 _ y a3
    refine r_ifnonnull rfl (fun _ _ => ?_) (fun hq => by cases hq)
    show Gm l D m_Teller_nextOfKind 0 0 Q 8 [some (va_rf (some (ad y))), some (.int (nI k)), none] [] σ 0 0
    refine r_aload_n rfl rfl ?_
    (first | refine r_getPv rfl (by first | assumption | rfl) rfl (by assumption) ?_ | refine r_getP rfl (by first | assumption | rfl) rfl ?_)
    refine r_astore_n rfl (by decide) ?_
    refine loop ((ordT (s_T S)).length - ((ordT (s_T S)).idxOf y + 1)) _ _ (by omega) (fun τ hτ => ?_)
    rw [← hQ]
    exact ⟨rfl, hτ⟩
theorem c_latestOfKind {o : Option Nat} {k : Nat} (g : RCd ow σ c ad B S) (hk : k < 6) (ho : ∀ y, o = some y → t_h (s_T S) y = true) : Cn l D m_Teller_latestOfKind 0 0 [va_rf (some (c + 39)), va_rf (o.map ad), .int (nI k)] σ (fun r τ => r = some (va_rf ((match o with
    | none => none
    | some y => ltK (fun x => nI (s_k S x)) (ordT (s_T S)) (nI k) ((ordT (s_T S)).idxOf y)).map ad)) ∧ τ = σ) := by
  have hS := g.1.1
  have hW := hS.wf
  have k39 : h_K σ (c + 39) = 8 := g.1.2.1.2.1 (39, 8) (by decide)
  have k4 : h_K σ (c + 4) = 9 := g.1.2.1.2.1 (4, 9) (by decide)
  have p448 : h_P σ 448 (c + 39) = some (c + 4) := g.1.2.1.2.2.1 (448, 39, 4) (by decide)
  have p520 := g.nx.1
  generalize hQ : (fun (r : Option Value) (τ : Hp) => r = some (va_rf ((match o with
    | none => none
    | some y => ltK (fun x => nI (s_k S x)) (ordT (s_T S)) (nI k) ((ordT (s_T S)).idxOf y)).map ad)) ∧ τ = σ) = Q
  refine Cn.of (by decide) (by repeat (first | exact ca_0 | refine ca_i ?_ | refine ca_r ?_)) (Nat.le_of_ble_eq_true rfl) ?_
  refine r_null rfl ?_
  refine r_astore_n rfl (by decide) ?_
  refine r_aload_n rfl rfl ?_
  cases o with
  | none =>
    refine r_ifnonnull rfl (fun _ hq => by cases hq) (fun _ => ?_)
    refine r_null rfl ?_
    refine r_goto rfl ?_
    refine r_astore rfl (by decide) ?_
    refine r_aload rfl rfl ?_
    refine r_ifnull rfl (fun _ => ?_) (fun _ hq => by cases hq)
    refine r_aload_n rfl rfl ?_
    refine r_aret rfl rfl ?_
    rw [← hQ]
    exact ⟨rfl, rfl⟩
  | some y =>
    have hyt := ho y rfl
    have hyn := hW.h_lt hyt
    obtain ⟨a1, -, a3⟩ := idx_at ((ord_mem hW).mpr hyt)
    generalize hi : (ordT (s_T S)).idxOf y = i at a1 a3 hQ
    have loop : ∀ (d m : Nat), m + d = i → Gm l D m_Teller_latestOfKind 0 0 Q 19 [some (va_rf (some (c + 39))), some (va_rf (some (ad y))), some (.int (nI k)), some (va_rf ((ltK (fun x => nI (s_k S x)) (ordT (s_T S)) (nI k) m).map ad)), some (va_rf (((ordT (s_T S))[m]?).map ad))] [] σ 0 0 := by
      intro d
      induction d with
      | zero =>
        intro m hm
        rw [show m = i by omega, a3]
        refine r_aload rfl rfl ?_
        refine r_ifnull rfl (fun hq => by cases hq) (fun _ _ => ?_)
        refine r_aload rfl rfl ?_
        refine r_aload_n rfl rfl ?_
        refine r_acmp_eq rfl (fun _ => ?_) (fun q => absurd rfl q)
        refine r_aload_n rfl rfl ?_
        refine r_aret rfl rfl ?_
        rw [← hQ]
        refine ⟨?_, rfl⟩
        show _ = some (va_rf (Option.map ad (ltK (fun x => nI (s_k S x)) (ordT (s_T S)) (nI k) ((ordT (s_T S)).idxOf y))))
        rw [hi]
      | succ d ih =>
        intro m hm
        obtain ⟨x, hx⟩ : ∃ x, (ordT (s_T S))[m]? = some x := ⟨_, List.getElem?_eq_getElem (by omega)⟩
        obtain ⟨hml, ex, -, hxn, -⟩ := ord_at hS hx
        have kx := g.1.2.2.2.1.1 x (Or.inl hxn)
        have i513 := (g.1.2.2.1.2.2.2 x hxn).2.2.2.2.1
        have nx := g.nx.2 m x hx
        have hx6 := hS.2.1 x hxn
        have hxy : x ≠ y := fun w => by
          rw [w] at hx
          have := idx_of (ord_nd hW) hx
          rw [idx_of (ord_nd hW) a3] at this
          omega
        have ih := ih (m + 1) (by omega)
        have es : ltK (fun x => nI (s_k S x)) (ordT (s_T S)) (nI k) (m + 1) = if nI (s_k S x) = nI k then some x else ltK (fun x => nI (s_k S x)) (ordT (s_T S)) (nI k) m := by
          show (if nI (s_k S ((ordT (s_T S)).getD m 0)) = nI k then some ((ordT (s_T S)).getD m 0) else _) = _
          rw [ex]
        rw [es] at ih
        rw [hx]
        refine r_aload rfl rfl ?_
        refine r_ifnull rfl (fun hq => by cases hq) (fun _ _ => ?_)
        refine r_aload rfl rfl ?_
        refine r_aload_n rfl rfl ?_
        refine r_acmp_eq rfl (fun q => absurd (g.1.2.2.2.1.2.1 x y (Or.inl hxn) (Or.inl hyn) (Option.some.inj q)) hxy) (fun _ => ?_)
        show Gm l D m_Teller_latestOfKind 0 0 Q 30 [some (va_rf (some (c + 39))), some (va_rf (some (ad y))), some (.int (nI k)), some (va_rf ((ltK (fun x => nI (s_k S x)) (ordT (s_T S)) (nI k) m).map ad)), some (va_rf (some (ad x)))] [] σ 0 0
        refine r_aload rfl rfl ?_
        (first | refine r_getIv rfl (by first | assumption | rfl) rfl (by assumption) ?_ | refine r_getI rfl (by first | assumption | rfl) rfl ?_)
        refine r_iload_n rfl rfl ?_
        refine r_neN rfl (by omega) (by omega) (fun q => ?_) (fun q => ?_)
        · rw [if_neg (fun e => q ((nI_eq (by omega) (by omega)).mp e))] at ih
          refine r_aload rfl rfl ?_
          (first | refine r_getPv rfl (by first | assumption | rfl) rfl (by assumption) ?_ | refine r_getP rfl (by first | assumption | rfl) rfl ?_)
          refine r_astore rfl (by decide) ?_
          refine r_goto rfl ?_
          exact ih
        · rw [if_pos (by rw [q])] at ih
          refine r_aload rfl rfl ?_
          refine r_astore_n rfl (by decide) ?_
          refine r_aload rfl rfl ?_
          (first | refine r_getPv rfl (by first | assumption | rfl) rfl (by assumption) ?_ | refine r_getP rfl (by first | assumption | rfl) rfl ?_)
          refine r_astore rfl (by decide) ?_
          refine r_goto rfl ?_
          exact ih
    refine r_ifnonnull rfl (fun _ _ => ?_) (fun hq => by cases hq)
    refine r_aload_n rfl rfl ?_
    (first | refine r_getPv rfl (by first | assumption | rfl) rfl (by assumption) ?_ | refine r_getP rfl (by first | assumption | rfl) rfl ?_)
    (first | refine r_getPv rfl (by first | assumption | rfl) rfl (by assumption) ?_ | refine r_getP rfl (by first | assumption | rfl) rfl ?_)
    refine r_astore rfl (by decide) ?_
    exact loop i 0 (by omega)
theorem c_pickedBehind {m z : Nat} {F : Nat → Bool} (g : RCd ow σ c ad B S) (hp : PK σ c ad S F) (hz : (120 :: ordT (s_T S))[m]? = some z) : Cn l D m_Teller_pickedBehind 0 0 [va_rf (some (c + 39)), va_rf (some (ad z))] σ (fun r τ => r = some (va_rf ((((ordT (s_T S)).drop m).filter F).head?.map ad)) ∧ τ = σ) := by
  have hS := g.1.1
  have hW := hS.wf
  have k39 : h_K σ (c + 39) = 8 := g.1.2.1.2.1 (39, 8) (by decide)
  obtain ⟨s, s1, i449, s3⟩ := hp
  have kz : h_K σ (ad z) = 9 := by
    cases m with
    | zero => cases hz; exact g.1.2.2.2.1.1 120 (Or.inr rfl)
    | succ m => exact g.1.2.2.2.1.1 z (Or.inl (ord_at hS hz).2.2.2.1)
  have nz : h_P σ 520 (ad z) = ((ordT (s_T S))[m]?).map ad := by
    cases m with
    | zero => cases hz; rw [g.1.2.2.1.2.1]; exact g.nx.1
    | succ m => exact g.nx.2 m z hz
  have hml : m ≤ (ordT (s_T S)).length := by
    have := getE_lt hz
    rw [List.length_cons] at this
    omega
  generalize hQ : (fun (r : Option Value) (τ : Hp) => r = some (va_rf ((((ordT (s_T S)).drop m).filter F).head?.map ad)) ∧ τ = σ) = Q
  refine Cn.of (by decide) (by repeat (first | exact ca_0 | refine ca_i ?_ | refine ca_r ?_)) (Nat.le_of_ble_eq_true rfl) ?_
  have loop : ∀ (d q : Nat), q + d = (ordT (s_T S)).length → (((ordT (s_T S)).drop q).filter F).head? = (((ordT (s_T S)).drop m).filter F).head? → Gm l D m_Teller_pickedBehind 0 0 Q 5 [some (va_rf (some (c + 39))), some (va_rf (some (ad z))), some (va_rf (((ordT (s_T S))[q]?).map ad))] [] σ 0 0 := by
    intro d
    induction d with
    | zero =>
      intro q hq he
      rw [List.getElem?_eq_none (by omega)]
      rw [List.drop_eq_nil_of_le (by omega)] at he
      refine r_aload_n rfl rfl ?_
      refine r_ifnull rfl (fun _ => ?_) (fun _ hq => by cases hq)
      refine r_null rfl ?_
      refine r_aret rfl rfl ?_
      rw [← hQ, ← he]
      exact ⟨rfl, rfl⟩
    | succ d ih =>
      intro q hq he
      obtain ⟨x, hx⟩ : ∃ x, (ordT (s_T S))[q]? = some x := ⟨_, List.getElem?_eq_getElem (by omega)⟩
      obtain ⟨hql, ex, -, hxn, -⟩ := ord_at hS hx
      have kx := g.1.2.2.2.1.1 x (Or.inl hxn)
      obtain ⟨p, p1, i529, p3⟩ := s3 x hxn
      have nx := g.nx.2 q x hx
      rw [drop_c hql, ex, List.filter_cons] at he
      rw [hx]
      refine r_aload_n rfl rfl ?_
      refine r_ifnull rfl (fun hq => by cases hq) (fun _ _ => ?_)
      show Gm l D m_Teller_pickedBehind 0 0 Q 9 [some (va_rf (some (c + 39))), some (va_rf (some (ad z))), some (va_rf (some (ad x)))] [] σ 0 0
      refine r_aload_n rfl rfl ?_
      (first | refine r_getIv rfl (by first | assumption | rfl) rfl (by assumption) ?_ | refine r_getI rfl (by first | assumption | rfl) rfl ?_)
      refine r_aload_n rfl rfl ?_
      (first | refine r_getIv rfl (by first | assumption | rfl) rfl (by assumption) ?_ | refine r_getI rfl (by first | assumption | rfl) rfl ?_)
      refine r_neN rfl p1 s1 (fun w => ?_) (fun w => ?_)
      · rw [if_neg (fun e => w (p3.mpr e))] at he
        refine r_aload_n rfl rfl ?_
        (first | refine r_getPv rfl (by first | assumption | rfl) rfl (by assumption) ?_ | refine r_getP rfl (by first | assumption | rfl) rfl ?_)
        refine r_astore_n rfl (by decide) ?_
        refine r_goto rfl ?_
        exact ih (q + 1) (by omega) he
      · rw [if_pos (p3.mp w)] at he
        refine r_aload_n rfl rfl ?_
        refine r_aret rfl rfl ?_
        rw [← hQ, ← he]
        exact ⟨rfl, rfl⟩
  refine r_aload_n rfl rfl ?_
  (first | refine r_getPv rfl (by first | assumption | rfl) rfl (by assumption) ?_ | refine r_getP rfl (by first | assumption | rfl) rfl ?_)
  refine r_astore_n rfl (by decide) ?_
  exact loop ((ordT (s_T S)).length - m) m (by omega) rfl
end TL
