/-! ===== class Thing: giveKids ===== -/
/-- the kids of a from the j-th on hang on b -/
def gvS (σ : Hp) (a b kid j : Nat) (L : List Nat) : Hp := upsA (w_P (match (if j = 0 then none else L[j - 1]?) with
  | none => w_P σ 516 a none
  | some c => w_P σ 517 c none) 516 b (some kid)) (L.drop j) b
theorem Ch.drop {σ : Hp} {f : Nat} : ∀ {L : List Nat} {p : Option Nat} (j : Nat), Ch σ f L p → ∃ q, Ch σ f (L.drop j) q ∧ (∀ c, L[j]? = some c → q = some c)
  | [], p, j, h => ⟨none, by rw [List.drop_nil]; exact rfl, fun c hc => by simp at hc⟩
  | y :: L, p, 0, h => ⟨p, h, fun c hc => by
    have : y = c := by simpa using hc
    rw [← this]
    exact h.1⟩
  | y :: L, p, j + 1, h => by
    obtain ⟨q, q1, q2⟩ := Ch.drop j h.2.2
    exact ⟨q, q1, fun c hc => q2 c (by simpa using hc)⟩
section TC
variable {l : Launch} {D : DD} {σ : Hp} {a b kid j : Nat} {L : List Nat}
theorem c_giveKids (hk : h_K σ a = 9) (hkb : h_K σ b = 9) (hkk : h_K σ kid = 9) (hu : h_P σ 515 kid = some a) (hA : Ch σ 517 L (h_P σ 516 a)) (hl : L.length < 2 ^ 30) (hj : L[j]? = some kid) (hj2 : ∀ q, q < j → L[q]? ≠ some kid) (hd : ∀ c, L[j - 1]? = some c → 0 < j → c ∉ L.drop j) : Cn l D m_Thing_giveKids 0 0 [va_rf (some a), va_rf (some kid), va_rf (some b)] σ (fun r τ => r = none ∧ τ = gvS σ a b kid j L) := by
  generalize hQ : (fun (r : Option Value) (τ : Hp) => r = none ∧ τ = gvS σ a b kid j L) = Q
  have hjl : j < L.length := (List.getElem?_eq_some_iff.mp hj).1
  refine Cn.of (by decide) (by repeat (first | exact ca_0 | refine ca_i ?_ | refine ca_r ?_)) (Nat.le_of_ble_eq_true rfl) ?_
  refine r_aload_n rfl rfl ?_
  refine r_ifnonnull rfl (fun _ _ => ?_) (fun q => by cases q)
  refine r_aload_n rfl rfl ?_
  refine r_aload_n rfl rfl ?_
  refine r_callV (As := []) rfl (by decide) rfl hkk rfl rfl (Nat.le_of_ble_eq_true rfl) ⟨Nat.le_of_ble_eq_true rfl, Nat.le_of_ble_eq_true rfl⟩ (c_index hkk hu hk hA (by omega) hj hj2) (kc' := 0) (ks' := 0) (by omega) (by omega) (by decide) ?_
  rintro r τ ⟨rfl, rfl⟩
  refine r_iconst (v := nI 1) rfl (by decide) ?_
  refine r_isub rfl ?_
  refine r_callV (As := [_]) rfl (by decide) rfl hk rfl rfl (Nat.le_of_ble_eq_true rfl) ⟨Nat.le_of_ble_eq_true rfl, Nat.le_of_ble_eq_true rfl⟩ (c_kidAt hk hA (by omega)) (kc' := 0) (ks' := 0) (by omega) (by omega) (by decide) ?_
  rintro r τ' ⟨rfl, rfl⟩
  rw [kdA_m1 (by omega)]
  obtain ⟨p0, c1, c2⟩ := Ch.drop j hA
  have hp0 : p0 = some kid := c2 kid hj
  subst hp0
  have loop : ∀ (M : List Nat) (ρ : Hp) (p z : Option Nat), Ch ρ 517 M p → h_K ρ b = 9 → upsA ρ M b = gvS τ' a b kid j L → Gm l D m_Thing_giveKids 0 0 Q 41 [some (va_rf (some a)), some (va_rf (some kid)), some (va_rf (some b)), some (va_rf z), some (va_rf p)] [] ρ 0 0 := by
    intro M
    induction M with
    | nil =>
      intro ρ p z h hkρ he
      have h : p = none := h
      subst h
      refine r_aload rfl rfl ?_
      refine r_ifnull rfl (fun _ => ?_) (fun c q => by cases q)
      refine r_vret rfl rfl ?_
      rw [← hQ, ← he]
      exact ⟨rfl, rfl⟩
    | cons c M ih =>
      intro ρ p z h hkρ he
      obtain ⟨rfl, h1, h2⟩ := h
      refine r_aload rfl rfl ?_
      refine r_ifnull rfl (fun q => by cases q) (fun c' q => ?_)
      refine r_aload rfl rfl ?_
      refine r_aload_n rfl rfl ?_
      refine r_putP rfl (by first | assumption | rfl) rfl (by first | exact Or.inl rfl | exact Or.inr ⟨rfl, rfl⟩) ?_
      have h1' : h_K (w_P ρ 515 c (some b)) c = 9 := h1
      refine r_aload rfl rfl ?_
      (first | refine r_getPv rfl (by first | assumption | rfl) rfl (by assumption) ?_ | refine r_getP rfl (by first | assumption | rfl) rfl ?_)
      refine r_astore rfl (by decide) ?_
      refine r_goto rfl ?_
      rw [hP_n ρ (f := 515) (g := 517) (a := c) (b := c) (some b) (by decide)]
      exact ih (w_P ρ 515 c (some b)) _ z (Ch.keep (σ := ρ) (τ := w_P ρ 515 c (some b)) rfl (fun x => hP_n ρ (f := 515) (g := 517) (a := c) (b := x) (some b) (by decide)) h2) hkρ he
  cases he : (if j = 0 then none else L[j - 1]?) with
  | none =>
    refine r_astore_n rfl (by decide) ?_
    refine r_aload_n rfl rfl ?_
    refine r_ifnonnull rfl (fun c q => by cases q) (fun _ => ?_)
    refine r_aload_n rfl rfl ?_
    refine r_null rfl ?_
    refine r_putP rfl (by first | assumption | rfl) rfl (by first | exact Or.inl rfl | exact Or.inr ⟨rfl, rfl⟩) ?_
    refine r_goto rfl ?_
    have hkb2 : h_K (w_P τ' 516 a none) b = 9 := hkb
    refine r_aload_n rfl rfl ?_
    refine r_aload_n rfl rfl ?_
    refine r_putP rfl (by first | assumption | rfl) rfl (by first | exact Or.inl rfl | exact Or.inr ⟨rfl, rfl⟩) ?_
    refine r_aload_n rfl rfl ?_
    refine r_astore rfl (by decide) ?_
    refine loop (L.drop j) _ _ _ ?_ hkb ?_
    · refine Ch.keep (σ := τ') (τ := w_P (w_P τ' 516 a none) 516 b (some kid)) rfl (fun x => ?_) c1
      rw [hP_n _ (f := 516) (g := 517) _ (by decide), hP_n _ (f := 516) (g := 517) _ (by decide)]
    · unfold gvS
      rw [he]
  | some c =>
    have hj0 : ¬ j = 0 := fun e => by rw [if_pos e] at he; cases he
    have he2 : L[j - 1]? = some c := by rw [if_neg hj0] at he; exact he
    have hkc : h_K τ' c = 9 := hA.mem c (List.mem_of_getElem? he2)
    have hkb2 : h_K (w_P τ' 517 c none) b = 9 := hkb
    refine r_astore_n rfl (by decide) ?_
    refine r_aload_n rfl rfl ?_
    refine r_ifnonnull rfl (fun c' q => ?_) (fun q => by cases q)
    cases q
    refine r_aload_n rfl rfl ?_
    refine r_null rfl ?_
    refine r_putP rfl (by first | assumption | rfl) rfl (by first | exact Or.inl rfl | exact Or.inr ⟨rfl, rfl⟩) ?_
    refine r_aload_n rfl rfl ?_
    refine r_aload_n rfl rfl ?_
    refine r_putP rfl (by first | assumption | rfl) rfl (by first | exact Or.inl rfl | exact Or.inr ⟨rfl, rfl⟩) ?_
    refine r_aload_n rfl rfl ?_
    refine r_astore rfl (by decide) ?_
    have keep : ∀ (M : List Nat) (p : Option Nat), c ∉ M → Ch τ' 517 M p → Ch (w_P τ' 517 c none) 517 M p := by
      intro M
      induction M with
      | nil => intro p _ h; exact h
      | cons y M ih =>
        intro p hc h
        refine ⟨h.1, h.2.1, ?_⟩
        rw [hP_m τ' (f := 517) (g := 517) (a := c) (b := y) _ (fun e => hc (by rw [e]; exact List.mem_cons_self))]
        exact ih _ (fun w => hc (List.mem_cons_of_mem _ w)) h.2.2
    refine loop (L.drop j) _ _ _ ?_ hkb ?_
    · refine Ch.keep (σ := w_P τ' 517 c none) (τ := w_P (w_P τ' 517 c none) 516 b (some kid)) rfl (fun x => ?_) (keep _ _ (hd c he2 (by omega)) c1)
      rw [hP_n _ (f := 516) (g := 517) _ (by decide)]
    · unfold gvS
      rw [he]
end TC
