/-! ===== class Thing: takeKids ===== -/
/-- all of L hang on a -/
def upsA (σ : Hp) : List Nat → Nat → Hp
  | [], _ => σ
  | c :: L, a => upsA (w_P σ 515 c (some a)) L a
theorem upsA_K (σ : Hp) : ∀ (L : List Nat) (a : Nat), h_K (upsA σ L a) = h_K σ
  | [], _ => rfl
  | c :: L, a => (upsA_K (w_P σ 515 c (some a)) L a).trans rfl
/-- what hangs on b (LB) comes behind what hangs on a (LA) -/
def tkS (σ : Hp) (a b : Nat) (LA LB : List Nat) : Hp := w_P (upsA (match (if LA.length = 0 then none else LA[LA.length - 1]?) with
  | none => w_P σ 516 a (h_P σ 516 b)
  | some c => w_P σ 517 c (h_P σ 516 b)) LB a) 516 b none
section TC
variable {l : Launch} {D : DD} {σ : Hp} {a b : Nat} {LA LB : List Nat}
theorem c_takeKids (hk : h_K σ a = 9) (hkb : h_K σ b = 9) (hab : b ≠ a) (hA : Ch σ 517 LA (h_P σ 516 a)) (hB : Ch σ 517 LB (h_P σ 516 b)) (hl : LA.length < 2 ^ 30) (hd : ∀ c ∈ LA, c ∉ LB) : Cn l D m_Thing_takeKids 0 0 [va_rf (some a), va_rf (some b)] σ (fun r τ => r = none ∧ τ = tkS σ a b LA LB) := by
  generalize hQ : (fun (r : Option Value) (τ : Hp) => r = none ∧ τ = tkS σ a b LA LB) = Q
  refine Cn.of (by decide) (by repeat (first | exact ca_0 | refine ca_i ?_ | refine ca_r ?_)) (Nat.le_of_ble_eq_true rfl) ?_
  refine r_aload_n rfl rfl ?_
  refine r_aload_n rfl rfl ?_
  refine r_callV (As := []) rfl (by decide) rfl hk rfl rfl (Nat.le_of_ble_eq_true rfl) ⟨Nat.le_of_ble_eq_true rfl, Nat.le_of_ble_eq_true rfl⟩ (c_kidCount hk hA (by omega)) (kc' := 0) (ks' := 0) (by omega) (by omega) (by decide) ?_
  rintro r τ ⟨rfl, rfl⟩
  refine r_iconst (v := nI 1) rfl (by decide) ?_
  refine r_isub rfl ?_
  refine r_callV (As := [_]) rfl (by decide) rfl hk rfl rfl (Nat.le_of_ble_eq_true rfl) ⟨Nat.le_of_ble_eq_true rfl, Nat.le_of_ble_eq_true rfl⟩ (c_kidAt hk hA (by omega)) (kc' := 0) (ks' := 0) (by omega) (by omega) (by decide) ?_
  rintro r τ' ⟨rfl, rfl⟩
  rw [kdA_m1 (by omega)]
  have loop : ∀ (M : List Nat) (ρ : Hp) (p z : Option Nat), Ch ρ 517 M p → h_K ρ b = 9 → (r : Option Value) → w_P (upsA ρ M a) 516 b none = tkS τ' a b LA LB → Gm l D m_Thing_takeKids 0 0 Q 39 [some (va_rf (some a)), some (va_rf (some b)), some (va_rf z), some (va_rf p)] [] ρ 0 0 := by
    intro M
    induction M with
    | nil =>
      intro ρ p z h hkρ _ he
      have h : p = none := h
      subst h
      refine r_aload_n rfl rfl ?_
      refine r_ifnull rfl (fun _ => ?_) (fun c q => by cases q)
      refine r_aload_n rfl rfl ?_
      refine r_null rfl ?_
      refine r_putP rfl (by first | assumption | rfl) rfl (by first | exact Or.inl rfl | exact Or.inr ⟨rfl, rfl⟩) ?_
      refine r_vret rfl rfl ?_
      rw [← hQ, ← he]
      exact ⟨rfl, rfl⟩
    | cons c M ih =>
      intro ρ p z h hkρ _ he
      obtain ⟨rfl, h1, h2⟩ := h
      refine r_aload_n rfl rfl ?_
      refine r_ifnull rfl (fun q => by cases q) (fun c' q => ?_)
      refine r_aload_n rfl rfl ?_
      refine r_aload_n rfl rfl ?_
      refine r_putP rfl (by first | assumption | rfl) rfl (by first | exact Or.inl rfl | exact Or.inr ⟨rfl, rfl⟩) ?_
      have h1' : h_K (w_P ρ 515 c (some a)) c = 9 := h1
      refine r_aload_n rfl rfl ?_
      (first | refine r_getPv rfl (by first | assumption | rfl) rfl (by assumption) ?_ | refine r_getP rfl (by first | assumption | rfl) rfl ?_)
      refine r_astore_n rfl (by decide) ?_
      refine r_goto rfl ?_
      rw [hP_n ρ (f := 515) (g := 517) (a := c) (b := c) (some a) (by decide)]
      exact ih (w_P ρ 515 c (some a)) _ z (Ch.keep (σ := ρ) (τ := w_P ρ 515 c (some a)) rfl (fun x => hP_n ρ (f := 515) (g := 517) (a := c) (b := x) (some a) (by decide)) h2) hkρ none he
  cases he : (if LA.length = 0 then none else LA[LA.length - 1]?) with
  | none =>
    refine r_astore_n rfl (by decide) ?_
    refine r_aload_n rfl rfl ?_
    refine r_ifnonnull rfl (fun c q => by cases q) (fun _ => ?_)
    refine r_aload_n rfl rfl ?_
    refine r_aload_n rfl rfl ?_
    (first | refine r_getPv rfl (by first | assumption | rfl) rfl (by assumption) ?_ | refine r_getP rfl (by first | assumption | rfl) rfl ?_)
    refine r_putP rfl (by first | assumption | rfl) rfl (by first | exact Or.inl rfl | exact Or.inr ⟨rfl, rfl⟩) ?_
    refine r_goto rfl ?_
    have hkb2 : h_K (w_P τ' 516 a (h_P τ' 516 b)) b = 9 := hkb
    refine r_aload_n rfl rfl ?_
    refine r_getPv rfl hkb2 rfl (hP_m τ' (f := 516) (g := 516) (a := a) (b := b) (h_P τ' 516 b) hab) ?_
    refine r_astore_n rfl (by decide) ?_
    refine loop LB _ _ _ (Ch.keep (σ := τ') (τ := w_P τ' 516 a (h_P τ' 516 b)) rfl (fun x => hP_n τ' (f := 516) (g := 517) (a := a) (b := x) _ (by decide)) hB) hkb2 none ?_
    unfold tkS
    rw [he]
  | some c =>
    have hcm : c ∈ LA := by
      by_cases e : LA.length = 0
      · rw [if_pos e] at he; cases he
      · rw [if_neg e] at he
        exact List.mem_of_getElem? he
    have hkc : h_K τ' c = 9 := hA.mem c hcm
    have hkb2 : h_K (w_P τ' 517 c (h_P τ' 516 b)) b = 9 := hkb
    refine r_astore_n rfl (by decide) ?_
    refine r_aload_n rfl rfl ?_
    refine r_ifnonnull rfl (fun c' q => ?_) (fun q => by cases q)
    cases q
    refine r_aload_n rfl rfl ?_
    refine r_aload_n rfl rfl ?_
    (first | refine r_getPv rfl (by first | assumption | rfl) rfl (by assumption) ?_ | refine r_getP rfl (by first | assumption | rfl) rfl ?_)
    refine r_putP rfl (by first | assumption | rfl) rfl (by first | exact Or.inl rfl | exact Or.inr ⟨rfl, rfl⟩) ?_
    refine r_aload_n rfl rfl ?_
    refine r_getPv rfl hkb2 rfl (hP_n τ' (f := 517) (g := 516) (a := c) (b := b) (h_P τ' 516 b) (by decide)) ?_
    refine r_astore_n rfl (by decide) ?_
    have keep : ∀ (M : List Nat) (p : Option Nat), c ∉ M → Ch τ' 517 M p → Ch (w_P τ' 517 c (h_P τ' 516 b)) 517 M p := by
      intro M
      induction M with
      | nil => intro p _ h; exact h
      | cons y M ih =>
        intro p hc h
        refine ⟨h.1, h.2.1, ?_⟩
        rw [hP_m τ' (f := 517) (g := 517) (a := c) (b := y) _ (fun e => hc (by rw [e]; exact List.mem_cons_self))]
        exact ih _ (fun w => hc (List.mem_cons_of_mem _ w)) h.2.2
    refine loop LB _ _ _ (keep LB _ (hd c hcm) hB) hkb2 none ?_
    unfold tkS
    rw [he]
end TC
