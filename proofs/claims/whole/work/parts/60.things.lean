/-! ===== class Thing: chains ===== -/
/-- from p on, along the references of field f, stand the things of L, and no more -/
def Ch (σ : Hp) (f : Nat) : List Nat → Option Nat → Prop
  | [], p => p = none
  | a :: L, p => p = some a ∧ h_K σ a = 9 ∧ Ch σ f L (h_P σ f a)
theorem Ch.keep {σ τ : Hp} {f : Nat} (hK : h_K τ = h_K σ) (hP : ∀ a, h_P τ f a = h_P σ f a) : ∀ {L : List Nat} {p : Option Nat}, Ch σ f L p → Ch τ f L p
  | [], _, h => h
  | a :: L, _, h => ⟨h.1, by rw [hK]; exact h.2.1, by rw [hP]; exact Ch.keep hK hP h.2.2⟩
/-- the i-th of a chain -/
def kdA (L : List Nat) (i : Int32) : Option Nat := if i < 0 then none else L[i.toNatClampNeg]?
section TC
variable {l : Launch} {D : DD} {σ : Hp} {a b : Nat} {L : List Nat}
theorem c_kidCount (hk : h_K σ a = 9) (hc : Ch σ 517 L (h_P σ 516 a)) (hl : L.length < 2 ^ 31) : Cn l D m_Thing_kidCount 0 0 [va_rf (some a)] σ (fun r τ => r = some (.int (nI L.length)) ∧ τ = σ) := by
  refine Cn.of (by decide) (by repeat (first | exact ca_0 | refine ca_i ?_ | refine ca_r ?_)) (Nat.le_of_ble_eq_true rfl) ?_
  refine r_iconst (v := nI 0) rfl (by decide) ?_
  refine r_istore_n rfl (by decide) ?_
  refine r_aload_n rfl rfl ?_
  (first | refine r_getPv rfl (by first | assumption | rfl) rfl (by assumption) ?_ | refine r_getP rfl (by first | assumption | rfl) rfl ?_)
  refine r_astore_n rfl (by decide) ?_
  have loop : ∀ (M : List Nat) (n : Nat) (p : Option Nat), Ch σ 517 M p → n + M.length = L.length → Gm l D m_Thing_kidCount 0 0 (fun r τ => r = some (.int (nI L.length)) ∧ τ = σ) 7 [some (va_rf (some a)), some (.int (nI n)), some (va_rf p)] [] σ 0 0 := by
    intro M
    induction M with
    | nil =>
      intro n p h hn
      have h : p = none := h
      subst h
      refine r_aload_n rfl rfl ?_
      refine r_ifnull rfl (fun _ => ?_) (fun c q => by cases q)
      refine r_iload_n rfl rfl ?_
      exact r_iret rfl rfl ⟨by rw [← hn]; rfl, rfl⟩
    | cons c M ih =>
      intro n p h hn
      obtain ⟨rfl, h1, h2⟩ := h
      refine r_aload_n rfl rfl ?_
      refine r_ifnull rfl (fun q => by cases q) (fun c' q => ?_)
      refine r_iinc rfl rfl (nI_inc _) ?_
      refine r_aload_n rfl rfl ?_
      (first | refine r_getPv rfl (by first | assumption | rfl) rfl (by assumption) ?_ | refine r_getP rfl (by first | assumption | rfl) rfl ?_)
      refine r_astore_n rfl (by decide) ?_
      refine r_goto rfl ?_
      exact ih (n + 1) _ h2 (by rw [← hn, List.length_cons]; omega)
  exact loop L 0 _ hc (by omega)
theorem c_kidAt {i : Int32} (hk : h_K σ a = 9) (hc : Ch σ 517 L (h_P σ 516 a)) (hl : L.length < 2 ^ 31) : Cn l D m_Thing_kidAt 0 0 [va_rf (some a), .int i] σ (fun r τ => r = some (va_rf (kdA L i)) ∧ τ = σ) := by
  refine Cn.of (by decide) (by repeat (first | exact ca_0 | refine ca_i ?_ | refine ca_r ?_)) (Nat.le_of_ble_eq_true rfl) ?_
  refine r_iconst (v := nI 0) rfl (by decide) ?_
  refine r_istore_n rfl (by decide) ?_
  refine r_aload_n rfl rfl ?_
  (first | refine r_getPv rfl (by first | assumption | rfl) rfl (by assumption) ?_ | refine r_getP rfl (by first | assumption | rfl) rfl ?_)
  refine r_astore_n rfl (by decide) ?_
  have loop : ∀ (M P : List Nat) (p : Option Nat), Ch σ 517 M p → P ++ M = L → (∀ j, j < P.length → nI j ≠ i) → Gm l D m_Thing_kidAt 0 0 (fun r τ => r = some (va_rf (kdA L i)) ∧ τ = σ) 7 [some (va_rf (some a)), some (.int i), some (.int (nI P.length)), some (va_rf p)] [] σ 0 0 := by
    intro M
    induction M with
    | nil =>
      intro P p h hP hj
      have h : p = none := h
      subst h
      have hPL : P = L := by simpa using hP
      subst hPL
      refine r_aload_n rfl rfl ?_
      refine r_ifnull rfl (fun _ => ?_) (fun c q => by cases q)
      refine r_null rfl ?_
      refine r_aret rfl rfl ⟨?_, rfl⟩
      have : kdA P i = none := by
        unfold kdA
        by_cases e : i < 0
        · rw [if_pos e]
        · rw [if_neg e]
          obtain ⟨j, hj1, rfl⟩ := nI_of e
          rw [nI_clamp hj1]
          refine List.getElem?_eq_none ?_
          rcases Nat.lt_or_ge j P.length with w | w
          · exact absurd rfl (hj j w)
          · exact w
      rw [this]
    | cons c M ih =>
      intro P p h hP hj
      obtain ⟨rfl, h1, h2⟩ := h
      have hlen : P.length + (M.length + 1) = L.length := by rw [← hP]; simp
      refine r_aload_n rfl rfl ?_
      refine r_ifnull rfl (fun q => by cases q) (fun c' q => ?_)
      refine r_iload_n rfl rfl ?_
      refine r_iload_n rfl rfl ?_
      refine r_icmp_ne rfl (fun q2 => ?_) (fun q2 => ?_)
      · refine r_iinc rfl rfl (nI_inc _) ?_
        refine r_aload_n rfl rfl ?_
        (first | refine r_getPv rfl (by first | assumption | rfl) rfl (by assumption) ?_ | refine r_getP rfl (by first | assumption | rfl) rfl ?_)
        refine r_astore_n rfl (by decide) ?_
        refine r_goto rfl ?_
        have e := ih (P ++ [c]) _ h2 (by rw [← hP]; simp) (fun j hj2 => ?_)
        · rw [List.length_append] at e
          exact e
        · rw [List.length_append, List.length_singleton] at hj2
          by_cases w : j = P.length
          · rw [w]; exact q2
          · exact hj j (by omega)
      · refine r_aload_n rfl rfl ?_
        refine r_aret rfl rfl ⟨?_, rfl⟩
        have : kdA L i = some c := by
          unfold kdA
          rw [← q2, if_neg (nI_pos (by omega)), nI_clamp (by omega), ← hP]
          simp
        rw [this]
  exact loop L [] _ hc rfl (fun j hj => by simp at hj)
/-- the place of a thing among those that hang on the same -/
theorem c_index {u j : Nat} (hk : h_K σ a = 9) (hu : h_P σ 515 a = some u) (hku : h_K σ u = 9) (hc : Ch σ 517 L (h_P σ 516 u)) (hl : L.length < 2 ^ 31) (hj : L[j]? = some a) (hj2 : ∀ q, q < j → L[q]? ≠ some a) : Cn l D m_Thing_index 0 0 [va_rf (some a)] σ (fun r τ => r = some (.int (nI j)) ∧ τ = σ) := by
  refine Cn.of (by decide) (by repeat (first | exact ca_0 | refine ca_i ?_ | refine ca_r ?_)) (Nat.le_of_ble_eq_true rfl) ?_
  refine r_iconst (v := nI 0) rfl (by decide) ?_
  refine r_istore_n rfl (by decide) ?_
  refine r_aload_n rfl rfl ?_
  (first | refine r_getPv rfl (by first | assumption | rfl) rfl (by assumption) ?_ | refine r_getP rfl (by first | assumption | rfl) rfl ?_)
  refine r_ifnonnull rfl (fun c q => ?_) (fun q => by cases q)
  refine r_aload_n rfl rfl ?_
  (first | refine r_getPv rfl (by first | assumption | rfl) rfl (by assumption) ?_ | refine r_getP rfl (by first | assumption | rfl) rfl ?_)
  (first | refine r_getPv rfl (by first | assumption | rfl) rfl (by assumption) ?_ | refine r_getP rfl (by first | assumption | rfl) rfl ?_)
  refine r_astore_n rfl (by decide) ?_
  have loop : ∀ (M P : List Nat) (p : Option Nat), Ch σ 517 M p → P ++ M = L → P.length ≤ j → Gm l D m_Thing_index 0 0 (fun r τ => r = some (.int (nI j)) ∧ τ = σ) 21 [some (va_rf (some a)), some (.int (nI P.length)), some (va_rf p)] [] σ 0 0 := by
    intro M
    induction M with
    | nil =>
      intro P p h hP hjP
      have hPL : P = L := by simpa using hP
      subst hPL
      have := (List.getElem?_eq_some_iff.mp hj).1
      omega
    | cons c M ih =>
      intro P p h hP hjP
      obtain ⟨rfl, h1, h2⟩ := h
      have hPc : L[P.length]? = some c := by rw [← hP]; simp
      refine r_aload_n rfl rfl ?_
      refine r_ifnull rfl (fun q => by cases q) (fun c' q => ?_)
      refine r_aload_n rfl rfl ?_
      refine r_aload_n rfl rfl ?_
      refine r_acmp_eq rfl (fun q2 => ?_) (fun q2 => ?_)
      · have e : c = a := Option.some.inj q2
        refine r_iload_n rfl rfl ?_
        refine r_iret rfl rfl ⟨?_, rfl⟩
        have : P.length = j := by
          rcases Nat.lt_or_ge P.length j with w | w
          · exact absurd (by rw [hPc, e]) (hj2 _ w)
          · omega
        rw [this]
      · refine r_iinc rfl rfl (nI_inc _) ?_
        refine r_aload_n rfl rfl ?_
        (first | refine r_getPv rfl (by first | assumption | rfl) rfl (by assumption) ?_ | refine r_getP rfl (by first | assumption | rfl) rfl ?_)
        refine r_astore_n rfl (by decide) ?_
        refine r_goto rfl ?_
        have hne : P.length ≠ j := fun w => q2 (by rw [w] at hPc; exact hPc.symm.trans hj)
        have e := ih (P ++ [c]) _ h2 (by rw [← hP]; simp) (by rw [List.length_append, List.length_singleton]; omega)
        rw [List.length_append] at e
        exact e
  exact loop L [] _ hc rfl (by simp)
/-- is top on the way up? -/
theorem c_isWithin {U : List Nat} (hc : Ch σ 515 U (some a)) : Cn l D m_Thing_isWithin 0 0 [va_rf (some a), va_rf (some b)] σ (fun r τ => r = some (.int (nI (decide (b ∈ U)).toNat)) ∧ τ = σ) := by
  refine Cn.of (by decide) (by repeat (first | exact ca_0 | refine ca_i ?_ | refine ca_r ?_)) (Nat.le_of_ble_eq_true rfl) ?_
  refine r_aload_n rfl rfl ?_
  refine r_astore_n rfl (by decide) ?_
  have loop : ∀ (M P : List Nat) (p : Option Nat), Ch σ 515 M p → P ++ M = U → b ∉ P → Gm l D m_Thing_isWithin 0 0 (fun r τ => r = some (.int (nI (decide (b ∈ U)).toNat)) ∧ τ = σ) 2 [some (va_rf (some a)), some (va_rf (some b)), some (va_rf p)] [] σ 0 0 := by
    intro M
    induction M with
    | nil =>
      intro P p h hP hb
      have h : p = none := h
      subst h
      have hPL : P = U := by simpa using hP
      subst hPL
      refine r_aload_n rfl rfl ?_
      refine r_ifnull rfl (fun _ => ?_) (fun c q => by cases q)
      refine r_iconst (v := nI 0) rfl (by decide) ?_
      exact r_zret rfl rfl (by decide) ⟨by rw [decide_eq_false hb]; rfl, rfl⟩
    | cons c M ih =>
      intro P p h hP hb
      obtain ⟨rfl, h1, h2⟩ := h
      refine r_aload_n rfl rfl ?_
      refine r_ifnull rfl (fun q => by cases q) (fun c' q => ?_)
      refine r_aload_n rfl rfl ?_
      refine r_aload_n rfl rfl ?_
      refine r_acmp_ne rfl (fun q2 => ?_) (fun q2 => ?_)
      · refine r_aload_n rfl rfl ?_
        (first | refine r_getPv rfl (by first | assumption | rfl) rfl (by assumption) ?_ | refine r_getP rfl (by first | assumption | rfl) rfl ?_)
        refine r_astore_n rfl (by decide) ?_
        refine r_goto rfl ?_
        refine ih (P ++ [c]) _ h2 (by rw [← hP]; simp) ?_
        intro w
        rcases List.mem_append.mp w with w | w
        · exact hb w
        · exact q2 (by rw [List.mem_singleton.mp w])
      · have e : c = b := Option.some.inj q2
        refine r_iconst (v := nI 1) rfl (by decide) ?_
        refine r_zret rfl rfl (by decide) ⟨?_, rfl⟩
        have : b ∈ U := by rw [← hP, ← e]; simp
        rw [decide_eq_true this]
        rfl
  exact loop U [] _ hc rfl (by simp)
/-- to which a thing leads: the last of its chain of 'into' -/
theorem c_lead {U : List Nat} (hk : h_K σ a = 9) (hc : Ch σ 518 U (h_P σ 518 a)) : Cn l D m_Thing_lead 0 0 [va_rf (some a)] σ (fun r τ => r = some (va_rf (some (U.getLastD a))) ∧ τ = σ) := by
  refine Cn.of (by decide) (by repeat (first | exact ca_0 | refine ca_i ?_ | refine ca_r ?_)) (Nat.le_of_ble_eq_true rfl) ?_
  refine r_aload_n rfl rfl ?_
  refine r_astore_n rfl (by decide) ?_
  refine r_aload_n rfl rfl ?_
  (first | refine r_getPv rfl (by first | assumption | rfl) rfl (by assumption) ?_ | refine r_getP rfl (by first | assumption | rfl) rfl ?_)
  refine r_astore_n rfl (by decide) ?_
  have loop : ∀ (M : List Nat) (c : Nat) (p : Option Nat), Ch σ 518 M p → M.getLastD c = U.getLastD a → Gm l D m_Thing_lead 0 0 (fun r τ => r = some (va_rf (some (U.getLastD a))) ∧ τ = σ) 7 [some (va_rf (some a)), some (va_rf (some c)), some (va_rf p)] [] σ 0 0 := by
    intro M
    induction M with
    | nil =>
      intro c p h he
      have h : p = none := h
      subst h
      refine r_aload_n rfl rfl ?_
      refine r_ifnull rfl (fun _ => ?_) (fun c q => by cases q)
      refine r_aload_n rfl rfl ?_
      exact r_aret rfl rfl ⟨by rw [← he]; rfl, rfl⟩
    | cons d M ih =>
      intro c p h he
      obtain ⟨rfl, h1, h2⟩ := h
      refine r_aload_n rfl rfl ?_
      refine r_ifnull rfl (fun q => by cases q) (fun c' q => ?_)
      refine r_aload_n rfl rfl ?_
      refine r_astore_n rfl (by decide) ?_
      refine r_aload_n rfl rfl ?_
      (first | refine r_getPv rfl (by first | assumption | rfl) rfl (by assumption) ?_ | refine r_getP rfl (by first | assumption | rfl) rfl ?_)
      refine r_astore_n rfl (by decide) ?_
      refine r_goto rfl ?_
      refine ih d _ h2 ?_
      rw [← he, List.getLastD_cons]
  exact loop U a _ hc rfl
end TC
