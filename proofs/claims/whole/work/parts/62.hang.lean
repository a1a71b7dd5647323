/-! ===== class Thing: hangOn, leave ===== -/
theorem kdA_m1 {L : List Nat} {j : Nat} (hj : j < 2 ^ 30) : kdA L (nI j - nI 1) = if j = 0 then none else L[j - 1]? := by
  unfold kdA
  by_cases e : j = 0
  · subst e
    rw [if_pos rfl, if_pos (by decide)]
  · rw [if_neg e, pk_sub (by omega), if_neg (nI_pos (by omega)), nI_clamp (by omega)]
theorem hP_w (σ : Hp) (f a : Nat) (v : Option Nat) : h_P (w_P σ f a v) f a = v := u2_s _ _ _ _
theorem hP_n (σ : Hp) {f g a b : Nat} (v : Option Nat) (h : g ≠ f) : h_P (w_P σ f a v) g b = h_P σ g b := u2_n1 _ _ h
theorem hP_m (σ : Hp) {f g a b : Nat} (v : Option Nat) (h : b ≠ a) : h_P (w_P σ f a v) g b = h_P σ g b := u2_n2 _ _ h
/-- hung on h as the j-th of L -/
def hgS (σ : Hp) (a h j : Nat) (L : List Nat) : Hp := match (if j = 0 then none else L[j - 1]?) with
  | none => w_P (w_P (w_P σ 515 a (some h)) 517 a (h_P σ 516 h)) 516 h (some a)
  | some c => w_P (w_P (w_P σ 515 a (some h)) 517 a (h_P σ 517 c)) 517 c (some a)
/-- taken from what it hangs on, u, where it is the j-th of L -/
def lvS (σ : Hp) (a u j : Nat) (L : List Nat) : Hp := match (if j = 0 then none else L[j - 1]?) with
  | none => w_P (w_P σ 516 u (h_P σ 517 a)) 517 a none
  | some c => w_P (w_P σ 517 c (h_P σ 517 a)) 517 a none
theorem Ch.mem {σ : Hp} {f : Nat} : ∀ {L : List Nat} {p : Option Nat}, Ch σ f L p → ∀ c ∈ L, h_K σ c = 9
  | [], _, _, c, hc => by cases hc
  | b :: L, _, h, c, hc => by
    rcases List.mem_cons.mp hc with rfl | hc
    · exact h.2.1
    · exact Ch.mem h.2.2 c hc
section TC
variable {l : Launch} {D : DD} {σ : Hp} {a : Nat} {L : List Nat}
theorem c_hangOn {h j : Nat} (hk : h_K σ a = 9) (hkh : h_K σ h = 9) (hc : Ch σ 517 L (h_P σ 516 h)) (hl : L.length < 2 ^ 30) (hj : j ≤ L.length) : Cn l D m_Thing_hangOn 0 0 [va_rf (some a), va_rf (some h), .int (nI j)] σ (fun r τ => r = none ∧ τ = hgS σ a h j L) := by
  refine Cn.of (by decide) (by repeat (first | exact ca_0 | refine ca_i ?_ | refine ca_r ?_)) (Nat.le_of_ble_eq_true rfl) ?_
  refine r_aload_n rfl rfl ?_
  refine r_ifnonnull rfl (fun _ _ => ?_) (fun q => by cases q)
  refine r_aload_n rfl rfl ?_
  refine r_aload_n rfl rfl ?_
  refine r_putP rfl (by first | assumption | rfl) rfl (by first | exact Or.inl rfl | exact Or.inr ⟨rfl, rfl⟩) ?_
  refine r_aload_n rfl rfl ?_
  refine r_iload_n rfl rfl ?_
  refine r_iconst (v := nI 1) rfl (by decide) ?_
  refine r_isub rfl ?_
  have hc2 : Ch (w_P σ 515 a (some h)) 517 L (h_P (w_P σ 515 a (some h)) 516 h) := by
    rw [hP_n _ _ (by decide)]
    exact Ch.keep (σ := σ) (τ := w_P σ 515 a (some h)) rfl (fun b => hP_n σ (f := 515) (g := 517) (a := a) (b := b) (some h) (by decide)) hc
  have hkh2 : h_K (w_P σ 515 a (some h)) h = 9 := hkh
  have hk2 : h_K (w_P σ 515 a (some h)) a = 9 := hk
  refine r_callV (As := [_]) rfl (by decide) rfl hkh2 rfl rfl (Nat.le_of_ble_eq_true rfl) ⟨Nat.le_of_ble_eq_true rfl, Nat.le_of_ble_eq_true rfl⟩ (c_kidAt hkh2 hc2 (by omega)) (kc' := 0) (ks' := 0) (by omega) (by omega) (by decide) ?_
  rintro r τ ⟨rfl, rfl⟩
  rw [kdA_m1 (by omega)]
  unfold hgS
  cases he : (if j = 0 then none else L[j - 1]?) with
  | none =>
    refine r_astore_n rfl (by decide) ?_
    refine r_aload_n rfl rfl ?_
    refine r_ifnonnull rfl (fun c q => by cases q) (fun _ => ?_)
    refine r_aload_n rfl rfl ?_
    refine r_aload_n rfl rfl ?_
    (first | refine r_getPv rfl (by first | assumption | rfl) rfl (by assumption) ?_ | refine r_getP rfl (by first | assumption | rfl) rfl ?_)
    refine r_putP rfl (by first | assumption | rfl) rfl (by first | exact Or.inl rfl | exact Or.inr ⟨rfl, rfl⟩) ?_
    refine r_aload_n rfl rfl ?_
    refine r_aload_n rfl rfl ?_
    refine r_putP rfl (by first | assumption | rfl) rfl (by first | exact Or.inl rfl | exact Or.inr ⟨rfl, rfl⟩) ?_
    refine r_goto rfl ?_
    refine r_vret rfl rfl ⟨rfl, ?_⟩
    show _ = w_P (w_P (w_P σ 515 a (some h)) 517 a (h_P σ 516 h)) 516 h (some a)
    rw [hP_n σ _ (show (516 : Nat) ≠ 515 by decide)]
  | some c =>
    have hcm : c ∈ L := by
      by_cases e : j = 0
      · rw [if_pos e] at he; cases he
      · rw [if_neg e] at he
        exact List.mem_of_getElem? he
    have hkc : h_K (w_P σ 515 a (some h)) c = 9 := hc.mem c hcm
    refine r_astore_n rfl (by decide) ?_
    refine r_aload_n rfl rfl ?_
    refine r_ifnonnull rfl (fun c' q => ?_) (fun q => by cases q)
    cases q
    refine r_aload_n rfl rfl ?_
    refine r_aload_n rfl rfl ?_
    (first | refine r_getPv rfl (by first | assumption | rfl) rfl (by assumption) ?_ | refine r_getP rfl (by first | assumption | rfl) rfl ?_)
    refine r_putP rfl (by first | assumption | rfl) rfl (by first | exact Or.inl rfl | exact Or.inr ⟨rfl, rfl⟩) ?_
    refine r_aload_n rfl rfl ?_
    refine r_aload_n rfl rfl ?_
    refine r_putP rfl (by first | assumption | rfl) rfl (by first | exact Or.inl rfl | exact Or.inr ⟨rfl, rfl⟩) ?_
    refine r_vret rfl rfl ⟨rfl, ?_⟩
    show _ = w_P (w_P (w_P σ 515 a (some h)) 517 a (h_P σ 517 c)) 517 c (some a)
    rw [hP_n σ _ (show (517 : Nat) ≠ 515 by decide)]
theorem c_leave {u j : Nat} (hk : h_K σ a = 9) (hu : h_P σ 515 a = some u) (hku : h_K σ u = 9) (hc : Ch σ 517 L (h_P σ 516 u)) (hl : L.length < 2 ^ 30) (hj : L[j]? = some a) (hj2 : ∀ q, q < j → L[q]? ≠ some a) : Cn l D m_Thing_leave 0 0 [va_rf (some a)] σ (fun r τ => r = none ∧ τ = lvS σ a u j L) := by
  have hjl : j < L.length := (List.getElem?_eq_some_iff.mp hj).1
  refine Cn.of (by decide) (by repeat (first | exact ca_0 | refine ca_i ?_ | refine ca_r ?_)) (Nat.le_of_ble_eq_true rfl) ?_
  refine r_aload_n rfl rfl ?_
  (first | refine r_getPv rfl (by first | assumption | rfl) rfl (by assumption) ?_ | refine r_getP rfl (by first | assumption | rfl) rfl ?_)
  refine r_ifnonnull rfl (fun _ _ => ?_) (fun q => by cases q)
  refine r_aload_n rfl rfl ?_
  (first | refine r_getPv rfl (by first | assumption | rfl) rfl (by assumption) ?_ | refine r_getP rfl (by first | assumption | rfl) rfl ?_)
  refine r_aload_n rfl rfl ?_
  refine r_callV (As := []) rfl (by decide) rfl hk rfl rfl (Nat.le_of_ble_eq_true rfl) ⟨Nat.le_of_ble_eq_true rfl, Nat.le_of_ble_eq_true rfl⟩ (c_index hk hu hku hc (by omega) hj hj2) (kc' := 0) (ks' := 0) (by omega) (by omega) (by decide) ?_
  rintro r τ ⟨rfl, rfl⟩
  refine r_iconst (v := nI 1) rfl (by decide) ?_
  refine r_isub rfl ?_
  refine r_callV (As := [_]) rfl (by decide) rfl hku rfl rfl (Nat.le_of_ble_eq_true rfl) ⟨Nat.le_of_ble_eq_true rfl, Nat.le_of_ble_eq_true rfl⟩ (c_kidAt hku hc (by omega)) (kc' := 0) (ks' := 0) (by omega) (by omega) (by decide) ?_
  rintro r τ' ⟨rfl, rfl⟩
  rw [kdA_m1 (by omega)]
  unfold lvS
  cases he : (if j = 0 then none else L[j - 1]?) with
  | none =>
    refine r_astore_n rfl (by decide) ?_
    refine r_aload_n rfl rfl ?_
    refine r_ifnonnull rfl (fun c q => by cases q) (fun _ => ?_)
    refine r_aload_n rfl rfl ?_
    (first | refine r_getPv rfl (by first | assumption | rfl) rfl (by assumption) ?_ | refine r_getP rfl (by first | assumption | rfl) rfl ?_)
    refine r_aload_n rfl rfl ?_
    (first | refine r_getPv rfl (by first | assumption | rfl) rfl (by assumption) ?_ | refine r_getP rfl (by first | assumption | rfl) rfl ?_)
    refine r_putP rfl (by first | assumption | rfl) rfl (by first | exact Or.inl rfl | exact Or.inr ⟨rfl, rfl⟩) ?_
    refine r_goto rfl ?_
    refine r_aload_n rfl rfl ?_
    refine r_null rfl ?_
    refine r_putP rfl (by first | assumption | rfl) rfl (by first | exact Or.inl rfl | exact Or.inr ⟨rfl, rfl⟩) ?_
    exact r_vret rfl rfl ⟨rfl, rfl⟩
  | some c =>
    have hcm : c ∈ L := by
      by_cases e : j = 0
      · rw [if_pos e] at he; cases he
      · rw [if_neg e] at he
        exact List.mem_of_getElem? he
    have hkc : h_K τ' c = 9 := hc.mem c hcm
    refine r_astore_n rfl (by decide) ?_
    refine r_aload_n rfl rfl ?_
    refine r_ifnonnull rfl (fun c' q => ?_) (fun q => by cases q)
    cases q
    refine r_aload_n rfl rfl ?_
    refine r_aload_n rfl rfl ?_
    (first | refine r_getPv rfl (by first | assumption | rfl) rfl (by assumption) ?_ | refine r_getP rfl (by first | assumption | rfl) rfl ?_)
    refine r_putP rfl (by first | assumption | rfl) rfl (by first | exact Or.inl rfl | exact Or.inr ⟨rfl, rfl⟩) ?_
    refine r_aload_n rfl rfl ?_
    refine r_null rfl ?_
    refine r_putP rfl (by first | assumption | rfl) rfl (by first | exact Or.inl rfl | exact Or.inr ⟨rfl, rfl⟩) ?_
    exact r_vret rfl rfl ⟨rfl, rfl⟩
end TC
