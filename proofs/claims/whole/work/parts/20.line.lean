/-! ===== small rules over numbers ===== -/
theorem nI_inc (k : Nat) : nI k + Int32.ofInt 1 = nI (k + 1) := nI_1 k
theorem ca_0 : ∀ v ∈ ([] : List Value), v.category = 1 := fun v h => by cases h
theorem ca_i {x : Int32} {as : List Value} (h : ∀ v ∈ as, v.category = 1) : ∀ v ∈ (Value.int x :: as), v.category = 1 := fun v hv => (List.mem_cons.mp hv).elim (fun e => by rw [e]; rfl) (h v)
theorem ca_r {p : Option Nat} {as : List Value} (h : ∀ v ∈ as, v.category = 1) : ∀ v ∈ (va_rf p :: as), v.category = 1 := fun v hv => (List.mem_cons.mp hv).elim (fun e => by rw [e]; exact rf_cat p) (h v)
section NR
variable {l : Launch} {D : DD} {R : Room} {Z : List Frame → Array Value → State → State → Prop} {y pc n x kc ks : Nat} {ls : List (Option Value)} {st : List Value} {σ : Hp}
theorem r_iaddN {a b : Nat} (hf : ft y pc = some (.iadd, n, x)) (k : G l D R Z y n ls (.int (nI (a + b)) :: st) σ kc ks) : G l D R Z y pc ls (.int (nI b) :: .int (nI a) :: st) σ kc ks := by
  refine r_iadd hf ?_
  rw [nI_add]
  exact k
theorem r_imulN {a b : Nat} (hf : ft y pc = some (.imul, n, x)) (k : G l D R Z y n ls (.int (nI (a * b)) :: st) σ kc ks) : G l D R Z y pc ls (.int (nI b) :: .int (nI a) :: st) σ kc ks := by
  refine r_imul hf ?_
  rw [pk_mul]
  exact k
theorem r_isubN {a b : Nat} (hf : ft y pc = some (.isub, n, x)) (h : b ≤ a) (k : G l D R Z y n ls (.int (nI (a - b)) :: st) σ kc ks) : G l D R Z y pc ls (.int (nI b) :: .int (nI a) :: st) σ kc ks := by
  refine r_isub hf ?_
  rw [pk_sub h]
  exact k
/-- a compare of two small numbers -/
theorem r_geN {a b : Nat} {f : Int} (hf : ft y pc = some (.if_icmp .ge f, n, x)) (ha : a < 2 ^ 31) (hb : b < 2 ^ 31) (kt : b ≤ a → G l D R Z y x ls st σ kc ks) (kf : a < b → G l D R Z y n ls st σ kc ks) : G l D R Z y pc ls (.int (nI b) :: .int (nI a) :: st) σ kc ks :=
  r_icmp_ge hf (fun h => kt ((nI_leI hb ha).mp h)) (fun h => kf (Nat.not_le.mp (fun q => h ((nI_leI hb ha).mpr q))))
theorem r_ltN {a b : Nat} {f : Int} (hf : ft y pc = some (.if_icmp .lt f, n, x)) (ha : a < 2 ^ 31) (hb : b < 2 ^ 31) (kt : a < b → G l D R Z y x ls st σ kc ks) (kf : b ≤ a → G l D R Z y n ls st σ kc ks) : G l D R Z y pc ls (.int (nI b) :: .int (nI a) :: st) σ kc ks :=
  r_icmp_lt hf (fun h => kt ((nI_ltI ha hb).mp h)) (fun h => kf (Nat.not_lt.mp (fun q => h ((nI_ltI ha hb).mpr q))))
theorem r_leN {a b : Nat} {f : Int} (hf : ft y pc = some (.if_icmp .le f, n, x)) (ha : a < 2 ^ 31) (hb : b < 2 ^ 31) (kt : a ≤ b → G l D R Z y x ls st σ kc ks) (kf : b < a → G l D R Z y n ls st σ kc ks) : G l D R Z y pc ls (.int (nI b) :: .int (nI a) :: st) σ kc ks :=
  r_icmp_le hf (fun h => kt ((nI_leI ha hb).mp h)) (fun h => kf (Nat.not_le.mp (fun q => h ((nI_leI ha hb).mpr q))))
theorem r_gtN {a b : Nat} {f : Int} (hf : ft y pc = some (.if_icmp .gt f, n, x)) (ha : a < 2 ^ 31) (hb : b < 2 ^ 31) (kt : b < a → G l D R Z y x ls st σ kc ks) (kf : a ≤ b → G l D R Z y n ls st σ kc ks) : G l D R Z y pc ls (.int (nI b) :: .int (nI a) :: st) σ kc ks :=
  r_icmp_gt hf (fun h => kt ((nI_ltI hb ha).mp h)) (fun h => kf (Nat.not_lt.mp (fun q => h ((nI_ltI hb ha).mpr q))))
theorem r_neN {a b : Nat} {f : Int} (hf : ft y pc = some (.if_icmp .ne f, n, x)) (ha : a < 2 ^ 31) (hb : b < 2 ^ 31) (kt : a ≠ b → G l D R Z y x ls st σ kc ks) (kf : a = b → G l D R Z y n ls st σ kc ks) : G l D R Z y pc ls (.int (nI b) :: .int (nI a) :: st) σ kc ks :=
  r_icmp_ne hf (fun h => kt (fun q => h (by rw [q]))) (fun h => kf ((nI_eq ha hb).mp h))
theorem r_eqN {a b : Nat} {f : Int} (hf : ft y pc = some (.if_icmp .eq f, n, x)) (ha : a < 2 ^ 31) (hb : b < 2 ^ 31) (kt : a = b → G l D R Z y x ls st σ kc ks) (kf : a ≠ b → G l D R Z y n ls st σ kc ks) : G l D R Z y pc ls (.int (nI b) :: .int (nI a) :: st) σ kc ks :=
  r_icmp_eq hf (fun h => kt ((nI_eq ha hb).mp h)) (fun h => kf (fun q => h (by rw [q])))
/-- a truth value is asked: as 0 or 1 -/
theorem r_ifeqB {b : Bool} {f : Int} (hf : ft y pc = some (.ifCond .eq f, n, x)) (kt : b = false → G l D R Z y x ls st σ kc ks) (kf : b = true → G l D R Z y n ls st σ kc ks) : G l D R Z y pc ls (.int (nI b.toNat) :: st) σ kc ks := by
  cases b with
  | false => exact r_if_eq hf (fun _ => kt rfl) (fun h => absurd (by decide) h)
  | true => exact r_if_eq hf (fun h => absurd h (by decide)) (fun _ => kf rfl)
theorem r_ifneB {b : Bool} {f : Int} (hf : ft y pc = some (.ifCond .ne f, n, x)) (kt : b = true → G l D R Z y x ls st σ kc ks) (kf : b = false → G l D R Z y n ls st σ kc ks) : G l D R Z y pc ls (.int (nI b.toNat) :: st) σ kc ks := by
  cases b with
  | false => exact r_if_ne hf (fun h => absurd (by decide) h) (fun _ => kf rfl)
  | true => exact r_if_ne hf (fun _ => kt rfl) (fun h => absurd h (by decide))
end NR
theorem nar_B (b : Bool) : narrow .boolean (.int (nI b.toNat)) = .int (nI b.toNat) := by cases b <;> decide
section J
variable {l : Launch} {D : DD} {σ : Hp}
theorem c_max {a b : Int32} : Cn l D m_Math_max 0 0 [.int a, .int b] σ (fun r τ => r = some (.int (if a < b then b else a)) ∧ τ = σ) := by
  refine Cn.of (by decide) (by repeat (first | exact ca_0 | refine ca_i ?_ | refine ca_r ?_)) (Nat.le_of_ble_eq_true rfl) ?_
  refine r_iload_n rfl rfl ?_
  refine r_iload_n rfl rfl ?_
  refine r_icmp_lt rfl (fun h => ?_) (fun h => ?_)
  · refine r_iload_n rfl rfl ?_
    exact r_iret rfl rfl ⟨by rw [if_pos h], rfl⟩
  · refine r_iload_n rfl rfl ?_
    refine r_goto rfl ?_
    exact r_iret rfl rfl ⟨by rw [if_neg h], rfl⟩
theorem c_min {a b : Int32} : Cn l D m_Math_min 0 0 [.int a, .int b] σ (fun r τ => r = some (.int (if b < a then b else a)) ∧ τ = σ) := by
  refine Cn.of (by decide) (by repeat (first | exact ca_0 | refine ca_i ?_ | refine ca_r ?_)) (Nat.le_of_ble_eq_true rfl) ?_
  refine r_iload_n rfl rfl ?_
  refine r_iload_n rfl rfl ?_
  refine r_icmp_gt rfl (fun h => ?_) (fun h => ?_)
  · refine r_iload_n rfl rfl ?_
    exact r_iret rfl rfl ⟨by rw [if_pos h], rfl⟩
  · refine r_iload_n rfl rfl ?_
    refine r_goto rfl ?_
    exact r_iret rfl rfl ⟨by rw [if_neg h], rfl⟩
/-- Arrays.fill of a row of ints -/
theorem c_fill {a : Nat} {v : Int32} (hk : h_K σ a = 21) (hL : h_L σ a < 2 ^ 31) : Cn l D m_Arrays_fill 0 0 [va_rf (some a), .int v] σ (fun r τ => r = none ∧ τ = w_X σ a (fun j => if j < h_L σ a then v else h_X σ a j)) := by
  refine Cn.of (by decide) (by repeat (first | exact ca_0 | refine ca_i ?_ | refine ca_r ?_)) (Nat.le_of_ble_eq_true rfl) ?_
  refine r_iconst (v := nI 0) rfl (by decide) ?_
  refine r_istore_n rfl (by decide) ?_
  refine r_aload_n rfl rfl ?_
  refine r_alen rfl (by omega) ?_
  refine r_istore_n rfl (by decide) ?_
  have loop : ∀ (d i : Nat) (τ : Hp), i + d = h_L σ a → τ = w_X σ a (fun j => if j < i then v else h_X σ a j) → Gm l D m_Arrays_fill 0 0 (fun r τ => r = none ∧ τ = w_X σ a (fun j => if j < h_L σ a then v else h_X σ a j)) 5 [some (va_rf (some a)), some (.int v), some (.int (nI i)), some (.int (nI (h_L σ a)))] [] τ 0 0 := by
    intro d
    induction d with
    | zero =>
      intro i τ hi hτ
      refine r_iload_n rfl rfl ?_
      refine r_iload_n rfl rfl ?_
      refine r_geN rfl (by omega) hL (fun _ => ?_) (fun h => by omega)
      refine r_vret rfl rfl ⟨rfl, ?_⟩
      rw [hτ, show i = h_L σ a by omega]
    | succ d ih =>
      intro i τ hi hτ
      refine r_iload_n rfl rfl ?_
      refine r_iload_n rfl rfl ?_
      refine r_geN rfl (by omega) hL (fun h => by omega) (fun _ => ?_)
      refine r_aload_n rfl rfl ?_
      refine r_iload_n rfl rfl ?_
      refine r_iload_n rfl rfl ?_
      subst hτ
      refine r_iast rfl hk rfl (show i < h_L σ a by omega) hL ?_
      refine r_iinc rfl rfl (nI_inc _) ?_
      refine r_goto rfl ?_
      refine ih (i + 1) _ (by omega) ?_
      unfold w_X
      simp only [h_z, h_K, h_I, h_P, h_L, h_X, h_Y]
      congr 6
      funext b
      unfold u_1
      by_cases e : b = a
      · rw [if_pos e, if_pos e]
        funext j
        unfold upd
        by_cases h1 : j = i
        · rw [if_pos h1, if_pos (by omega)]
        · rw [if_neg h1]
          simp only [if_pos]
          by_cases h2 : j < i
          · rw [if_pos h2, if_pos (by omega)]
          · rw [if_neg h2, if_neg (by omega)]
      · rw [if_neg e, if_neg e, if_neg e]
  refine loop (h_L σ a) 0 σ (by omega) ?_
  unfold w_X
  simp only [Nat.not_lt_zero, if_false]
  have : u_1 (h_X σ) a (fun j => h_X σ a j) = h_X σ := by
    funext b
    unfold u_1
    by_cases e : b = a
    · rw [if_pos e, e]
    · rw [if_neg e]
  rw [this]
  rfl
def isL (b : Int32) : Bool := (decide (97 ≤ b) && decide (b ≤ 122)) || (decide (65 ≤ b) && decide (b ≤ 90))
theorem c_isLetter {b : Int32} : Cn l D m_NK_isLetter 0 0 [.int b] σ (fun r τ => r = some (.int (nI (isL b).toNat)) ∧ τ = σ) := by
  have e97 : nI 97 = 97 := by decide
  have e122 : nI 122 = 122 := by decide
  have e65 : nI 65 = 65 := by decide
  have e90 : nI 90 = 90 := by decide
  refine Cn.of (by decide) (by repeat (first | exact ca_0 | refine ca_i ?_ | refine ca_r ?_)) (Nat.le_of_ble_eq_true rfl) ?_
  have yes : isL b = true → Gm l D m_NK_isLetter 0 0 (fun r τ => r = some (.int (nI (isL b).toNat)) ∧ τ = σ) 24 (en_L [.int b] 1) [] σ 0 0 := by
    intro h
    refine r_iconst (v := nI 1) rfl (by decide) ?_
    refine r_goto rfl ?_
    exact r_zret rfl rfl (by decide) ⟨by rw [h]; rfl, rfl⟩
  have no : isL b = false → Gm l D m_NK_isLetter 0 0 (fun r τ => r = some (.int (nI (isL b).toNat)) ∧ τ = σ) 28 (en_L [.int b] 1) [] σ 0 0 := by
    intro h
    refine r_iconst (v := nI 0) rfl (by decide) ?_
    exact r_zret rfl rfl (by decide) ⟨by rw [h]; rfl, rfl⟩
  have second : ¬ (97 ≤ b ∧ b ≤ 122) → Gm l D m_NK_isLetter 0 0 (fun r τ => r = some (.int (nI (isL b).toNat)) ∧ τ = σ) 12 (en_L [.int b] 1) [] σ 0 0 := by
    intro h
    have h2 : isL b = (decide (65 ≤ b) && decide (b ≤ 90)) := by
      unfold isL
      rw [show (decide (97 ≤ b) && decide (b ≤ 122)) = false by simpa using h]
      simp
    refine r_iload_n rfl rfl ?_
    refine r_bipush (v := nI 65) rfl (by decide) ?_
    refine r_icmp_lt rfl (fun q => ?_) (fun q => ?_)
    · rw [e65] at q
      exact no (by rw [h2]; simp [Int32.not_le.mpr q])
    · rw [e65] at q
      refine r_iload_n rfl rfl ?_
      refine r_bipush (v := nI 90) rfl (by decide) ?_
      refine r_icmp_gt rfl (fun q2 => ?_) (fun q2 => ?_)
      · rw [e90] at q2
        exact no (by rw [h2]; simp [Int32.not_le.mpr q2])
      · rw [e90] at q2
        exact yes (by rw [h2]; simp [Int32.not_lt.mp q, Int32.not_lt.mp q2])
  refine r_iload_n rfl rfl ?_
  refine r_bipush (v := nI 97) rfl (by decide) ?_
  refine r_icmp_lt rfl (fun q => ?_) (fun q => ?_)
  · rw [e97] at q
    exact second (fun w => absurd w.1 (Int32.not_le.mpr q))
  · rw [e97] at q
    refine r_iload_n rfl rfl ?_
    refine r_bipush (v := nI 122) rfl (by decide) ?_
    refine r_icmp_le rfl (fun q2 => ?_) (fun q2 => ?_)
    · rw [e122] at q2
      exact yes (by unfold isL; simp [Int32.not_lt.mp q, q2])
    · rw [e122] at q2
      exact second (fun w => q2 w.2)
end J
