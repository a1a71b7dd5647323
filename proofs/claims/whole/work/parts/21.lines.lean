/-! ===== class Line ===== -/
section NR
variable {l : Launch} {D : DD} {R : Room} {Z : List Frame → Array Value → State → State → Prop} {y pc n x kc ks : Nat} {ls : List (Option Value)} {st : List Value} {σ : Hp}
theorem r_getIv {k f a : Nat} {v : Int32} (hf : ft y pc = some (.getfield k, n, f)) (hk : h_K σ a = f / 64 + 1) (hp : fPrim (fTy (f / 64) (f % 64)) = true) (hv : h_I σ f a = v) (kk : G l D R Z y n ls (.int v :: st) σ kc ks) : G l D R Z y pc ls (va_rf (some a) :: st) σ kc ks := by
  refine r_getI hf hk hp ?_
  rw [hv]
  exact kk
theorem r_getPv {k f a : Nat} {v : Option Nat} (hf : ft y pc = some (.getfield k, n, f)) (hk : h_K σ a = f / 64 + 1) (hp : fPrim (fTy (f / 64) (f % 64)) = false) (hv : h_P σ f a = v) (kk : G l D R Z y n ls (va_rf v :: st) σ kc ks) : G l D R Z y pc ls (va_rf (some a) :: st) σ kc ks := by
  refine r_getP hf hk hp ?_
  rw [hv]
  exact kk
theorem r_alenv {a m : Nat} (hf : ft y pc = some (.arraylength, n, x)) (hk : (20 ≤ h_K σ a ∧ h_K σ a < 23) ∨ (30 ≤ h_K σ a ∧ h_K σ a < 36)) (hm : h_L σ a = m) (kk : G l D R Z y n ls (.int (nI m) :: st) σ kc ks) : G l D R Z y pc ls (va_rf (some a) :: st) σ kc ks := by
  refine r_alen hf hk ?_
  rw [hm]
  exact kk
end NR
def b8 (v : Int32) : Int32 := v.toInt8.toInt32
/-- a Line at a: its room, its bytes -/
def Ln (σ : Hp) (a cap : Nat) (xs : List Int32) : Prop :=
  h_K σ a = 4 ∧ h_P σ 192 a = some (a + 1) ∧ h_I σ 193 a = nI xs.length ∧ h_K σ (a + 1) = 20 ∧ h_L σ (a + 1) = cap ∧ xs.length ≤ cap ∧ cap < 2 ^ 20 ∧ ∀ i, i < xs.length → h_X σ (a + 1) i = xs.getD i 0
/-- only the Line at a has changed -/
def LF (σ τ : Hp) (a : Nat) : Prop := h_z τ = h_z σ ∧ h_K τ = h_K σ ∧ h_P τ = h_P σ ∧ h_L τ = h_L σ ∧ h_Y τ = h_Y σ ∧ (∀ f b, ¬ (f = 193 ∧ b = a) → h_I τ f b = h_I σ f b) ∧ ∀ b, b ≠ a + 1 → h_X τ b = h_X σ b
/-- k cells are new, and nothing old has changed -/
def NF (σ τ : Hp) (k : Nat) : Prop := h_z τ = h_z σ + k ∧ ∀ a, a < h_z σ → h_K τ a = h_K σ a ∧ (∀ f, h_I τ f a = h_I σ f a) ∧ (∀ f, h_P τ f a = h_P σ f a) ∧ h_L τ a = h_L σ a ∧ h_X τ a = h_X σ a ∧ h_Y τ a = h_Y σ a
theorem LF.rf (σ : Hp) (a : Nat) : LF σ σ a := ⟨rfl, rfl, rfl, rfl, rfl, fun _ _ _ => rfl, fun _ _ => rfl⟩
theorem LF.tr {σ τ ρ : Hp} {a : Nat} (h : LF σ τ a) (g : LF τ ρ a) : LF σ ρ a := by
  obtain ⟨h1, h2, h3, h4, h5, h6, h7⟩ := h
  obtain ⟨g1, g2, g3, g4, g5, g6, g7⟩ := g
  exact ⟨g1.trans h1, g2.trans h2, g3.trans h3, g4.trans h4, g5.trans h5, fun f b q => (g6 f b q).trans (h6 f b q), fun b q => (g7 b q).trans (h7 b q)⟩
theorem LF.keep {σ τ : Hp} {a b cap : Nat} {ys : List Int32} (h : LF σ τ a) (hab : b ≠ a) (g : Ln σ b cap ys) : Ln τ b cap ys := by
  obtain ⟨h1, h2, h3, h4, h5, h6, h7⟩ := h
  unfold Ln at g ⊢
  rw [h2, h3, h4, h6 193 b (fun q => hab q.2), h7 (b + 1) (by omega)]
  exact g
theorem Ln.of {σ τ : Hp} {a cap : Nat} {xs ys : List Int32} (h : Ln σ a cap xs) (hK : h_K τ = h_K σ) (hP : h_P τ = h_P σ) (hL : h_L τ = h_L σ) (hI : h_I τ 193 a = nI ys.length) (hy : ys.length ≤ cap) (hX : ∀ i, i < ys.length → h_X τ (a + 1) i = ys.getD i 0) : Ln τ a cap ys := by
  obtain ⟨h1, h2, h3, h4, h5, h6, h7, h8⟩ := h
  refine ⟨by rw [hK]; exact h1, by rw [hP]; exact h2, hI, by rw [hK]; exact h4, by rw [hL]; exact h5, hy, h7, hX⟩
theorem Ln.cut {σ : Hp} {a cap : Nat} {xs : List Int32} (h : Ln σ a cap xs) (k : Nat) (hk : k ≤ xs.length) : Ln (w_I σ 193 a (nI k)) a cap (xs.take k) ∧ LF σ (w_I σ 193 a (nI k)) a := by
  have hl : (xs.take k).length = k := by rw [List.length_take]; omega
  obtain ⟨h1, h2, h3, h4, h5, h6, h7, h8⟩ := id h
  refine ⟨h.of rfl rfl rfl ?_ (by omega) ?_, rfl, rfl, rfl, rfl, rfl, fun f b q => ?_, fun b q => rfl⟩
  · rw [hl]
    exact u2_s _ _ _ _
  · intro i hi
    rw [hl] at hi
    show h_X σ (a + 1) i = _
    rw [h8 i (by omega), List.getD_eq_getElem?_getD, List.getD_eq_getElem?_getD, List.getElem?_take, if_pos hi]
  · show u_2 (h_I σ) 193 a (nI k) f b = _
    unfold u_2
    rw [if_neg q]
theorem Ln.eq {σ : Hp} {a cap cap' : Nat} {xs ys : List Int32} (h : Ln σ a cap xs) (g : Ln σ a cap' ys) : xs = ys := by
  obtain ⟨h1, h2, h3, h4, h5, h6, h7, h8⟩ := h
  obtain ⟨g1, g2, g3, g4, g5, g6, g7, g8⟩ := g
  have e : xs.length = ys.length := (nI_eq (by omega) (by omega)).mp (h3.symm.trans g3)
  refine List.ext_getElem e (fun i hi hj => ?_)
  have := (h8 i hi).symm.trans (g8 i hj)
  simpa [List.getD_eq_getElem?_getD, hi, hj] using this
section LC
variable {l : Launch} {D : DD} {σ : Hp} {a b cap cb : Nat} {xs ys : List Int32}
theorem c_Line_init {n : Nat} (hk : h_K σ a = 4) (hn : n < 2 ^ 20) : Cn l D m_Line_init 1 n [va_rf (some a), .int (nI n)] σ (fun r τ => r = none ∧ τ = w_P (n_A σ 20 n) 192 a (some (h_z σ)) ∧ h_K σ (h_z σ) = 0) := by
  refine Cn.of (by decide) (by repeat (first | exact ca_0 | refine ca_i ?_ | refine ca_r ?_)) (Nat.le_of_ble_eq_true rfl) ?_
  refine r_aload_n rfl rfl ?_
  refine r_objInit rfl (Nat.le_of_ble_eq_true rfl) ⟨Nat.le_of_ble_eq_true rfl, Nat.le_of_ble_eq_true rfl⟩ ?_
  refine r_aload_n rfl rfl ?_
  refine r_iload_n rfl rfl ?_
  refine r_iconst (v := nI 0) rfl (by decide) ?_
  refine r_callS (As := [.int (nI n), .int (nI 0)]) (kc' := 1) (ks' := n) rfl (by decide) rfl rfl rfl (Nat.le_of_ble_eq_true rfl) ⟨Nat.le_of_ble_eq_true rfl, Nat.le_of_ble_eq_true rfl⟩ c_max (by omega) (by omega) ?_
  rintro r τ ⟨rfl, rfl⟩
  have e : (if nI n < nI 0 then nI 0 else nI n) = nI n := if_neg (nI_nlt (by omega) (by omega))
  rw [e]
  refine r_newa (kc := 0) (ks := 0) rfl rfl hn (fun hz => ?_) |> G.less (by omega) (by omega)
  have hne : a ≠ h_z τ := fun q => by rw [q, hz] at hk; cases hk
  have hk2 : h_K (n_A τ 20 n) a = 4 := (u1_n _ _ hne).trans hk
  refine r_putP rfl hk2 rfl (Or.inr ⟨rfl, rfl⟩) ?_
  exact r_vret rfl rfl ⟨rfl, rfl, hz⟩
theorem b8_nar (v : Int32) : narrow .byte (.int (b8 v)) = .int (b8 v) := pk_nb v
theorem b8_fit (v : Int32) : fits .byte (.int (b8 v)) = true := pk_fb v
theorem c_put {v : Int32} (h : Ln σ a cap xs) (hc : xs.length < cap) : Cn l D m_Line_put 0 0 [va_rf (some a), .int v] σ (fun r τ => r = none ∧ Ln τ a cap (xs ++ [b8 v]) ∧ LF σ τ a) := by
  obtain ⟨k1, p1, i1, k2, l1, hle, hcap, hx⟩ := id h
  refine Cn.of (by decide) (by repeat (first | exact ca_0 | refine ca_i ?_ | refine ca_r ?_)) (Nat.le_of_ble_eq_true rfl) ?_
  refine r_aload_n rfl rfl ?_
  (first | refine r_getIv rfl (by first | assumption | rfl) rfl (by assumption) ?_ | refine r_getI rfl (by first | assumption | rfl) rfl ?_)
  refine r_aload_n rfl rfl ?_
  (first | refine r_getPv rfl (by first | assumption | rfl) rfl (by assumption) ?_ | refine r_getP rfl (by first | assumption | rfl) rfl ?_)
  refine r_alenv rfl (by omega) l1 ?_
  refine r_geN rfl (by omega) (by omega) (fun q => by omega) (fun _ => ?_)
  refine r_aload_n rfl rfl ?_
  (first | refine r_getPv rfl (by first | assumption | rfl) rfl (by assumption) ?_ | refine r_getP rfl (by first | assumption | rfl) rfl ?_)
  refine r_aload_n rfl rfl ?_
  (first | refine r_getIv rfl (by first | assumption | rfl) rfl (by assumption) ?_ | refine r_getI rfl (by first | assumption | rfl) rfl ?_)
  refine r_iload_n rfl rfl ?_
  refine r_i2b (v := b8 v) rfl rfl ?_
  refine r_bast rfl k2 rfl (by omega) (by omega) (b8_nar v) (b8_fit v) ?_
  refine r_aload_n rfl rfl ?_
  refine r_dup rfl (by first | rfl | exact rf_cat _) ?_
  (first | refine r_getIv rfl (by first | assumption | rfl) rfl (by assumption) ?_ | refine r_getI rfl (by first | assumption | rfl) rfl ?_)
  refine r_iconst (v := nI 1) rfl (by decide) ?_
  (first | refine r_iaddN rfl ?_ | refine r_iadd rfl ?_)
  refine r_putI rfl (by first | assumption | rfl) rfl (by first | exact Or.inl rfl | exact Or.inr ⟨rfl, rfl⟩) (by first | rfl | decide | assumption) (by first | rfl | decide) ?_
  refine r_vret rfl rfl ⟨rfl, h.of rfl rfl rfl ?_ (by simp; omega) ?_, rfl, rfl, rfl, rfl, rfl, fun f b q => ?_, fun b q => ?_⟩
  · rw [List.length_append]
    exact u2_s _ _ _ _
  · intro i hi
    rw [List.length_append] at hi
    show u_1 (h_X σ) (a + 1) _ (a + 1) i = _
    rw [u1_s]
    unfold upd
    simp only [List.length_cons, List.length_nil] at hi
    by_cases e : i = xs.length
    · rw [if_pos e, e]
      simp [List.getD_eq_getElem?_getD]
    · rw [if_neg e, hx i (by omega), List.getD_eq_getElem?_getD, List.getD_eq_getElem?_getD, List.getElem?_append_left (by omega)]
  · show u_2 _ 193 a _ f b = _
    unfold u_2
    rw [if_neg q]
    rfl
  · show u_1 (h_X σ) (a + 1) _ b = _
    rw [u1_n _ _ q]
theorem c_putFour {v : Int32} (h : Ln σ a cap xs) (hc : xs.length + 4 ≤ cap) : Cn l D m_Line_putFour 0 0 [va_rf (some a), .int v] σ (fun r τ => r = none ∧ Ln τ a cap (xs ++ [b8 (v.toUInt32 >>> ((nI 24).toUInt32 &&& Int32.toUInt32 31)).toInt32, b8 (v.toUInt32 >>> ((nI 16).toUInt32 &&& Int32.toUInt32 31)).toInt32, b8 (v.toUInt32 >>> ((nI 8).toUInt32 &&& Int32.toUInt32 31)).toInt32, b8 v]) ∧ LF σ τ a) := by
  have k1 := h.1
  refine Cn.of (by decide) (by repeat (first | exact ca_0 | refine ca_i ?_ | refine ca_r ?_)) (Nat.le_of_ble_eq_true rfl) ?_
  refine r_aload_n rfl rfl ?_
  refine r_iload_n rfl rfl ?_
  refine r_bipush (v := nI 24) rfl (by decide) ?_
  refine r_iushr rfl rfl ?_
  refine r_callV (As := [_]) rfl (by decide) rfl k1 rfl rfl (Nat.le_of_ble_eq_true rfl) ⟨Nat.le_of_ble_eq_true rfl, Nat.le_of_ble_eq_true rfl⟩ (c_put h (by omega)) (kc' := 0) (ks' := 0) (by omega) (by omega) (by decide) ?_
  rintro r σ1 ⟨rfl, g1, f1⟩
  refine r_aload_n rfl rfl ?_
  refine r_iload_n rfl rfl ?_
  refine r_bipush (v := nI 16) rfl (by decide) ?_
  refine r_iushr rfl rfl ?_
  refine r_callV (As := [_]) rfl (by decide) rfl g1.1 rfl rfl (Nat.le_of_ble_eq_true rfl) ⟨Nat.le_of_ble_eq_true rfl, Nat.le_of_ble_eq_true rfl⟩ (c_put g1 (by simp; omega)) (kc' := 0) (ks' := 0) (by omega) (by omega) (by decide) ?_
  rintro r σ2 ⟨rfl, g2, f2⟩
  refine r_aload_n rfl rfl ?_
  refine r_iload_n rfl rfl ?_
  refine r_bipush (v := nI 8) rfl (by decide) ?_
  refine r_iushr rfl rfl ?_
  refine r_callV (As := [_]) rfl (by decide) rfl g2.1 rfl rfl (Nat.le_of_ble_eq_true rfl) ⟨Nat.le_of_ble_eq_true rfl, Nat.le_of_ble_eq_true rfl⟩ (c_put g2 (by simp; omega)) (kc' := 0) (ks' := 0) (by omega) (by omega) (by decide) ?_
  rintro r σ3 ⟨rfl, g3, f3⟩
  refine r_aload_n rfl rfl ?_
  refine r_iload_n rfl rfl ?_
  refine r_callV (As := [_]) rfl (by decide) rfl g3.1 rfl rfl (Nat.le_of_ble_eq_true rfl) ⟨Nat.le_of_ble_eq_true rfl, Nat.le_of_ble_eq_true rfl⟩ (c_put g3 (by simp; omega)) (kc' := 0) (ks' := 0) (by omega) (by omega) (by decide) ?_
  rintro r σ4 ⟨rfl, g4, f4⟩
  refine r_vret rfl rfl ⟨rfl, ?_, ((f1.tr f2).tr f3).tr f4⟩
  simpa using g4
theorem c_putLine (h : Ln σ a cap xs) (g : Ln σ b cb ys) (hc : xs.length + ys.length ≤ cap) : Cn l D m_Line_putLine 0 0 [va_rf (some a), va_rf (some b)] σ (fun r τ => r = none ∧ Ln τ a cap (xs ++ ys) ∧ LF σ τ a) := by
  obtain ⟨k1, p1, i1, k2, l1, hle, hcap, hx⟩ := id h
  obtain ⟨k1', p1', i1', k2', l1', hle', hcap', hx'⟩ := id g
  refine Cn.of (by decide) (by repeat (first | exact ca_0 | refine ca_i ?_ | refine ca_r ?_)) (Nat.le_of_ble_eq_true rfl) ?_
  refine r_aload_n rfl rfl ?_
  (first | refine r_getIv rfl (by first | assumption | rfl) rfl (by assumption) ?_ | refine r_getI rfl (by first | assumption | rfl) rfl ?_)
  refine r_aload_n rfl rfl ?_
  (first | refine r_getPv rfl (by first | assumption | rfl) rfl (by assumption) ?_ | refine r_getP rfl (by first | assumption | rfl) rfl ?_)
  refine r_alenv rfl (by omega) l1 ?_
  refine r_aload_n rfl rfl ?_
  (first | refine r_getIv rfl (by first | assumption | rfl) rfl (by assumption) ?_ | refine r_getI rfl (by first | assumption | rfl) rfl ?_)
  refine r_isubN rfl (by omega) ?_
  refine r_callS (As := [.int (nI ys.length), .int (nI (cap - xs.length))]) (kc' := 0) (ks' := 0) rfl (by decide) rfl rfl rfl (Nat.le_of_ble_eq_true rfl) ⟨Nat.le_of_ble_eq_true rfl, Nat.le_of_ble_eq_true rfl⟩ c_min (by omega) (by omega) ?_
  rintro r τ ⟨rfl, rfl⟩
  have e : (if nI (cap - xs.length) < nI ys.length then nI (cap - xs.length) else nI ys.length) = nI ys.length := if_neg (nI_nlt (by omega) (by omega))
  rw [e]
  refine r_istore_n rfl (by decide) ?_
  refine r_aload_n rfl rfl ?_
  (first | refine r_getPv rfl (by first | assumption | rfl) rfl (by assumption) ?_ | refine r_getP rfl (by first | assumption | rfl) rfl ?_)
  refine r_iconst (v := nI 0) rfl (by decide) ?_
  refine r_aload_n rfl rfl ?_
  (first | refine r_getPv rfl (by first | assumption | rfl) rfl (by assumption) ?_ | refine r_getP rfl (by first | assumption | rfl) rfl ?_)
  refine r_aload_n rfl rfl ?_
  (first | refine r_getIv rfl (by first | assumption | rfl) rfl (by assumption) ?_ | refine r_getI rfl (by first | assumption | rfl) rfl ?_)
  refine r_iload_n rfl rfl ?_
  refine r_copy (t := 0) rfl (by omega) k2' k2 rfl rfl rfl (by omega) (by omega) (by omega) (by omega) (Nat.le_of_ble_eq_true rfl) ⟨Nat.le_of_ble_eq_true rfl, Nat.le_of_ble_eq_true rfl⟩ ?_
  refine r_aload_n rfl rfl ?_
  refine r_dup rfl (by first | rfl | exact rf_cat _) ?_
  (first | refine r_getIv rfl (by first | assumption | rfl) rfl (by assumption) ?_ | refine r_getI rfl (by first | assumption | rfl) rfl ?_)
  refine r_iload_n rfl rfl ?_
  (first | refine r_iaddN rfl ?_ | refine r_iadd rfl ?_)
  refine r_putI rfl (by first | assumption | rfl) rfl (by first | exact Or.inl rfl | exact Or.inr ⟨rfl, rfl⟩) (by first | rfl | decide | assumption) (by first | rfl | decide) ?_
  refine r_vret rfl rfl ⟨rfl, h.of rfl rfl rfl ?_ (by simp; omega) ?_, rfl, rfl, rfl, rfl, rfl, fun f b q => ?_, fun b q => ?_⟩
  · rw [List.length_append]
    exact u2_s _ _ _ _
  · intro i hi
    rw [List.length_append] at hi
    show u_1 (h_X τ) (a + 1) _ (a + 1) i = _
    rw [u1_s]
    unfold va_cpy
    by_cases e : i < xs.length
    · rw [if_neg (by omega), hx i e, List.getD_eq_getElem?_getD, List.getD_eq_getElem?_getD, List.getElem?_append_left e]
    · rw [if_pos (by omega), hx' _ (by omega), List.getD_eq_getElem?_getD, List.getD_eq_getElem?_getD, List.getElem?_append_right (by omega), Nat.zero_add]
  · show u_2 _ 193 a _ f b = _
    unfold u_2
    rw [if_neg q]
    rfl
  · show u_1 (h_X τ) (a + 1) _ b = _
    rw [u1_n _ _ q]
theorem c_setTo (h : Ln σ a cap xs) (g : Ln σ b cb ys) (hab : b ≠ a) (hc : ys.length ≤ cap) : Cn l D m_Line_setTo 0 0 [va_rf (some a), va_rf (some b)] σ (fun r τ => r = none ∧ Ln τ a cap ys ∧ LF σ τ a) := by
  have k1 := h.1
  obtain ⟨h0, f0⟩ := h.cut 0 (by omega)
  rw [List.take_zero] at h0
  refine Cn.of (by decide) (by repeat (first | exact ca_0 | refine ca_i ?_ | refine ca_r ?_)) (Nat.le_of_ble_eq_true rfl) ?_
  refine r_aload_n rfl rfl ?_
  refine r_iconst (v := nI 0) rfl (by decide) ?_
  refine r_putI rfl (by first | assumption | rfl) rfl (by first | exact Or.inl rfl | exact Or.inr ⟨rfl, rfl⟩) (by first | rfl | decide | assumption) (by first | rfl | decide) ?_
  refine r_aload_n rfl rfl ?_
  refine r_aload_n rfl rfl ?_
  refine r_callV (As := [_]) rfl (by decide) rfl h0.1 rfl rfl (Nat.le_of_ble_eq_true rfl) ⟨Nat.le_of_ble_eq_true rfl, Nat.le_of_ble_eq_true rfl⟩ (c_putLine h0 (f0.keep hab g) (by simpa using hc)) (kc' := 0) (ks' := 0) (by omega) (by omega) (by decide) ?_
  rintro r τ ⟨rfl, g1, f1⟩
  refine r_vret rfl rfl ⟨rfl, by simpa using g1, f0.tr f1⟩
end LC
