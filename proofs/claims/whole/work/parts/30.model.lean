/-! ===== the reference: its cells ===== -/
def mFL : List Nat := [704, 706, 707, 708, 709, 710, 712, 713, 714, 715, 717, 718, 719, 720, 722, 723, 725, 726, 727, 728, 729, 730, 731, 732, 734, 735, 736, 737, 738, 739, 740, 743, 745, 746, 747, 750, 751, 752, 753, 754]
def mTL : List Nat := [20, 20, 21, 21, 21, 21, 21, 21, 21, 21, 21, 21, 21, 21, 21, 21, 21, 21, 20, 21, 20, 21, 20, 21, 21, 21, 21, 21, 21, 21, 20, 22, 20, 21, 21, 21, 21, 21, 21, 21]
def mNL : List Nat := [600, 60, 6, 6, 6, 6, 120, 120, 120, 120, 200, 200, 200, 200, 120, 120, 120, 120, 7200, 120, 7200, 120, 7200, 120, 100, 100, 100, 100, 100, 1200, 2000, 120, 57600, 960, 960, 40, 40, 40, 40, 40]
def mF (j : Nat) : Nat := mFL.getD j 0
def mT (j : Nat) : Nat := mTL.getD j 0
def mN (j : Nat) : Nat := mNL.getD j 0
/-- the reference's object stands at o, its forty rows behind it -/
def ML (σ : Hp) (o : Nat) : Prop := h_K σ o = 12 ∧ ∀ j, j < 40 → h_P σ (mF j) o = some (o + 1 + j) ∧ h_K σ (o + 1 + j) = mT j ∧ h_L σ (o + 1 + j) = mN j
theorem mN_lt : ∀ j, mN j < 2 ^ 31 := by
  intro j
  unfold mN
  by_cases h : j < 40
  · have : ∀ j, j < 40 → mNL.getD j 0 < 2 ^ 31 := by decide
    exact this j h
  · rw [List.getD_eq_getElem?_getD, List.getElem?_eq_none (by show mNL.length ≤ j; exact Nat.le_of_not_lt h)]
    decide
section MR
variable {l : Launch} {D : DD} {R : Room} {Z : List Frame → Array Value → State → State → Prop} {y pc n x kc ks : Nat} {ls : List (Option Value)} {st : List Value} {σ : Hp}
theorem r_mg {k f o j : Nat} (hM : ML σ o) (hf : ft y pc = some (.getfield k, n, f)) (hj : mF j = f) (hj2 : j < 40 ∧ f / 64 + 1 = 12 ∧ fPrim (fTy (f / 64) (f % 64)) = false) (kk : G l D R Z y n ls (va_rf (some (o + 1 + j)) :: st) σ kc ks) : G l D R Z y pc ls (va_rf (some o) :: st) σ kc ks := by
  refine r_getP hf (by rw [hj2.2.1]; exact hM.1) hj2.2.2 ?_
  rw [← hj, (hM.2 j hj2.1).1]
  exact kk
theorem r_mi {o j q : Nat} {i : Int32} (hM : ML σ o) (hf : ft y pc = some (.iaload, n, x)) (hT : mT j = 21) (hj : j < 40) (hi : i = nI q) (hq : q < mN j) (kk : G l D R Z y n ls (.int (h_X σ (o + 1 + j) q) :: st) σ kc ks) : G l D R Z y pc ls (.int i :: va_rf (some (o + 1 + j)) :: st) σ kc ks := by
  obtain ⟨h1, h2, h3⟩ := hM.2 j hj
  exact r_iald hf (h2.trans hT) hi (by rw [h3]; exact hq) (by rw [h3]; exact mN_lt j) kk
theorem r_mb {o j q : Nat} {i : Int32} (hM : ML σ o) (hf : ft y pc = some (.baload, n, x)) (hT : mT j = 20) (hj : j < 40) (hi : i = nI q) (hq : q < mN j) (kk : G l D R Z y n ls (.int (h_X σ (o + 1 + j) q) :: st) σ kc ks) : G l D R Z y pc ls (.int i :: va_rf (some (o + 1 + j)) :: st) σ kc ks := by
  obtain ⟨h1, h2, h3⟩ := hM.2 j hj
  exact r_bald hf (h2.trans hT) hi (by rw [h3]; exact hq) (by rw [h3]; exact mN_lt j) kk
theorem r_mz {o j q : Nat} {i : Int32} (hM : ML σ o) (hf : ft y pc = some (.baload, n, x)) (hT : mT j = 22) (hj : j < 40) (hi : i = nI q) (hq : q < mN j) (kk : G l D R Z y n ls (.int (h_X σ (o + 1 + j) q) :: st) σ kc ks) : G l D R Z y pc ls (.int i :: va_rf (some (o + 1 + j)) :: st) σ kc ks := by
  obtain ⟨h1, h2, h3⟩ := hM.2 j hj
  exact r_zald hf (h2.trans hT) hi (by rw [h3]; exact hq) (by rw [h3]; exact mN_lt j) kk
theorem r_mis {o j q : Nat} {i v : Int32} (hM : ML σ o) (hf : ft y pc = some (.iastore, n, x)) (hT : mT j = 21) (hj : j < 40) (hi : i = nI q) (hq : q < mN j) (kk : G l D R Z y n ls st (w_X σ (o + 1 + j) (upd (h_X σ (o + 1 + j)) q v)) kc ks) : G l D R Z y pc ls (.int v :: .int i :: va_rf (some (o + 1 + j)) :: st) σ kc ks := by
  obtain ⟨h1, h2, h3⟩ := hM.2 j hj
  exact r_iast hf (h2.trans hT) hi (by rw [h3]; exact hq) (by rw [h3]; exact mN_lt j) kk
theorem r_mbs {o j q : Nat} {i v : Int32} (hM : ML σ o) (hf : ft y pc = some (.bastore, n, x)) (hT : mT j = 20) (hj : j < 40) (hi : i = nI q) (hq : q < mN j) (hv : narrow .byte (.int v) = .int v) (hv2 : fits .byte (.int v) = true) (kk : G l D R Z y n ls st (w_X σ (o + 1 + j) (upd (h_X σ (o + 1 + j)) q v)) kc ks) : G l D R Z y pc ls (.int v :: .int i :: va_rf (some (o + 1 + j)) :: st) σ kc ks := by
  obtain ⟨h1, h2, h3⟩ := hM.2 j hj
  exact r_bast hf (h2.trans hT) hi (by rw [h3]; exact hq) (by rw [h3]; exact mN_lt j) hv hv2 kk
theorem r_mzs {o j q : Nat} {i v : Int32} (hM : ML σ o) (hf : ft y pc = some (.bastore, n, x)) (hT : mT j = 22) (hj : j < 40) (hi : i = nI q) (hq : q < mN j) (hv : narrow .boolean (.int v) = .int v) (kk : G l D R Z y n ls st (w_X σ (o + 1 + j) (upd (h_X σ (o + 1 + j)) q v)) kc ks) : G l D R Z y pc ls (.int v :: .int i :: va_rf (some (o + 1 + j)) :: st) σ kc ks := by
  obtain ⟨h1, h2, h3⟩ := hM.2 j hj
  exact r_zast hf (h2.trans hT) hi (by rw [h3]; exact hq) (by rw [h3]; exact mN_lt j) hv kk
end MR
/-! writes of rows, in a settled form -/
theorem wX_same (σ : Hp) (a : Nat) (g h : Nat → Int32) : w_X (w_X σ a g) a h = w_X σ a h := by
  unfold w_X
  simp only [h_z, h_K, h_I, h_P, h_L, h_X, h_Y]
  congr 6
  funext b
  unfold u_1
  by_cases e : b = a
  · rw [if_pos e, if_pos e]
  · rw [if_neg e, if_neg e, if_neg e]
theorem wX_self (σ : Hp) (a : Nat) : w_X σ a (h_X σ a) = σ := by
  unfold w_X
  have : u_1 (h_X σ) a (h_X σ a) = h_X σ := by
    funext b
    unfold u_1
    by_cases e : b = a
    · rw [if_pos e, e]
    · rw [if_neg e]
  rw [this]
  rfl
theorem wX_comm (σ : Hp) {a b : Nat} (g h : Nat → Int32) (hab : a ≠ b) : w_X (w_X σ a g) b h = w_X (w_X σ b h) a g := by
  unfold w_X
  simp only [h_z, h_K, h_I, h_P, h_L, h_X, h_Y]
  congr 6
  funext c
  unfold u_1
  by_cases e : c = b
  · rw [if_pos e, if_neg (by omega), if_pos e]
  · rw [if_neg e]
    by_cases e2 : c = a
    · rw [if_pos e2, if_pos e2]
    · rw [if_neg e2, if_neg e2, if_neg e]
theorem hX_w (σ : Hp) (a : Nat) (g : Nat → Int32) : h_X (w_X σ a g) a = g := u1_s _ _ _
theorem hX_n (σ : Hp) {a b : Nat} (g : Nat → Int32) (h : b ≠ a) : h_X (w_X σ a g) b = h_X σ b := u1_n _ _ h
theorem hX_wI (σ : Hp) (f a : Nat) (v : Int32) : h_X (w_I σ f a v) = h_X σ := rfl
theorem hI_wX (σ : Hp) (a : Nat) (g : Nat → Int32) : h_I (w_X σ a g) = h_I σ := rfl
theorem hI_w (σ : Hp) (f a : Nat) (v : Int32) : h_I (w_I σ f a v) f a = v := u2_s _ _ _ _
theorem hI_n (σ : Hp) {f g a b : Nat} (v : Int32) (h : g ≠ f) : h_I (w_I σ f a v) g b = h_I σ g b := u2_n1 _ _ h
theorem wI_wX (σ : Hp) (f a b : Nat) (v : Int32) (g : Nat → Int32) : w_I (w_X σ b g) f a v = w_X (w_I σ f a v) b g := rfl
theorem wI_same (σ : Hp) (f a : Nat) (v w : Int32) : w_I (w_I σ f a v) f a w = w_I σ f a w := by
  unfold w_I
  simp only [h_z, h_K, h_I, h_P, h_L, h_X, h_Y]
  congr 2
  congr 1
  funext g b
  unfold u_2
  by_cases e : g = f ∧ b = a
  · rw [if_pos e, if_pos e]
  · rw [if_neg e, if_neg e, if_neg e]
theorem upd_s (f : Nat → Int32) (k : Nat) (v : Int32) : upd f k v k = v := pk_us
theorem upd_n (f : Nat → Int32) {k j : Nat} (v : Int32) (h : j ≠ k) : upd f k v j = f j := pk_un h
def inB (v lo hi : Int32) : Bool := decide (lo ≤ v) && decide (v ≤ hi)
/-- how many below n -/
def cntB (p : Nat → Bool) : Nat → Nat
  | 0 => 0
  | n + 1 => cntB p n + (p n).toNat
theorem cntB_le (p : Nat → Bool) (n : Nat) : cntB p n ≤ n := by
  induction n with
  | zero => exact Nat.le_refl _
  | succ n ih =>
    unfold cntB
    have : (p n).toNat ≤ 1 := Bool.toNat_le _
    omega
theorem cntB_f {p : Nat → Bool} {i : Nat} (h : p i = false) : cntB p (i + 1) = cntB p i + 0 := by rw [cntB, h]; rfl
theorem cntB_t {p : Nat → Bool} {i : Nat} (h : p i = true) : cntB p (i + 1) = cntB p i + 1 := by rw [cntB, h]; rfl
section MC
variable {l : Launch} {D : DD} {σ : Hp} {o : Nat}
theorem c_M_in {v lo hi : Int32} : Cn l D m_M_in 0 0 [.int v, .int lo, .int hi] σ (fun r τ => r = some (.int (nI (inB v lo hi).toNat)) ∧ τ = σ) := by
  refine Cn.of (by decide) (by repeat (first | exact ca_0 | refine ca_i ?_ | refine ca_r ?_)) (Nat.le_of_ble_eq_true rfl) ?_
  have no : inB v lo hi = false → Gm l D m_M_in 0 0 (fun r τ => r = some (.int (nI (inB v lo hi).toNat)) ∧ τ = σ) 14 (en_L [.int v, .int lo, .int hi] 3) [] σ 0 0 := by
    intro h
    refine r_iconst (v := nI 0) rfl (by decide) ?_
    exact r_zret rfl rfl (by decide) ⟨by rw [h]; rfl, rfl⟩
  refine r_iload_n rfl rfl ?_
  refine r_iload_n rfl rfl ?_
  refine r_icmp_lt rfl (fun q => no ?_) (fun q => ?_)
  · unfold inB
    rw [decide_eq_false (Int32.not_le.mpr q)]
    rfl
  refine r_iload_n rfl rfl ?_
  refine r_iload_n rfl rfl ?_
  refine r_icmp_gt rfl (fun q2 => no ?_) (fun q2 => ?_)
  · unfold inB
    rw [decide_eq_false (p := v ≤ hi) (Int32.not_le.mpr q2), Bool.and_false]
  refine r_iconst (v := nI 1) rfl (by decide) ?_
  refine r_goto rfl ?_
  refine r_zret rfl rfl (by decide) ⟨?_, rfl⟩
  unfold inB
  rw [decide_eq_true (Int32.not_lt.mp q), decide_eq_true (Int32.not_lt.mp q2)]
  rfl
theorem c_M_isKind {v : Int32} : Cn l D m_M_isKind 0 0 [.int v] σ (fun r τ => r = some (.int (nI (inB v 0 5).toNat)) ∧ τ = σ) := by
  refine Cn.of (by decide) (by repeat (first | exact ca_0 | refine ca_i ?_ | refine ca_r ?_)) (Nat.le_of_ble_eq_true rfl) ?_
  refine r_iload_n rfl rfl ?_
  refine r_iconst (v := nI 0) rfl (by decide) ?_
  refine r_iconst (v := nI 5) rfl (by decide) ?_
  refine r_callS (As := [_, _, _]) rfl (by decide) rfl rfl rfl (Nat.le_of_ble_eq_true rfl) ⟨Nat.le_of_ble_eq_true rfl, Nat.le_of_ble_eq_true rfl⟩ c_M_in (kc' := 0) (ks' := 0) (by omega) (by omega) ?_
  rintro r τ ⟨rfl, rfl⟩
  exact r_zret rfl rfl (nar_B _) ⟨rfl, rfl⟩
theorem c_M_end {v : Int32} {t : Nat} (hM : ML σ o) (ht : h_I σ 705 o = nI t) : Cn l D m_M_end 0 0 [va_rf (some o), .int v] σ (fun r τ => (v < 0 ∨ nI t < v) ∧ r = some (.int (-1)) ∧ τ = σ ∨ (¬ v < 0 ∧ v ≤ nI t) ∧ r = some (.int v) ∧ τ = w_I σ 705 o v) := by
  refine Cn.of (by decide) (by repeat (first | exact ca_0 | refine ca_i ?_ | refine ca_r ?_)) (Nat.le_of_ble_eq_true rfl) ?_
  refine r_iload_n rfl rfl ?_
  refine r_if_lt rfl (fun q => ?_) (fun q => ?_)
  · refine r_iconst (v := -1) rfl (by decide) ?_
    exact r_iret rfl rfl (Or.inl ⟨Or.inl q, rfl, rfl⟩)
  refine r_iload_n rfl rfl ?_
  refine r_aload_n rfl rfl ?_
  (first | refine r_getIv rfl hM.1 rfl (by assumption) ?_ | refine r_getI rfl hM.1 rfl ?_)
  refine r_icmp_le rfl (fun q2 => ?_) (fun q2 => ?_)
  · refine r_aload_n rfl rfl ?_
    refine r_iload_n rfl rfl ?_
    refine r_putI rfl hM.1 rfl (Or.inl rfl) (by first | rfl | decide) (by first | rfl | decide) ?_
    refine r_iload_n rfl rfl ?_
    exact r_iret rfl rfl (Or.inr ⟨⟨q, q2⟩, rfl, rfl⟩)
  · refine r_iconst (v := -1) rfl (by decide) ?_
    exact r_iret rfl rfl (Or.inl ⟨Or.inr (Int32.not_le.mp q2), rfl, rfl⟩)
/-- is a thing there? -/
def isTh (n : Nat) (on : Nat → Int32) (v : Int32) : Bool := decide (0 ≤ v) && decide (v < nI n) && decide (on v.toNatClampNeg ≠ -9)
theorem isTh_nI {n q : Nat} {on : Nat → Int32} (hn : n ≤ 120) : isTh n on (nI q) = (decide (nI q < nI n) && decide (0 ≤ nI q) && decide (on (nI q).toNatClampNeg ≠ -9)) := by
  unfold isTh
  rw [Bool.and_comm (decide (0 ≤ nI q))]
theorem inB_n {v : Int32} {n : Nat} (hn : n ≤ 120) : inB v 0 (nI n - nI 1) = (decide (0 ≤ v) && decide (v < nI n)) := by
  unfold inB
  congr 1
  rw [Bool.eq_iff_iff, decide_eq_true_iff, decide_eq_true_iff]
  have h1 : (nI n).toInt = (n : Int) := nI_toInt (by omega)
  have h2 : (nI n - nI 1).toInt = (n : Int) - 1 := pk_sub_toInt (by omega) (by omega)
  rw [Int32.le_iff_toInt_le, Int32.lt_iff_toInt_lt, h1, h2]
  omega
theorem c_M_isThere {v : Int32} {n : Nat} (hM : ML σ o) (hn : h_I σ 711 o = nI n) (hn2 : n ≤ 120) : Cn l D m_M_isThere 0 0 [va_rf (some o), .int v] σ (fun r τ => r = some (.int (nI (isTh n (h_X σ (o + 1 + 7)) v).toNat)) ∧ τ = σ) := by
  refine Cn.of (by decide) (by repeat (first | exact ca_0 | refine ca_i ?_ | refine ca_r ?_)) (Nat.le_of_ble_eq_true rfl) ?_
  have no : isTh n (h_X σ (o + 1 + 7)) v = false → Gm l D m_M_isThere 0 0 (fun r τ => r = some (.int (nI (isTh n (h_X σ (o + 1 + 7)) v).toNat)) ∧ τ = σ) 29 (en_L [va_rf (some o), .int v] 2) [] σ 0 0 := by
    intro h
    refine r_iconst (v := nI 0) rfl (by decide) ?_
    exact r_zret rfl rfl (by decide) ⟨by rw [h]; rfl, rfl⟩
  refine r_iload_n rfl rfl ?_
  refine r_iconst (v := nI 0) rfl (by decide) ?_
  refine r_aload_n rfl rfl ?_
  (first | refine r_getIv rfl hM.1 rfl (by assumption) ?_ | refine r_getI rfl hM.1 rfl ?_)
  refine r_iconst (v := nI 1) rfl (by decide) ?_
  refine r_isub rfl ?_
  refine r_callS (As := [_, _, _]) rfl (by decide) rfl rfl rfl (Nat.le_of_ble_eq_true rfl) ⟨Nat.le_of_ble_eq_true rfl, Nat.le_of_ble_eq_true rfl⟩ c_M_in (kc' := 0) (ks' := 0) (by omega) (by omega) ?_
  rintro r τ ⟨rfl, rfl⟩
  rw [show nI 0 = 0 from rfl, inB_n hn2]
  refine r_ifeqB rfl (fun q => no ?_) (fun q => ?_)
  · unfold isTh
    rw [q]
    rfl
  obtain ⟨q1, q2⟩ := okn q
  have q1 := of_decide_eq_true q1
  have q2 := of_decide_eq_true q2
  obtain ⟨j, hj, rfl⟩ := nI_of (Int32.not_lt.mpr q1)
  have hj2 : j < n := (nI_ltI hj (by omega)).mp q2
  have ec : (nI j).toNatClampNeg = j := nI_clamp hj
  refine r_aload_n rfl rfl ?_
  refine r_mg (j := 7) hM rfl rfl (by decide) ?_
  refine r_iload_n rfl rfl ?_
  refine r_mi (j := 7) hM rfl rfl (by decide) (by first | rfl | assumption) (show _ < 120 by omega) ?_
  refine r_bipush (v := -9) rfl (by decide) ?_
  refine r_icmp_eq rfl (fun q3 => no ?_) (fun q3 => ?_)
  · unfold isTh
    rw [ec, q3]
    simp
  · refine r_iconst (v := nI 1) rfl (by decide) ?_
    refine r_goto rfl ?_
    refine r_zret rfl rfl (by decide) ⟨?_, rfl⟩
    unfold isTh
    rw [q, ec, decide_eq_true (p := _ ≠ _) q3]
    rfl
theorem c_M_hanging {v : Int32} {n : Nat} (hM : ML σ o) (hn : h_I σ 711 o = nI n) (hn2 : n ≤ 120) : Cn l D m_M_hanging 0 0 [va_rf (some o), .int v] σ (fun r τ => r = some (.int (nI (cntB (fun x => decide (h_X σ (o + 1 + 7) x = v)) n))) ∧ τ = σ) := by
  refine Cn.of (by decide) (by repeat (first | exact ca_0 | refine ca_i ?_ | refine ca_r ?_)) (Nat.le_of_ble_eq_true rfl) ?_
  refine r_iconst (v := nI 0) rfl (by decide) ?_
  refine r_istore_n rfl (by decide) ?_
  refine r_iconst (v := nI 0) rfl (by decide) ?_
  refine r_istore_n rfl (by decide) ?_
  have loop : ∀ (d i : Nat), i + d = n → Gm l D m_M_hanging 0 0 (fun r τ => r = some (.int (nI (cntB (fun x => decide (h_X σ (o + 1 + 7) x = v)) n))) ∧ τ = σ) 4 [some (va_rf (some o)), some (.int v), some (.int (nI (cntB (fun x => decide (h_X σ (o + 1 + 7) x = v)) i))), some (.int (nI i))] [] σ 0 0 := by
    intro d
    induction d with
    | zero =>
      intro i hi
      refine r_iload_n rfl rfl ?_
      refine r_aload_n rfl rfl ?_
      (first | refine r_getIv rfl hM.1 rfl (by assumption) ?_ | refine r_getI rfl hM.1 rfl ?_)
      refine r_geN rfl (by omega) (by omega) (fun _ => ?_) (fun q => by omega)
      refine r_iload_n rfl rfl ?_
      refine r_iret rfl rfl ⟨by rw [show i = n by omega], rfl⟩
    | succ d ih =>
      intro i hi
      refine r_iload_n rfl rfl ?_
      refine r_aload_n rfl rfl ?_
      (first | refine r_getIv rfl hM.1 rfl (by assumption) ?_ | refine r_getI rfl hM.1 rfl ?_)
      refine r_geN rfl (by omega) (by omega) (fun q => by omega) (fun _ => ?_)
      refine r_iload_n rfl rfl ?_
      refine r_aload_n rfl rfl ?_
      refine r_mg (j := 7) hM rfl rfl (by decide) ?_
      refine r_iload_n rfl rfl ?_
      refine r_mi (j := 7) hM rfl rfl (by decide) (by first | rfl | assumption) (show _ < 120 by omega) ?_
      refine r_iload_n rfl rfl ?_
      refine r_icmp_ne rfl (fun q => ?_) (fun q => ?_)
      · refine r_iconst (v := nI 0) rfl (by decide) ?_
        (first | refine r_iaddN rfl ?_ | refine r_iadd rfl ?_)
        refine r_istore_n rfl (by decide) ?_
        refine r_iinc rfl rfl (nI_inc _) ?_
        refine r_goto rfl ?_
        have e := ih (i + 1) (by omega)
        rw [cntB_f (i := i) (decide_eq_false q)] at e
        exact e
      · refine r_iconst (v := nI 1) rfl (by decide) ?_
        refine r_goto rfl ?_
        (first | refine r_iaddN rfl ?_ | refine r_iadd rfl ?_)
        refine r_istore_n rfl (by decide) ?_
        refine r_iinc rfl rfl (nI_inc _) ?_
        refine r_goto rfl ?_
        have e := ih (i + 1) (by omega)
        rw [cntB_t (i := i) (decide_eq_true q)] at e
        exact e
  exact loop n 0 (by omega)
end MC
