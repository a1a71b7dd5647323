/-! ===== the reference: make() ===== -/
/-- only these rows and int fields of the reference have changed -/
def MFr (rows flds : List Nat) (σ τ : Hp) (o : Nat) : Prop := h_z τ = h_z σ ∧ h_K τ = h_K σ ∧ h_P τ = h_P σ ∧ h_L τ = h_L σ ∧ h_Y τ = h_Y σ ∧ (∀ f b, ¬ (b = o ∧ f ∈ flds) → h_I τ f b = h_I σ f b) ∧ ∀ b, (∀ j ∈ rows, b ≠ o + 1 + j) → h_X τ b = h_X σ b
theorem MFr.rf (rows flds : List Nat) (σ : Hp) (o : Nat) : MFr rows flds σ σ o := ⟨rfl, rfl, rfl, rfl, rfl, fun _ _ _ => rfl, fun _ _ => rfl⟩
theorem MFr.tr {rows flds : List Nat} {σ τ ρ : Hp} {o : Nat} (h : MFr rows flds σ τ o) (g : MFr rows flds τ ρ o) : MFr rows flds σ ρ o := by
  obtain ⟨h1, h2, h3, h4, h5, h6, h7⟩ := h
  obtain ⟨g1, g2, g3, g4, g5, g6, g7⟩ := g
  exact ⟨g1.trans h1, g2.trans h2, g3.trans h3, g4.trans h4, g5.trans h5, fun f b q => (g6 f b q).trans (h6 f b q), fun b q => (g7 b q).trans (h7 b q)⟩
theorem MFr.X {rows flds : List Nat} (σ : Hp) {o j : Nat} (g : Nat → Int32) (hj : j ∈ rows) : MFr rows flds σ (w_X σ (o + 1 + j) g) o := ⟨rfl, rfl, rfl, rfl, rfl, fun _ _ _ => rfl, fun b q => hX_n _ _ (q j hj)⟩
theorem MFr.I {rows flds : List Nat} (σ : Hp) {o f : Nat} (v : Int32) (hf : f ∈ flds) : MFr rows flds σ (w_I σ f o v) o := by
  refine ⟨rfl, rfl, rfl, rfl, rfl, fun g b q => ?_, fun _ _ => rfl⟩
  show u_2 (h_I σ) f o v g b = _
  unfold u_2
  rw [if_neg]
  rintro ⟨rfl, rfl⟩
  exact q ⟨rfl, hf⟩
theorem MFr.T {rows flds : List Nat} {σ τ : Hp} {o jT jS x : Nat} (h : TF σ τ o jT jS x) (h1 : jT ∈ rows) (h2 : jS ∈ rows) : MFr rows flds σ τ o := by
  obtain ⟨T, S, rfl, -, -⟩ := h
  exact (MFr.X σ T h1).tr (MFr.X _ S h2)
theorem MFr.mL {rows flds : List Nat} {σ τ : Hp} {o o' : Nat} (h : MFr rows flds σ τ o) (hM : ML σ o') : ML τ o' := by
  obtain ⟨h1, h2, h3, h4, h5, h6, h7⟩ := h
  unfold ML at hM ⊢
  rw [h2, h3, h4]
  exact hM
theorem MFr.row {rows flds : List Nat} {σ τ : Hp} {o : Nat} (h : MFr rows flds σ τ o) {j : Nat} (hj : j ∉ rows) : h_X τ (o + 1 + j) = h_X σ (o + 1 + j) := h.2.2.2.2.2.2 _ (fun k hk e => hj (by
  have : k = j := by omega
  rw [← this]
  exact hk))
theorem MFr.fld {rows flds : List Nat} {σ τ : Hp} {o : Nat} (h : MFr rows flds σ τ o) {f : Nat} (hf : f ∉ flds) : h_I τ f o = h_I σ f o := h.2.2.2.2.2.1 _ _ (fun q => hf q.2)
theorem romD_len4 {d : Nat} (hd : d < 10) (a b c : Int32) : (romD d a b c).length ≤ 4 := by
  unfold romD
  split
  · simp
  · split
    · simp
    · split <;> simp <;> omega
theorem sgn_len (s c : Nat) : (sgn s c).length ≤ 15 ∧ 1 ≤ (figs c).length := by
  have h1 := fun a b d => romD_len (c / 100 % 10) a b d
  have h2 := fun a b d => romD_len (c / 10 % 10) a b d
  have h3 := fun a b d => romD_len (c % 10) a b d
  refine ⟨?_, by unfold figs; simp; omega⟩
  unfold sgn
  split
  · unfold figs
    split <;> split <;> simp
  split
  · unfold lets
    split <;> simp
  split
  · unfold lets
    split <;> simp
  split
  · unfold roms
    simp only [List.length_append]
    have a := h1 (nI (67 + 32)) (nI (68 + 32)) (nI (77 + 32))
    have b := h2 (nI (88 + 32)) (nI (76 + 32)) (nI (67 + 32))
    have c := h3 (nI (73 + 32)) (nI (86 + 32)) (nI (88 + 32))
    omega
  · unfold roms
    simp only [List.length_append]
    have a := h1 (nI (67 + 0)) (nI (68 + 0)) (nI (77 + 0))
    have b := h2 (nI (88 + 0)) (nI (76 + 0)) (nI (67 + 0))
    have c := h3 (nI (73 + 0)) (nI (86 + 0)) (nI (88 + 0))
    omega
/-- how the things are counted: the i-th of the ORDER -/
def ctO (on kd : Nat → Int32) (sc : Nat → Nat) (L : List Nat) (i : Nat) : Nat := 1 + cntB (fun q => decide (kd (L.getD q 0) = kd (L.getD i 0)) && ssB on kd (sc (kd (L.getD i 0)).toNatClampNeg) (L.getD i 0) (L.getD q 0)) i
/-- the one that would be the BASE of x -/
def b0O (on kd : Nat → Int32) (sc : Nat → Nat) (x : Nat) : Int32 := if 1 < sc (kd x).toNatClampNeg then abE on kd (nI (sc (kd x).toNatClampNeg - 2)) 200 (on x) else on x
/-- BASES and NUMBERS behind the first i of the ORDER -/
def mkO (on kd : Nat → Int32) (sc sy jo : Nat → Nat) (L : List Nat) : Nat → (Nat → Int32) × (Nat → List Int32)
  | 0 => (fun _ => -1, fun _ => [])
  | i + 1 => (upd (mkO on kd sc sy jo L i).1 (L.getD i 0) (bsV (b0O on kd sc (L.getD i 0)) ((mkO on kd sc sy jo L i).2 (b0O on kd sc (L.getD i 0)).toNatClampNeg)),
      u_1 (mkO on kd sc sy jo L i).2 (L.getD i 0) (nmV (jo (kd (L.getD i 0)).toNatClampNeg) (bsV (b0O on kd sc (L.getD i 0)) ((mkO on kd sc sy jo L i).2 (b0O on kd sc (L.getD i 0)).toNatClampNeg)) ((mkO on kd sc sy jo L i).2 (b0O on kd sc (L.getD i 0)).toNatClampNeg) (sgn (sy (kd (L.getD i 0)).toNatClampNeg) (ctO on kd sc L i))))
