/-! ===== rows, new cells ===== -/
section AR
variable {l : Launch} {D : DD} {R : Room} {Z : List Frame → Array Value → State → State → Prop} {y pc n x kc ks : Nat} {ls : List (Option Value)} {st : List Value} {σ : Hp}
/-- what is known of the heap at any time -/
theorem g_fits (k : (∀ a, h_K σ a = 20 → ∀ j, fits .byte (.int (h_X σ a j)) = true) → (∀ a, h_K σ a ≠ 0 → a < h_z σ) → h_K σ (h_z σ) = 0 → G l D R Z y pc ls st σ kc ks) : G l D R Z y pc ls st σ kc ks := by
  intro p e s m args below meth c H locs cells slots la hC h2 h3 h4 h5 h6 h7
  exact k (fun a ha j => (h3.2.2.2.2.2.1 a 0 (by omega) ha).2 rfl j) (fun a ha => (h3.2.2.2.1 a ha).2) h3.z0 p e s m args below meth c H locs cells slots la hC h2 h3 h4 h5 h6 h7
theorem ix_in {i : Int32} {j N : Nat} (hi : i = nI j) (hj : j < N) (hN : N < 2 ^ 31) : ¬ (i < 0 ∨ N ≤ i.toNatClampNeg) ∧ i.toNatClampNeg = j := by
  subst hi
  exact ⟨vp_in_nI hj hN, nI_clamp (by omega)⟩
theorem r_iald {a j : Nat} {i : Int32} (hf : ft y pc = some (.iaload, n, x)) (hk : h_K σ a = 21) (hi : i = nI j) (hj : j < h_L σ a) (hL : h_L σ a < 2 ^ 31) (kk : G l D R Z y n ls (.int (h_X σ a j) :: st) σ kc ks) : G l D R Z y pc ls (.int i :: va_rf (some a) :: st) σ kc ks := by
  intro p e s m args below meth c H locs cells slots la hC h2 h3 h4 h5 h6 h7
  obtain ⟨hn, hd⟩ := f_1 hf rfl
  subst hn
  obtain ⟨q1, q2⟩ := ix_in hi hj hL
  have hc := (h3.2.2.2.2.2.1 a 1 (by omega) hk).1
  exact W.iald (v := .int (h_X σ a j)) hC.1 hC.2.1 hc ((h2.2.1 21 .int rfl).1 _ _) (fun q => by cases q) (by rw [arrV_size]; exact q1) (by rw [q2, arrV_read _ _ hj]) rfl rfl hd (kk p e s m args below meth c H locs cells slots la hC h2 h3 h4 h5 h6 h7)
theorem r_bald {a j : Nat} {i : Int32} (hf : ft y pc = some (.baload, n, x)) (hk : h_K σ a = 20) (hi : i = nI j) (hj : j < h_L σ a) (hL : h_L σ a < 2 ^ 31) (kk : G l D R Z y n ls (.int (h_X σ a j) :: st) σ kc ks) : G l D R Z y pc ls (.int i :: va_rf (some a) :: st) σ kc ks := by
  intro p e s m args below meth c H locs cells slots la hC h2 h3 h4 h5 h6 h7
  obtain ⟨hn, hd⟩ := f_1 hf rfl
  subst hn
  obtain ⟨q1, q2⟩ := ix_in hi hj hL
  have hc := (h3.2.2.2.2.2.1 a 0 (by omega) hk).1
  exact W.bald (v := .int (h_X σ a j)) hC.1 hC.2.1 hc ((h2.2.1 20 .byte rfl).1 _ _) (fun q => by cases q) (by rw [arrV_size]; exact q1) (by rw [q2, arrV_read _ _ hj]) rfl rfl hd (kk p e s m args below meth c H locs cells slots la hC h2 h3 h4 h5 h6 h7)
theorem r_zald {a j : Nat} {i : Int32} (hf : ft y pc = some (.baload, n, x)) (hk : h_K σ a = 22) (hi : i = nI j) (hj : j < h_L σ a) (hL : h_L σ a < 2 ^ 31) (kk : G l D R Z y n ls (.int (h_X σ a j) :: st) σ kc ks) : G l D R Z y pc ls (.int i :: va_rf (some a) :: st) σ kc ks := by
  intro p e s m args below meth c H locs cells slots la hC h2 h3 h4 h5 h6 h7
  obtain ⟨hn, hd⟩ := f_1 hf rfl
  subst hn
  obtain ⟨q1, q2⟩ := ix_in hi hj hL
  have hc := (h3.2.2.2.2.2.1 a 2 (by omega) hk).1
  exact W.zald (v := .int (h_X σ a j)) hC.1 hC.2.1 hc ((h2.2.1 22 .boolean rfl).1 _ _) (fun q => by cases q) (by rw [arrV_size]; exact q1) (by rw [q2, arrV_read _ _ hj]) rfl rfl hd (kk p e s m args below meth c H locs cells slots la hC h2 h3 h4 h5 h6 h7)
theorem aTy_30 {t : Nat} (ht : t < 6) : ∃ C, aTy (30 + t) = some (.object C) := by
  match t, ht with
  | 0, _ => exact ⟨_, rfl⟩
  | 1, _ => exact ⟨_, rfl⟩
  | 2, _ => exact ⟨_, rfl⟩
  | 3, _ => exact ⟨_, rfl⟩
  | 4, _ => exact ⟨_, rfl⟩
  | 5, _ => exact ⟨_, rfl⟩
theorem r_aald {a j t : Nat} {i : Int32} (hf : ft y pc = some (.aaload, n, x)) (hk : h_K σ a = 30 + t) (ht : t < 6) (hi : i = nI j) (hj : j < h_L σ a) (hL : h_L σ a < 2 ^ 31) (kk : G l D R Z y n ls (va_rf (h_Y σ a j) :: st) σ kc ks) : G l D R Z y pc ls (.int i :: va_rf (some a) :: st) σ kc ks := by
  intro p e s m args below meth c H locs cells slots la hC h2 h3 h4 h5 h6 h7
  obtain ⟨hn, hd⟩ := f_1 hf rfl
  subst hn
  obtain ⟨q1, q2⟩ := ix_in hi hj hL
  have hc := h3.2.2.2.2.2.2 a t ht hk
  obtain ⟨C, hC2⟩ := aTy_30 ht
  exact W.aald (v := va_rf (h_Y σ a j)) (ty := .object C) hC.1 hC.2.1 hc ((h2.2.1 (30 + t) _ hC2).1 _ _) rfl (fun q => by cases q) (by rw [arrV_size]; exact q1) (by rw [q2, arrV_read _ _ hj]) rfl rfl hd (kk p e s m args below meth c H locs cells slots la hC h2 h3 h4 h5 h6 h7)
theorem r_alen {a : Nat} (hf : ft y pc = some (.arraylength, n, x)) (hk : (20 ≤ h_K σ a ∧ h_K σ a < 23) ∨ (30 ≤ h_K σ a ∧ h_K σ a < 36)) (kk : G l D R Z y n ls (.int (nI (h_L σ a)) :: st) σ kc ks) : G l D R Z y pc ls (va_rf (some a) :: st) σ kc ks := by
  intro p e s m args below meth c H locs cells slots la hC h2 h3 h4 h5 h6 h7
  obtain ⟨hn, hd⟩ := f_1 hf rfl
  subst hn
  have kk := kk p e s m args below meth c H locs cells slots la hC h2 h3 h4 h5 h6 h7
  rcases hk with hk | hk
  · obtain ⟨t, ht⟩ : ∃ t, h_K σ a = 20 + t := ⟨h_K σ a - 20, by omega⟩
    have hc := (h3.2.2.2.2.2.1 a t (by omega) ht).1
    have ha : ∃ ty, aTy (20 + t) = some ty := by
      have : t < 3 := by omega
      match t, this with
      | 0, _ => exact ⟨_, rfl⟩
      | 1, _ => exact ⟨_, rfl⟩
      | 2, _ => exact ⟨_, rfl⟩
    obtain ⟨ty, hty⟩ := ha
    exact W.alen (n := nI (h_L σ a)) hC.1 hC.2.1 hc ((h2.2.1 (20 + t) _ hty).1 _ _) (by rw [arrV_size]; rfl) rfl rfl hd kk
  · obtain ⟨t, ht⟩ : ∃ t, h_K σ a = 30 + t := ⟨h_K σ a - 30, by omega⟩
    have hc := h3.2.2.2.2.2.2 a t (by omega) ht
    obtain ⟨C, hC2⟩ := aTy_30 (t := t) (by omega)
    exact W.alen (n := nI (h_L σ a)) hC.1 hC.2.1 hc ((h2.2.1 (30 + t) _ hC2).1 _ _) (by rw [arrV_size]; rfl) rfl rfl hd kk
theorem locs_ok {locs : List Loc} {N a i : Nat} (h : ∀ q ∈ locs, N ≤ q.base) (ha : N ≤ a) : ∀ q ∈ locs ++ [⟨a, i⟩], N ≤ q.base := by
  intro q hq
  rcases List.mem_append.mp hq with g | g
  · exact h q g
  · rw [List.mem_singleton.mp g]
    exact ha
theorem updV_int (f : Nat → Int32) (j : Nat) (v : Int32) : updV (fun q => .int (f q)) j (.int v) = fun q => .int (upd f j v q) := by
  funext q
  by_cases e : q = j <;> simp [updV, upd, e]
theorem updV_ref (f : Nat → Option Nat) (j : Nat) (v : Option Nat) : updV (fun q => va_rf (f q)) j (va_rf v) = fun q => va_rf (u_1 f j v q) := by
  funext q
  by_cases e : q = j <;> simp [updV, u_1, e]
theorem r_iast {a j : Nat} {i v : Int32} (hf : ft y pc = some (.iastore, n, x)) (hk : h_K σ a = 21) (hi : i = nI j) (hj : j < h_L σ a) (hL : h_L σ a < 2 ^ 31) (kk : G l D R Z y n ls st (w_X σ a (upd (h_X σ a) j v)) kc ks) : G l D R Z y pc ls (.int v :: .int i :: va_rf (some a) :: st) σ kc ks := by
  intro p e s m args below meth c H locs cells slots la hC h2 h3 h4 h5 h6 h7
  obtain ⟨hn, hd⟩ := f_1 hf rfl
  subst hn
  obtain ⟨q1, q2⟩ := ix_in hi hj hL
  have hc := (h3.2.2.2.2.2.1 a 1 (by omega) hk).1
  refine W.iast hC.1 hC.2.1 hc ((h2.2.1 21 .int rfl).1 _ _) (fun q => by cases q) (by rw [arrV_size]; exact q1) rfl rfl hd (fun H1 e1 e2 e3 => ?_)
  rw [q2, arrV_store, updV_int] at e1
  exact kk p e s m args below meth c H1 _ cells slots la hC h2 (h3.rowX (t := 1) hk (by omega) e2 e3 e1 (fun h => by omega)) (locs_ok h4 (h3.2.2.2.1 a (by omega)).1) h5 h6 h7
theorem r_bast {a j : Nat} {i v : Int32} (hf : ft y pc = some (.bastore, n, x)) (hk : h_K σ a = 20) (hi : i = nI j) (hj : j < h_L σ a) (hL : h_L σ a < 2 ^ 31) (hv : narrow .byte (.int v) = .int v) (hv2 : fits .byte (.int v) = true) (kk : G l D R Z y n ls st (w_X σ a (upd (h_X σ a) j v)) kc ks) : G l D R Z y pc ls (.int v :: .int i :: va_rf (some a) :: st) σ kc ks := by
  intro p e s m args below meth c H locs cells slots la hC h2 h3 h4 h5 h6 h7
  obtain ⟨hn, hd⟩ := f_1 hf rfl
  subst hn
  obtain ⟨q1, q2⟩ := ix_in hi hj hL
  have hc := h3.2.2.2.2.2.1 a 0 (by omega) hk
  refine W.bast hC.1 hC.2.1 hc.1 ((h2.2.1 20 .byte rfl).1 _ _) (fun q => by cases q) (by rw [arrV_size]; exact q1) rfl rfl hd (fun H1 e1 e2 e3 => ?_)
  rw [q2, hv, arrV_store, updV_int] at e1
  refine kk p e s m args below meth c H1 _ cells slots la hC h2 (h3.rowX (t := 0) hk (by omega) e2 e3 e1 (fun h q => ?_)) (locs_ok h4 (h3.2.2.2.1 a (by omega)).1) h5 h6 h7
  unfold upd
  by_cases e : q = j
  · rw [if_pos e]; exact hv2
  · rw [if_neg e]; exact hc.2 rfl q
theorem r_zast {a j : Nat} {i v : Int32} (hf : ft y pc = some (.bastore, n, x)) (hk : h_K σ a = 22) (hi : i = nI j) (hj : j < h_L σ a) (hL : h_L σ a < 2 ^ 31) (hv : narrow .boolean (.int v) = .int v) (kk : G l D R Z y n ls st (w_X σ a (upd (h_X σ a) j v)) kc ks) : G l D R Z y pc ls (.int v :: .int i :: va_rf (some a) :: st) σ kc ks := by
  intro p e s m args below meth c H locs cells slots la hC h2 h3 h4 h5 h6 h7
  obtain ⟨hn, hd⟩ := f_1 hf rfl
  subst hn
  obtain ⟨q1, q2⟩ := ix_in hi hj hL
  have hc := (h3.2.2.2.2.2.1 a 2 (by omega) hk).1
  refine W.zast hC.1 hC.2.1 hc ((h2.2.1 22 .boolean rfl).1 _ _) (fun q => by cases q) (by rw [arrV_size]; exact q1) rfl rfl hd (fun H1 e1 e2 e3 => ?_)
  rw [q2, hv, arrV_store, updV_int] at e1
  exact kk p e s m args below meth c H1 _ cells slots la hC h2 (h3.rowX (t := 2) hk (by omega) e2 e3 e1 (fun h => by omega)) (locs_ok h4 (h3.2.2.2.1 a (by omega)).1) h5 h6 h7
/-- the class of what a row of kind 30 + t holds -/
def aCl (t : Nat) : Nat := if t = 5 then 8 else t
theorem aCl_ty {t : Nat} (ht : t < 6) : aTy (30 + t) = some (.object (cnm (aCl t))) ∧ aCl t < 12 := by
  match t, ht with
  | 0, _ => exact ⟨rfl, by decide⟩
  | 1, _ => exact ⟨rfl, by decide⟩
  | 2, _ => exact ⟨rfl, by decide⟩
  | 3, _ => exact ⟨rfl, by decide⟩
  | 4, _ => exact ⟨rfl, by decide⟩
  | 5, _ => exact ⟨rfl, by decide⟩
theorem r_aast {a j t : Nat} {i : Int32} {v : Option Nat} (hf : ft y pc = some (.aastore, n, x)) (hk : h_K σ a = 30 + t) (ht : t < 6) (hi : i = nI j) (hj : j < h_L σ a) (hL : h_L σ a < 2 ^ 31) (hv : ∀ b, v = some b → h_K σ b = aCl t + 1) (kk : G l D R Z y n ls st (w_Y σ a (u_1 (h_Y σ a) j v)) kc ks) : G l D R Z y pc ls (va_rf v :: .int i :: va_rf (some a) :: st) σ kc ks := by
  intro p e s m args below meth c H locs cells slots la hC h2 h3 h4 h5 h6 h7
  obtain ⟨hn, hd⟩ := f_1 hf rfl
  subst hn
  obtain ⟨q1, q2⟩ := ix_in hi hj hL
  have hc := h3.2.2.2.2.2.2 a t ht hk
  obtain ⟨hA, hA2⟩ := aCl_ty ht
  have hT := h2.2.1 (30 + t) _ hA
  have fin : ∀ (H1 : Heap), H1[a]? = some ((arrV (d_A D (30 + t)) (h_L σ a) (fun j => va_rf (h_Y σ a j))).setSlot i.toNatClampNeg (va_rf v)) → H1.size = H.size → (∀ q, q ≠ a → H1[q]? = H[q]?) → W p l e R s m args below meth c H1 (locs ++ [⟨a, i.toNatClampNeg⟩]) cells slots (Z below args s) (F0 m (pc + 1) la st) := by
    intro H1 e1 e2 e3
    rw [q2, arrV_store, updV_ref] at e1
    exact kk p e s m args below meth c H1 _ cells slots la hC h2 (h3.rowY hk ht e2 e3 e1) (locs_ok h4 (h3.2.2.2.1 a (by omega)).1) h5 h6 h7
  cases v with
  | none => exact va_WaastN (C := cnm (aCl t)) hC.1 hC.2.1 hc (hT.1 _ _) (fun q => by cases q) (by rw [arrV_size]; exact q1) rfl rfl hd fin
  | some b =>
    obtain ⟨cellV, g1, g2, g3, -⟩ := h3.2.2.2.2.1 b (aCl t) hA2 (hv b rfl)
    have hcls := (h2.1 (aCl t) hA2).2
    obtain ⟨kA, comp, k1, k2, k3, -⟩ := hT.2
    have hcomp : comp = D.1.1 (aCl t) := Option.some.inj (k3.symm.trans hcls.1)
    subst hcomp
    obtain ⟨kC, hkC, -⟩ := hcls.2
    exact W.aast hC.1 hC.2.1 hc (fun q h => by cases h) (fun h => by cases h) k1 k2 rfl hkC ⟨fun q => q1 (Or.inl q), by rw [arrV_size, q2]; exact hj⟩ g1 (fun q h => by rw [g3] at h; cases h) (by rw [g2]; exact hkC) (by rw [g2]; exact va_assign hcls) rfl rfl hd fin
end AR
