/-! ===== the heap's laws ===== -/
theorem u1_s {α : Type} (f : Nat → α) (a : Nat) (v : α) : u_1 f a v a = v := by simp [u_1]
theorem u1_n {α : Type} (f : Nat → α) {a b : Nat} (v : α) (h : b ≠ a) : u_1 f a v b = f b := by simp [u_1, h]
theorem u2_s {α : Type} (f : Nat → Nat → α) (a b : Nat) (v : α) : u_2 f a b v a b = v := by simp [u_2]
theorem u2_n1 {α : Type} (f : Nat → Nat → α) {a b c d : Nat} (v : α) (h : c ≠ a) : u_2 f a b v c d = f c d := by simp [u_2, h]
theorem u2_n2 {α : Type} (f : Nat → Nat → α) {a b c d : Nat} (v : α) (h : d ≠ b) : u_2 f a b v c d = f c d := by simp [u_2, h]
theorem fid_ne {ci k ci' k' : Nat} (h : k < 64) (h' : k' < 64) (hn : ¬ (ci' = ci ∧ k' = k)) : 64 * ci' + k' ≠ 64 * ci + k := by omega
theorem fN_lt {ci : Nat} (h : ci < 12) : fN ci < 64 := by
  match ci, h with
  | 0, _ => decide
  | 1, _ => decide
  | 2, _ => decide
  | 3, _ => decide
  | 4, _ => decide
  | 5, _ => decide
  | 6, _ => decide
  | 7, _ => decide
  | 8, _ => decide
  | 9, _ => decide
  | 10, _ => decide
  | 11, _ => decide
theorem t_OB.lt {o : Nat} {cC : ClassId} {N : Nat} {iS : Nat → Nat} {H : Heap} {V : Nat → Value} (h : t_OB o cC N iS H V) : o < H.size := by
  obtain ⟨cell, q, -⟩ := h
  exact (Array.getElem?_eq_some_iff.mp q).1
section HP
variable {D : DD} {σ τ : Hp} {H H' : Heap} {a : Nat}
/-- a cell of an object is written -/
theorem Rp.obj {ci : Nat} (h : Rp D σ H) (hz : h_z τ = h_z σ) (hK : h_K τ = h_K σ) (hL : h_L τ = h_L σ) (hX : h_X τ = h_X σ) (hY : h_Y τ = h_Y σ) (hk : h_K σ a = ci + 1) (hci : ci < 12) (hs : H'.size = H.size) (hq : ∀ q, q ≠ a → H'[q]? = H[q]?)
    (hv : ∀ b c j, b ≠ a → fV τ c b j = fV σ c b j) (ho : t_OB a (D.1.1 ci) (fN ci) (D.1.2 ci) H' (fV τ ci a)) : Rp D τ H' := by
  obtain ⟨h1, h2, h3, h4, h5, h6, h7⟩ := h
  have hna := h4 a (by omega)
  refine ⟨by rw [hs, hz]; exact h1, by rw [hz]; exact h2, fun q hq' => ?_, by rw [hK, hz]; exact h4, fun b c hc hb => ?_, fun b t ht hb => ?_, fun b t ht hb => ?_⟩
  · rw [hq q (by omega)]; exact h3 q hq'
  · rw [hK] at hb
    by_cases e : b = a
    · subst e
      have : c = ci := by omega
      subst this
      exact ho
    · exact ((h5 b c hc hb).kept (hq b e)).to (fun j _ => (hv b c j e).symm)
  · rw [hK] at hb
    have e : b ≠ a := fun e => by subst e; omega
    rw [hq b e, hL, hX]
    exact h6 b t ht hb
  · rw [hK] at hb
    have e : b ≠ a := fun e => by subst e; omega
    rw [hq b e, hL, hY]
    exact h7 b t ht hb
theorem fV_wI {ci k j v} {b c : Nat} : fV (w_I σ (64 * ci + k) a v) c b j = if (64 * c + j = 64 * ci + k ∧ b = a) ∧ fPrim (fTy c j) = true then .int v else fV σ c b j := by
  unfold fV
  by_cases hp : fPrim (fTy c j) = true
  · rw [if_pos hp, if_pos hp]
    by_cases e : 64 * c + j = 64 * ci + k ∧ b = a
    · rw [if_pos ⟨e, hp⟩]
      show Value.int (u_2 (h_I σ) _ _ _ _ _) = _
      rw [u_2, if_pos e]
    · rw [if_neg (fun q => e q.1)]
      show Value.int (u_2 (h_I σ) _ _ _ _ _) = _
      rw [u_2, if_neg e]
  · rw [if_neg hp, if_neg (fun q => hp q.2), if_neg hp]
    rfl
theorem fV_wP {ci k j v} {b c : Nat} : fV (w_P σ (64 * ci + k) a v) c b j = if (64 * c + j = 64 * ci + k ∧ b = a) ∧ ¬ fPrim (fTy c j) = true then va_rf v else fV σ c b j := by
  unfold fV
  by_cases hp : fPrim (fTy c j) = true
  · rw [if_pos hp, if_neg (fun q => q.2 hp), if_pos hp]
    rfl
  · rw [if_neg hp, if_neg hp]
    by_cases e : 64 * c + j = 64 * ci + k ∧ b = a
    · rw [if_pos ⟨e, hp⟩]
      show va_rf (u_2 (h_P σ) _ _ _ _ _) = _
      rw [u_2, if_pos e]
    · rw [if_neg (fun q => e q.1)]
      show va_rf (u_2 (h_P σ) _ _ _ _ _) = _
      rw [u_2, if_neg e]
/-- a row of ints is written -/
theorem Rp.rowX {t : Nat} {g : Nat → Int32} (h : Rp D σ H) (hk : h_K σ a = 20 + t) (ht : t < 3) (hs : H'.size = H.size) (hq : ∀ q, q ≠ a → H'[q]? = H[q]?)
    (ho : H'[a]? = some (arrV (d_A D (20 + t)) (h_L σ a) (fun j => .int (g j)))) (hf : t = 0 → ∀ j, fits .byte (.int (g j)) = true) : Rp D (w_X σ a g) H' := by
  obtain ⟨h1, h2, h3, h4, h5, h6, h7⟩ := h
  have hna := h4 a (by omega)
  refine ⟨by rw [hs]; exact h1, h2, fun q hq' => ?_, h4, fun b c hc hb => ?_, fun b t' ht' hb => ?_, fun b t' ht' hb => ?_⟩
  · rw [hq q (by omega)]; exact h3 q hq'
  · have hb' : h_K σ b = c + 1 := hb
    have e : b ≠ a := fun e => by subst e; omega
    exact (h5 b c hc hb).kept (hq b e)
  · have hb' : h_K σ b = 20 + t' := hb
    by_cases e : b = a
    · subst e
      have : t' = t := by omega
      subst this
      have e2 : h_X (w_X σ b g) b = g := u1_s _ _ _
      rw [e2]
      exact ⟨ho, hf⟩
    · have e2 : h_X (w_X σ a g) b = h_X σ b := u1_n _ _ e
      rw [e2, hq b e]
      exact h6 b t' ht' hb
  · have hb' : h_K σ b = 30 + t' := hb
    have e : b ≠ a := fun e => by subst e; omega
    rw [hq b e]
    exact h7 b t' ht' hb
/-- a row of references is written -/
theorem Rp.rowY {t : Nat} {g : Nat → Option Nat} (h : Rp D σ H) (hk : h_K σ a = 30 + t) (ht : t < 6) (hs : H'.size = H.size) (hq : ∀ q, q ≠ a → H'[q]? = H[q]?)
    (ho : H'[a]? = some (arrV (d_A D (30 + t)) (h_L σ a) (fun j => va_rf (g j)))) : Rp D (w_Y σ a g) H' := by
  obtain ⟨h1, h2, h3, h4, h5, h6, h7⟩ := h
  have hna := h4 a (by omega)
  refine ⟨by rw [hs]; exact h1, h2, fun q hq' => ?_, h4, fun b c hc hb => ?_, fun b t' ht' hb => ?_, fun b t' ht' hb => ?_⟩
  · rw [hq q (by omega)]; exact h3 q hq'
  · have hb' : h_K σ b = c + 1 := hb
    have e : b ≠ a := fun e => by subst e; omega
    exact (h5 b c hc hb).kept (hq b e)
  · have hb' : h_K σ b = 20 + t' := hb
    have e : b ≠ a := fun e => by subst e; omega
    rw [hq b e]
    exact h6 b t' ht' hb
  · have hb' : h_K σ b = 30 + t' := hb
    by_cases e : b = a
    · subst e
      have : t' = t := by omega
      subst this
      have e2 : h_Y (w_Y σ b g) b = g := u1_s _ _ _
      rw [e2]
      exact ho
    · have e2 : h_Y (w_Y σ a g) b = h_Y σ b := u1_n _ _ e
      rw [e2, hq b e]
      exact h7 b t' ht' hb
theorem Rp.z0 (h : Rp D σ H) : h_K σ (h_z σ) = 0 := by
  by_cases e : h_K σ (h_z σ) = 0
  · exact e
  · have := h.2.2.2.1 _ e
    omega
/-- a new object -/
theorem Rp.newO {ci : Nat} (h : Rp D σ H) (hci : ci < 12) (hs : H'.size = H.size + 1) (hq : ∀ q, q < H.size → H'[q]? = H[q]?)
    (ho : t_OB H.size (D.1.1 ci) (fN ci) (D.1.2 ci) H' (fun k => if fPrim (fTy ci k) = true then .int 0 else .null)) : Rp D (n_O σ (ci + 1)) H' := by
  have hz0 := h.z0
  obtain ⟨h1, h2, h3, h4, h5, h6, h7⟩ := h
  have ek : ∀ b, b ≠ h_z σ → h_K (n_O σ (ci + 1)) b = h_K σ b := fun b e => u1_n _ _ e
  have ek0 : h_K (n_O σ (ci + 1)) (h_z σ) = ci + 1 := u1_s _ _ _
  have ev : ∀ b c j, b ≠ h_z σ → fV (n_O σ (ci + 1)) c b j = fV σ c b j := by
    intro b c j e
    unfold fV
    by_cases hp : fPrim (fTy c j) = true
    · rw [if_pos hp, if_pos hp]
      show Value.int (if b = h_z σ then 0 else _) = _
      rw [if_neg e]
    · rw [if_neg hp, if_neg hp]
      show va_rf (if b = h_z σ then none else _) = _
      rw [if_neg e]
  have ez : h_z (n_O σ (ci + 1)) = h_z σ + 1 := rfl
  refine ⟨by rw [hs, h1]; rfl, by rw [ez]; omega, fun q hq' => ?_, fun b hb => ?_, fun b c hc hb => ?_, fun b t ht hb => ?_, fun b t ht hb => ?_⟩
  · rw [hq q (by omega)]; exact h3 q hq'
  · rw [ez]
    by_cases e : b = h_z σ
    · subst e; omega
    · rw [ek b e] at hb
      have := h4 b hb
      omega
  · by_cases e : b = h_z σ
    · subst e
      rw [ek0] at hb
      have : c = ci := by omega
      subst this
      rw [← h1]
      refine ho.to (fun k _ => ?_)
      unfold fV
      by_cases hp : fPrim (fTy c k) = true
      · rw [if_pos hp, if_pos hp]
        show _ = Value.int (if H.size = h_z σ then 0 else _)
        rw [if_pos h1]
      · rw [if_neg hp, if_neg hp]
        show _ = va_rf (if H.size = h_z σ then none else _)
        rw [if_pos h1]
        rfl
    · rw [ek b e] at hb
      have := h4 b (by omega)
      exact ((h5 b c hc hb).kept (hq b (by omega))).to (fun j _ => (ev b c j e).symm)
  · by_cases e : b = h_z σ
    · subst e; rw [ek0] at hb; omega
    · rw [ek b e] at hb
      have := h4 b (by omega)
      rw [hq b (by omega)]
      exact h6 b t ht hb
  · by_cases e : b = h_z σ
    · subst e; rw [ek0] at hb; omega
    · rw [ek b e] at hb
      have := h4 b (by omega)
      rw [hq b (by omega)]
      exact h7 b t ht hb
/-- a new row -/
theorem Rp.newA {t m : Nat} (h : Rp D σ H) (ht : (20 ≤ t ∧ t < 23) ∨ (30 ≤ t ∧ t < 36)) (hs : H'.size = H.size + 1) (hq : ∀ q, q < H.size → H'[q]? = H[q]?)
    (ho : H'[H.size]? = some (arrV (d_A D t) m (fun _ => if t < 23 then .int 0 else .null))) : Rp D (n_A σ t m) H' := by
  have hz0 := h.z0
  obtain ⟨h1, h2, h3, h4, h5, h6, h7⟩ := h
  have ek : ∀ b, b ≠ h_z σ → h_K (n_A σ t m) b = h_K σ b := fun b e => u1_n _ _ e
  have ek0 : h_K (n_A σ t m) (h_z σ) = t := u1_s _ _ _
  have el : ∀ b, b ≠ h_z σ → h_L (n_A σ t m) b = h_L σ b := fun b e => u1_n _ _ e
  have el0 : h_L (n_A σ t m) (h_z σ) = m := u1_s _ _ _
  have ex : ∀ b, b ≠ h_z σ → h_X (n_A σ t m) b = h_X σ b := fun b e => u1_n _ _ e
  have ex0 : h_X (n_A σ t m) (h_z σ) = fun _ => 0 := u1_s _ _ _
  have ey : ∀ b, b ≠ h_z σ → h_Y (n_A σ t m) b = h_Y σ b := fun b e => u1_n _ _ e
  have ey0 : h_Y (n_A σ t m) (h_z σ) = fun _ => none := u1_s _ _ _
  have ez : h_z (n_A σ t m) = h_z σ + 1 := rfl
  refine ⟨by rw [hs, h1]; rfl, by rw [ez]; omega, fun q hq' => ?_, fun b hb => ?_, fun b c hc hb => ?_, fun b t' ht' hb => ?_, fun b t' ht' hb => ?_⟩
  · rw [hq q (by omega)]; exact h3 q hq'
  · rw [ez]
    by_cases e : b = h_z σ
    · subst e; omega
    · rw [ek b e] at hb
      have := h4 b hb
      omega
  · by_cases e : b = h_z σ
    · subst e; rw [ek0] at hb; omega
    · rw [ek b e] at hb
      have := h4 b (by omega)
      exact (h5 b c hc hb).kept (hq b (by omega))
  · by_cases e : b = h_z σ
    · subst e
      rw [ek0] at hb
      subst hb
      rw [el0, ex0, ← h1, ho, if_pos (by omega)]
      exact ⟨rfl, fun _ _ => by show fits .byte (.int 0) = true; decide⟩
    · rw [ek b e] at hb
      have := h4 b (by omega)
      rw [hq b (by omega), el b e, ex b e]
      exact h6 b t' ht' hb
  · by_cases e : b = h_z σ
    · subst e
      rw [ek0] at hb
      subst hb
      rw [el0, ey0, ← h1, ho, if_neg (by omega)]
      rfl
    · rw [ek b e] at hb
      have := h4 b (by omega)
      rw [hq b (by omega), el b e, ey b e]
      exact h7 b t' ht' hb
end HP
