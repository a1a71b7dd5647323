/-! ===== the class: mentions are made and kept ===== -/
/-- a mention that was just made at A, over σ0; its row is A + 1 -/
def MB (ow : Nat → Nat) (σ0 σ : Hp) (m' : Nat) (k : Int32) (i : Nat) (km : Int32) (fz : Option Nat) (xs : List Nat) : Prop :=
  Fm ow [] [] [] σ0 σ ∧ h_z σ = h_z σ0 + 2 ∧ h_K σ (h_z σ0) = 5 ∧ h_I σ 256 (h_z σ0) = k ∧ h_P σ 257 (h_z σ0) = some i ∧ h_I σ 258 (h_z σ0) = km ∧ h_P σ 259 (h_z σ0) = fz ∧ h_P σ 260 (h_z σ0) = some (h_z σ0 + 1) ∧ h_K σ (h_z σ0 + 1) = 35 ∧ h_L σ (h_z σ0 + 1) = m' ∧ h_I σ 261 (h_z σ0) = nI xs.length ∧ xs.length ≤ m' ∧ m' ≤ 12 ∧ ∀ j, j < m' → h_Y σ (h_z σ0 + 1) j = xs[j]?
section FM
variable {ow : Nat → Nat} {FI FP RS : List Nat} {σ τ : Hp}
theorem Fm.nwY (h : Fm ow FI FP RS σ τ) {a : Nat} (ha : h_z σ ≤ a) (g : Nat → Option Nat) : Fm ow FI FP RS σ (w_Y τ a g) :=
  ⟨h.1, fun b hb => ⟨(h.2 b hb).1, (h.2 b hb).2.1, (h.2 b hb).2.2.1, (h.2 b hb).2.2.2.1, fun q => ⟨((h.2 b hb).2.2.2.2 q).1, (u1_n _ _ (by omega)).trans ((h.2 b hb).2.2.2.2 q).2⟩⟩⟩
theorem Fm.nwA (σ : Hp) (t n : Nat) : Fm ow FI FP RS σ (n_A σ t n) := ⟨Nat.le_succ _, fun b hb => ⟨u1_n _ _ (by omega), u1_n _ _ (by omega), fun _ _ _ => rfl, fun _ _ => rfl, fun _ => ⟨u1_n _ _ (by omega), u1_n _ _ (by omega)⟩⟩⟩
end FM
section MM
variable {l : Launch} {D : DD} {σ : Hp} {c B : Nat} {ow ad : Nat → Nat} {S : Sp}
theorem c_Mention_init {k km : Int32} {i : Nat} {m' : Nat} {fz : Option Nat} (hm : m' ≤ 12) : Cn l D m_Mention_init 1 m' [va_rf (some (h_z σ)), .int k, va_rf (some i), .int km, .int (nI m'), va_rf fz] (n_O σ 5) (fun r τ => r = none ∧ MB ow σ τ m' k i km fz []) := by
  generalize hσ0 : n_O σ 5 = σ0
  have f0 : Fm ow [] [] [] σ σ0 := by rw [← hσ0]; exact Fm.nwO _ _
  have kA : h_K σ0 (h_z σ) = 5 := by rw [← hσ0]; exact u1_s _ _ _
  have zA : h_z σ0 = h_z σ + 1 := by rw [← hσ0]; rfl
  have iA : h_I σ0 261 (h_z σ) = 0 := by rw [← hσ0]; exact if_pos rfl
  generalize hA : h_z σ = A at kA zA iA
  refine Cn.of (by decide) (by repeat (first | exact ca_0 | refine ca_i ?_ | refine ca_r ?_)) (Nat.le_of_ble_eq_true rfl) ?_
  refine r_aload_n rfl rfl ?_
  refine r_objInit rfl (Nat.le_of_ble_eq_true rfl) ⟨Nat.le_of_ble_eq_true rfl, Nat.le_of_ble_eq_true rfl⟩ ?_
  refine r_aload_n rfl rfl ?_
  refine r_iload_n rfl rfl ?_
  refine r_putI rfl (by first | assumption | rfl) rfl (by first | exact Or.inl rfl | exact Or.inr ⟨rfl, rfl⟩) (by first | rfl | decide | assumption) (by first | rfl | decide) ?_
  refine r_aload_n rfl rfl ?_
  refine r_aload_n rfl rfl ?_
  refine r_putP rfl (by first | assumption | rfl) rfl (by first | exact Or.inl rfl | exact Or.inr ⟨rfl, rfl⟩) ?_
  refine r_aload_n rfl rfl ?_
  refine r_iload_n rfl rfl ?_
  refine r_putI rfl (by first | assumption | rfl) rfl (by first | exact Or.inl rfl | exact Or.inr ⟨rfl, rfl⟩) (by first | rfl | decide | assumption) (by first | rfl | decide) ?_
  refine r_aload_n rfl rfl ?_
  refine r_aload rfl rfl ?_
  refine r_putP rfl (by first | assumption | rfl) rfl (by first | exact Or.inl rfl | exact Or.inr ⟨rfl, rfl⟩) ?_
  have f1 : Fm ow [] [] [] σ (w_P (w_I (w_P (w_I σ0 256 A k) 257 A (some i)) 258 A km) 259 A fz) := (((f0.nwI (by omega) 256 k).nwP (by omega) 257 (some i)).nwI (by omega) 258 km).nwP (by omega) 259 fz
  have e1 : h_K (w_P (w_I (w_P (w_I σ0 256 A k) 257 A (some i)) 258 A km) 259 A fz) = h_K σ0 := rfl
  have e2 : h_z (w_P (w_I (w_P (w_I σ0 256 A k) 257 A (some i)) 258 A km) 259 A fz) = h_z σ0 := rfl
  have e3 : h_I (w_P (w_I (w_P (w_I σ0 256 A k) 257 A (some i)) 258 A km) 259 A fz) 256 A = k := (hI_n (f := 258) (a := A) (w_P (w_I σ0 256 A k) 257 A (some i)) km (by decide)).trans (hI_w σ0 256 A k)
  have e4 : h_P (w_P (w_I (w_P (w_I σ0 256 A k) 257 A (some i)) 258 A km) 259 A fz) 257 A = some i := (hP_n (w_I (w_P (w_I σ0 256 A k) 257 A (some i)) 258 A km) fz (by decide)).trans (hP_w (w_I σ0 256 A k) 257 A (some i))
  have e5 : h_I (w_P (w_I (w_P (w_I σ0 256 A k) 257 A (some i)) 258 A km) 259 A fz) 258 A = km := hI_w (w_P (w_I σ0 256 A k) 257 A (some i)) 258 A km
  have e6 : h_P (w_P (w_I (w_P (w_I σ0 256 A k) 257 A (some i)) 258 A km) 259 A fz) 259 A = fz := hP_w _ _ _ _
  have e7 : h_I (w_P (w_I (w_P (w_I σ0 256 A k) 257 A (some i)) 258 A km) 259 A fz) 261 A = 0 := (hI_n (f := 258) (a := A) (w_P (w_I σ0 256 A k) 257 A (some i)) km (by decide)).trans ((hI_n (f := 256) (a := A) σ0 k (by decide)).trans iA)
  generalize w_P (w_I (w_P (w_I σ0 256 A k) 257 A (some i)) 258 A km) 259 A fz = σ1 at f1 e1 e2 e3 e4 e5 e6 e7 ⊢
  refine r_aload_n rfl rfl ?_
  refine r_iload rfl rfl ?_
  refine r_iconst (v := nI 0) rfl (by decide) ?_
  refine r_callS (As := [_, _]) rfl (by decide) rfl rfl rfl (Nat.le_of_ble_eq_true rfl) ⟨Nat.le_of_ble_eq_true rfl, Nat.le_of_ble_eq_true rfl⟩ (c_max) (kc' := 1) (ks' := m') (by omega) (by omega) ?_
  rintro r σ1 ⟨rfl, rfl⟩
  rw [show (if nI m' < nI 0 then nI 0 else nI m') = nI m' from if_neg (nI_pos (by omega))]
  refine r_anew (t := 5) (m' := m') (kc := 0) (ks := 0) rfl (by decide) rfl (by omega) (fun _ => ?_) |> G.less (by omega) (by omega)
  have hk1 : h_K (n_A σ1 35 m') A = 5 := (u1_n _ _ (show A ≠ h_z σ1 by omega)).trans (by rw [e1]; exact kA)
  refine r_putP rfl hk1 rfl (Or.inr ⟨rfl, rfl⟩) ?_
  refine r_vret rfl rfl ⟨rfl, ?_⟩
  have f2 : Fm ow [] [] [] σ (n_A σ1 35 m') := by
    refine f1.tr ⟨Nat.le_succ _, fun b hb => ⟨u1_n _ _ (by omega), u1_n _ _ (by omega), fun _ _ _ => rfl, fun _ _ => rfl, fun _ => ⟨u1_n _ _ (by omega), u1_n _ _ (by omega)⟩⟩⟩
  unfold MB
  rw [hA]
  have ez : h_z σ1 = A + 1 := by omega
  refine ⟨f2.nwP (by omega) 260 _, by show h_z σ1 + 1 = _; omega, hk1, e3, ?_, e5, ?_, ?_, ?_, ?_, e7, Nat.zero_le _, hm, fun j hj => ?_⟩
  · rw [hP_n _ _ (by decide)]; exact e4
  · rw [hP_n _ _ (by decide)]; exact e6
  · rw [hP_w, ez]
  · rw [← ez]; exact u1_s _ _ _
  · rw [← ez]; exact u1_s _ _ _
  · rw [← ez]
    show u_1 (h_Y σ1) (h_z σ1) (fun _ => none) (h_z σ1) j = _
    rw [u1_s]
    rfl
/-- a thing is added, where there is room -/
theorem c_addMeant {σ0 : Hp} {k km : Int32} {i m' t : Nat} {fz : Option Nat} {xs : List Nat} (h : MB ow σ0 σ m' k i km fz xs) (hx : xs.length < m') (ht : h_K σ t = 9) : Cn l D m_Mention_addMeant 0 0 [va_rf (some (h_z σ0)), va_rf (some t)] σ (fun r τ => r = none ∧ MB ow σ0 τ m' k i km fz (xs ++ [t]) ∧ h_K τ = h_K σ) := by
  obtain ⟨b1, b2, b3, b4, b5, b6, b7, b8, b9, b10, b11, b12, b13, b14⟩ := h
  generalize hA : h_z σ0 = A at *
  refine Cn.of (by decide) (by repeat (first | exact ca_0 | refine ca_i ?_ | refine ca_r ?_)) (Nat.le_of_ble_eq_true rfl) ?_
  refine r_aload_n rfl rfl ?_
  (first | refine r_getIv rfl (by first | assumption | rfl) rfl (by assumption) ?_ | refine r_getI rfl (by first | assumption | rfl) rfl ?_)
  refine r_aload_n rfl rfl ?_
  (first | refine r_getPv rfl (by first | assumption | rfl) rfl (by assumption) ?_ | refine r_getP rfl (by first | assumption | rfl) rfl ?_)
  refine r_alen rfl (Or.inr (by rw [b9]; decide)) ?_
  rw [b10]
  refine r_geN rfl (by omega) (by omega) (fun q => by omega) (fun _ => ?_)
  refine r_aload_n rfl rfl ?_
  (first | refine r_getPv rfl (by first | assumption | rfl) rfl (by assumption) ?_ | refine r_getP rfl (by first | assumption | rfl) rfl ?_)
  refine r_aload_n rfl rfl ?_
  (first | refine r_getIv rfl (by first | assumption | rfl) rfl (by assumption) ?_ | refine r_getI rfl (by first | assumption | rfl) rfl ?_)
  refine r_aload_n rfl rfl ?_
  refine r_aast (t := 5) rfl b9 (by decide) rfl (by rw [b10]; exact hx) (by rw [b10]; omega) (fun b hb => by cases hb; exact ht) ?_
  generalize hσ1 : w_Y σ (A + 1) (u_1 (h_Y σ (A + 1)) xs.length (some t)) = σ1
  have k1 : h_K σ1 A = 5 := by rw [← hσ1]; exact b3
  have i1 : h_I σ1 261 A = nI xs.length := by rw [← hσ1]; exact b11
  refine r_aload_n rfl rfl ?_
  refine r_dup rfl (by first | rfl | exact rf_cat _) ?_
  (first | refine r_getIv rfl (by first | assumption | rfl) rfl (by assumption) ?_ | refine r_getI rfl (by first | assumption | rfl) rfl ?_)
  refine r_iconst (v := nI 1) rfl (by decide) ?_
  (first | refine r_iaddN rfl ?_ | refine r_iadd rfl ?_)
  refine r_putI rfl (by first | assumption | rfl) rfl (by first | exact Or.inl rfl | exact Or.inr ⟨rfl, rfl⟩) (by first | rfl | decide | assumption) (by first | rfl | decide) ?_
  refine r_vret rfl rfl ⟨rfl, ?_, by rw [← hσ1]; rfl⟩
  unfold MB
  rw [hA]
  have f1 : Fm ow [] [] [] σ0 σ1 := by rw [← hσ1]; exact b1.nwY (by omega) _
  have eP : h_P σ1 = h_P σ := by rw [← hσ1]; rfl
  have eL : h_L σ1 = h_L σ := by rw [← hσ1]; rfl
  have eK : h_K σ1 = h_K σ := by rw [← hσ1]; rfl
  have ez : h_z σ1 = h_z σ := by rw [← hσ1]; rfl
  have eI : ∀ f, f ≠ 261 → h_I (w_I σ1 261 A (nI (xs.length + 1))) f A = h_I σ f A := fun f w => (hI_n _ _ w).trans (by rw [← hσ1]; rfl)
  refine ⟨f1.nwI (by omega) 261 _, by show h_z σ1 = _; omega, by show h_K σ1 A = 5; exact k1, by rw [eI _ (by decide)]; exact b4, by show h_P σ1 257 A = _; rw [eP]; exact b5, by rw [eI _ (by decide)]; exact b6, by show h_P σ1 259 A = _; rw [eP]; exact b7, by show h_P σ1 260 A = _; rw [eP]; exact b8, by show h_K σ1 (A + 1) = _; rw [eK]; exact b9, by show h_L σ1 (A + 1) = _; rw [eL]; exact b10, ?_, by rw [List.length_append, List.length_singleton]; omega, b13, fun j hj => ?_⟩
  · rw [hI_w, List.length_append, List.length_singleton]
  · show h_Y σ1 (A + 1) j = _
    rw [← hσ1]
    show u_1 (h_Y σ) (A + 1) _ (A + 1) j = _
    rw [u1_s]
    by_cases e : j = xs.length
    · rw [e, u1_s, List.getElem?_append_right (Nat.le_refl _), Nat.sub_self]
      rfl
    · rw [u1_n _ _ e, b14 j hj]
      by_cases e2 : j < xs.length
      · rw [List.getElem?_append_left e2]
      · rw [List.getElem?_eq_none (by omega), List.getElem?_eq_none (by rw [List.length_append, List.length_singleton]; omega)]
/-- without room nothing is added -/
theorem c_addMeant0 {σ0 : Hp} {k km : Int32} {i m' : Nat} {o fz : Option Nat} {xs : List Nat} (h : MB ow σ0 σ m' k i km fz xs) (hx : m' ≤ xs.length) : Cn l D m_Mention_addMeant 0 0 [va_rf (some (h_z σ0)), va_rf o] σ (fun r τ => r = none ∧ τ = σ) := by
  obtain ⟨b1, b2, b3, b4, b5, b6, b7, b8, b9, b10, b11, b12, b13, b14⟩ := h
  generalize hA : h_z σ0 = A at *
  refine Cn.of (by decide) (by repeat (first | exact ca_0 | refine ca_i ?_ | refine ca_r ?_)) (Nat.le_of_ble_eq_true rfl) ?_
  refine r_aload_n rfl rfl ?_
  (first | refine r_getIv rfl (by first | assumption | rfl) rfl (by assumption) ?_ | refine r_getI rfl (by first | assumption | rfl) rfl ?_)
  refine r_aload_n rfl rfl ?_
  (first | refine r_getPv rfl (by first | assumption | rfl) rfl (by assumption) ?_ | refine r_getP rfl (by first | assumption | rfl) rfl ?_)
  refine r_alen rfl (Or.inr (by rw [b9]; decide)) ?_
  rw [b10]
  refine r_geN rfl (by omega) (by omega) (fun _ => ?_) (fun q => by omega)
  exact r_vret rfl rfl ⟨rfl, rfl⟩
/-- only the mentions have changed -/
theorem RC.kpM {τ : Hp} {ow' : Nat → Nat} {ms : List Mn} (g : RC ow σ c ad B S) (h : Fm ow [646] [] [10] σ τ) (he : ∀ a, a < h_z σ → ow' a = ow a) (hS : SOk (sM S ms)) (hm : CM ow' τ c ad (sM S ms)) : RC ow' τ c ad B (sM S ms) := by
  obtain ⟨g1, g2, g3, g4, g5, ⟨xs, g6⟩, g7, g8, g9, g10, g11, g12, g13⟩ := g
  have z0 := g2.1
  have o1 : ow (c + 1) = 1 := g2.tag (q := (1, 1)) (by decide)
  have o2 : ow (c + 2) = 1 := g2.tag (q := (2, 1)) (by decide)
  have o43 : ow (c + 43) = 2 := g2.tag (q := (43, 2)) (by decide)
  have o44 : ow (c + 44) = 2 := g2.tag (q := (44, 2)) (by decide)
  have np : ∀ L : List Nat, ∀ f ∈ L, f ∉ ([] : List Nat) := fun L f _ q => by cases q
  refine ⟨hS, g2.kp h (by decide) (by decide) (fun q _ w => by cases w) (by decide) he, g3.kp h g2 (by decide) (np _) (by decide) (g3.lk h (by decide) (fun q => by cases q) (by decide)) he, g4.kp h g2 g3 g1.wf.w0 (by decide) (np _), g5.kp h (by omega) (by rw [o1]; decide) (by rw [show c + 1 + 1 = c + 2 by omega, o2]; decide) (by decide) (by decide), ⟨xs, g6.kp h (by omega) (by rw [o43]; decide) (by rw [show c + 43 + 1 = c + 44 by omega, o44]; decide) (by decide) (by decide)⟩, g7.kp h g2 (by decide) (by decide) (by decide) rfl rfl, ?_, ?_, hm, g11.kp h g2 (by decide) (np _) (by decide) (by decide) he rfl, g12.kp h g2 (by decide) (by decide) rfl, g13.kp h g2 g3 (by decide)⟩
  · rw [(h.2 (c + 35) (by omega)).2.2.1 320 (by decide) (fun e => by cases e)]
    rcases g8 with g8 | ⟨g8, g8'⟩
    · exact Or.inl g8
    · have hcn : CN τ c ad S := CN.kp h g2 g1 g3 (fun x hx => g4.1 x (Or.inl hx)) (by decide) (np _) (by decide) g8'
      exact Or.inr ⟨g8, hcn⟩
  · exact CL.kp (S := S) h g2 (by decide) (np _) (by decide) g9
def owM (ow : Nat → Nat) (a : Nat) : Nat → Nat := fun b => if b = a then 6 else ow b
set_option maxHeartbeats 1000000 in
/-- a mention is kept -/
theorem c_keepM {σ0 : Hp} {k km : Int32} {i m' : Nat} {fz : Option Nat} {xs : List Nat} {q : Mn} (g : RC ow σ0 c ad B S) (h : MB ow σ0 σ m' k i km fz xs) (hS : (s_m S).length < 100 → SOk (sM S (s_m S ++ [q]))) (h1 : k = nI q.2.1) (h2 : i = ad q.1) (h3 : (q.2.1 = 2 ∨ q.2.1 = 3) → km = nI q.2.2.1) (h4 : q.2.1 ≠ 4 → fz = none) (h5 : q.2.1 = 4 → ∃ b, fz = some b ∧ LnI ow σ0 b (edT S q.2.2.2.1 q.2.2.1)) (h6 : m' = mLen q) (h7 : ∀ j, j < m' → xs[j]? = (mRow ad q)[j]?) :
    Cn l D m_NK_keepMention 0 0 [va_rf (some c), va_rf (some (h_z σ0))] σ (fun r τ => r = some (.int (tellS S q).1) ∧ ∃ ow' ad', RC ow' τ c ad' (B + 200) (tellS S q).2 ∧ CFm ow ow' σ0 τ) := by
  obtain ⟨b1, b2, b3, b4, b5, b6, b7, b8, b9, b10, b11, b12, b13, b14⟩ := h
  have z0 := g.2.1.1
  have gs := g.still b1
  have k0 : h_K σ c = 11 := gs.2.1.2.1 (0, 11) (by decide)
  have k38 : h_K σ (c + 38) = 34 := gs.2.1.2.1 (38, 34) (by decide)
  have l38 : h_L σ (c + 38) = 100 := gs.2.1.2.2.2.1 (38, 100) (by decide)
  have p645 : h_P σ 645 c = some (c + 38) := gs.2.1.2.2.1 (645, 0, 38) (by decide)
  have o38 : ow (c + 38) = 10 := g.2.1.tag (q := (38, 10)) (by decide)
  have i646 : h_I σ 646 c = nI (s_m S).length := gs.2.2.2.2.2.2.2.2.2.1.1
  have hml := g.1.2.2.2.2.2.2.2.1
  have hcm := g.2.2.2.2.2.2.2.2.2.1
  generalize hQ : (fun (r : Option Value) (τ : Hp) => r = some (.int (tellS S q).1) ∧ ∃ ow' ad', RC ow' τ c ad' (B + 200) (tellS S q).2 ∧ CFm ow ow' σ0 τ) = Q
  generalize hA : h_z σ0 = A at *
  refine Cn.of (by decide) (by repeat (first | exact ca_0 | refine ca_i ?_ | refine ca_r ?_)) (Nat.le_of_ble_eq_true rfl) ?_
  refine r_aload_n rfl rfl ?_
  (first | refine r_getIv rfl (by first | assumption | rfl) rfl (by assumption) ?_ | refine r_getI rfl (by first | assumption | rfl) rfl ?_)
  refine r_bipush (v := nI 100) rfl (by decide) ?_
  refine r_ltN rfl (by omega) (by omega) (fun hlt => ?_) (fun hge => ?_)
  · refine r_aload_n rfl rfl ?_
    (first | refine r_getPv rfl (by first | assumption | rfl) rfl (by assumption) ?_ | refine r_getP rfl (by first | assumption | rfl) rfl ?_)
    refine r_aload_n rfl rfl ?_
    (first | refine r_getIv rfl (by first | assumption | rfl) rfl (by assumption) ?_ | refine r_getI rfl (by first | assumption | rfl) rfl ?_)
    refine r_aload_n rfl rfl ?_
    refine r_aast (t := 4) rfl k38 (by decide) rfl (by rw [l38]; exact hlt) (by rw [l38]; decide) (fun b hb => by cases hb; exact b3) ?_
    generalize hσ1 : w_Y σ (c + 38) (u_1 (h_Y σ (c + 38)) (s_m S).length (some A)) = σ1
    have f1 : Fm ow [646] [] [10] σ σ1 := by rw [← hσ1]; exact Fm.Y _ _ (by rw [o38]; decide)
    have k01 : h_K σ1 c = 11 := by rw [← hσ1]; exact k0
    have i6461 : h_I σ1 646 c = nI (s_m S).length := by rw [← hσ1]; exact i646
    refine r_aload_n rfl rfl ?_
    refine r_dup rfl (by first | rfl | exact rf_cat _) ?_
    (first | refine r_getIv rfl (by first | assumption | rfl) rfl (by assumption) ?_ | refine r_getI rfl (by first | assumption | rfl) rfl ?_)
    refine r_iconst (v := nI 1) rfl (by decide) ?_
    (first | refine r_iaddN rfl ?_ | refine r_iadd rfl ?_)
    refine r_putI rfl (by first | assumption | rfl) rfl (by first | exact Or.inl rfl | exact Or.inr ⟨rfl, rfl⟩) (by first | rfl | decide | assumption) (by first | rfl | decide) ?_
    generalize hσ2 : w_I σ1 646 c (nI ((s_m S).length + 1)) = σ2
    have f2 : Fm ow [646] [] [10] σ1 σ2 := by rw [← hσ2]; exact Fm.I _ _ _ (by decide)
    have k02 : h_K σ2 c = 11 := by rw [← hσ2]; exact k01
    have i6462 : h_I σ2 646 c = nI ((s_m S).length + 1) := by rw [← hσ2]; exact hI_w _ _ _ _
    have f02 : Fm ow [646] [] [10] σ0 σ2 := ((b1.wide (fun f q => by cases q) (fun f q => by cases q) (fun f q => by cases q)).tr f1).tr f2
    have f12 : Fm ow [646] [] [10] σ σ2 := f1.tr f2
    have eY38 : h_Y σ2 (c + 38) = u_1 (h_Y σ (c + 38)) (s_m S).length (some A) := by rw [← hσ2, ← hσ1]; exact u1_s _ _ _
    have eYA : h_Y σ2 (A + 1) = h_Y σ (A + 1) := by rw [← hσ2, ← hσ1]; exact u1_n _ _ (by omega)
    refine r_aload_n rfl rfl ?_
    (first | refine r_getIv rfl (by first | assumption | rfl) rfl (by assumption) ?_ | refine r_getI rfl (by first | assumption | rfl) rfl ?_)
    refine r_iconst (v := nI 1) rfl (by decide) ?_
    refine r_isubN rfl (by omega) ?_
    rw [show (s_m S).length + 1 - 1 = (s_m S).length by omega]
    refine r_iret rfl rfl ?_
    have et : tellS S q = (nI (s_m S).length, sM S (s_m S ++ [q])) := by unfold tellS; rw [if_neg (by omega)]
    rw [← hQ]
    show _ = some (Value.int (tellS S q).1) ∧ ∃ ow' ad', RC ow' σ2 c ad' (B + 200) (tellS S q).2 ∧ _
    rw [et]
    have he : ∀ a, a < h_z σ0 → owM ow (A + 1) a = ow a := fun a ha => if_neg (by omega)
    refine ⟨rfl, owM ow (A + 1), ad, RC.more (B := B) (g.kpM f02 he (hS hlt) ⟨?_, fun j p hp => ?_⟩) (by omega), f02.wide (by decide) (fun f q => by cases q) (by decide), fun a ha => he a (by omega)⟩
    · show _ = nI (s_m S ++ [q]).length
      rw [i6462, List.length_append, List.length_singleton]
    · have hp : (s_m S ++ [q])[j]? = some p := hp
      by_cases hj : j < (s_m S).length
      · rw [List.getElem?_append_left hj] at hp
        obtain ⟨a, a1, a2⟩ := hcm.2 j p hp
        refine ⟨a, ?_, a2.kp (S' := sM S (s_m S ++ [q])) f02 (by decide) (fun f _ q => by cases q) (by decide) he (fun _ => rfl)⟩
        rw [eY38, u1_n _ _ (by omega), ((b1.2 (c + 38) (by omega)).2.2.2.2 (fun q => by cases q)).2]
        exact a1
      · rw [List.getElem?_append_right (by omega)] at hp
        have hj2 : j - (s_m S).length = 0 := by
          have := List.getElem?_eq_some_iff.mp hp
          have := this.1
          rw [List.length_singleton] at this
          omega
        rw [hj2] at hp
        cases hp
        obtain ⟨w1, w2, w3, w4, w5⟩ := f12.2 A (by omega)
        obtain ⟨v1, v2, v3, v4, v5⟩ := f12.2 (A + 1) (by omega)
        have z2 := f12.1
        refine ⟨A, by rw [eY38, show j = (s_m S).length by omega, u1_s], by omega, by rw [w1]; exact b3, by rw [w3 256 (by decide) (fun e => by cases e), ← h1]; exact b4, by rw [w4 257 (fun q => by cases q), ← h2]; exact b5, fun e => by rw [w3 258 (by decide) (fun e => by cases e), ← h3 e]; exact b6, fun e => by rw [w4 259 (fun q => by cases q), ← h4 e]; exact b7, fun e => ?_, A + 1, by rw [w4 260 (fun q => by cases q)]; exact b8, by omega, if_pos rfl, by rw [v1]; exact b9, by rw [v2, ← h6]; exact b10, fun j' hj' => ?_⟩
        · obtain ⟨b, e1, e2⟩ := h5 e
          exact ⟨b, by rw [w4 259 (fun q => by cases q), ← e1]; exact b7, e2.kp (ow' := owM ow (A + 1)) f02 (by decide) (fun q => by cases q) (by decide) he⟩
        · rw [eYA, b14 j' (by omega), h7 j' (by omega)]
  · refine r_bipush (v := -3) rfl (by decide) ?_
    refine r_iret rfl rfl ?_
    have et : tellS S q = (-3, S) := by unfold tellS; rw [if_pos (by omega)]
    rw [← hQ]
    show _ = some (Value.int (tellS S q).1) ∧ ∃ ow' ad', RC ow' σ c ad' (B + 200) (tellS S q).2 ∧ _
    rw [et]
    exact ⟨rfl, ow, ad, gs.more (by omega), b1.wide (fun f q => by cases q) (fun f q => by cases q) (fun f q => by cases q), fun _ _ => rfl⟩
end MM
