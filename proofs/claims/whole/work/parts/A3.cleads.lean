/-! ===== the class: count, what leads where, leads ===== -/
theorem lastD_map {ad : Nat → Nat} : ∀ (L : List Nat) (x : Nat), (L.map ad).getLastD (ad x) = ad (L.getLastD x)
  | [], _ => rfl
  | a :: L, x => by
    rw [List.map_cons, List.getLastD_cons, List.getLastD_cons]
    exact lastD_map L a
section NK
variable {l : Launch} {D : DD} {σ : Hp} {c B : Nat} {ow ad : Nat → Nat} {S : Sp}
theorem CT.chain {n : Nat} {kd : Nat → Nat} {T : Tr} (h : CT σ n T ad) (hW : Wf n kd T) : ∀ (f x : Nat), x < n → (inl T f x).length < f → Ch σ 518 ((inl T f x).map ad) (h_P σ 518 (ad x)) := by
  intro f
  induction f with
  | zero => intro x _ hlt; omega
  | succ f ih =>
    intro x hx hlt
    rw [inl] at hlt ⊢
    rw [h.2.2.2.2.2.1 x hx]
    cases hi : t_i T x with
    | none => exact rfl
    | some y =>
      rw [hi] at hlt
      have hlt : (inl T f y).length + 1 < f + 1 := hlt
      have hy := (hW.2.2.2.2.2.2.2.1 x y hi).2.2.1
      exact ⟨rfl, h.1 y (Or.inl hy), ih y hy (by omega)⟩
theorem c_leadC {x : Nat} (g : RC ow σ c ad B S) (hx : x < s_n S) : Cn l D m_Thing_lead 0 0 [va_rf (some (ad x))] σ (fun r τ => r = some (va_rf (some (ad (ld (s_T S) x)))) ∧ τ = σ) := by
  have hW := g.1.wf
  have hn := g.1.1
  have hlen := inl_len hW 200 x
  have hch := g.2.2.2.1.chain hW 200 x hx (by omega)
  have := c_lead (l := l) (D := D) (g.2.2.2.1.1 x (Or.inl hx)) hch
  rw [lastD_map, ← ldT_last] at this
  exact this
theorem c_leadTC {x : Nat} (g : RC ow σ c ad B S) (hx : x < s_n S) : Cn l D m_Thing_leadThere 0 0 [va_rf (some (ad x))] σ (fun r τ => r = some (va_rf ((ldo (s_T S) x).map ad)) ∧ τ = σ) := by
  have hW := g.1.wf
  have hn := g.1.1
  have hlen := inl_len hW 200 x
  have hch := g.2.2.2.1.chain hW 200 x hx (by omega)
  have hcon := c_leadThere (l := l) (D := D) (g.2.2.2.1.1 x (Or.inl hx)) hch
  rw [lastD_map, ← ldT_last] at hcon
  have hld := (ld_lt hW hx).1
  have h519 := g.2.2.2.1.2.2.2.2.2.2 (ldT (s_T S) 200 x) hld
  rw [h519] at hcon
  have e : (if nI (t_h (s_T S) (ldT (s_T S) 200 x)).toNat = 0 then none else some (ad (ldT (s_T S) 200 x))) = (ldo (s_T S) x).map ad := by
    unfold ldo ld
    cases t_h (s_T S) (ldT (s_T S) 200 x) <;> rfl
  rw [e] at hcon
  exact hcon
theorem c_toldOf {v : Int32} {a : Nat} {d : Ed} (h : CE1 ow σ a d) : Cn l D m_Edition_toldOf 0 0 [va_rf (some a), .int v] σ (fun r τ => τ = σ ∧ ((v < 0 ∨ ∃ x, v = nI x ∧ x < 2 ^ 31 ∧ d x = none) ∧ r = some (va_rf none) ∨ ∃ x td nm p, v = nI x ∧ x < 120 ∧ d x = some (td, nm) ∧ r = some (va_rf (some p)) ∧ LnI ow σ p td)) := by
  obtain ⟨g0, g1, t, u, N, g2, g3, g4, g5, g6, g7, g8, g9, g10, g11, g12, g13, g14⟩ := h
  generalize hQ : (fun (r : Option Value) (τ : Hp) => τ = σ ∧ ((v < 0 ∨ ∃ x, v = nI x ∧ x < 2 ^ 31 ∧ d x = none) ∧ r = some (va_rf none) ∨ ∃ x td nm p, v = nI x ∧ x < 120 ∧ d x = some (td, nm) ∧ r = some (va_rf (some p)) ∧ LnI ow σ p td)) = Q
  refine Cn.of (by decide) (by repeat (first | exact ca_0 | refine ca_i ?_ | refine ca_r ?_)) (Nat.le_of_ble_eq_true rfl) ?_
  have no : (v < 0 ∨ ∃ x, v = nI x ∧ x < 2 ^ 31 ∧ d x = none) → Gm l D m_Edition_toldOf 0 0 Q 22 [some (va_rf (some a)), some (.int v)] [] σ 0 0 := by
    intro hv
    refine r_null rfl ?_
    refine r_aret rfl rfl ?_
    rw [← hQ]
    exact ⟨rfl, Or.inl ⟨hv, rfl⟩⟩
  refine r_iload_n rfl rfl ?_
  refine r_if_lt rfl (fun hlt => no (Or.inl hlt)) (fun hge => ?_)
  obtain ⟨j, hj, rfl⟩ := nI_of hge
  refine r_iload_n rfl rfl ?_
  refine r_aload_n rfl rfl ?_
  (first | refine r_getPv rfl (by first | assumption | rfl) rfl (by assumption) ?_ | refine r_getP rfl (by first | assumption | rfl) rfl ?_)
  refine r_alen rfl (Or.inr (by rw [g8]; decide)) ?_
  rw [g10]
  refine r_geN rfl (by omega) (by omega) (fun hjj => no (Or.inr ⟨j, rfl, hj, g13 j hjj⟩)) (fun hjj => ?_)
  refine r_aload_n rfl rfl ?_
  (first | refine r_getPv rfl (by first | assumption | rfl) rfl (by assumption) ?_ | refine r_getP rfl (by first | assumption | rfl) rfl ?_)
  refine r_iload_n rfl rfl ?_
  refine r_aald (t := 3) rfl g8 (by decide) rfl (by rw [g10]; exact hjj) (by rw [g10]; omega) ?_
  cases hd : d j with
  | none =>
    rw [((g14 j hjj).1 hd).1]
    refine r_goto rfl ?_
    refine r_aret rfl rfl ?_
    rw [← hQ]
    exact ⟨rfl, Or.inl ⟨Or.inr ⟨j, rfl, hj, hd⟩, rfl⟩⟩
  | some tn =>
    obtain ⟨td, nm⟩ := tn
    obtain ⟨p, q, q1, q2, q3, q4⟩ := (g14 j hjj).2 td nm hd
    rw [q1]
    refine r_goto rfl ?_
    refine r_aret rfl rfl ?_
    rw [← hQ]
    exact ⟨rfl, Or.inr ⟨j, td, nm, p, rfl, by omega, hd, rfl, q3⟩⟩
theorem c_nameOf {v : Int32} {a : Nat} {d : Ed} (h : CE1 ow σ a d) : Cn l D m_Edition_nameOf 0 0 [va_rf (some a), .int v] σ (fun r τ => τ = σ ∧ ((v < 0 ∨ ∃ x, v = nI x ∧ x < 2 ^ 31 ∧ d x = none) ∧ r = some (va_rf none) ∨ ∃ x td nm p, v = nI x ∧ x < 120 ∧ d x = some (td, nm) ∧ r = some (va_rf (some p)) ∧ LnI ow σ p nm)) := by
  obtain ⟨g0, g1, t, u, N, g2, g3, g4, g5, g6, g7, g8, g9, g10, g11, g12, g13, g14⟩ := h
  generalize hQ : (fun (r : Option Value) (τ : Hp) => τ = σ ∧ ((v < 0 ∨ ∃ x, v = nI x ∧ x < 2 ^ 31 ∧ d x = none) ∧ r = some (va_rf none) ∨ ∃ x td nm p, v = nI x ∧ x < 120 ∧ d x = some (td, nm) ∧ r = some (va_rf (some p)) ∧ LnI ow σ p nm)) = Q
  refine Cn.of (by decide) (by repeat (first | exact ca_0 | refine ca_i ?_ | refine ca_r ?_)) (Nat.le_of_ble_eq_true rfl) ?_
  have no : (v < 0 ∨ ∃ x, v = nI x ∧ x < 2 ^ 31 ∧ d x = none) → Gm l D m_Edition_nameOf 0 0 Q 22 [some (va_rf (some a)), some (.int v)] [] σ 0 0 := by
    intro hv
    refine r_null rfl ?_
    refine r_aret rfl rfl ?_
    rw [← hQ]
    exact ⟨rfl, Or.inl ⟨hv, rfl⟩⟩
  refine r_iload_n rfl rfl ?_
  refine r_if_lt rfl (fun hlt => no (Or.inl hlt)) (fun hge => ?_)
  obtain ⟨j, hj, rfl⟩ := nI_of hge
  refine r_iload_n rfl rfl ?_
  refine r_aload_n rfl rfl ?_
  (first | refine r_getPv rfl (by first | assumption | rfl) rfl (by assumption) ?_ | refine r_getP rfl (by first | assumption | rfl) rfl ?_)
  refine r_alen rfl (Or.inr (by rw [g9]; decide)) ?_
  rw [g11]
  refine r_geN rfl (by omega) (by omega) (fun hjj => no (Or.inr ⟨j, rfl, hj, g13 j hjj⟩)) (fun hjj => ?_)
  refine r_aload_n rfl rfl ?_
  (first | refine r_getPv rfl (by first | assumption | rfl) rfl (by assumption) ?_ | refine r_getP rfl (by first | assumption | rfl) rfl ?_)
  refine r_iload_n rfl rfl ?_
  refine r_aald (t := 3) rfl g9 (by decide) rfl (by rw [g11]; exact hjj) (by rw [g11]; omega) ?_
  cases hd : d j with
  | none =>
    rw [((g14 j hjj).1 hd).2]
    refine r_goto rfl ?_
    refine r_aret rfl rfl ?_
    rw [← hQ]
    exact ⟨rfl, Or.inl ⟨Or.inr ⟨j, rfl, hj, hd⟩, rfl⟩⟩
  | some tn =>
    obtain ⟨td, nm⟩ := tn
    obtain ⟨p, q, q1, q2, q3, q4⟩ := (g14 j hjj).2 td nm hd
    rw [q2]
    refine r_goto rfl ?_
    refine r_aret rfl rfl ?_
    rw [← hQ]
    exact ⟨rfl, Or.inr ⟨j, td, nm, q, rfl, by omega, hd, rfl, q4⟩⟩
set_option maxRecDepth 10000 in
set_option maxHeartbeats 1000000 in
theorem c_NK_count {w : Int32} (g : RC ow σ c ad B S) : Cn l D m_NK_count 0 0 [va_rf (some c), .int w] σ (fun r τ => r = some (.int (a_count S w)) ∧ ∃ ow' ad', RC ow' τ c ad' (B + 200) S ∧ CFm ow ow' σ τ) := by
  have k0 : h_K σ c = 11 := g.2.1.2.1 (0, 11) (by decide)
  have k3 : h_K σ (c + 3) = 10 := g.2.1.2.1 (3, 10) (by decide)
  have k1 : h_K σ (c + 1) = 4 := g.2.1.2.1 (1, 4) (by decide)
  have p640 : h_P σ 640 c = some (c + 1) := g.2.1.2.2.1 (640, 0, 1) (by decide)
  have p641 : h_P σ 641 c = some (c + 3) := g.2.1.2.2.1 (641, 0, 3) (by decide)
  have i579 : h_I σ 579 (c + 3) = nI (s_n S) := g.2.2.1.1
  have i644 : h_I σ 644 c = nI (s_l S).length := g.2.2.2.2.2.2.2.2.1.1
  have i646 : h_I σ 646 c = nI (s_m S).length := g.2.2.2.2.2.2.2.2.2.1.1
  have i649 : h_I σ 649 c = nI (s_e S).length := g.2.2.2.2.2.2.2.2.2.2.1.1
  have i193 : h_I σ 193 (c + 1) = nI (s_t S).length := g.2.2.2.2.1.2.2.1
  have fin : ∃ ow' ad', RC ow' σ c ad' (B + 200) S ∧ CFm ow ow' σ σ := ⟨ow, ad, g.more (by omega), CFm.rf _ _⟩
  have i0 : ∀ j, j < 2 ^ 31 → a_count S (nI j) = a_coN S j := fun j hj => by unfold a_count; rw [if_neg (nI_pos hj), nI_clamp hj]
  have oth : ∀ j, a_coN S (j + 6) = if 10 ≤ (j + 6) ∧ (j + 6) ≤ 15 then nI (f_c (s_f S) ((j + 6) - 10)) else if 20 ≤ (j + 6) ∧ (j + 6) ≤ 25 then nI (f_y (s_f S) ((j + 6) - 20)) else if 30 ≤ (j + 6) ∧ (j + 6) ≤ 35 then nI (f_j (s_f S) ((j + 6) - 30)) else if 40 ≤ (j + 6) ∧ (j + 6) ≤ 45 then nI (s_w S ((j + 6) - 40)).length else -1 := fun j => rfl
  have form : (w < 0 ∨ ∃ j, 5 < j ∧ j < 2 ^ 31 ∧ w = nI j) → Cn l D m_NK_countOfForm 0 0 [va_rf (some c), .int w] σ (fun r τ => r = some (.int (a_count S w)) ∧ τ = σ) := by
    intro hw
    generalize hQ : (fun (r : Option Value) (τ : Hp) => r = some (.int (a_count S w)) ∧ τ = σ) = Q
    refine Cn.of (by decide) (by repeat (first | exact ca_0 | refine ca_i ?_ | refine ca_r ?_)) (Nat.le_of_ble_eq_true rfl) ?_
    refine r_iload_n rfl rfl ?_
    refine r_if_ge rfl (fun hge => ?_) (fun hlt => ?_)
    · rcases hw with hw | ⟨j, j5, hj, rfl⟩
      · exact absurd hw (Int32.not_lt.mpr hge)
      obtain ⟨i, rfl⟩ : ∃ i, j = i + 6 := ⟨j - 6, by omega⟩
      have ea := i0 (i + 6) hj
      rw [oth] at ea
      refine r_aload_n rfl rfl ?_
      (first | refine r_getPv rfl (by first | assumption | rfl) rfl (by assumption) ?_ | refine r_getP rfl (by first | assumption | rfl) rfl ?_)
      refine r_iload_n rfl rfl ?_
      refine r_bipush (v := nI 10) rfl (by decide) ?_
      refine r_iremN rfl hj (by decide) (by decide) ?_
      refine r_callV (As := [_]) rfl (by decide) rfl k3 rfl rfl (Nat.le_of_ble_eq_true rfl) ⟨Nat.le_of_ble_eq_true rfl, Nat.le_of_ble_eq_true rfl⟩ (c_formOf g.2.1) (kc' := 0) (ks' := 0) (by omega) (by omega) (by decide) ?_
      rintro r σ ⟨rfl, rfl⟩
      refine r_astore_n rfl (by decide) ?_
      refine r_aload_n rfl rfl ?_
      cases hki : kiI (nI ((i + 6) % 10)) with
      | none =>
        have hr : ¬ (i + 6) % 10 < 6 := fun hlt6 => by rw [kiI_nI hlt6] at hki; cases hki
        refine r_ifnonnull rfl (fun _ hq => by cases hq) (fun _ => ?_)
        refine r_iconst (v := -1) rfl (by decide) ?_
        refine r_iret rfl rfl ?_
        rw [← hQ]
        refine ⟨?_, rfl⟩
        rw [ea, if_neg (by omega), if_neg (by omega), if_neg (by omega), if_neg (by omega)]
      | some q =>
        obtain ⟨eq1, q6⟩ := kiI_some hki
        have hqr : (i + 6) % 10 = q := (nI_eq (by omega) (by omega)).mp eq1
        obtain ⟨kf, pf, -, -⟩ := g.2.1.form q6
        obtain ⟨w1, w2, w3, w4⟩ := g.2.2.2.2.2.2.1 q q6
        have kw := w1.1
        have iw := w1.2.2.1
        refine r_ifnonnull rfl (fun _ _ => ?_) (fun hq => by cases hq)
        show Gm l D m_NK_countOfForm 0 0 Q 26 [some (va_rf (some c)), some (.int (nI (i + 6))), some (va_rf (some (c + 17 + 3 * q)))] [] σ 0 0
        refine r_iload_n rfl rfl ?_
        refine r_bipush (v := nI 10) rfl (by decide) ?_
        refine r_idivN rfl hj (by decide) (by decide) ?_
        have hdv : (i + 6) / 10 < 2 ^ 31 := by omega
        have hmd : i + 6 = 10 * ((i + 6) / 10) + q := by omega
        generalize hdd : (i + 6) / 10 = dd at hdv hmd
        rcases (show dd = 1 ∨ dd = 2 ∨ dd = 3 ∨ dd = 4 ∨ (dd < 1 ∨ 4 < dd) by omega) with h1 | h1 | h1 | h1 | h1
        · rw [h1]
          refine r_tswIn rfl (by decide) (by decide) (off := 30) (by decide) (tgt := 60) (by decide) ?_
          refine r_aload_n rfl rfl ?_
          (first | refine r_getIv rfl (by first | assumption | rfl) rfl (by assumption) ?_ | refine r_getI rfl (by first | assumption | rfl) rfl ?_)
          refine r_iret rfl rfl ?_
          rw [← hQ]
          refine ⟨?_, rfl⟩
          rw [ea, if_pos (by omega), show i + 6 - 10 = q by omega]
        · rw [h1]
          refine r_tswIn rfl (by decide) (by decide) (off := 35) (by decide) (tgt := 65) (by decide) ?_
          refine r_aload_n rfl rfl ?_
          (first | refine r_getIv rfl (by first | assumption | rfl) rfl (by assumption) ?_ | refine r_getI rfl (by first | assumption | rfl) rfl ?_)
          refine r_iret rfl rfl ?_
          rw [← hQ]
          refine ⟨?_, rfl⟩
          rw [ea, if_neg (by omega), if_pos (by omega), show i + 6 - 20 = q by omega]
        · rw [h1]
          refine r_tswIn rfl (by decide) (by decide) (off := 40) (by decide) (tgt := 70) (by decide) ?_
          refine r_aload_n rfl rfl ?_
          (first | refine r_getIv rfl (by first | assumption | rfl) rfl (by assumption) ?_ | refine r_getI rfl (by first | assumption | rfl) rfl ?_)
          refine r_iret rfl rfl ?_
          rw [← hQ]
          refine ⟨?_, rfl⟩
          rw [ea, if_neg (by omega), if_neg (by omega), if_pos (by omega), show i + 6 - 30 = q by omega]
        · rw [h1]
          refine r_tswIn rfl (by decide) (by decide) (off := 45) (by decide) (tgt := 75) (by decide) ?_
          refine r_aload_n rfl rfl ?_
          (first | refine r_getPv rfl (by first | assumption | rfl) rfl (by assumption) ?_ | refine r_getP rfl (by first | assumption | rfl) rfl ?_)
          (first | refine r_getIv rfl (by first | assumption | rfl) rfl (by assumption) ?_ | refine r_getI rfl (by first | assumption | rfl) rfl ?_)
          refine r_iret rfl rfl ?_
          rw [← hQ]
          refine ⟨?_, rfl⟩
          rw [ea, if_neg (by omega), if_neg (by omega), if_neg (by omega), if_pos (by omega), show i + 6 - 40 = q by omega]
        · refine r_tswOut rfl (by rw [nI_toInt hdv]; omega) (tgt := 83) (by decide) ?_
          refine r_iconst (v := -1) rfl (by decide) ?_
          refine r_iret rfl rfl ?_
          rw [← hQ]
          refine ⟨?_, rfl⟩
          rw [ea, if_neg (by omega), if_neg (by omega), if_neg (by omega), if_neg (by omega)]
    · refine r_null rfl ?_
      refine r_goto rfl ?_
      refine r_astore_n rfl (by decide) ?_
      refine r_aload_n rfl rfl ?_
      refine r_ifnonnull rfl (fun _ hq => by cases hq) (fun _ => ?_)
      refine r_iconst (v := -1) rfl (by decide) ?_
      refine r_iret rfl rfl ?_
      rw [← hQ]
      refine ⟨?_, rfl⟩
      unfold a_count
      rw [if_pos (Int32.not_le.mp hlt)]
  refine Cn.of (by decide) (by repeat (first | exact ca_0 | refine ca_i ?_ | refine ca_r ?_)) (Nat.le_of_ble_eq_true rfl) ?_
  refine r_iload_n rfl rfl ?_
  rcases sw_in (w := w) 5 (by decide) with ⟨w1, w2⟩ | ⟨j, j1, rfl⟩
  · refine r_tswOut rfl w1 (tgt := 79) (by decide) ?_
    refine r_aload_n rfl rfl ?_
    refine r_iload_n rfl rfl ?_
    refine r_callV (As := [_]) rfl (by decide) rfl k0 rfl rfl (Nat.le_of_ble_eq_true rfl) ⟨Nat.le_of_ble_eq_true rfl, Nat.le_of_ble_eq_true rfl⟩ (form w2) (kc' := 0) (ks' := 0) (by omega) (by omega) (by decide) ?_
    rintro r σ ⟨rfl, rfl⟩
    exact r_iret rfl rfl ⟨rfl, fin⟩
  · clear form oth
    match j, j1 with
    | 0, _ =>
      refine r_tswIn rfl (by decide) (by decide) (off := 39) (by decide) (tgt := 40) (by decide) ?_
      refine r_aload_n rfl rfl ?_
      (first | refine r_getPv rfl (by first | assumption | rfl) rfl (by assumption) ?_ | refine r_getP rfl (by first | assumption | rfl) rfl ?_)
      (first | refine r_getIv rfl (by first | assumption | rfl) rfl (by assumption) ?_ | refine r_getI rfl (by first | assumption | rfl) rfl ?_)
      exact r_iret rfl rfl ⟨by rw [i0 0 (by decide)]; rfl, fin⟩
    | 1, _ =>
      refine r_tswIn rfl (by decide) (by decide) (off := 47) (by decide) (tgt := 48) (by decide) ?_
      refine r_aload_n rfl rfl ?_
      (first | refine r_getPv rfl (by first | assumption | rfl) rfl (by assumption) ?_ | refine r_getP rfl (by first | assumption | rfl) rfl ?_)
      refine r_callV (As := []) rfl (by decide) rfl k3 rfl rfl (Nat.le_of_ble_eq_true rfl) ⟨Nat.le_of_ble_eq_true rfl, Nat.le_of_ble_eq_true rfl⟩ (c_countThere g) (kc' := 0) (ks' := 0) (by omega) (by omega) (by decide) ?_
      rintro r σ ⟨rfl, rfl⟩
      exact r_iret rfl rfl ⟨by rw [i0 1 (by decide)]; rfl, fin⟩
    | 2, _ =>
      refine r_tswIn rfl (by decide) (by decide) (off := 55) (by decide) (tgt := 56) (by decide) ?_
      refine r_aload_n rfl rfl ?_
      (first | refine r_getIv rfl (by first | assumption | rfl) rfl (by assumption) ?_ | refine r_getI rfl (by first | assumption | rfl) rfl ?_)
      exact r_iret rfl rfl ⟨by rw [i0 2 (by decide)]; rfl, fin⟩
    | 3, _ =>
      refine r_tswIn rfl (by decide) (by decide) (off := 60) (by decide) (tgt := 61) (by decide) ?_
      refine r_aload_n rfl rfl ?_
      (first | refine r_getIv rfl (by first | assumption | rfl) rfl (by assumption) ?_ | refine r_getI rfl (by first | assumption | rfl) rfl ?_)
      exact r_iret rfl rfl ⟨by rw [i0 3 (by decide)]; rfl, fin⟩
    | 4, _ =>
      refine r_tswIn rfl (by decide) (by decide) (off := 65) (by decide) (tgt := 66) (by decide) ?_
      refine r_aload_n rfl rfl ?_
      (first | refine r_getIv rfl (by first | assumption | rfl) rfl (by assumption) ?_ | refine r_getI rfl (by first | assumption | rfl) rfl ?_)
      exact r_iret rfl rfl ⟨by rw [i0 4 (by decide)]; rfl, fin⟩
    | 5, _ =>
      refine r_tswIn rfl (by decide) (by decide) (off := 70) (by decide) (tgt := 71) (by decide) ?_
      refine r_aload_n rfl rfl ?_
      (first | refine r_getPv rfl (by first | assumption | rfl) rfl (by assumption) ?_ | refine r_getP rfl (by first | assumption | rfl) rfl ?_)
      (first | refine r_getIv rfl (by first | assumption | rfl) rfl (by assumption) ?_ | refine r_getI rfl (by first | assumption | rfl) rfl ?_)
      exact r_iret rfl rfl ⟨by rw [i0 5 (by decide)]; rfl, fin⟩
    | j + 6, h9 => omega
end NK
