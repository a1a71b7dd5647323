/-! ===== class Thing: leadThere, tellTo ===== -/
section TC
variable {l : Launch} {D : DD} {σ : Hp} {a b : Nat} {L : List Nat}
theorem Ch.last {f : Nat} : ∀ {U : List Nat} {p : Option Nat} {d : Nat}, Ch σ f U p → h_K σ d = 9 → h_K σ (U.getLastD d) = 9
  | [], _, _, _, hd => hd
  | c :: U, _, _, h, _ => by
    rw [List.getLastD_cons]
    exact Ch.last h.2.2 h.2.1
theorem c_leadThere {U : List Nat} (hk : h_K σ a = 9) (hc : Ch σ 518 U (h_P σ 518 a)) : Cn l D m_Thing_leadThere 0 0 [va_rf (some a)] σ (fun r τ => r = some (va_rf (if h_I σ 519 (U.getLastD a) = 0 then none else some (U.getLastD a))) ∧ τ = σ) := by
  have hkl : h_K σ (U.getLastD a) = 9 := Ch.last hc hk
  refine Cn.of (by decide) (by repeat (first | exact ca_0 | refine ca_i ?_ | refine ca_r ?_)) (Nat.le_of_ble_eq_true rfl) ?_
  refine r_aload_n rfl rfl ?_
  refine r_callV (As := []) rfl (by decide) rfl hk rfl rfl (Nat.le_of_ble_eq_true rfl) ⟨Nat.le_of_ble_eq_true rfl, Nat.le_of_ble_eq_true rfl⟩ (c_lead hk hc) (kc' := 0) (ks' := 0) (by omega) (by omega) (by decide) ?_
  rintro r τ ⟨rfl, rfl⟩
  refine r_astore_n rfl (by decide) ?_
  refine r_aload_n rfl rfl ?_
  refine r_getI rfl hkl rfl ?_
  refine r_if_eq rfl (fun q => ?_) (fun q => ?_)
  · refine r_null rfl ?_
    exact r_aret rfl rfl ⟨by rw [if_pos q], rfl⟩
  · refine r_aload_n rfl rfl ?_
    refine r_goto rfl ?_
    exact r_aret rfl rfl ⟨by rw [if_neg q], rfl⟩
theorem c_tellTo {F w nA out cw cn co : Nat} {ws nm zs : List Int32} (hk : h_K σ a = 9) (hF : h_P σ 514 a = some F) (hkF : h_K σ F = 3) (hw : h_P σ 128 F = some w) (hn : h_P σ 527 a = some nA) (lw : Ln σ w cw ws) (ln : Ln σ nA cn nm) (lo : Ln σ out co zs) (h1 : w ≠ out) (h2 : nA ≠ out) (hl : zs.length + ws.length + 1 + nm.length ≤ co) :
    Cn l D m_Thing_tellTo 0 0 [va_rf (some a), va_rf (some out)] σ (fun r τ => r = none ∧ Ln τ out co (zs ++ toldL ws nm) ∧ LF σ τ out) := by
  have kw := lw.1
  have iw := lw.2.2.1
  have cw1 := lw.2.2.2.2.2.1
  have cw2 := lw.2.2.2.2.2.2.1
  refine Cn.of (by decide) (by repeat (first | exact ca_0 | refine ca_i ?_ | refine ca_r ?_)) (Nat.le_of_ble_eq_true rfl) ?_
  have fin : ∀ (τ : Hp) (ys : List Int32), Ln τ out co ys → LF σ τ out → ys.length + nm.length ≤ co → ys ++ nm = zs ++ toldL ws nm → Gm l D m_Thing_tellTo 0 0 (fun r τ => r = none ∧ Ln τ out co (zs ++ toldL ws nm) ∧ LF σ τ out) 30 (en_L [va_rf (some a), va_rf (some out)] 2) [] τ 0 0 := by
    intro τ ys t1 f1 hl2 he
    have hk' : h_K τ a = 9 := by rw [f1.2.1]; exact hk
    have hn' : h_P τ 527 a = some nA := by rw [f1.2.2.1]; exact hn
    refine r_aload_n rfl rfl ?_
    refine r_aload_n rfl rfl ?_
    (first | refine r_getPv rfl (by first | assumption | rfl) rfl (by assumption) ?_ | refine r_getP rfl (by first | assumption | rfl) rfl ?_)
    refine r_callV (As := [_]) rfl (by decide) rfl t1.1 rfl rfl (Nat.le_of_ble_eq_true rfl) ⟨Nat.le_of_ble_eq_true rfl, Nat.le_of_ble_eq_true rfl⟩ (c_putLine t1 (f1.keep h2 ln) hl2) (kc' := 0) (ks' := 0) (by omega) (by omega) (by decide) ?_
    rintro r τ2 ⟨rfl, t2, f2⟩
    rw [he] at t2
    exact r_vret rfl rfl ⟨rfl, t2, f1.tr f2⟩
  refine r_aload_n rfl rfl ?_
  (first | refine r_getPv rfl (by first | assumption | rfl) rfl (by assumption) ?_ | refine r_getP rfl (by first | assumption | rfl) rfl ?_)
  (first | refine r_getPv rfl (by first | assumption | rfl) rfl (by assumption) ?_ | refine r_getP rfl (by first | assumption | rfl) rfl ?_)
  (first | refine r_getIv rfl (by first | assumption | rfl) rfl (by assumption) ?_ | refine r_getI rfl (by first | assumption | rfl) rfl ?_)
  refine r_if_le rfl (fun q => ?_) (fun q => ?_)
  · have h0 : ws.length = 0 := by
      rcases Nat.eq_zero_or_pos ws.length with v | v
      · exact v
      · exact absurd q (nI_nle v (by omega))
    exact fin σ zs lo (LF.rf _ _) (by omega) (by rw [toldL_0 h0])
  · have h0 : ws.length ≠ 0 := fun v => q (by rw [v]; decide)
    refine r_aload_n rfl rfl ?_
    refine r_aload_n rfl rfl ?_
    (first | refine r_getPv rfl (by first | assumption | rfl) rfl (by assumption) ?_ | refine r_getP rfl (by first | assumption | rfl) rfl ?_)
    (first | refine r_getPv rfl (by first | assumption | rfl) rfl (by assumption) ?_ | refine r_getP rfl (by first | assumption | rfl) rfl ?_)
    refine r_callV (As := [_]) rfl (by decide) rfl lo.1 rfl rfl (Nat.le_of_ble_eq_true rfl) ⟨Nat.le_of_ble_eq_true rfl, Nat.le_of_ble_eq_true rfl⟩ (c_putLine lo lw (by omega)) (kc' := 0) (ks' := 0) (by omega) (by omega) (by decide) ?_
    rintro r τ1 ⟨rfl, t1, f1⟩
    refine r_aload_n rfl rfl ?_
    refine r_bipush (v := nI 32) rfl (by decide) ?_
    refine r_callV (As := [_]) rfl (by decide) rfl t1.1 rfl rfl (Nat.le_of_ble_eq_true rfl) ⟨Nat.le_of_ble_eq_true rfl, Nat.le_of_ble_eq_true rfl⟩ (c_put t1 (by simp; omega)) (kc' := 0) (ks' := 0) (by omega) (by omega) (by decide) ?_
    rintro r τ2 ⟨rfl, t2, f2⟩
    have e32 : b8 (nI 32) = nI 32 := by decide
    rw [e32] at t2
    exact fin τ2 _ t2 (f1.tr f2) (by simp; omega) (by rw [toldL_1 h0]; simp)
end TC
