/-! ===== the class: settle ===== -/
section ST
variable {l : Launch} {D : DD} {σ : Hp} {c : Nat} {ow ad : Nat → Nat} {S : Sp}
theorem CF.fk (h : CF ow σ c) {k : Nat} (hk : k < 6) : h_K σ (c + 17 + 3 * k) = 3 ∧ h_P σ 128 (c + 17 + 3 * k) = some (c + 18 + 3 * k) := by
  match k, hk with
  | 0, _ => exact ⟨h.2.1 (17, 3) (by decide), h.2.2.1 (128, 17, 18) (by decide)⟩
  | 1, _ => exact ⟨h.2.1 (20, 3) (by decide), h.2.2.1 (128, 20, 21) (by decide)⟩
  | 2, _ => exact ⟨h.2.1 (23, 3) (by decide), h.2.2.1 (128, 23, 24) (by decide)⟩
  | 3, _ => exact ⟨h.2.1 (26, 3) (by decide), h.2.2.1 (128, 26, 27) (by decide)⟩
  | 4, _ => exact ⟨h.2.1 (29, 3) (by decide), h.2.2.1 (128, 29, 30) (by decide)⟩
  | 5, _ => exact ⟨h.2.1 (32, 3) (by decide), h.2.2.1 (128, 32, 33) (by decide)⟩
  | k + 6, hk2 => omega
def abO (S : Sp) (x : Nat) : Option Nat := if scX S x < 2 then none else abT (s_T S) (s_k S) (scX S x - 2) x
set_option maxHeartbeats 1000000 in
theorem c_settle {i x : Nat} (hS : SOk S) (hc : CF ow σ c) (ht : TC ow σ c (s_n S) (s_k S) ad) (hct : CT σ (s_n S) (s_T S) ad) (hcw : CW σ c S) (hx : (ordT (s_T S))[i]? = some x)
    (hr : ∀ p j, liv (s_T S) p → (t_k (s_T S) p)[j]? = some x → h_I σ 522 (ad x) = nI (kC (s_k S) (s_k S x) ((t_k (s_T S) p).take (j + 1)))) (hseen : ∀ (q z : Nat), (ordT (s_T S))[q]? = some z → ∀ k, k < 6 → h_X σ (ad z + 1) k = nI (cK S k (q + 1))) (hnm : ∀ (q z : Nat), q < i → (ordT (s_T S))[q]? = some z → Ln σ (ad z + 4) 40 (n_n S z)) :
    Cn l D m_Numbering_settle 0 0 [va_rf (some (c + 35)), va_rf (some (ad x))] σ (fun r ρ => r = none ∧ ρ = w_I (w_P σ 524 (ad x) ((nbC S x).map ad)) 523 (ad x) (nI (n_c S i))) := by
  have hW := hS.wf
  have hn := hS.1
  obtain ⟨hi, ex, hxt, hxn, hl120⟩ := ord_at hS hx
  have hk6 := hS.2.1 x hxn
  obtain ⟨f1, -⟩ := hc.fk hk6
  have hsc : scX S x < 8 := (hS.2.2.2.2.2.1 _ hk6).1
  have i129 : h_I σ 129 (c + 17 + 3 * s_k S x) = nI (scX S x) := (hcw _ hk6).2.1
  have h120 : ad 120 = c + 4 := ht.2.1
  have kx := hct.1 x (Or.inl hxn)
  have k35 : h_K σ (c + 35) = 6 := hc.2.1 (35, 6) (by decide)
  have k4 : h_K σ (c + 4) = 9 := hc.2.1 (4, 9) (by decide)
  have k8 : h_K σ (c + 8) = 21 := hc.2.1 (8, 21) (by decide)
  have l8 : h_L σ (c + 8) = 6 := hc.2.2.2.1 (8, 6) (by decide)
  have p5254 : h_P σ 525 (c + 4) = some (c + 8) := hc.2.2.1 (525, 4, 8) (by decide)
  have x8 : h_X σ (c + 8) = fun _ => 0 := hc.2.2.2.2.2.2.2.2
  have p321 : h_P σ 321 (c + 35) = some (c + 4) := hc.2.2.1 (321, 35, 4) (by decide)
  have hk513 : ∀ z, z < s_n S → h_I σ 513 (ad z) = nI (s_k S z) := fun z hz => (ht.2.2.2 z hz).2.2.2.2.1
  have h513 : h_I σ 513 (ad 120) = -1 := by rw [h120]; exact hc.2.2.2.2.2.2.2.1
  obtain ⟨-, -, -, -, i513, -, p514, p525, -, p527, -, kx1, lx1, -⟩ := ht.2.2.2 x hxn
  obtain ⟨p, lp, hpm, hpar⟩ := hW.h_par hxt
  have p515 : h_P σ 515 (ad x) = some (ad p) := hct.2.2.2.1 p x (hW.tn lp) hpm
  generalize hQ : (fun (r : Option Value) (ρ : Hp) => r = none ∧ ρ = w_I (w_P σ 524 (ad x) ((nbC S x).map ad)) 523 (ad x) (nI (n_c S i))) = Q
  refine Cn.of (by decide) (by repeat (first | exact ca_0 | refine ca_i ?_ | refine ca_r ?_)) (Nat.le_of_ble_eq_true rfl) ?_
  -- the count
  have cont2 : Gm l D m_Numbering_settle 0 0 Q 60 [some (va_rf (some (c + 35))), some (va_rf (some (ad x))), some (va_rf ((abO S x).map ad)), some (va_rf ((candO S x).map ad)), none] [va_rf ((nbC S x).map ad), va_rf (some (ad x))] σ 0 0 := by
    refine r_putP rfl (by first | assumption | rfl) rfl (by first | exact Or.inl rfl | exact Or.inr ⟨rfl, rfl⟩) ?_
    generalize hσ1 : w_P σ 524 (ad x) ((nbC S x).map ad) = σ1
    have kx' : h_K σ1 (ad x) = 9 := by rw [← hσ1]; exact kx
    have p514' : h_P σ1 514 (ad x) = some (c + 17 + 3 * s_k S x) := by rw [← hσ1]; exact (hP_n _ _ (by decide)).trans p514
    have f1' : h_K σ1 (c + 17 + 3 * s_k S x) = 3 := by rw [← hσ1]; exact f1
    have i129' : h_I σ1 129 (c + 17 + 3 * s_k S x) = nI (scX S x) := by rw [← hσ1]; exact i129
    have i513' : h_I σ1 513 (ad x) = nI (s_k S x) := by rw [← hσ1]; exact i513
    have p525' : h_P σ1 525 (ad x) = some (ad x + 1) := by rw [← hσ1]; exact (hP_n _ _ (by decide)).trans p525
    have kx1' : h_K σ1 (ad x + 1) = 21 := by rw [← hσ1]; exact kx1
    have lx1' : h_L σ1 (ad x + 1) = 6 := by rw [← hσ1]; exact lx1
    have hX1 : h_X σ1 = h_X σ := by rw [← hσ1]; rfl
    refine r_aload_n rfl rfl ?_
    (first | refine r_getPv rfl (by first | assumption | rfl) rfl (by assumption) ?_ | refine r_getP rfl (by first | assumption | rfl) rfl ?_)
    (first | refine r_getIv rfl (by first | assumption | rfl) rfl (by assumption) ?_ | refine r_getI rfl (by first | assumption | rfl) rfl ?_)
    by_cases hs0 : scX S x = 0
    · obtain ⟨j, hj⟩ := List.getElem?_of_mem hpm
      have i522 : h_I σ1 522 (ad x) = nI (n_c S i) := by
        rw [← hσ1, nc_rank hS hx lp hj hs0]
        exact hr p j lp hj
      refine r_if_ne rfl (fun q => absurd (by rw [hs0]; rfl) q) (fun _ => ?_)
      refine r_aload_n rfl rfl ?_
      refine r_aload_n rfl rfl ?_
      (first | refine r_getIv rfl (by first | assumption | rfl) rfl (by assumption) ?_ | refine r_getI rfl (by first | assumption | rfl) rfl ?_)
      refine r_putI rfl (by first | assumption | rfl) rfl (by first | exact Or.inl rfl | exact Or.inr ⟨rfl, rfl⟩) (by first | rfl | decide | assumption) (by first | rfl | decide) ?_
      refine r_goto rfl ?_
      refine r_vret rfl rfl ?_
      rw [← hQ, ← hσ1]
      exact ⟨rfl, rfl⟩
    · refine r_if_ne rfl (fun _ => ?_) (fun q => absurd ((nI_eq (by omega) (by omega)).mp (show nI (scX S x) = nI 0 from q)) hs0)
      have fin : ∀ (fr rw' v : Nat), h_K σ1 fr = 9 → h_P σ1 525 fr = some rw' → h_K σ1 rw' = 21 → h_L σ1 rw' = 6 → h_X σ1 rw' (s_k S x) = nI v → v ≤ cK S (s_k S x) (i + 1) → cK S (s_k S x) (i + 1) - v = n_c S i → Gm l D m_Numbering_settle 0 0 Q 96 [some (va_rf (some (c + 35))), some (va_rf (some (ad x))), some (va_rf ((abO S x).map ad)), some (va_rf ((candO S x).map ad)), none] [va_rf (some fr)] σ1 0 0 := by
        intro fr rw' v q1 q2 q3 q4 q5 q6 q7
        have hsx : h_X σ1 (ad x + 1) (s_k S x) = nI (cK S (s_k S x) (i + 1)) := by rw [hX1]; exact hseen i x hx _ hk6
        refine r_astore rfl (by decide) ?_
        refine r_aload_n rfl rfl ?_
        refine r_aload_n rfl rfl ?_
        refine r_aload_n rfl rfl ?_
        (first | refine r_getIv rfl (by first | assumption | rfl) rfl (by assumption) ?_ | refine r_getI rfl (by first | assumption | rfl) rfl ?_)
        refine r_callV (As := [_]) rfl (by decide) rfl kx' rfl rfl (Nat.le_of_ble_eq_true rfl) ⟨Nat.le_of_ble_eq_true rfl, Nat.le_of_ble_eq_true rfl⟩ (c_seenOf kx' p525' kx1' lx1' hk6 hsx) (kc' := 0) (ks' := 0) (by omega) (by omega) (by decide) ?_
        rintro r σ ⟨rfl, rfl⟩
        refine r_aload rfl rfl ?_
        refine r_aload_n rfl rfl ?_
        (first | refine r_getIv rfl (by first | assumption | rfl) rfl (by assumption) ?_ | refine r_getI rfl (by first | assumption | rfl) rfl ?_)
        refine r_callV (As := [_]) rfl (by decide) rfl q1 rfl rfl (Nat.le_of_ble_eq_true rfl) ⟨Nat.le_of_ble_eq_true rfl, Nat.le_of_ble_eq_true rfl⟩ (c_seenOf q1 q2 q3 q4 hk6 q5) (kc' := 0) (ks' := 0) (by omega) (by omega) (by decide) ?_
        rintro r σ ⟨rfl, rfl⟩
        refine r_isubN rfl q6 ?_
        rw [q7]
        refine r_putI rfl (by first | assumption | rfl) rfl (by first | exact Or.inl rfl | exact Or.inr ⟨rfl, rfl⟩) (by first | rfl | decide | assumption) (by first | rfl | decide) ?_
        refine r_vret rfl rfl ?_
        rw [← hQ, ← hσ1]
        exact ⟨rfl, rfl⟩
      refine r_aload_n rfl rfl ?_
      cases hab : abO S x with
      | none =>
        rw [hab] at fin
        refine r_ifnonnull rfl (fun _ hq => by cases hq) (fun _ => ?_)
        have k35' : h_K σ1 (c + 35) = 6 := by rw [← hσ1]; exact k35
        have p321' : h_P σ1 321 (c + 35) = some (c + 4) := by rw [← hσ1]; exact (hP_n _ _ (by decide)).trans p321
        refine r_aload_n rfl rfl ?_
        (first | refine r_getPv rfl (by first | assumption | rfl) rfl (by assumption) ?_ | refine r_getP rfl (by first | assumption | rfl) rfl ?_)
        refine r_goto rfl ?_
        refine fin (c + 4) (c + 8) 0 (by rw [← hσ1]; exact k4) (by rw [← hσ1]; exact (hP_n _ _ (by decide)).trans p5254) (by rw [← hσ1]; exact k8) (by rw [← hσ1]; exact l8) (by rw [hX1, x8]; rfl) (Nat.zero_le _) ?_
        rw [Nat.sub_zero]
        refine (nc_all hS hx ?_).symm
        by_cases h2 : scX S x < 2
        · exact Or.inl (by omega)
        · unfold abO at hab
          rw [if_neg h2] at hab
          exact Or.inr ⟨by omega, hab⟩
      | some A =>
        rw [hab] at fin
        refine r_ifnonnull rfl (fun _ _ => ?_) (fun hq => by cases hq)
        have h2 : ¬ scX S x < 2 := fun w => by
          unfold abO at hab
          rw [if_pos w] at hab
          cases hab
        unfold abO at hab
        rw [if_neg h2] at hab
        obtain ⟨-, hAt, -, -⟩ := abT_le hW hxt hab
        have hAn := hW.h_lt hAt
        obtain ⟨-, -, a3⟩ := idx_at ((ord_mem hW).mpr hAt)
        obtain ⟨n1, n2⟩ := nc_above hS hx (by omega) hab a3
        obtain ⟨-, -, -, -, -, -, -, p525A, -, -, -, kA1, lA1, -⟩ := ht.2.2.2 A hAn
        have kA := hct.1 A (Or.inl hAn)
        refine r_aload_n rfl rfl ?_
        exact fin (ad A) (ad A + 1) _ (by rw [← hσ1]; exact kA) (by rw [← hσ1]; exact (hP_n _ _ (by decide)).trans p525A) (by rw [← hσ1]; exact kA1) (by rw [← hσ1]; exact lA1) (by rw [hX1]; exact hseen _ A a3 _ hk6) (by omega) (by omega)
  -- the base
  have cont1 : Gm l D m_Numbering_settle 0 0 Q 38 [some (va_rf (some (c + 35))), some (va_rf (some (ad x))), some (va_rf ((abO S x).map ad)), some (va_rf ((candO S x).map ad)), none] [] σ 0 0 := by
    refine r_aload_n rfl rfl ?_
    refine r_aload_n rfl rfl ?_
    cases hcd : candO S x with
    | none =>
      have e : nbC S x = none := by unfold nbC; rw [hcd]
      rw [hcd, e] at cont2
      refine r_ifnull rfl (fun _ => ?_) (fun _ hq => by cases hq)
      refine r_null rfl ?_
      exact cont2
    | some b =>
      obtain ⟨b1, b2, b3⟩ := cand_up hS hxt hcd
      have hbn := hW.h_lt b1
      obtain ⟨-, -, a3⟩ := idx_at ((ord_mem hW).mpr b1)
      have hlt := ord_before hS hx a3 b2 b3
      have hln := hnm _ b hlt a3
      have hb40 := (n_ok hS b).1
      have kb := hct.1 b (Or.inl hbn)
      have p527b := (ht.2.2.2 b hbn).2.2.2.2.2.2.2.2.2.1
      have i193 : h_I σ 193 (ad b + 4) = nI (n_n S b).length := hln.2.2.1
      have k4b := hln.1
      rw [hcd] at cont2
      refine r_ifnull rfl (fun hq => by cases hq) (fun _ _ => ?_)
      refine r_aload_n rfl rfl ?_
      (first | refine r_getPv rfl (by first | assumption | rfl) rfl (by assumption) ?_ | refine r_getP rfl (by first | assumption | rfl) rfl ?_)
      (first | refine r_getIv rfl (by first | assumption | rfl) rfl (by assumption) ?_ | refine r_getI rfl (by first | assumption | rfl) rfl ?_)
      refine r_bipush (v := nI 30) rfl (by decide) ?_
      refine r_gtN rfl (by omega) (by decide) (fun q => ?_) (fun q => ?_)
      · have e : nbC S x = none := by unfold nbC; rw [hcd]; show (if _ then _ else _) = _; rw [if_neg (by omega)]
        rw [e] at cont2
        refine r_null rfl ?_
        exact cont2
      · have e : nbC S x = some b := by unfold nbC; rw [hcd]; show (if _ then _ else _) = _; rw [if_pos q]
        rw [e] at cont2
        refine r_aload_n rfl rfl ?_
        refine r_goto rfl ?_
        exact cont2
  refine r_aload_n rfl rfl ?_
  refine r_callS (As := [_]) rfl (by decide) rfl rfl rfl (Nat.le_of_ble_eq_true rfl) ⟨Nat.le_of_ble_eq_true rfl, Nat.le_of_ble_eq_true rfl⟩ (c_nearestAbove hct.cs hW hxt hk513 (fun z hz => by have := hS.2.1 z hz; omega) h513 p514 f1 i129 hsc) (kc' := 0) (ks' := 0) (by omega) (by omega) ?_
  rintro r σ ⟨rfl, rfl⟩
  refine r_astore_n rfl (by decide) ?_
  refine r_aload_n rfl rfl ?_
  refine r_astore_n rfl (by decide) ?_
  refine r_aload_n rfl rfl ?_
  (first | refine r_getPv rfl (by first | assumption | rfl) rfl (by assumption) ?_ | refine r_getP rfl (by first | assumption | rfl) rfl ?_)
  (first | refine r_getIv rfl (by first | assumption | rfl) rfl (by assumption) ?_ | refine r_getI rfl (by first | assumption | rfl) rfl ?_)
  refine r_iconst (v := nI 2) rfl (by decide) ?_
  refine r_geN rfl (by omega) (by decide) (fun q => ?_) (fun q => ?_)
  · have e : candO S x = abO S x := by
      unfold candO abO
      rw [if_neg (by omega), if_neg (by omega)]
    rw [e] at cont1
    exact cont1
  · have e : candO S x = if p = 120 then none else some p := by
      unfold candO
      rw [if_pos q, hpar]
    refine r_aload_n rfl rfl ?_
    (first | refine r_getPv rfl (by first | assumption | rfl) rfl (by assumption) ?_ | refine r_getP rfl (by first | assumption | rfl) rfl ?_)
    refine r_aload_n rfl rfl ?_
    (first | refine r_getPv rfl (by first | assumption | rfl) rfl (by assumption) ?_ | refine r_getP rfl (by first | assumption | rfl) rfl ?_)
    refine r_acmp_ne rfl (fun w => ?_) (fun w => ?_)
    · have hp : p ≠ 120 := fun e2 => w (by rw [e2, h120])
      rw [e, if_neg hp] at cont1
      refine r_aload_n rfl rfl ?_
      (first | refine r_getPv rfl (by first | assumption | rfl) rfl (by assumption) ?_ | refine r_getP rfl (by first | assumption | rfl) rfl ?_)
      refine r_astore_n rfl (by decide) ?_
      exact cont1
    · have hp : p = 120 := by
        rw [← h120] at w
        exact hct.2.1 p 120 (hW.tn lp) (Or.inr rfl) (Option.some.inj w)
      rw [e, if_pos hp] at cont1
      refine r_null rfl ?_
      refine r_goto rfl ?_
      refine r_astore_n rfl (by decide) ?_
      exact cont1
end ST
