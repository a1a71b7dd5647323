/-! ===== the class: renew ===== -/
theorem ch_at {σ : Hp} {f : Nat} {ad : Nat → Nat} : ∀ {L : List Nat} {p : Option Nat}, Ch σ f (L.map ad) p → p = (L[0]?).map ad ∧ ∀ (q z : Nat), L[q]? = some z → h_P σ f (ad z) = (L[q + 1]?).map ad
  | [], _, h => ⟨h, fun q z hz => by cases hz⟩
  | y :: L, _, h => by
    obtain ⟨h1, h2⟩ := ch_at h.2.2
    refine ⟨h.1, fun q z hz => ?_⟩
    cases q with
    | zero =>
      have e : y = z := Option.some.inj hz
      rw [← e, h1]
      rfl
    | succ q => exact h2 q z hz
abbrev nuI2 : List Nat := [320, 521, 522, 523]
abbrev nuP2 : List Nat := [520, 524]
/-- the class, and its numbers hold -/
def RCd (ow : Nat → Nat) (σ : Hp) (c : Nat) (ad : Nat → Nat) (B : Nat) (S : Sp) : Prop := RC ow σ c ad B S ∧ h_I σ 320 (c + 35) = nI 0 ∧ CN σ c ad S
section RN
variable {l : Launch} {D : DD} {σ : Hp} {c B : Nat} {ow ad : Nat → Nat} {S : Sp}
theorem RC.num {τ : Hp} (g : RC ow σ c ad B S) (h : Fm ow nuI2 nuP2 [4, 5] σ τ) (ht : TC ow τ c (s_n S) (s_k S) ad) (hs : h_I τ 320 (c + 35) = nI 0) (hn : CN τ c ad S) : RCd ow τ c ad B S := by
  obtain ⟨g1, g2, g3, g4, g5, ⟨xs, g6⟩, g7, g8, g9, g10, g11, g12, g13⟩ := g
  have z0 := g2.1
  have o1 : ow (c + 1) = 1 := g2.tag (q := (1, 1)) (by decide)
  have o2 : ow (c + 2) = 1 := g2.tag (q := (2, 1)) (by decide)
  have o43 : ow (c + 43) = 2 := g2.tag (q := (43, 2)) (by decide)
  have o44 : ow (c + 44) = 2 := g2.tag (q := (44, 2)) (by decide)
  exact ⟨⟨g1, g2.kp h (by decide) (by decide) (by decide) (by decide) (fun _ _ => rfl), ht, g4.kp h g2 g3 g1.wf.w0 (by decide) (by decide), g5.kp h (by omega) (by rw [o1]; decide) (by rw [show c + 1 + 1 = c + 2 by omega, o2]; decide) (by decide) (by decide), ⟨xs, g6.kp h (by omega) (by rw [o43]; decide) (by rw [show c + 43 + 1 = c + 44 by omega, o44]; decide) (by decide) (by decide)⟩, g7.kp h g2 (by decide) (by decide) (by decide) rfl rfl, Or.inr ⟨hs, hn⟩, g9.kp h g2 (by decide) (by decide) (by decide), g10.kp h g2 (by decide) (by decide) (by decide) (by decide) (fun _ _ => rfl) rfl (fun _ _ _ => rfl), g11.kp h g2 (by decide) (by decide) (by decide) (by decide) (fun _ _ => rfl) rfl, g12.kp h g2 (by decide) (by decide) rfl, g13.kp h g2 g3 (by decide)⟩, hs, hn⟩
/-- what holds while the things are numbered: m of them are done -/
def RnI (ow : Nat → Nat) (σ τ : Hp) (c : Nat) (ad : Nat → Nat) (S : Sp) (m : Nat) : Prop :=
  Fm ow nuI2 nuP2 [4, 5] σ τ ∧ TC ow τ c (s_n S) (s_k S) ad ∧ h_I τ 320 (c + 35) = nI 0 ∧ Ch τ 520 ((ordT (s_T S)).map ad) (h_P τ 520 (c + 4)) ∧
  (∀ (q z : Nat), (ordT (s_T S))[q]? = some z → h_I τ 521 (ad z) = nI q ∧ ∀ k, k < 6 → h_X τ (ad z + 1) k = nI (cK S k (q + 1))) ∧
  (∀ (p j y : Nat), (p = 120 ∨ ∃ q, q < m ∧ (ordT (s_T S))[q]? = some p) → (t_k (s_T S) p)[j]? = some y → h_I τ 522 (ad y) = nI (kC (s_k S) (s_k S y) ((t_k (s_T S) p).take (j + 1)))) ∧
  (∀ (q z : Nat), q < m → (ordT (s_T S))[q]? = some z → h_I τ 523 (ad z) = nI (n_c S q) ∧ h_P τ 524 (ad z) = (nbO S z).map ad ∧ Ln τ (ad z + 2) 10 (mkX S z) ∧ Ln τ (ad z + 4) 40 (n_n S z)) ∧
  ∀ z, z < s_n S → ∀ xs, Ln σ (ad z + 6) 40 xs → Ln τ (ad z + 6) 40 xs
theorem mkS_len {j s n : Nat} (hs : s < 5) (hn : n ≤ 120) : (if j = 1 then 1 else 0) + (mkS j s n).length ≤ 10 := by
  have h8 := sgn_len8 s hs n (by omega)
  unfold mkS
  rw [List.length_append, List.length_append]
  by_cases h1 : j = 1
  · rw [if_pos h1, if_neg (by omega), if_neg (by omega)]
    show 1 + (0 + _ + 0) ≤ 10
    omega
  · rw [if_neg h1]
    by_cases h2 : j = 2
    · rw [if_pos h2, if_pos h2]
      show 0 + (1 + _ + 1) ≤ 10
      omega
    · rw [if_neg h2, if_neg h2]
      show 0 + (0 + _ + 0) ≤ 10
      omega
set_option maxHeartbeats 2000000 in
theorem rn_step {m x : Nat} {τ : Hp} {Q : Option Value → Hp → Prop} (g : RC ow σ c ad B S) (hx : (ordT (s_T S))[m]? = some x) (hI : RnI ow σ τ c ad S m) (kk : ∀ ρ, RnI ow σ ρ c ad S (m + 1) → Gm l D m_Numbering_renew 0 0 Q 33 [some (va_rf (some (c + 35))), some (va_rf (((ordT (s_T S))[m + 1]?).map ad))] [] ρ 0 0) : Gm l D m_Numbering_renew 0 0 Q 37 [some (va_rf (some (c + 35))), some (va_rf (some (ad x)))] [] τ 0 0 := by
  obtain ⟨hS, gF, gT, gC, -, -, gW, -⟩ := id g
  have hW := hS.wf
  have hn := hS.1
  have z0 := gF.1
  obtain ⟨hi, ex, hxt, hxn, hl120⟩ := ord_at hS hx
  have hk6 := hS.2.1 x hxn
  obtain ⟨i1, i2, i3, i4, i5, i6, i7, i8⟩ := hI
  have cF : CF ow τ c := gF.kp i1 (by decide) (by decide) (by decide) (by decide) (fun _ _ => rfl)
  have cC : CT τ (s_n S) (s_T S) ad := gC.kp i1 gF gT hW.w0 (by decide) (by decide)
  have cW : CW τ c S := gW.kp i1 gF (by decide) (by decide) (by decide) rfl rfl
  have k35 : h_K τ (c + 35) = 6 := cF.2.1 (35, 6) (by decide)
  have k36 : h_K τ (c + 36) = 21 := cF.2.1 (36, 21) (by decide)
  have l36 : h_L τ (c + 36) = 6 := cF.2.2.2.1 (36, 6) (by decide)
  have p322 : h_P τ 322 (c + 35) = some (c + 36) := cF.2.2.1 (322, 35, 36) (by decide)
  have o36 : ow (c + 36) = 5 := gF.tag (q := (36, 5)) (by decide)
  have hk513 : ∀ z, z < s_n S → h_I τ 513 (ad z) = nI (s_k S z) := fun z hz => (i2.2.2.2 z hz).2.2.2.2.1
  obtain ⟨dp, hd⟩ := hW.2.2.2.2.1
  have hself : ∀ y, y ∈ t_k (s_T S) x → y ≠ x := fun y hy e => by have := hd _ _ hy; rw [e] at this; omega
  have hadi := cC.2.1
  obtain ⟨t1, t2, t3, t4, t5, t6, t7, t8, t9, t10, t11, t12, t13, t14, ⟨xm, t15⟩, ⟨xn, t16⟩, ⟨xb, t17⟩⟩ := i2.2.2.2 x hxn
  -- rankKids
  refine r_aload_n rfl rfl ?_
  refine r_aload_n rfl rfl ?_
  refine r_callV (As := [_]) rfl (by decide) rfl k35 rfl rfl (Nat.le_of_ble_eq_true rfl) ⟨Nat.le_of_ble_eq_true rfl, Nat.le_of_ble_eq_true rfl⟩ (c_rankKids cC.cs hW (Or.inl hxn) hk513 (fun z hz => hS.2.1 z hz) k35 p322 k36 l36) (kc' := 0) (ks' := 0) (by omega) (by omega) (by decide) ?_
  rintro r τ1 ⟨rfl, a1, a2, a3⟩
  have fm1 : Fm ow [522] [] [5] τ τ1 := a1.fm (fun b hb => by rw [hb, o36]; decide)
  have cF1 : CF ow τ1 c := cF.kp fm1 (by decide) (by decide) (fun q _ w => by cases w) (by decide) (fun _ _ => rfl)
  have cC1 : CT τ1 (s_n S) (s_T S) ad := cC.kp fm1 cF i2 hW.w0 (by decide) (fun f _ q => by cases q)
  have cT1 : TC ow τ1 c (s_n S) (s_k S) ad := i2.kp fm1 cF (by decide) (fun f _ q => by cases q) (by decide) (i2.lk fm1 (by decide) (fun q => by cases q) (by decide)) (fun _ _ => rfl)
  have cW1 : CW τ1 c S := cW.kp fm1 cF (by decide) (fun q => by cases q) (by decide) rfl rfl
  have lnA : ∀ a cap xs, a + 1 ≠ c + 36 → Ln τ a cap xs → Ln τ1 a cap xs := fun a cap xs ha q => a1.ln (by decide) (fun w => by cases w) ha q
  have farX : ∀ z, z < s_n S → c + 45 ≤ ad z := fun z hz => (i2.2.2.2 z hz).2.1
  have seen1 : ∀ (q z : Nat), (ordT (s_T S))[q]? = some z → ∀ k, k < 6 → h_X τ1 (ad z + 1) k = nI (cK S k (q + 1)) := by
    intro q z hz k hk
    have := farX z (ord_at hS hz).2.2.2.1
    rw [a1.2.2.2.2.2.2 _ (by omega)]
    exact (i5 q z hz).2 k hk
  have nm1 : ∀ (q z : Nat), q < m → (ordT (s_T S))[q]? = some z → Ln τ1 (ad z + 4) 40 (n_n S z) := by
    intro q z hq hz
    have := farX z (ord_at hS hz).2.2.2.1
    exact lnA _ _ _ (by omega) (i7 q z hq hz).2.2.2
  have rk1 : ∀ p j, liv (s_T S) p → (t_k (s_T S) p)[j]? = some x → h_I τ1 522 (ad x) = nI (kC (s_k S) (s_k S x) ((t_k (s_T S) p).take (j + 1))) := by
    intro p j lp hj
    rw [a3 (ad x) (fun y hy e => hself y hy (hadi x y (Or.inl hxn) (Or.inl (hW.k_lt hy)) e).symm)]
    refine i6 p j x ?_ hj
    rcases lp with rfl | hp
    · exact Or.inl rfl
    · obtain ⟨-, -, q3⟩ := idx_at ((ord_mem hW).mpr hp)
      have hxm := List.mem_of_getElem? hj
      exact Or.inr ⟨_, ord_before hS hx q3 (by rw [upl_step hW hxm]; exact List.mem_cons_of_mem _ upl_self) (fun e => by have := hd _ _ hxm; rw [e] at this; omega), q3⟩
  have k351 : h_K τ1 (c + 35) = 6 := cF1.2.1 (35, 6) (by decide)
  -- settle
  refine r_aload_n rfl rfl ?_
  refine r_aload_n rfl rfl ?_
  refine r_callV (As := [_]) rfl (by decide) rfl k351 rfl rfl (Nat.le_of_ble_eq_true rfl) ⟨Nat.le_of_ble_eq_true rfl, Nat.le_of_ble_eq_true rfl⟩ (c_settle hS cF1 cT1 cC1 cW1 hx rk1 seen1 nm1) (kc' := 0) (ks' := 0) (by omega) (by omega) (by decide) ?_
  rintro r τ2 ⟨rfl, hτ2⟩
  have fm2 : Fm ow [523] [524] [] τ1 τ2 := by rw [hτ2]; exact (Fm.P _ _ _ (by decide)).tr (Fm.I _ _ _ (by decide))
  have e2 : h_K τ2 = h_K τ1 ∧ h_L τ2 = h_L τ1 ∧ h_X τ2 = h_X τ1 ∧ h_z τ2 = h_z τ1 := by rw [hτ2]; exact ⟨rfl, rfl, rfl, rfl⟩
  have eI2 : ∀ f b, f ≠ 523 → h_I τ2 f b = h_I τ1 f b := fun f b w => by rw [hτ2]; exact hI_n _ _ w
  have eP2 : ∀ f b, f ≠ 524 → h_P τ2 f b = h_P τ1 f b := fun f b w => by rw [hτ2]; exact hP_n _ _ w
  have i523 : h_I τ2 523 (ad x) = nI (n_c S m) := by rw [hτ2]; exact hI_w _ _ _ _
  have p524 : h_P τ2 524 (ad x) = (nbC S x).map ad := by rw [hτ2]; exact hP_w _ _ _ _
  have lnB : ∀ a cap xs, Ln τ1 a cap xs → Ln τ2 a cap xs := by
    intro a cap xs q
    unfold Ln at q ⊢
    rw [e2.1, e2.2.1, e2.2.2.1, eI2 193 _ (by decide), eP2 192 _ (by decide)]
    exact q
  obtain ⟨m1, m2, m3⟩ := mk_S hS hx
  obtain ⟨f1, -⟩ := cF1.fk hk6
  obtain ⟨-, w2, w3, w4⟩ := cW1 _ hk6
  have hfb := hS.2.2.2.2.2.1 _ hk6
  have hct : 1 ≤ n_c S m ∧ n_c S m ≤ m + 1 := ctO_le m
  -- writeMark
  have kx2 : h_K τ2 (ad x) = 9 := by rw [e2.1]; exact cC1.1 x (Or.inl hxn)
  obtain ⟨-, -, -, -, -, -, u7, -, u9, u10, -⟩ := cT1.2.2.2 x hxn
  refine r_aload_n rfl rfl ?_
  refine r_callS (As := [_]) rfl (by decide) rfl rfl rfl (Nat.le_of_ble_eq_true rfl) ⟨Nat.le_of_ble_eq_true rfl, Nat.le_of_ble_eq_true rfl⟩ (c_writeMark (n := n_c S m) (s := f_y (s_f S) (s_k S x)) (j := f_j (s_f S) (s_k S x)) (ys := xm) kx2 (by rw [eP2 _ _ (by decide)]; exact u9) (by rw [eP2 _ _ (by decide)]; exact u7) (by rw [e2.1]; exact f1) (by rw [eI2 _ _ (by decide)]; exact w4) (by rw [eI2 _ _ (by decide)]; exact w3) i523 (lnB _ _ _ (lnA _ _ _ (by omega) t15)) hfb.2.1 hfb.2.2 hct.1 (by omega)) (kc' := 0) (ks' := 0) (by omega) (by omega) ?_
  rintro r τ3 ⟨rfl, b1, b2⟩
  have fm3 : Fm ow ([] : List Nat) [] [4] τ2 τ3 := Fm.L b2 (by rw [t14 2 (by omega) (by omega)]; decide) (by rw [show ad x + 2 + 1 = ad x + 3 by omega, t14 3 (by omega) (by omega)]; decide)
  have lnC : ∀ a cap xs, a ≠ ad x + 2 → Ln τ2 a cap xs → Ln τ3 a cap xs := fun a cap xs ha q => b2.keep ha q
  -- writeName
  have lnAll : ∀ z, z < s_n S → z ≠ x → ad z + 8 ≤ ad x ∨ ad x + 8 ≤ ad z := fun z hz hne => i2.2.2.1 z x hz hxn hne
  have hbase : ∀ b, (nbC S x).map ad = some b → h_K τ3 b = 9 ∧ ∃ bn, h_P τ3 527 b = some bn ∧ bn ≠ ad x + 4 ∧ Ln τ3 bn 40 ((nbC S x).elim [] (n_n S)) := by
    intro b hb
    cases hnb : nbC S x with
    | none => rw [hnb] at hb; cases hb
    | some b' =>
      rw [hnb] at hb
      have hb : ad b' = b := Option.some.inj hb
      subst hb
      have hcd : candO S x = some b' := by
        unfold nbC at hnb
        cases hc : candO S x with
        | none => rw [hc] at hnb; cases hnb
        | some w =>
          rw [hc] at hnb
          have hnb : (if (n_n S w).length ≤ 30 then some w else none) = some b' := hnb
          by_cases q : (n_n S w).length ≤ 30
          · rw [if_pos q] at hnb; exact hnb
          · rw [if_neg q] at hnb; cases hnb
      obtain ⟨q1, q2, q3⟩ := cand_up hS hxt hcd
      have hbn := hW.h_lt q1
      obtain ⟨-, -, q4⟩ := idx_at ((ord_mem hW).mpr q1)
      have hlt := ord_before hS hx q4 q2 q3
      have hdis := lnAll b' hbn q3
      have := farX b' hbn
      refine ⟨by rw [b2.2.1, e2.1]; exact cC1.1 b' (Or.inl hbn), ad b' + 4, ?_, by omega, lnC _ _ _ (by omega) (lnB _ _ _ (nm1 _ b' hlt q4))⟩
      rw [b2.2.2.1, eP2 _ _ (by decide)]
      exact (cT1.2.2.2 b' hbn).2.2.2.2.2.2.2.2.2.1
  have hz30 : ((nbC S x).elim [] (n_n S)).length ≤ 30 := by
    cases hnb : nbC S x with
    | none => exact Nat.zero_le _
    | some b' =>
      show (n_n S b').length ≤ 30
      unfold nbC at hnb
      cases hc : candO S x with
      | none => rw [hc] at hnb; cases hnb
      | some w =>
        rw [hc] at hnb
        have hnb : (if (n_n S w).length ≤ 30 then some w else none) = some b' := hnb
        by_cases q : (n_n S w).length ≤ 30
        · rw [if_pos q] at hnb; cases hnb; exact q
        · rw [if_neg q] at hnb; cases hnb
  have kx3 : h_K τ3 (ad x) = 9 := by rw [b2.2.1]; exact kx2
  refine r_aload_n rfl rfl ?_
  refine r_callS (As := [_]) rfl (by decide) rfl rfl rfl (Nat.le_of_ble_eq_true rfl) ⟨Nat.le_of_ble_eq_true rfl, Nat.le_of_ble_eq_true rfl⟩ (c_writeName (j := f_j (s_f S) (s_k S x)) (ys := xn) kx3 (by rw [b2.2.2.1, eP2 _ _ (by decide)]; exact u10) (by rw [b2.2.2.1, eP2 _ _ (by decide)]; exact u9) (by rw [b2.2.2.1, eP2 _ _ (by decide)]; exact u7) (by rw [b2.2.1, e2.1]; exact f1) (by rw [b2.2.2.2.2.2.1 131 _ (fun e => by cases e.1), eI2 _ _ (by decide)]; exact w4) (by rw [b2.2.2.1]; exact p524) (lnC _ _ _ (by omega) (lnB _ _ _ (lnA _ _ _ (by omega) t16))) b1 (by omega) hfb.2.2 hz30 hbase (mkS_len hfb.2.1 (by omega))) (kc' := 0) (ks' := 0) (by omega) (by omega) ?_
  rintro r τ4 ⟨rfl, d1, d2⟩
  have epf : pfS (f_j (s_f S) (s_k S x)) ((nbC S x).map ad) ((nbC S x).elim [] (n_n S)) = pfS (f_j (s_f S) (s_k S x)) (nbC S x) ((nbC S x).elim [] (n_n S)) := by
    cases nbC S x with
    | none => rfl
    | some w =>
      show pfS _ (some (ad w)) _ = _
      by_cases hj : 0 < f_j (s_f S) (s_k S x)
      · rw [pfS_some _ _ hj, pfS_some _ _ hj]
      · rw [pfS_0 _ _ hj, pfS_0 _ _ hj]
  rw [epf, ← m2] at d1
  rw [← m3] at b1
  have fm4 : Fm ow ([] : List Nat) [] [4] τ3 τ4 := Fm.L d2 (by rw [t14 4 (by omega) (by omega)]; decide) (by rw [show ad x + 4 + 1 = ad x + 5 by omega, t14 5 (by omega) (by omega)]; decide)
  have fm14 : Fm ow [522, 523] [524] [4, 5] τ τ4 := (((fm1.wide (by decide) (fun f q => by cases q) (by decide)).tr (fm2.wide (by decide) (by decide) (fun f q => by cases q))).tr (fm3.wide (fun f q => by cases q) (fun f q => by cases q) (by decide))).tr (fm4.wide (fun f q => by cases q) (fun f q => by cases q) (by decide))
  have lnD : ∀ a cap xs, a ≠ ad x + 2 → a ≠ ad x + 4 → a + 1 ≠ c + 36 → Ln τ a cap xs → Ln τ4 a cap xs := fun a cap xs h1 h2 h3 q => d2.keep h2 (lnC _ _ _ h1 (lnB _ _ _ (lnA _ _ _ h3 q)))
  have mk4 : Ln τ4 (ad x + 2) 10 (mkX S x) := d2.keep (by omega) b1
  have eI4 : ∀ f b, f ≠ 193 → h_I τ4 f b = h_I τ2 f b := fun f b w => by rw [d2.2.2.2.2.2.1 f b (fun e => w e.1), b2.2.2.2.2.2.1 f b (fun e => w e.1)]
  have eP4 : h_P τ4 = h_P τ2 := by rw [d2.2.2.1, b2.2.2.1]
  have eK4 : h_K τ4 = h_K τ := by rw [d2.2.1, b2.2.1, e2.1, a1.2.1]
  have eX4 : ∀ b, b ≠ ad x + 3 → b ≠ ad x + 5 → b ≠ c + 36 → h_X τ4 b = h_X τ b := fun b h1 h2 h3 => by rw [d2.2.2.2.2.2.2 b (by omega), b2.2.2.2.2.2.2 b (by omega), e2.2.2.1, a1.2.2.2.2.2.2 b h3]
  have cT4 : TC ow τ4 c (s_n S) (s_k S) ad := by
    refine i2.kp fm14 cF (by decide) (by decide) (by decide) (fun z hz => ?_) (fun _ _ => rfl)
    have hfz := farX z hz
    by_cases e : z = x
    · rw [e]
      refine ⟨fun cap hcap => ?_, fun cap hcap => ?_, fun cap hcap => ?_⟩
      · obtain ⟨ys, hys⟩ := hcap
        have e1 : cap = 10 := hys.2.2.2.2.1.symm.trans t15.2.2.2.2.1
        exact ⟨_, by rw [e1]; exact mk4⟩
      · obtain ⟨ys, hys⟩ := hcap
        have e1 : cap = 40 := hys.2.2.2.2.1.symm.trans t16.2.2.2.2.1
        exact ⟨_, by rw [e1]; exact d1⟩
      · obtain ⟨ys, hys⟩ := hcap
        exact ⟨ys, lnD _ _ _ (by omega) (by omega) (by omega) hys⟩
    · have hdis := lnAll z hz e
      exact ⟨fun cap ⟨ys, hys⟩ => ⟨ys, lnD _ _ _ (by omega) (by omega) (by omega) hys⟩, fun cap ⟨ys, hys⟩ => ⟨ys, lnD _ _ _ (by omega) (by omega) (by omega) hys⟩, fun cap ⟨ys, hys⟩ => ⟨ys, lnD _ _ _ (by omega) (by omega) (by omega) hys⟩⟩
  have p520 : ∀ b, h_P τ4 520 b = h_P τ 520 b := fun b => by rw [eP4, eP2 _ _ (by decide), a1.2.2.2.2.2.1 520 (fun q => by cases q)]
  have hI4 : RnI ow σ τ4 c ad S (m + 1) := by
    refine ⟨i1.tr (fm14.wide (by decide) (by decide) (by decide)), cT4, ?_, ?_, fun q z hz => ?_, fun p j y hp hy => ?_, fun q z hq hz => ?_, fun z hz xs hxs => ?_⟩
    · rw [eI4 _ _ (by decide), eI2 _ _ (by decide), a1.2.2.2.2.1 320 (by decide)]; exact i3
    · rw [p520]
      exact Ch.ext (σ := τ) (fun b hb => ⟨by rw [eK4], p520 b⟩) i4
    · obtain ⟨q1, q2⟩ := i5 q z hz
      have hzn := (ord_at hS hz).2.2.2.1
      have hfz := farX z hzn
      refine ⟨by rw [eI4 _ _ (by decide), eI2 _ _ (by decide), a1.2.2.2.2.1 521 (by decide)]; exact q1, fun k hk => ?_⟩
      rw [eX4 _ ?_ ?_ (by omega)]
      · exact q2 k hk
      · by_cases e : z = x
        · rw [e]; omega
        · have := lnAll z hzn e; omega
      · by_cases e : z = x
        · rw [e]; omega
        · have := lnAll z hzn e; omega
    · rw [eI4 _ _ (by decide), eI2 _ _ (by decide)]
      have hym := List.mem_of_getElem? hy
      by_cases e : p = x
      · subst e
        exact a2 j y hy
      · rw [a3 (ad y) (fun w hw q => e (hW.2.2.2.1 p x y hym (by rw [hadi y w (Or.inl (hW.k_lt hym)) (Or.inl (hW.k_lt hw)) q]; exact hw)))]
        refine i6 p j y ?_ hy
        rcases hp with w | ⟨q, q1, q2⟩
        · exact Or.inl w
        · by_cases e2 : q = m
          · rw [e2, hx] at q2
            exact absurd (Option.some.inj q2).symm e
          · exact Or.inr ⟨q, by omega, q2⟩
    · by_cases e : q = m
      · subst e
        rw [hx] at hz
        cases hz
        refine ⟨by rw [eI4 _ _ (by decide)]; exact i523, by rw [eP4, m1]; exact p524, mk4, d1⟩
      · have hzx : z ≠ x := fun w => by
          rw [w] at hz
          have := idx_of (ord_nd hW) hz
          rw [idx_of (ord_nd hW) hx] at this
          exact e this.symm
        have hzn := (ord_at hS hz).2.2.2.1
        have hdis := lnAll z hzn hzx
        have hfz := farX z hzn
        obtain ⟨q1, q2, q3, q4⟩ := i7 q z (by omega) hz
        have hadn : ad z ≠ ad x := by omega
        refine ⟨?_, ?_, lnD _ _ _ (by omega) (by omega) (by omega) q3, lnD _ _ _ (by omega) (by omega) (by omega) q4⟩
        · rw [eI4 _ _ (by decide), hτ2, hI_m _ _ hadn]
          show h_I τ1 523 (ad z) = _
          rw [a1.2.2.2.2.1 523 (by decide)]
          exact q1
        · rw [eP4, hτ2]
          show h_P (w_P τ1 524 (ad x) _) 524 (ad z) = _
          rw [hP_m _ _ hadn, a1.2.2.2.2.2.1 524 (fun w => by cases w)]
          exact q2
    · have hfz := farX z hz
      by_cases e : z = x
      · rw [e] at hxs ⊢
        exact lnD _ _ _ (by omega) (by omega) (by omega) (i8 x hxn xs hxs)
      · have hdis := lnAll z hz e
        exact lnD _ _ _ (by omega) (by omega) (by omega) (i8 z hz xs hxs)
  have kx4 : h_K τ4 (ad x) = 9 := by rw [d2.2.1]; exact kx3
  have nx4 : h_P τ4 520 (ad x) = ((ordT (s_T S))[m + 1]?).map ad := (ch_at hI4.2.2.2.1).2 m x hx
  refine r_aload_n rfl rfl ?_
  (first | refine r_getPv rfl (by first | assumption | rfl) rfl (by assumption) ?_ | refine r_getP rfl (by first | assumption | rfl) rfl ?_)
  refine r_astore_n rfl (by decide) ?_
  refine r_goto rfl ?_
  exact kk τ4 hI4
set_option maxHeartbeats 1000000 in
theorem c_renew (g : RC ow σ c ad B S) : Cn l D m_Numbering_renew 0 0 [va_rf (some (c + 35))] σ (fun r τ => r = none ∧ RCd ow τ c ad B S ∧ Fm ow nuI2 nuP2 [4, 5] σ τ ∧ ∀ z, z < s_n S → ∀ xs, Ln σ (ad z + 6) 40 xs → Ln τ (ad z + 6) 40 xs) := by
  obtain ⟨hS, gF, gT, gC, -, -, gW, g8, -⟩ := id g
  have hW := hS.wf
  have hn := hS.1
  have z0 := gF.1
  have k35 : h_K σ (c + 35) = 6 := gF.2.1 (35, 6) (by decide)
  have h120 : ad 120 = c + 4 := gT.2.1
  have o36 : ow (c + 36) = 5 := gF.tag (q := (36, 5)) (by decide)
  generalize hQ : (fun (r : Option Value) (τ : Hp) => r = none ∧ RCd ow τ c ad B S ∧ Fm ow nuI2 nuP2 [4, 5] σ τ ∧ ∀ z, z < s_n S → ∀ xs, Ln σ (ad z + 6) 40 xs → Ln τ (ad z + 6) 40 xs) = Q
  refine Cn.of (by decide) (by repeat (first | exact ca_0 | refine ca_i ?_ | refine ca_r ?_)) (Nat.le_of_ble_eq_true rfl) ?_
  rcases g8 with i320 | ⟨i320, hcn⟩
  · refine r_aload_n rfl rfl ?_
    (first | refine r_getIv rfl (by first | assumption | rfl) rfl (by assumption) ?_ | refine r_getI rfl (by first | assumption | rfl) rfl ?_)
    refine r_if_ne rfl (fun _ => ?_) (fun q => absurd q (by decide))
    refine r_aload_n rfl rfl ?_
    refine r_iconst (v := nI 0) rfl (by decide) ?_
    refine r_putI rfl (by first | assumption | rfl) rfl (by first | exact Or.inl rfl | exact Or.inr ⟨rfl, rfl⟩) (by first | rfl | decide | assumption) (by first | rfl | decide) ?_
    generalize hσ1 : w_I σ 320 (c + 35) (nI 0) = σ1
    have fm1 : Fm ow [320] [] [] σ σ1 := by rw [← hσ1]; exact Fm.I _ _ _ (by decide)
    have i1 : h_I σ1 320 (c + 35) = nI 0 := by rw [← hσ1]; exact hI_w _ _ _ _
    have cF1 : CF ow σ1 c := gF.kp fm1 (by decide) (by decide) (fun q _ w => by cases w) (fun q => by cases q) (fun _ _ => rfl)
    have cC1 : CT σ1 (s_n S) (s_T S) ad := gC.kp fm1 gF gT hW.w0 (by decide) (fun f _ q => by cases q)
    have cT1 : TC ow σ1 c (s_n S) (s_k S) ad := gT.kp fm1 gF (by decide) (fun f _ q => by cases q) (fun q => by cases q) (gT.lk fm1 (fun q => by cases q) (fun q => by cases q) (by decide)) (fun _ _ => rfl)
    have k351 : h_K σ1 (c + 35) = 6 := cF1.2.1 (35, 6) (by decide)
    refine r_aload_n rfl rfl ?_
    refine r_callV (As := []) rfl (by decide) rfl k351 rfl rfl (Nat.le_of_ble_eq_true rfl) ⟨Nat.le_of_ble_eq_true rfl, Nat.le_of_ble_eq_true rfl⟩ (c_lineUp hS cF1 cT1 cC1) (kc' := 0) (ks' := 0) (by omega) (by omega) (by decide) ?_
    rintro r σ2 ⟨rfl, a1, a2, a3⟩
    have farX : ∀ z, z < s_n S → c + 45 ≤ ad z := fun z hz => (gT.2.2.2 z hz).2.1
    have fm2 : Fm ow [521] [520] [4, 5] σ1 σ2 := a1.fm (fun b hb => by
      rcases hb with rfl | ⟨z, hz, rfl⟩
      · rw [o36]; decide
      · rw [(gT.2.2.2 z hz).2.2.2.2.2.2.2.2.2.2.2.2.2.1 1 (by omega) (by omega)]; decide)
    have fm02 : Fm ow nuI2 nuP2 [4, 5] σ σ2 := (fm1.wide (by decide) (fun f q => by cases q) (fun f q => by cases q)).tr (fm2.wide (by decide) (by decide) (by decide))
    have cF2 : CF ow σ2 c := cF1.kp fm2 (by decide) (by decide) (by decide) (by decide) (fun _ _ => rfl)
    have cC2 : CT σ2 (s_n S) (s_T S) ad := cC1.kp fm2 cF1 cT1 hW.w0 (by decide) (by decide)
    have lnA : ∀ a cap xs, (∀ z, z < s_n S → a ≠ ad z) → a + 1 ≠ c + 36 → Ln σ1 a cap xs → Ln σ2 a cap xs := fun a cap xs h1 h2 q => a1.ln (by decide) (by decide) (fun w => by
      rcases w with w | ⟨z, hz, w⟩
      · exact h2 w
      · exact h1 z hz (by omega)) q
    have cT2 : TC ow σ2 c (s_n S) (s_k S) ad := by
      refine cT1.kp fm2 cF1 (by decide) (by decide) (by decide) (fun z hz => ?_) (fun _ _ => rfl)
      have hfz := farX z hz
      have hno : ∀ j, 1 ≤ j → j < 8 → ∀ w, w < s_n S → ad z + j ≠ ad w := by
        intro j j1 j2 w hw e
        by_cases e2 : z = w
        · rw [e2] at e; omega
        · have := gT.2.2.1 z w hz hw e2; omega
      exact ⟨fun cap ⟨ys, hys⟩ => ⟨ys, lnA _ _ _ (hno 2 (by omega) (by omega)) (by omega) hys⟩, fun cap ⟨ys, hys⟩ => ⟨ys, lnA _ _ _ (hno 4 (by omega) (by omega)) (by omega) hys⟩, fun cap ⟨ys, hys⟩ => ⟨ys, lnA _ _ _ (hno 6 (by omega) (by omega)) (by omega) hys⟩⟩
    have k352 : h_K σ2 (c + 35) = 6 := cF2.2.1 (35, 6) (by decide)
    have k362 : h_K σ2 (c + 36) = 21 := cF2.2.1 (36, 21) (by decide)
    have l362 : h_L σ2 (c + 36) = 6 := cF2.2.2.2.1 (36, 6) (by decide)
    have p3222 : h_P σ2 322 (c + 35) = some (c + 36) := cF2.2.2.1 (322, 35, 36) (by decide)
    have p3212 : h_P σ2 321 (c + 35) = some (c + 4) := cF2.2.2.1 (321, 35, 4) (by decide)
    have hrk := c_rankKids (l := l) (D := D) (c := c) (p := 120) cC2.cs hW (Or.inr rfl) (fun z hz => (cT2.2.2.2 z hz).2.2.2.2.1) (fun z hz => hS.2.1 z hz) k352 p3222 k362 l362
    rw [h120] at hrk
    refine r_aload_n rfl rfl ?_
    refine r_aload_n rfl rfl ?_
    (first | refine r_getPv rfl (by first | assumption | rfl) rfl (by assumption) ?_ | refine r_getP rfl (by first | assumption | rfl) rfl ?_)
    refine r_callV (As := [_]) rfl (by decide) rfl k352 rfl rfl (Nat.le_of_ble_eq_true rfl) ⟨Nat.le_of_ble_eq_true rfl, Nat.le_of_ble_eq_true rfl⟩ (hrk) (kc' := 0) (ks' := 0) (by omega) (by omega) (by decide) ?_
    rintro r σ3 ⟨rfl, b1, b2, b3⟩
    have fm3 : Fm ow [522] [] [5] σ2 σ3 := b1.fm (fun b hb => by rw [hb, o36]; decide)
    have cF3 : CF ow σ3 c := cF2.kp fm3 (by decide) (by decide) (fun q _ w => by cases w) (by decide) (fun _ _ => rfl)
    have cT3 : TC ow σ3 c (s_n S) (s_k S) ad := cT2.kp fm3 cF2 (by decide) (fun f _ q => by cases q) (by decide) (cT2.lk fm3 (by decide) (fun q => by cases q) (by decide)) (fun _ _ => rfl)
    have p520 : ∀ b, h_P σ3 520 b = h_P σ2 520 b := fun b => b1.2.2.2.2.2.1 520 (fun q => by cases q) b
    have hI0 : RnI ow σ σ3 c ad S 0 := by
      refine ⟨fm02.tr (fm3.wide (by decide) (fun f q => by cases q) (by decide)), cT3, ?_, ?_, fun q z hz => ?_, fun p j y hp hy => ?_, fun q z hq => (by omega), fun z hz xs hxs => ?_⟩
      · rw [b1.2.2.2.2.1 320 (by decide), a1.2.2.2.2.1 320 (by decide)]; exact i1
      · rw [p520]
        exact Ch.ext (σ := σ2) (fun b hb => ⟨by rw [b1.2.1], p520 b⟩) a2
      · obtain ⟨q1, q2⟩ := a3 q z hz
        have := farX z (ord_at hS hz).2.2.2.1
        exact ⟨by rw [b1.2.2.2.2.1 521 (by decide)]; exact q1, fun k hk => by rw [b1.2.2.2.2.2.2 _ (by omega)]; exact q2 k hk⟩
      · rcases hp with rfl | ⟨q, q1, -⟩
        · exact b2 j y hy
        · omega
      · have hfz := farX z hz
        have hno : ∀ w, w < s_n S → ad z + 6 ≠ ad w := by
          intro w hw e
          by_cases e2 : z = w
          · rw [e2] at e; omega
          · have := gT.2.2.1 z w hz hw e2; omega
        have l1 : Ln σ1 (ad z + 6) 40 xs := by
          have ht14 := (gT.2.2.2 z hz).2.2.2.2.2.2.2.2.2.2.2.2.2.1
          have hz3 := (gT.2.2.2 z hz).2.2.1
          exact hxs.kp fm1 (by omega) (fun q => by cases q) (fun q => by cases q) (fun q => by cases q) (by decide)
        exact b1.ln (by decide) (fun w => by cases w) (by show ¬ ad z + 6 + 1 = c + 36; omega) (lnA _ _ _ hno (by omega) l1)
    have loop : ∀ (d m : Nat) (τ : Hp), m + d = (ordT (s_T S)).length → RnI ow σ τ c ad S m → Gm l D m_Numbering_renew 0 0 Q 33 [some (va_rf (some (c + 35))), some (va_rf (((ordT (s_T S))[m]?).map ad))] [] τ 0 0 := by
      intro d
      induction d with
      | zero =>
        intro m τ hm hI
        rw [List.getElem?_eq_none (by omega)]
        refine r_aload_n rfl rfl ?_
        refine r_ifnull rfl (fun _ => ?_) (fun _ hq => by cases hq)
        refine r_vret rfl rfl ?_
        obtain ⟨j1, j2, j3, j4, j5, j6, j7, j8⟩ := hI
        rw [← hQ]
        refine ⟨rfl, g.num j1 j2 j3 ⟨j4, fun i x hx => ?_⟩, j1, j8⟩
        have hlt := getE_lt hx
        obtain ⟨q1, q2, q3, q4⟩ := j7 i x (by omega) hx
        exact ⟨(j5 i x hx).1, q1, q2, q3, q4⟩
      | succ d ih =>
        intro m τ hm hI
        obtain ⟨x, hx⟩ : ∃ x, (ordT (s_T S))[m]? = some x := ⟨_, List.getElem?_eq_getElem (by omega)⟩
        rw [hx]
        refine r_aload_n rfl rfl ?_
        refine r_ifnull rfl (fun hq => by cases hq) (fun _ _ => ?_)
        exact rn_step g hx hI (fun ρ hρ => ih (m + 1) ρ (by omega) hρ)
    have k353 : h_K σ3 (c + 35) = 6 := cF3.2.1 (35, 6) (by decide)
    have k43 : h_K σ3 (c + 4) = 9 := cF3.2.1 (4, 9) (by decide)
    have p3213 : h_P σ3 321 (c + 35) = some (c + 4) := cF3.2.2.1 (321, 35, 4) (by decide)
    have p5203 : h_P σ3 520 (c + 4) = ((ordT (s_T S))[0]?).map ad := (ch_at hI0.2.2.2.1).1
    refine r_aload_n rfl rfl ?_
    (first | refine r_getPv rfl (by first | assumption | rfl) rfl (by assumption) ?_ | refine r_getP rfl (by first | assumption | rfl) rfl ?_)
    (first | refine r_getPv rfl (by first | assumption | rfl) rfl (by assumption) ?_ | refine r_getP rfl (by first | assumption | rfl) rfl ?_)
    refine r_astore_n rfl (by decide) ?_
    exact loop (ordT (s_T S)).length 0 σ3 (by omega) hI0
  · refine r_aload_n rfl rfl ?_
    (first | refine r_getIv rfl (by first | assumption | rfl) rfl (by assumption) ?_ | refine r_getI rfl (by first | assumption | rfl) rfl ?_)
    refine r_if_ne rfl (fun q => absurd rfl q) (fun _ => ?_)
    refine r_vret rfl rfl ?_
    rw [← hQ]
    exact ⟨rfl, ⟨g, i320, hcn⟩, Fm.rf _ _ _ _ _, fun _ _ _ h => h⟩
end RN
