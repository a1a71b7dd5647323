/-! ===== the class: its two sides' frames; end, feed, finding ===== -/
abbrev cAI : List Nat := [0, 3, 129, 130, 131, 193, 256, 258, 261, 320, 387, 388, 389, 390, 449, 512, 513, 519, 521, 522, 523, 529, 579, 644, 646, 649]
abbrev cAP : List Nat := [1, 2, 4, 64, 65, 128, 192, 257, 259, 260, 321, 322, 384, 385, 386, 448, 514, 515, 516, 517, 518, 520, 524, 525, 526, 527, 528, 576, 577, 578, 640, 641, 642, 643, 645, 647, 648, 650, 651]
abbrev cAR : List Nat := [1, 2, 3, 4, 5, 7, 8, 9, 10, 11]
/-- what the class may change -/
def CFm (ow ow' : Nat → Nat) (σ τ : Hp) : Prop := Fm ow cAI cAP cAR σ τ ∧ ∀ a, a < h_z σ → ow' a = ow a
section AB
variable {ow : Nat → Nat} {σ τ : Hp} {o c B : Nat} {ad : Nat → Nat} {S : Sp}
theorem RM.cl (hr : ∀ j, j < 40 → h_X τ (o + 1 + j) = h_X σ (o + 1 + j)) (hi : ∀ f, 704 ≤ f → h_I τ f o = h_I σ f o) (hM : ML τ o) (g : RM σ o S) : RM τ o S := by
  obtain ⟨g1, g2, g3, g4, g5, g6, g7, g8, g9, g10⟩ := g
  refine ⟨hM, g2, ?_, fun k hk => ?_, ?_, ⟨?_, ?_⟩, ?_, ?_, ⟨?_, fun e d hd => ?_⟩, ?_⟩
  · unfold Tp at g3 ⊢
    rw [hr 0 (by decide), hi 705 (by decide)]
    exact g3
  · have := g4 k hk
    unfold Wd at this ⊢
    rw [hr 1 (by decide), hr 2 (by decide)]
    exact this
  · unfold RF at g5 ⊢
    rw [hr 3 (by decide), hr 4 (by decide), hr 5 (by decide)]
    exact g5
  · have := g6.1
    unfold RT at this ⊢
    rw [hr 6 (by decide), hr 7 (by decide), hr 8 (by decide), hr 9 (by decide), hi 711 (by decide)]
    exact this
  · have := g6.2
    unfold RL at this ⊢
    rw [hr 10 (by decide), hr 11 (by decide), hr 12 (by decide), hr 13 (by decide), hi 716 (by decide)]
    exact this
  · unfold RU mkD Tx at g7 ⊢
    rw [hr 14 (by decide), hr 15 (by decide), hr 16 (by decide), hr 17 (by decide), hr 18 (by decide), hr 19 (by decide), hr 20 (by decide), hr 21 (by decide), hi 721 (by decide), hi 724 (by decide)]
    exact g7
  · unfold RMe at g8 ⊢
    rw [hr 24 (by decide), hr 25 (by decide), hr 26 (by decide), hr 27 (by decide), hr 28 (by decide), hr 29 (by decide), hi 733 (by decide)]
    exact g8
  · rw [hi 744 (by decide)]
    exact g9.1
  · have := g9.2 e d hd
    unfold RE1 at this ⊢
    rw [hr 32 (by decide), hr 33 (by decide), hr 34 (by decide)]
    exact this
  · unfold RFi at g10 ⊢
    rw [hr 35 (by decide), hr 36 (by decide), hr 37 (by decide), hr 38 (by decide), hr 39 (by decide), hi 748 (by decide)]
    exact g10
/-- the class leaves the reference alone -/
theorem RM.cm {ow' : Nat → Nat} (h : CFm ow ow' σ τ) (hz : o + 41 ≤ h_z σ) (h0 : ∀ j, j < 40 → ow (o + 1 + j) = 0) (g : RM σ o S) : RM τ o S := by
  have hm := g.1
  refine RM.cl (fun j hj => ((h.1.2 (o + 1 + j) (by omega)).2.2.2.2 (by rw [h0 j hj]; decide)).1) (fun f hf => (h.1.2 o (by omega)).2.2.1 f (fun q => ?_) (fun e => by omega)) ⟨?_, fun j hj => ?_⟩ g
  · simp only [List.mem_cons, List.not_mem_nil, or_false] at q
    omega
  · rw [(h.1.2 o (by omega)).1]
    exact hm.1
  · have hf : 704 ≤ mF j := by
      have : ∀ j, j < 40 → 704 ≤ mF j := by decide
      exact this j hj
    rw [(h.1.2 o (by omega)).2.2.2.1 (mF j) (fun q => by simp only [List.mem_cons, List.not_mem_nil, or_false] at q; omega), (h.1.2 (o + 1 + j) (by omega)).1, (h.1.2 (o + 1 + j) (by omega)).2.1]
    exact hm.2 j hj
theorem LnK.kp {FI FP RS : List Nat} {a : Nat} (h : Fm ow FI FP RS σ τ) (ha : a + 1 < h_z σ) (h1 : ow a ∉ RS) (h2 : ow (a + 1) ∉ RS) (h3 : 192 ∉ FP) (h4 : 193 ∉ FI) : LnK σ τ a := fun _ ⟨xs, hx⟩ => ⟨xs, hx.kp h ha h1 h2 h3 h4⟩
theorem TC.lk {FI FP RS : List Nat} {n : Nat} {kd : Nat → Nat} (h : Fm ow FI FP RS σ τ) (g : TC ow σ c n kd ad) (h4 : 4 ∉ RS) (h5 : 192 ∉ FP) (h6 : 193 ∉ FI) : ∀ x, x < n → LnK σ τ (ad x + 2) ∧ LnK σ τ (ad x + 4) ∧ LnK σ τ (ad x + 6) := by
  intro x hx
  obtain ⟨-, -, k3, -, -, -, -, -, -, -, -, -, -, k14, -⟩ := g.2.2.2 x hx
  refine ⟨LnK.kp h (by omega) ?_ ?_ h5 h6, LnK.kp h (by omega) ?_ ?_ h5 h6, LnK.kp h (by omega) ?_ ?_ h5 h6⟩
  · rw [k14 2 (by omega) (by omega)]; exact h4
  · rw [show ad x + 2 + 1 = ad x + 3 by omega, k14 3 (by omega) (by omega)]; exact h4
  · rw [k14 4 (by omega) (by omega)]; exact h4
  · rw [show ad x + 4 + 1 = ad x + 5 by omega, k14 5 (by omega) (by omega)]; exact h4
  · rw [k14 6 (by omega) (by omega)]; exact h4
  · rw [show ad x + 6 + 1 = ad x + 7 by omega, k14 7 (by omega) (by omega)]; exact h4
theorem CF.tag {q : Nat × Nat} (h : CF ow σ c) (hq : q ∈ cfO) : ow (c + q.1) = q.2 := h.2.2.2.2.1 q hq
/-- a change that touches none of the class's cells but tape and scratch -/
theorem RC.kp12 {FI : List Nat} {t : List Int32} (g : RC ow σ c ad B S) (h : Fm ow FI [] [0, 1, 2] σ τ) (hF : ∀ f ∈ FI, 704 ≤ f) (ht : Ln τ (c + 1) 600 t) (hs : ∃ xs, Ln τ (c + 43) 539 xs) (hl : t.length ≤ 600) : RC ow τ c ad B (sT S t) := by
  obtain ⟨g1, g2, g3, g4, g5, g6, g7, g8, g9, g10, g11, g12, g13⟩ := g
  have nf : ∀ f, f < 704 → f ∉ FI := fun f hf q => by have := hF f q; omega
  have z0 := g2.1
  have t0 : TC ow τ c (s_n S) (s_k S) ad := g3.kp h g2 (fun f hf => nf f (by simp only [List.mem_cons, List.not_mem_nil, or_false] at hf; omega)) (fun f _ q => by cases q) (by decide) (g3.lk h (by decide) (fun q => by cases q) (nf 193 (by decide))) (fun _ _ => rfl)
  refine ⟨g1.t hl, g2.kp h (nf _ (by decide)) (nf _ (by decide)) (fun q _ w => by cases w) (by decide) (fun _ _ => rfl), t0, g4.kp h g2 g3 g1.wf.w0 (nf _ (by decide)) (fun f _ q => by cases q), ht, hs, g7.kp h g2 (fun f hf => nf f (by simp only [List.mem_cons, List.not_mem_nil, or_false] at hf; omega)) (fun q => by cases q) (by decide) rfl rfl, ?_, g9.kp h g2 (fun f hf => nf f (by simp only [List.mem_cons, List.not_mem_nil, or_false] at hf; omega)) (fun f _ q => by cases q) (by decide), g10.kp h g2 (fun f hf => nf f (by simp only [List.mem_cons, List.not_mem_nil, or_false] at hf; omega)) (fun f _ q => by cases q) (by decide) (by decide) (fun _ _ => rfl) rfl (fun _ _ _ => rfl), g11.kp h g2 (fun f hf => nf f (by simp only [List.mem_cons, List.not_mem_nil, or_false] at hf; omega)) (fun f _ q => by cases q) (by decide) (by decide) (fun _ _ => rfl) rfl, g12.kp h g2 (nf _ (by decide)) (by decide) rfl, g13.kp h g2 g3 (fun f hf => nf f (by simp only [List.mem_cons, List.not_mem_nil, or_false] at hf; omega))⟩
  rw [(h.2 (c + 35) (by omega)).2.2.1 320 (nf 320 (by decide)) (fun e => by cases e)]
  rcases g8 with g8 | ⟨g8, g8'⟩
  · exact Or.inl g8
  · have hcn : CN τ c ad S := CN.kp h g2 g1 g3 (fun x hx => g4.1 x (Or.inl hx)) (fun f hf => nf f (by simp only [List.mem_cons, List.not_mem_nil, or_false] at hf; omega)) (fun f _ q => by cases q) (by decide) g8'
    exact Or.inr ⟨g8, hcn⟩
/-- the reference leaves the class alone -/
theorem RC.ref (g : RC ow σ c ad B S) (h : MFr mAR mAI σ τ o) (h0 : ∀ j, j < 40 → ow (o + 1 + j) = 0) : RC ow τ c ad B S := by
  have hf : Fm ow mAI [] [0] σ τ := h.fm (fun j hj => h0 j (by simp only [List.mem_cons, List.not_mem_nil, or_false] at hj; omega)) (by decide)
  have g2 := g.2.1
  have z0 := g2.1
  have o1 : ow (c + 1) = 1 := g2.tag (q := (1, 1)) (by decide)
  have o2 : ow (c + 2) = 1 := g2.tag (q := (2, 1)) (by decide)
  have o43 : ow (c + 43) = 2 := g2.tag (q := (43, 2)) (by decide)
  have o44 : ow (c + 44) = 2 := g2.tag (q := (44, 2)) (by decide)
  have g5 := g.2.2.2.2.1
  obtain ⟨xs, g6⟩ := g.2.2.2.2.2.1
  have := RC.kp12 g (hf.wide (fun f hf => hf) (fun f hf => hf) (by decide)) (by decide) (g5.kp hf (by omega) (by rw [o1]; decide) (by rw [show c + 1 + 1 = c + 2 by omega, o2]; decide) (by decide) (by decide)) ⟨xs, g6.kp hf (by omega) (by rw [o43]; decide) (by rw [show c + 43 + 1 = c + 44 by omega, o44]; decide) (by decide) (by decide)⟩ g.1.2.2.2.2.2.2.1
  exact this
theorem RC.more {B' : Nat} (g : RC ow σ c ad B S) (h : B ≤ B') : RC ow σ c ad B' S := by
  obtain ⟨g1, g2, g3, g4, g5, g6, g7, g8, g9, g10, g11, g12, s, s1, s2, s3⟩ := g
  exact ⟨g1, g2, g3, g4, g5, g6, g7, g8, g9, g10, g11, g12, s, s1, by omega, s3⟩
theorem CFm.rf (ow : Nat → Nat) (σ : Hp) : CFm ow ow σ σ := ⟨Fm.rf _ _ _ _ _, fun _ _ => rfl⟩
end AB
section NK
variable {l : Launch} {D : DD} {σ : Hp} {c B : Nat} {ow ad : Nat → Nat} {S : Sp}
theorem RC.tape (g : RC ow σ c ad B S) : h_K σ c = 11 ∧ h_P σ 640 c = some (c + 1) ∧ ow (c + 1) = 1 ∧ ow (c + 1 + 1) = 1 ∧ Ln σ (c + 1) 600 (s_t S) ∧ (s_t S).length ≤ 600 :=
  ⟨g.2.1.2.1 (0, 11) (by decide), g.2.1.2.2.1 (640, 0, 1) (by decide), g.2.1.tag (q := (1, 1)) (by decide), g.2.1.tag (q := (2, 1)) (by decide), g.2.2.2.2.1, g.1.2.2.2.2.2.2.1⟩
theorem RC.tapeTo {τ : Hp} {t : List Int32} (g : RC ow σ c ad B S) (h : LF σ τ (c + 1)) (ht : Ln τ (c + 1) 600 t) (hl : t.length ≤ 600) : RC ow τ c ad B (sT S t) ∧ CFm ow ow σ τ := by
  obtain ⟨-, -, o1, o2, -, -⟩ := g.tape
  have hf : Fm ow [] [] [1] σ τ := Fm.L h (by rw [o1]; decide) (by rw [o2]; decide)
  obtain ⟨xs, g6⟩ := g.2.2.2.2.2.1
  exact ⟨g.kp12 (FI := []) (hf.wide (by decide) (by decide) (by decide)) (fun f q => by cases q) ht ⟨xs, h.keep (by omega) g6⟩ hl, hf.wide (fun f q => by cases q) (fun f q => by cases q) (by decide), fun _ _ => rfl⟩
theorem c_NK_end {n : Int32} (g : RC ow σ c ad B S) : Cn l D m_NK_end 0 0 [va_rf (some c), .int n] σ (fun r τ => r = some (.int (a_end S n).1) ∧ ∃ ow' ad', RC ow' τ c ad' (B + 200) (a_end S n).2 ∧ CFm ow ow' σ τ) := by
  obtain ⟨k0, p0, o1, o2, ln, hl⟩ := g.tape
  have k1 := ln.1
  have i1 := ln.2.2.1
  generalize hQ : (fun (r : Option Value) (τ : Hp) => r = some (.int (a_end S n).1) ∧ ∃ ow' ad', RC ow' τ c ad' (B + 200) (a_end S n).2 ∧ CFm ow ow' σ τ) = Q
  refine Cn.of (by decide) (by repeat (first | exact ca_0 | refine ca_i ?_ | refine ca_r ?_)) (Nat.le_of_ble_eq_true rfl) ?_
  have no : (n < 0 ∨ nI (s_t S).length < n) → Gm l D m_NK_end 0 0 Q 15 [some (va_rf (some c)), some (.int n)] [] σ 0 0 := by
    intro hq
    refine r_iconst (v := -1) rfl (by decide) ?_
    refine r_iret rfl rfl ?_
    rw [← hQ]
    unfold a_end
    rw [if_pos hq]
    exact ⟨rfl, ow, ad, g.more (by omega), CFm.rf _ _⟩
  refine r_iload_n rfl rfl ?_
  refine r_if_lt rfl (fun hlt => no (Or.inl hlt)) (fun hge => ?_)
  refine r_iload_n rfl rfl ?_
  refine r_aload_n rfl rfl ?_
  (first | refine r_getPv rfl (by first | assumption | rfl) rfl (by assumption) ?_ | refine r_getP rfl (by first | assumption | rfl) rfl ?_)
  (first | refine r_getIv rfl (by first | assumption | rfl) rfl (by assumption) ?_ | refine r_getI rfl (by first | assumption | rfl) rfl ?_)
  refine r_icmp_le rfl (fun hle => ?_) (fun hgt => no (Or.inr (Int32.not_le.mp hgt)))
  obtain ⟨j, hj, rfl⟩ := nI_of hge
  have hjl := (nI_leI hj (by omega)).mp hle
  refine r_aload_n rfl rfl ?_
  (first | refine r_getPv rfl (by first | assumption | rfl) rfl (by assumption) ?_ | refine r_getP rfl (by first | assumption | rfl) rfl ?_)
  refine r_iload_n rfl rfl ?_
  refine r_putI rfl (by first | assumption | rfl) rfl (by first | exact Or.inl rfl | exact Or.inr ⟨rfl, rfl⟩) (by first | rfl | decide | assumption) (by first | rfl | decide) ?_
  obtain ⟨l1, l2⟩ := ln.cut j hjl
  refine r_iload_n rfl rfl ?_
  refine r_iret rfl rfl ?_
  rw [← hQ]
  unfold a_end
  rw [if_neg (fun q => q.elim (nI_pos hj) (fun w => absurd hle (Int32.not_le.mpr w))), nI_clamp hj]
  obtain ⟨r1, r2⟩ := g.tapeTo l2 l1 (by rw [List.length_take]; omega)
  exact ⟨rfl, ow, ad, r1.more (by omega), r2⟩
theorem sh_bits (x : BitVec 32) (k : Nat) (hk : k + 8 ≤ 32) : (x >>> k).signExtend 8 = (x.sshiftRight k).signExtend 8 := by
  apply BitVec.eq_of_getLsbD_eq
  intro i hi
  rw [BitVec.getLsbD_signExtend, BitVec.getLsbD_signExtend, BitVec.getLsbD_ushiftRight, BitVec.getLsbD_sshiftRight, if_pos (show i < 32 by omega), if_pos (show i < 32 by omega), if_pos (show k + i < 32 by omega), decide_eq_false (show ¬ 32 ≤ i by omega)]
  rfl
theorem sh_b8 (v : Int32) : b8 (v.toUInt32 >>> ((nI 24).toUInt32 &&& Int32.toUInt32 31)).toInt32 = b8 (v >>> (nI 24 &&& 31)) ∧ b8 (v.toUInt32 >>> ((nI 16).toUInt32 &&& Int32.toUInt32 31)).toInt32 = b8 (v >>> (nI 16 &&& 31)) ∧ b8 (v.toUInt32 >>> ((nI 8).toUInt32 &&& Int32.toUInt32 31)).toInt32 = b8 (v >>> (nI 8 &&& 31)) ∧ b8 v = b8 (v >>> (nI 0 &&& 31)) := by
  refine ⟨?_, ?_, ?_, ?_⟩
  · unfold b8
    congr 1
    exact Int8.toBitVec_inj.mp (sh_bits v.toBitVec 24 (by decide))
  · unfold b8
    congr 1
    exact Int8.toBitVec_inj.mp (sh_bits v.toBitVec 16 (by decide))
  · unfold b8
    congr 1
    exact Int8.toBitVec_inj.mp (sh_bits v.toBitVec 8 (by decide))
  · unfold b8
    congr 1
    exact Int8.toBitVec_inj.mp (sh_bits v.toBitVec 0 (by decide))
theorem c_NK_feed {a b d e f : Int32} (g : RC ow σ c ad B S) : Cn l D m_NK_feed 0 0 [va_rf (some c), .int a, .int b, .int d, .int e, .int f] σ (fun r τ => r = some (.int (a_feed S a b d e f).1) ∧ ∃ ow' ad', RC ow' τ c ad' (B + 200) (a_feed S a b d e f).2 ∧ CFm ow ow' σ τ) := by
  obtain ⟨k0, p0, o1, o2, ln, hl⟩ := g.tape
  have bt : ∀ v : Int32, [b8 (v.toUInt32 >>> ((nI 24).toUInt32 &&& Int32.toUInt32 31)).toInt32, b8 (v.toUInt32 >>> ((nI 16).toUInt32 &&& Int32.toUInt32 31)).toInt32, b8 (v.toUInt32 >>> ((nI 8).toUInt32 &&& Int32.toUInt32 31)).toInt32, b8 v] = bt4 v := by
    intro v
    unfold bt4
    rw [(sh_b8 v).1, (sh_b8 v).2.1, (sh_b8 v).2.2.1, ← (sh_b8 v).2.2.2]
  have b4 : ∀ v : Int32, (bt4 v).length = 4 := fun v => rfl
  have k1 := ln.1
  have i1 := ln.2.2.1
  refine Cn.of (by decide) (by repeat (first | exact ca_0 | refine ca_i ?_ | refine ca_r ?_)) (Nat.le_of_ble_eq_true rfl) ?_
  refine r_aload_n rfl rfl ?_
  (first | refine r_getPv rfl (by first | assumption | rfl) rfl (by assumption) ?_ | refine r_getP rfl (by first | assumption | rfl) rfl ?_)
  (first | refine r_getIv rfl (by first | assumption | rfl) rfl (by assumption) ?_ | refine r_getI rfl (by first | assumption | rfl) rfl ?_)
  refine r_bipush (v := nI 20) rfl (by decide) ?_
  (first | refine r_iaddN rfl ?_ | refine r_iadd rfl ?_)
  refine r_sipush (v := nI 600) rfl (by decide) ?_
  refine r_leN rfl (by omega) (by omega) (fun hle => ?_) (fun hgt => ?_)
  · have keepK : ∀ {τ : Hp}, LF σ τ (c + 1) → h_K τ c = 11 ∧ h_P τ 640 c = some (c + 1) := fun hf => ⟨by rw [hf.2.1]; exact k0, by rw [hf.2.2.1]; exact p0⟩
    refine r_aload_n rfl rfl ?_
    (first | refine r_getPv rfl (by first | assumption | rfl) rfl (by assumption) ?_ | refine r_getP rfl (by first | assumption | rfl) rfl ?_)
    refine r_iload_n rfl rfl ?_
    refine r_callV (As := [_]) rfl (by decide) rfl ln.1 rfl rfl (Nat.le_of_ble_eq_true rfl) ⟨Nat.le_of_ble_eq_true rfl, Nat.le_of_ble_eq_true rfl⟩ (c_putFour ln (by omega)) (kc' := 0) (ks' := 0) (by omega) (by omega) (by decide) ?_
    rintro r τ1 ⟨rfl, l1, f1⟩
    rw [bt] at l1
    obtain ⟨q1, q2⟩ := keepK f1
    refine r_aload_n rfl rfl ?_
    (first | refine r_getPv rfl (by first | assumption | rfl) rfl (by assumption) ?_ | refine r_getP rfl (by first | assumption | rfl) rfl ?_)
    refine r_iload_n rfl rfl ?_
    refine r_callV (As := [_]) rfl (by decide) rfl l1.1 rfl rfl (Nat.le_of_ble_eq_true rfl) ⟨Nat.le_of_ble_eq_true rfl, Nat.le_of_ble_eq_true rfl⟩ (c_putFour l1 (by rw [List.length_append, b4]; omega)) (kc' := 0) (ks' := 0) (by omega) (by omega) (by decide) ?_
    rintro r τ2 ⟨rfl, l2, f2⟩
    rw [bt] at l2
    have f2 := f1.tr f2
    obtain ⟨q3, q4⟩ := keepK f2
    refine r_aload_n rfl rfl ?_
    (first | refine r_getPv rfl (by first | assumption | rfl) rfl (by assumption) ?_ | refine r_getP rfl (by first | assumption | rfl) rfl ?_)
    refine r_iload_n rfl rfl ?_
    refine r_callV (As := [_]) rfl (by decide) rfl l2.1 rfl rfl (Nat.le_of_ble_eq_true rfl) ⟨Nat.le_of_ble_eq_true rfl, Nat.le_of_ble_eq_true rfl⟩ (c_putFour l2 (by rw [List.length_append, List.length_append, b4, b4]; omega)) (kc' := 0) (ks' := 0) (by omega) (by omega) (by decide) ?_
    rintro r τ3 ⟨rfl, l3, f3⟩
    rw [bt] at l3
    have f3 := f2.tr f3
    obtain ⟨q5, q6⟩ := keepK f3
    refine r_aload_n rfl rfl ?_
    (first | refine r_getPv rfl (by first | assumption | rfl) rfl (by assumption) ?_ | refine r_getP rfl (by first | assumption | rfl) rfl ?_)
    refine r_iload rfl rfl ?_
    refine r_callV (As := [_]) rfl (by decide) rfl l3.1 rfl rfl (Nat.le_of_ble_eq_true rfl) ⟨Nat.le_of_ble_eq_true rfl, Nat.le_of_ble_eq_true rfl⟩ (c_putFour l3 (by rw [List.length_append, List.length_append, List.length_append, b4, b4, b4]; omega)) (kc' := 0) (ks' := 0) (by omega) (by omega) (by decide) ?_
    rintro r τ4 ⟨rfl, l4, f4⟩
    rw [bt] at l4
    have f4 := f3.tr f4
    obtain ⟨q7, q8⟩ := keepK f4
    refine r_aload_n rfl rfl ?_
    (first | refine r_getPv rfl (by first | assumption | rfl) rfl (by assumption) ?_ | refine r_getP rfl (by first | assumption | rfl) rfl ?_)
    refine r_iload rfl rfl ?_
    refine r_callV (As := [_]) rfl (by decide) rfl l4.1 rfl rfl (Nat.le_of_ble_eq_true rfl) ⟨Nat.le_of_ble_eq_true rfl, Nat.le_of_ble_eq_true rfl⟩ (c_putFour l4 (by rw [List.length_append, List.length_append, List.length_append, List.length_append, b4, b4, b4, b4]; omega)) (kc' := 0) (ks' := 0) (by omega) (by omega) (by decide) ?_
    rintro r τ5 ⟨rfl, l5, f5⟩
    rw [bt] at l5
    have f5 := f4.tr f5
    obtain ⟨q9, q10⟩ := keepK f5
    have e5 : s_t S ++ bt4 a ++ bt4 b ++ bt4 d ++ bt4 e ++ bt4 f = s_t S ++ (bt4 a ++ bt4 b ++ bt4 d ++ bt4 e ++ bt4 f) := by simp only [List.append_assoc]
    rw [e5] at l5
    have len5 : (s_t S ++ (bt4 a ++ bt4 b ++ bt4 d ++ bt4 e ++ bt4 f)).length = (s_t S).length + 20 := by
      simp only [List.length_append, b4]
    have k5 := l5.1
    have i5 := l5.2.2.1
    refine r_aload_n rfl rfl ?_
    (first | refine r_getPv rfl (by first | assumption | rfl) rfl (by assumption) ?_ | refine r_getP rfl (by first | assumption | rfl) rfl ?_)
    (first | refine r_getIv rfl (by first | assumption | rfl) rfl (by assumption) ?_ | refine r_getI rfl (by first | assumption | rfl) rfl ?_)
    refine r_iret rfl rfl ?_
    unfold a_feed
    rw [if_neg (by omega)]
    obtain ⟨r1, r2⟩ := g.tapeTo f5 l5 (by omega)
    exact ⟨by rw [len5], ow, ad, r1.more (by omega), r2⟩
  · refine r_bipush (v := -3) rfl (by decide) ?_
    refine r_iret rfl rfl ?_
    unfold a_feed
    rw [if_pos (by omega)]
    exact ⟨rfl, ow, ad, g.more (by omega), CFm.rf _ _⟩
end NK
