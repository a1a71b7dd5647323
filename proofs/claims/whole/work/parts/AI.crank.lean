/-! ===== the class: nearestAbove, rankKids, lineUp ===== -/
/-- nothing new; these fields, and rows where B, may have changed -/
def NuF (FI FP : List Nat) (B : Nat → Prop) (σ τ : Hp) : Prop := h_z τ = h_z σ ∧ h_K τ = h_K σ ∧ h_L τ = h_L σ ∧ h_Y τ = h_Y σ ∧ (∀ f, f ∉ FI → ∀ b, h_I τ f b = h_I σ f b) ∧ (∀ f, f ∉ FP → ∀ b, h_P τ f b = h_P σ f b) ∧ ∀ b, ¬ B b → h_X τ b = h_X σ b
theorem hI_m {f a b : Nat} (σ : Hp) (v : Int32) (h : b ≠ a) : h_I (w_I σ f a v) f b = h_I σ f b := if_neg (fun e => h e.2)
section NU
variable {FI FP : List Nat} {B : Nat → Prop} {σ τ ρ : Hp}
theorem NuF.rf (FI FP : List Nat) (B : Nat → Prop) (σ : Hp) : NuF FI FP B σ σ := ⟨rfl, rfl, rfl, rfl, fun _ _ _ => rfl, fun _ _ _ => rfl, fun _ _ => rfl⟩
theorem NuF.tr (h : NuF FI FP B σ τ) (g : NuF FI FP B τ ρ) : NuF FI FP B σ ρ :=
  ⟨g.1.trans h.1, g.2.1.trans h.2.1, g.2.2.1.trans h.2.2.1, g.2.2.2.1.trans h.2.2.2.1, fun f q b => (g.2.2.2.2.1 f q b).trans (h.2.2.2.2.1 f q b), fun f q b => (g.2.2.2.2.2.1 f q b).trans (h.2.2.2.2.2.1 f q b), fun b q => (g.2.2.2.2.2.2 b q).trans (h.2.2.2.2.2.2 b q)⟩
theorem NuF.I (σ : Hp) {f : Nat} (a : Nat) (v : Int32) (hf : f ∈ FI) : NuF FI FP B σ (w_I σ f a v) := ⟨rfl, rfl, rfl, rfl, fun g q b => hI_n _ _ (fun e => q (e ▸ hf)), fun _ _ _ => rfl, fun _ _ => rfl⟩
theorem NuF.P (σ : Hp) {f : Nat} (a : Nat) (v : Option Nat) (hf : f ∈ FP) : NuF FI FP B σ (w_P σ f a v) := ⟨rfl, rfl, rfl, rfl, fun _ _ _ => rfl, fun g q b => hP_n _ _ (fun e => q (e ▸ hf)), fun _ _ => rfl⟩
theorem NuF.X (σ : Hp) {a : Nat} (g : Nat → Int32) (ha : B a) : NuF FI FP B σ (w_X σ a g) := ⟨rfl, rfl, rfl, rfl, fun _ _ _ => rfl, fun _ _ _ => rfl, fun b q => u1_n _ _ (fun e => q (e ▸ ha))⟩
theorem NuF.fm {ow : Nat → Nat} {RS : List Nat} (h : NuF FI FP B σ τ) (hB : ∀ b, B b → ow b ∈ RS) : Fm ow FI FP RS σ τ :=
  ⟨by rw [h.1]; exact Nat.le_refl _, fun a _ => ⟨by rw [h.2.1], by rw [h.2.2.1], fun f q _ => h.2.2.2.2.1 f q a, fun f q => h.2.2.2.2.2.1 f q a, fun q => ⟨h.2.2.2.2.2.2 a (fun w => q (hB a w)), by rw [h.2.2.2.1]⟩⟩⟩
theorem NuF.wide {FI' FP' : List Nat} {B' : Nat → Prop} (h : NuF FI FP B σ τ) (h1 : ∀ f ∈ FI, f ∈ FI') (h2 : ∀ f ∈ FP, f ∈ FP') (h3 : ∀ b, B b → B' b) : NuF FI' FP' B' σ τ :=
  ⟨h.1, h.2.1, h.2.2.1, h.2.2.2.1, fun f q => h.2.2.2.2.1 f (fun w => q (h1 f w)), fun f q => h.2.2.2.2.2.1 f (fun w => q (h2 f w)), fun b q => h.2.2.2.2.2.2 b (fun w => q (h3 b w))⟩
theorem NuF.ln {a cap : Nat} {xs : List Int32} (h : NuF FI FP B σ τ) (h1 : 193 ∉ FI) (h2 : 192 ∉ FP) (h3 : ¬ B (a + 1)) (g : Ln σ a cap xs) : Ln τ a cap xs := by
  unfold Ln at g ⊢
  rw [h.2.1, h.2.2.1, h.2.2.2.2.1 193 h1, h.2.2.2.2.2.1 192 h2, h.2.2.2.2.2.2 _ h3]
  exact g
end NU
section NA
variable {l : Launch} {D : DD} {σ : Hp} {n : Nat} {kd : Nat → Nat} {T : Tr} {ad : Nat → Nat}
theorem c_nearestAbove {x f s : Nat} (h : CS σ n T ad) (hW : Wf n kd T) (hx : t_h T x = true) (hk : ∀ z, z < n → h_I σ 513 (ad z) = nI (kd z)) (hkd : ∀ z, z < n → kd z < 2 ^ 31) (h120 : h_I σ 513 (ad 120) = -1) (p514 : h_P σ 514 (ad x) = some f) (kf : h_K σ f = 3) (i129 : h_I σ 129 f = nI s) (hs : s < 8) : Cn l D m_Numbering_nearestAbove 0 0 [va_rf (some (ad x))] σ (fun r τ => r = some (va_rf ((if s < 2 then none else abT T kd (s - 2) x).map ad)) ∧ τ = σ) := by
  have hn := hW.1
  have kx := h.1 x (Or.inl (hW.h_lt hx))
  generalize hQ : (fun (r : Option Value) (τ : Hp) => r = some (va_rf ((if s < 2 then none else abT T kd (s - 2) x).map ad)) ∧ τ = σ) = Q
  refine Cn.of (by decide) (by repeat (first | exact ca_0 | refine ca_i ?_ | refine ca_r ?_)) (Nat.le_of_ble_eq_true rfl) ?_
  refine r_aload_n rfl rfl ?_
  (first | refine r_getPv rfl (by first | assumption | rfl) rfl (by assumption) ?_ | refine r_getP rfl (by first | assumption | rfl) rfl ?_)
  (first | refine r_getIv rfl (by first | assumption | rfl) rfl (by assumption) ?_ | refine r_getI rfl (by first | assumption | rfl) rfl ?_)
  refine r_iconst (v := nI 2) rfl (by decide) ?_
  by_cases hs2 : s < 2
  · refine r_isub rfl ?_
    refine r_istore_n rfl (by decide) ?_
    refine r_iload_n rfl rfl ?_
    refine r_if_ge rfl (fun q => ?_) (fun _ => ?_)
    · have hc : s = 0 ∨ s = 1 := by omega
      rcases hc with rfl | rfl
      · exact absurd q (by decide)
      · exact absurd q (by decide)
    refine r_null rfl ?_
    refine r_aret rfl rfl ?_
    rw [← hQ]
    refine ⟨?_, rfl⟩
    rw [if_pos hs2]
    rfl
  · refine r_isubN rfl (by omega) ?_
    refine r_istore_n rfl (by decide) ?_
    refine r_iload_n rfl rfl ?_
    refine r_if_ge rfl (fun _ => ?_) (fun q => absurd (nI_pos' (show s - 2 < 2 ^ 31 by omega)) q)
    obtain ⟨p, lp, hp, -⟩ := hW.h_par hx
    have ux := h.2.2.2.1 p x (hW.tn lp) hp
    have loop : ∀ (f z : Nat), (upl T f z).length < f → liv T z → (upl T f z).find? (fun p => decide (p ≠ 120) && decide (kd p = s - 2)) = abT T kd (s - 2) x → Gm l D m_Numbering_nearestAbove 0 0 Q 21 [some (va_rf (some (ad x))), some (.int (nI (s - 2))), some (va_rf (some (ad z)))] [] σ 0 0 := by
      intro f
      induction f with
      | zero => intro z hl; omega
      | succ f ih =>
        intro z hl lz hf
        have kz := h.1 z (hW.tn lz)
        rw [upl_s] at hl hf
        refine r_aload_n rfl rfl ?_
        refine r_ifnull rfl (fun hq => by cases hq) (fun _ _ => ?_)
        rcases lz with rfl | hz
        · have u120 : h_P σ 515 (ad 120) = none := h.2.2.2.2
          rw [hW.par_120, List.find?_cons, show (decide ((120 : Nat) ≠ 120) && decide (kd 120 = s - 2)) = false by rw [decide_eq_false (fun w => w rfl)]; rfl] at hf
          have hf : none = abT T kd (s - 2) x := hf
          refine r_aload_n rfl rfl ?_
          (first | refine r_getIv rfl (by first | assumption | rfl) rfl (by assumption) ?_ | refine r_getI rfl (by first | assumption | rfl) rfl ?_)
          refine r_iload_n rfl rfl ?_
          refine r_icmp_ne rfl (fun _ => ?_) (fun q => ?_)
          · refine r_aload_n rfl rfl ?_
            (first | refine r_getPv rfl (by first | assumption | rfl) rfl (by assumption) ?_ | refine r_getP rfl (by first | assumption | rfl) rfl ?_)
            refine r_astore_n rfl (by decide) ?_
            refine r_goto rfl ?_
            refine r_aload_n rfl rfl ?_
            refine r_ifnull rfl (fun _ => ?_) (fun _ hq => by cases hq)
            refine r_null rfl ?_
            refine r_aret rfl rfl ?_
            rw [← hQ]
            refine ⟨?_, rfl⟩
            rw [if_neg hs2, ← hf]
            rfl
          · have := nI_pos (show s - 2 < 2 ^ 31 by omega)
            rw [← q] at this
            exact absurd (by decide) this
        · have hzn := hW.h_lt hz
          have kzk := hk z hzn
          obtain ⟨p', lp', hp', hpar'⟩ := hW.h_par hz
          have uz := h.2.2.2.1 p' z (hW.tn lp') hp'
          rw [hpar'] at hl hf
          rw [List.find?_cons, decide_eq_true (show z ≠ 120 by omega), Bool.true_and] at hf
          have hl : (upl T f p').length + 1 < f + 1 := hl
          refine r_aload_n rfl rfl ?_
          (first | refine r_getIv rfl (by first | assumption | rfl) rfl (by assumption) ?_ | refine r_getI rfl (by first | assumption | rfl) rfl ?_)
          refine r_iload_n rfl rfl ?_
          refine r_neN rfl (hkd z hzn) (by omega) (fun q => ?_) (fun q => ?_)
          · rw [decide_eq_false q] at hf
            have hf : (upl T f p').find? (fun p => decide (p ≠ 120) && decide (kd p = s - 2)) = abT T kd (s - 2) x := hf
            refine r_aload_n rfl rfl ?_
            (first | refine r_getPv rfl (by first | assumption | rfl) rfl (by assumption) ?_ | refine r_getP rfl (by first | assumption | rfl) rfl ?_)
            refine r_astore_n rfl (by decide) ?_
            refine r_goto rfl ?_
            exact ih p' (by omega) lp' hf
          · rw [decide_eq_true q] at hf
            have hf : some z = abT T kd (s - 2) x := hf
            refine r_aload_n rfl rfl ?_
            refine r_aret rfl rfl ?_
            rw [← hQ]
            refine ⟨?_, rfl⟩
            rw [if_neg hs2, ← hf]
            rfl
    refine r_aload_n rfl rfl ?_
    (first | refine r_getPv rfl (by first | assumption | rfl) rfl (by assumption) ?_ | refine r_getP rfl (by first | assumption | rfl) rfl ?_)
    refine r_astore_n rfl (by decide) ?_
    refine loop 200 p (fuel hW (hW.liv_le lp)) lp ?_
    unfold abT
    rw [upl_step hW hp]
    rfl
/-- how many of kind k are in L -/
def kC (kd : Nat → Nat) (k : Nat) (L : List Nat) : Nat := (L.filter (fun z => decide (kd z = k))).length
theorem kC_app (k x : Nat) (L : List Nat) : kC kd k (L ++ [x]) = kC kd k L + (decide (kd x = k)).toNat := by
  unfold kC
  rw [List.filter_append, List.length_append, List.filter_cons]
  cases decide (kd x = k) with
  | true => rfl
  | false => rfl
/-- one more of a kind in the tally: what it has of that kind now -/
theorem c_tallyUp {a b k v : Nat} (ka : h_K σ a = 6) (p322 : h_P σ 322 a = some b) (kb : h_K σ b = 21) (lb : h_L σ b = 6) (hk : k < 6) (hv : h_X σ b k = nI v) : Cn l D m_Numbering_tallyUp 0 0 [va_rf (some a), .int (nI k)] σ (fun r τ => r = some (.int (nI (v + 1))) ∧ τ = w_X σ b (upd (h_X σ b) k (nI (v + 1)))) := by
  generalize hQ : (fun (r : Option Value) (τ : Hp) => r = some (.int (nI (v + 1))) ∧ τ = w_X σ b (upd (h_X σ b) k (nI (v + 1)))) = Q
  refine Cn.of (by decide) (by repeat (first | exact ca_0 | refine ca_i ?_ | refine ca_r ?_)) (Nat.le_of_ble_eq_true rfl) ?_
  refine r_iload_n rfl rfl ?_
  refine r_if_lt rfl (fun q => absurd q (nI_pos (by omega))) (fun _ => ?_)
  refine r_iload_n rfl rfl ?_
  refine r_aload_n rfl rfl ?_
  (first | refine r_getPv rfl (by first | assumption | rfl) rfl (by assumption) ?_ | refine r_getP rfl (by first | assumption | rfl) rfl ?_)
  refine r_alenv rfl (Or.inl ⟨by omega, by omega⟩) lb ?_
  refine r_ltN rfl (by omega) (by decide) (fun _ => ?_) (fun q => absurd hk (by omega))
  refine r_aload_n rfl rfl ?_
  (first | refine r_getPv rfl (by first | assumption | rfl) rfl (by assumption) ?_ | refine r_getP rfl (by first | assumption | rfl) rfl ?_)
  refine r_iload_n rfl rfl ?_
  refine r_dup2 rfl (by first | rfl | exact rf_cat _) (by first | rfl | exact rf_cat _) ?_
  refine r_iald rfl kb rfl (by rw [lb]; exact hk) (by rw [lb]; decide) ?_
  rw [hv]
  refine r_iconst (v := nI 1) rfl (by decide) ?_
  (first | refine r_iaddN rfl ?_ | refine r_iadd rfl ?_)
  refine r_iast rfl kb rfl (by rw [lb]; exact hk) (by rw [lb]; decide) ?_
  generalize hτ : w_X σ b (upd (h_X σ b) k (nI (v + 1))) = τ
  have ka1 : h_K τ a = 6 := by rw [← hτ]; exact ka
  have kb1 : h_K τ b = 21 := by rw [← hτ]; exact kb
  have lb1 : h_L τ b = 6 := by rw [← hτ]; exact lb
  have p1 : h_P τ 322 a = some b := by rw [← hτ]; exact p322
  have hx1 : h_X τ b k = nI (v + 1) := by rw [← hτ, hX_w, upd_s]
  refine r_aload_n rfl rfl ?_
  (first | refine r_getPv rfl (by first | assumption | rfl) rfl (by assumption) ?_ | refine r_getP rfl (by first | assumption | rfl) rfl ?_)
  refine r_iload_n rfl rfl ?_
  refine r_iald rfl kb1 rfl (by rw [lb1]; exact hk) (by rw [lb1]; decide) ?_
  rw [hx1]
  refine r_iret rfl rfl ?_
  rw [← hQ]
  exact ⟨rfl, hτ.symm⟩
/-- what a thing has seen of a kind -/
theorem c_seenOf {a b k v : Nat} (ka : h_K σ a = 9) (p525 : h_P σ 525 a = some b) (kb : h_K σ b = 21) (lb : h_L σ b = 6) (hk : k < 6) (hv : h_X σ b k = nI v) : Cn l D m_Thing_seenOf 0 0 [va_rf (some a), .int (nI k)] σ (fun r τ => r = some (.int (nI v)) ∧ τ = σ) := by
  generalize hQ : (fun (r : Option Value) (τ : Hp) => r = some (.int (nI v)) ∧ τ = σ) = Q
  refine Cn.of (by decide) (by repeat (first | exact ca_0 | refine ca_i ?_ | refine ca_r ?_)) (Nat.le_of_ble_eq_true rfl) ?_
  refine r_iload_n rfl rfl ?_
  refine r_if_lt rfl (fun q => absurd q (nI_pos (by omega))) (fun _ => ?_)
  refine r_iload_n rfl rfl ?_
  refine r_aload_n rfl rfl ?_
  (first | refine r_getPv rfl (by first | assumption | rfl) rfl (by assumption) ?_ | refine r_getP rfl (by first | assumption | rfl) rfl ?_)
  refine r_alenv rfl (Or.inl ⟨by omega, by omega⟩) lb ?_
  refine r_geN rfl (by omega) (by decide) (fun q => absurd hk (by omega)) (fun _ => ?_)
  refine r_aload_n rfl rfl ?_
  (first | refine r_getPv rfl (by first | assumption | rfl) rfl (by assumption) ?_ | refine r_getP rfl (by first | assumption | rfl) rfl ?_)
  refine r_iload_n rfl rfl ?_
  refine r_iald rfl kb rfl (by rw [lb]; exact hk) (by rw [lb]; decide) ?_
  rw [hv]
  refine r_goto rfl ?_
  refine r_iret rfl rfl ?_
  rw [← hQ]
  exact ⟨rfl, rfl⟩
theorem c_rankKids {c p : Nat} (h : CS σ n T ad) (hW : Wf n kd T) (hp : TN n p) (hk : ∀ z, z < n → h_I σ 513 (ad z) = nI (kd z)) (hkd : ∀ z, z < n → kd z < 6) (k35 : h_K σ (c + 35) = 6) (p322 : h_P σ 322 (c + 35) = some (c + 36)) (k36 : h_K σ (c + 36) = 21) (l36 : h_L σ (c + 36) = 6) :
    Cn l D m_Numbering_rankKids 0 0 [va_rf (some (c + 35)), va_rf (some (ad p))] σ (fun r τ => r = none ∧ NuF [522] [] (fun b => b = c + 36) σ τ ∧ (∀ j y, (t_k T p)[j]? = some y → h_I τ 522 (ad y) = nI (kC kd (kd y) ((t_k T p).take (j + 1)))) ∧ ∀ a, (∀ y ∈ t_k T p, a ≠ ad y) → h_I τ 522 a = h_I σ 522 a) := by
  have hn := hW.1
  have kp := h.1 p hp
  have hfst := h.first hp
  generalize hQ : (fun (r : Option Value) (τ : Hp) => r = none ∧ NuF [522] [] (fun b => b = c + 36) σ τ ∧ (∀ j y, (t_k T p)[j]? = some y → h_I τ 522 (ad y) = nI (kC kd (kd y) ((t_k T p).take (j + 1)))) ∧ ∀ a, (∀ y ∈ t_k T p, a ≠ ad y) → h_I τ 522 a = h_I σ 522 a) = Q
  refine Cn.of (by decide) (by repeat (first | exact ca_0 | refine ca_i ?_ | refine ca_r ?_)) (Nat.le_of_ble_eq_true rfl) ?_
  refine r_aload_n rfl rfl ?_
  (first | refine r_getPv rfl (by first | assumption | rfl) rfl (by assumption) ?_ | refine r_getP rfl (by first | assumption | rfl) rfl ?_)
  cases hK : t_k T p with
  | nil =>
    rw [hK] at hfst
    refine r_ifnonnull rfl (fun _ hq => by cases hq) (fun _ => ?_)
    refine r_vret rfl rfl ?_
    rw [← hQ]
    exact ⟨rfl, NuF.rf _ _ _ _, fun j y hj => (by rw [hK] at hj; cases hj), fun _ _ => rfl⟩
  | cons z0 K0 =>
    have hne : t_k T p ≠ [] := by rw [hK]; exact List.cons_ne_nil _ _
    rw [hK] at hfst
    refine r_ifnonnull rfl (fun _ _ => ?_) (fun hq => by cases hq)
    refine r_aload_n rfl rfl ?_
    (first | refine r_getPv rfl (by first | assumption | rfl) rfl (by assumption) ?_ | refine r_getP rfl (by first | assumption | rfl) rfl ?_)
    refine r_iconst (v := nI 0) rfl (by decide) ?_
    refine r_callS (As := [_, _]) rfl (by decide) rfl rfl rfl (Nat.le_of_ble_eq_true rfl) ⟨Nat.le_of_ble_eq_true rfl, Nat.le_of_ble_eq_true rfl⟩ (c_fill k36 (by rw [l36]; decide)) (kc' := 0) (ks' := 0) (by omega) (by omega) ?_
    rintro r σ1 ⟨rfl, hσ1⟩
    have hf1 : NuF [522] [] (fun b => b = c + 36) σ σ1 := by rw [hσ1]; exact NuF.X _ _ rfl
    have hx1 : ∀ k, k < 6 → h_X σ1 (c + 36) k = nI (kC kd k ((t_k T p).take 0)) := by
      intro k hk6
      rw [hσ1, hX_w, l36, if_pos hk6]
      rfl
    have hlen := hW.len p
    have loop : ∀ (d j : Nat) (τ : Hp), j + d = (t_k T p).length → NuF [522] [] (fun b => b = c + 36) σ τ → (∀ k, k < 6 → h_X τ (c + 36) k = nI (kC kd k ((t_k T p).take j))) → (∀ i y, i < j → (t_k T p)[i]? = some y → h_I τ 522 (ad y) = nI (kC kd (kd y) ((t_k T p).take (i + 1)))) → (∀ a, (∀ y ∈ t_k T p, a ≠ ad y) → h_I τ 522 a = h_I σ 522 a) → Gm l D m_Numbering_rankKids 0 0 Q 21 [some (va_rf (some (c + 35))), some (va_rf (some (ad p))), some (va_rf (((t_k T p)[j]?).map ad))] [] τ 0 0 := by
      intro d
      induction d with
      | zero =>
        intro j τ hj hf hx hr hr2
        rw [List.getElem?_eq_none (by omega)]
        refine r_aload_n rfl rfl ?_
        refine r_ifnull rfl (fun _ => ?_) (fun _ hq => by cases hq)
        refine r_vret rfl rfl ?_
        rw [← hQ]
        exact ⟨rfl, hf, fun i y hi => hr i y (by have := getE_lt hi; omega) hi, hr2⟩
      | succ d ih =>
        intro j τ hj hf hx hr hr2
        have hjl : j < (t_k T p).length := by omega
        obtain ⟨y, hy⟩ : ∃ y, (t_k T p)[j]? = some y := ⟨_, List.getElem?_eq_getElem hjl⟩
        have hym := List.mem_of_getElem? hy
        have hyn := hW.k_lt hym
        have hy6 := hkd y hyn
        have hτ : CS τ n T ad := h.kp (fun _ _ => by rw [hf.2.1]) (fun f z _ _ => hf.2.2.2.2.2.1 f (fun q => by cases q) _) (fun z d _ hd => hW.k_lt hd)
        have kyt := hτ.1 y (Or.inl hyn)
        have k35t : h_K τ (c + 35) = 6 := by rw [hf.2.1]; exact k35
        have k36t : h_K τ (c + 36) = 21 := by rw [hf.2.1]; exact k36
        have l36t : h_L τ (c + 36) = 6 := by rw [hf.2.2.1]; exact l36
        have p322t : h_P τ 322 (c + 35) = some (c + 36) := by rw [hf.2.2.2.2.2.1 322 (fun q => by cases q)]; exact p322
        have i513t : h_I τ 513 (ad y) = nI (kd y) := by rw [hf.2.2.2.2.1 513 (by decide)]; exact hk y hyn
        have nxt : h_P τ 517 (ad y) = ((t_k T p)[j + 1]?).map ad := by
          rw [hτ.next hW hp hym, sib_at hW (split_at hy)]
          congr 1
          rw [List.head?_drop]
        rw [hy]
        refine r_aload_n rfl rfl ?_
        refine r_ifnull rfl (fun hq => by cases hq) (fun _ _ => ?_)
        show Gm l D m_Numbering_rankKids 0 0 Q 25 [some (va_rf (some (c + 35))), some (va_rf (some (ad p))), some (va_rf (some (ad y)))] [] τ 0 0
        refine r_aload_n rfl rfl ?_
        refine r_aload_n rfl rfl ?_
        refine r_aload_n rfl rfl ?_
        (first | refine r_getIv rfl (by first | assumption | rfl) rfl (by assumption) ?_ | refine r_getI rfl (by first | assumption | rfl) rfl ?_)
        refine r_callV (As := [_]) rfl (by decide) rfl k35t rfl rfl (Nat.le_of_ble_eq_true rfl) ⟨Nat.le_of_ble_eq_true rfl, Nat.le_of_ble_eq_true rfl⟩ (c_tallyUp k35t p322t k36t l36t hy6 (hx _ hy6)) (kc' := 0) (ks' := 0) (by omega) (by omega) (by decide) ?_
        rintro r τx ⟨rfl, rfl⟩
        generalize hτ1 : w_X τ (c + 36) (upd (h_X τ (c + 36)) (kd y) (nI (kC kd (kd y) ((t_k T p).take j) + 1))) = τ1
        have hf1 : NuF [522] [] (fun b => b = c + 36) τ τ1 := by rw [← hτ1]; exact NuF.X _ _ rfl
        have etk : (t_k T p).take (j + 1) = (t_k T p).take j ++ [y] := by
          have ej : (t_k T p)[j] = y := by rw [List.getElem?_eq_getElem hjl] at hy; exact Option.some.inj hy
          rw [List.take_succ_eq_append_getElem hjl, ej]
        have hx1 : ∀ k, k < 6 → h_X τ1 (c + 36) k = nI (kC kd k ((t_k T p).take (j + 1))) := by
          intro k hk6
          rw [← hτ1, hX_w, etk, kC_app]
          by_cases e : k = kd y
          · rw [e, upd_s, decide_eq_true rfl]; rfl
          · rw [upd_n _ _ e, hx k hk6, decide_eq_false (fun w => e w.symm)]; rfl
        have kyt1 : h_K τ1 (ad y) = 9 := by rw [hf1.2.1]; exact kyt
        have er : nI (kC kd (kd y) ((t_k T p).take j) + 1) = nI (kC kd (kd y) ((t_k T p).take (j + 1))) := by
          rw [etk, kC_app, decide_eq_true rfl]
          rfl
        rw [er]
        refine r_putI rfl (by first | assumption | rfl) rfl (by first | exact Or.inl rfl | exact Or.inr ⟨rfl, rfl⟩) (by first | rfl | decide | assumption) (by first | rfl | decide) ?_
        generalize hτ2 : w_I τ1 522 (ad y) (nI (kC kd (kd y) ((t_k T p).take (j + 1)))) = τ2
        have hf2 : NuF [522] [] (fun b => b = c + 36) τ1 τ2 := by rw [← hτ2]; exact NuF.I _ _ _ (by decide)
        have hf02 := (hf.tr hf1).tr hf2
        have kyt2 : h_K τ2 (ad y) = 9 := by rw [hf2.2.1]; exact kyt1
        have nxt2 : h_P τ2 517 (ad y) = ((t_k T p)[j + 1]?).map ad := by rw [(hf1.tr hf2).2.2.2.2.2.1 517 (fun q => by cases q)]; exact nxt
        have i1 : ∀ a, a ≠ ad y → h_I τ2 522 a = h_I τ 522 a := by
          intro a ha
          rw [← hτ2, hI_m _ _ ha, ← hτ1]
          rfl
        have i2 : h_I τ2 522 (ad y) = nI (kC kd (kd y) ((t_k T p).take (j + 1))) := by rw [← hτ2]; exact hI_w _ _ _ _
        refine r_aload_n rfl rfl ?_
        (first | refine r_getPv rfl (by first | assumption | rfl) rfl (by assumption) ?_ | refine r_getP rfl (by first | assumption | rfl) rfl ?_)
        refine r_astore_n rfl (by decide) ?_
        refine r_goto rfl ?_
        refine ih (j + 1) τ2 (by omega) hf02 (fun k hk6 => ?_) (fun i w hi hw => ?_) (fun a ha => ?_)
        · rw [← hτ2]
          exact hx1 k hk6
        · by_cases e : i = j
          · subst e
            rw [hy] at hw
            cases hw
            exact i2
          · have hwm := List.mem_of_getElem? hw
            have hwy : w ≠ y := fun q => by
              rw [q] at hw
              have := idx_of (hW.2.2.1 p) hw
              rw [idx_of (hW.2.2.1 p) hy] at this
              exact e this.symm
            rw [i1 _ (fun q => hwy (h.2.1 w y (Or.inl (hW.k_lt hwm)) (Or.inl hyn) q))]
            exact hr i w (by omega) hw
        · rw [i1 a (ha y hym)]
          exact hr2 a ha
    have kp1 : h_K σ1 (ad p) = 9 := by rw [hf1.2.1]; exact kp
    have hfst1 : h_P σ1 516 (ad p) = ((t_k T p)[0]?).map ad := by
      rw [hf1.2.2.2.2.2.1 516 (fun q => by cases q), hfst, hK]
      rfl
    refine r_aload_n rfl rfl ?_
    (first | refine r_getPv rfl (by first | assumption | rfl) rfl (by assumption) ?_ | refine r_getP rfl (by first | assumption | rfl) rfl ?_)
    refine r_astore_n rfl (by decide) ?_
    exact loop (t_k T p).length 0 σ1 (by omega) hf1 hx1 (fun i y hi => by omega) (fun a _ => by rw [hσ1]; rfl)
end NA
