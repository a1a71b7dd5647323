/-! ===== reading: what is read; the reference: stands, isPart, isSignPart, look ===== -/
def mkX (S : Sp) (x : Nat) : List Int32 := (if f_j (s_f S) (s_k S x) = 2 then [b8 (nI 40)] else []) ++ sgn (f_y (s_f S) (s_k S x)) (ctX S x) ++ (if f_j (s_f S) (s_k S x) = 2 then [b8 (nI 41)] else [])
def nbO (S : Sp) (x : Nat) : Option Nat := if n_b S x < 0 then none else some (n_b S x).toNatClampNeg
def near (S : Sp) (i x : Nat) : Bool := match nbO S x with
  | none => false
  | some b => bel (s_T S) b i
def mnB (S : Sp) (i k : Nat) (pt : List Int32) (x : Nat) : Bool := decide (s_k S x = k) && (decide (n_n S x = pt) || (near S i x && decide (mkX S x = pt)))
def mnL (S : Sp) (i k : Nat) (pt : List Int32) : List Nat := (ordT (s_T S)).filter (mnB S i k pt)
def fdE (S : Sp) (i k : Nat) (rest : List Int32) : Nat → Nat × List Nat
  | 0 => (0, [])
  | n + 1 => if mnL S i k (rest.take (n + 1)) = [] then fdE S i k rest n else (n + 1, mnL S i k (rest.take (n + 1)))
def stB (xs ws : List Int32) (p : Nat) : Bool := decide (0 < ws.length) && ws.isPrefixOf (xs.drop p) && decide (seeB xs (p + ws.length) = 32)
def rnL (xs : List Int32) (p : Nat) : Nat := ((xs.drop p).takeWhile (fun v => isR (v &&& 255))).length
def kAt (S : Sp) (xs : List Int32) (p : Nat) : Option Nat := if (decide (p = 0) || !isL (seeB xs (p - 1))) = true then (List.range 6).find? (fun k => stB xs (s_w S k) p && isR (seeB xs (p + (s_w S k).length + 1))) else none
def fiA (S : Sp) (i : Nat) (xs : List Int32) (p k : Nat) : Fi :=
  (p, (if (fdE S i k (xs.drop (p + (s_w S k).length + 1)) (rnL xs (p + (s_w S k).length + 1))).1 = 0 then p + (s_w S k).length + 1 + rnL xs (p + (s_w S k).length + 1) else p + (s_w S k).length + 1 + (fdE S i k (xs.drop (p + (s_w S k).length + 1)) (rnL xs (p + (s_w S k).length + 1))).1), k,
    (fdE S i k (xs.drop (p + (s_w S k).length + 1)) (rnL xs (p + (s_w S k).length + 1))).2.length, (fdE S i k (xs.drop (p + (s_w S k).length + 1)) (rnL xs (p + (s_w S k).length + 1))).2.head?)
def rdL (S : Sp) (i : Nat) (xs : List Int32) : Nat → Nat → List Fi
  | 0, _ => []
  | f + 1, p => if xs.length ≤ p then [] else match kAt S xs p with
    | none => rdL S i xs f (p + 1)
    | some k => fiA S i xs p k :: rdL S i xs f (fiA S i xs p k).2.1
def a_read (S : Sp) (v : Int32) : Int32 × Sp := match thI S v with
  | none => (-2, sT S [])
  | some x => (nI (rdL S x (s_t S) 601 0).length, sD (sT S []) (rdL S x (s_t S) 601 0))
theorem mkO_at {on kI : Nat → Int32} {sc sy jo : Nat → Nat} {L : List Nat} (hn : L.Nodup) {i : Nat} : ∀ j, i < j → j ≤ L.length → (mkO on kI sc sy jo L j).1 (L.getD i 0) = bsV (b0O on kI sc (L.getD i 0)) ((mkO on kI sc sy jo L i).2 (b0O on kI sc (L.getD i 0)).toNatClampNeg) ∧
    (mkO on kI sc sy jo L j).2 (L.getD i 0) = nmV (jo (kI (L.getD i 0)).toNatClampNeg) (bsV (b0O on kI sc (L.getD i 0)) ((mkO on kI sc sy jo L i).2 (b0O on kI sc (L.getD i 0)).toNatClampNeg)) ((mkO on kI sc sy jo L i).2 (b0O on kI sc (L.getD i 0)).toNatClampNeg) (sgn (sy (kI (L.getD i 0)).toNatClampNeg) (ctO on kI sc L i)) := by
  intro j
  induction j with
  | zero => intro h; omega
  | succ j ih =>
    intro h1 h2
    by_cases e : i = j
    · subst e
      rw [mkO]
      exact ⟨by show upd _ _ _ _ = _; rw [upd_s], by show u_1 (α := List Int32) _ _ _ _ = _; rw [u1_s]⟩
    · have hne : L.getD i 0 ≠ L.getD j 0 := fun q => e (getD_inj hn (by omega) (by omega) q)
      have ih := ih (by omega) (by omega)
      rw [mkO]
      refine ⟨?_, ?_⟩
      · show upd _ _ _ _ = _
        rw [upd_n _ _ hne]
        exact ih.1
      · show u_1 (α := List Int32) _ _ _ _ = _
        rw [u1_n _ _ hne]
        exact ih.2
/-- an earlier thing's number stands -/
theorem mkO_st {on kI : Nat → Int32} {sc sy jo : Nat → Nat} {L : List Nat} (hn : L.Nodup) {i q : Nat} (hi : i < q) : ∀ j, q ≤ j → j ≤ L.length → (mkO on kI sc sy jo L j).2 (L.getD i 0) = (mkO on kI sc sy jo L q).2 (L.getD i 0) := by
  intro j h1 h2
  rw [(mkO_at hn j (by omega) h2).2, (mkO_at hn q hi (by omega)).2]
theorem n_b_c {S : Sp} (hS : SOk S) {x : Nat} (hx : t_h (s_T S) x = true) : n_b S x < 0 ∨ ∃ b, t_h (s_T S) b = true ∧ n_b S x = nI b ∧ b ≠ x ∧ b ∈ upl (s_T S) 200 x := by
  have hW := hS.wf
  have hn := hW.1
  obtain ⟨i1, i2, -⟩ := idx_at ((ord_mem hW).mpr hx)
  have h1 := (mkO_at (on := onT (s_n S) (s_T S)) (kI := fun x => nI (s_k S x)) (sc := f_c (s_f S)) (sy := f_y (s_f S)) (jo := f_j (s_f S)) (ord_nd hW) (ordT (s_T S)).length i1 (Nat.le_refl _)).1
  rw [i2] at h1
  have h1 : n_b S x = _ := h1
  rw [h1]
  unfold bsV
  by_cases e : ¬ b0O (onT (s_n S) (s_T S)) (fun x => nI (s_k S x)) (f_c (s_f S)) x < 0 ∧ 30 < ((mkO (onT (s_n S) (s_T S)) (fun x => nI (s_k S x)) (f_c (s_f S)) (f_y (s_f S)) (f_j (s_f S)) (ordT (s_T S)) ((ordT (s_T S)).idxOf x)).2 (b0O (onT (s_n S) (s_T S)) (fun x => nI (s_k S x)) (f_c (s_f S)) x).toNatClampNeg).length
  · rw [if_pos e]; exact Or.inl (by decide)
  · rw [if_neg e]
    have hxn := hW.h_lt hx
    have k31 : ∀ x, x < s_n S → s_k S x < 2 ^ 31 := fun x hx => by have := hS.2.1 x hx; omega
    have hkx := hS.2.1 x hxn
    have hsc := (hS.2.2.2.2.2.1 _ hkx).1
    obtain ⟨p, p1, p2, p3⟩ := onT_lt hW hx
    unfold b0O
    rw [nI_clamp (by omega)]
    by_cases e2 : 1 < f_c (s_f S) (s_k S x)
    · rw [if_pos e2, abv_T hW (by omega) k31 hx]
      cases e3 : abT (s_T S) (s_k S) (f_c (s_f S) (s_k S x) - 2) x with
      | none => exact Or.inl (by decide)
      | some q =>
        obtain ⟨q1, q2, q3, -⟩ := abT_le hW hx e3
        exact Or.inr ⟨q, q2, rfl, q3, List.mem_of_mem_tail q1⟩
    · rw [if_neg e2, p3]
      rcases p1 with rfl | p1
      · exact Or.inl (by decide)
      · have hpn := hW.h_lt p1
        obtain ⟨dp, hd⟩ := hW.2.2.2.2.1
        refine Or.inr ⟨p, p1, cd_n (by omega), fun e => by have := hd _ _ p2; rw [e] at this; omega, ?_⟩
        rw [upl_step hW p2]
        exact List.mem_cons_of_mem _ upl_self
/-- v & 255 of a byte -/
theorem vb255 : ∀ j, j < 256 → vb_c j &&& 255 = nI ((j + 128) % 256) ∧ ((j + 128) % 256 < 128 → vb_c j = nI ((j + 128) % 256)) := by decide +kernel
theorem nI255 : ∀ c, c < 128 → nI c &&& 255 = nI c := by decide +kernel
theorem eq255 {v : Int32} (h : b8 v = v) {c : Nat} (hc : c < 128) : v &&& 255 = nI c ↔ v = nI c := by
  have hf := b8_fit v
  rw [h] at hf
  obtain ⟨h1, h2⟩ : (-128 ≤ v) ∧ (v ≤ 127) := by
    have h3 : (decide (-128 ≤ v) && decide (v ≤ 127)) = true := hf
    obtain ⟨a, b⟩ := okn h3
    exact ⟨of_decide_eq_true a, of_decide_eq_true b⟩
  obtain ⟨j, hj, -, rfl⟩ := bx_small (Int32.not_lt.mpr h1) (Int32.not_lt.mpr h2)
  obtain ⟨a, b⟩ := vb255 j hj
  constructor
  · intro e
    rw [a] at e
    have e := (nI_eq (by omega) (by omega)).mp e
    rw [b (by omega), e]
  · intro e
    rw [e]
    exact nI255 c hc
theorem pre_at {ws ys : List Int32} : ws.isPrefixOf ys = true ↔ ws.length ≤ ys.length ∧ ∀ i, i < ws.length → ys.getD i 0 = ws.getD i 0 := by
  rw [List.isPrefixOf_iff_prefix]
  constructor
  · rintro ⟨t, rfl⟩
    refine ⟨by rw [List.length_append]; omega, fun i hi => ?_⟩
    rw [List.getD_eq_getElem?_getD, List.getD_eq_getElem?_getD, List.getElem?_append_left hi]
  · rintro ⟨h1, h2⟩
    have : ws = ys.take ws.length := by
      refine List.ext_getElem (by rw [List.length_take]; omega) (fun i a b => ?_)
      have := h2 i a
      rw [getD_at a, getD_at (by omega)] at this
      rw [List.getElem_take]
      exact this.symm
    rw [this]
    exact List.take_prefix _ _
theorem see_drop {xs : List Int32} {p i : Nat} (h : p + i < xs.length) : seeB xs (p + i) = (xs.drop p).getD i 0 &&& 255 := by
  unfold seeB
  rw [if_pos h, List.getD_eq_getElem?_getD, List.getD_eq_getElem?_getD, List.getElem?_drop]
/-- the tape as it is read -/
def TX (σ : Hp) (o : Nat) (xs : List Int32) : Prop := h_I σ 749 o = nI xs.length ∧ xs.length ≤ 600 ∧ (∀ i, i < xs.length → h_X σ (o + 1 + 0) i = xs.getD i 0) ∧ ∀ v ∈ xs, b8 v = v
theorem TX.kp {R F : List Nat} {σ τ : Hp} {o : Nat} {xs : List Int32} (h : MFr R F σ τ o) (h0 : 0 ∉ R) (h1 : 749 ∉ F) (g : TX σ o xs) : TX τ o xs := by
  unfold TX at g ⊢
  rw [h.row h0, h.fld h1]
  exact g
theorem getD_b8 {xs : List Int32} (h : ∀ v ∈ xs, b8 v = v) (i : Nat) : b8 (xs.getD i 0) = xs.getD i 0 := by
  by_cases a : i < xs.length
  · rw [getD_at a]; exact h _ (List.getElem_mem a)
  · rw [List.getD_eq_getElem?_getD, List.getElem?_eq_none (by omega)]; decide
section MC
variable {l : Launch} {D : DD} {σ : Hp} {o : Nat}
theorem TX.see {xs : List Int32} (hM : ML σ o) (h : TX σ o xs) {p : Nat} (hp : p < 2 ^ 31) : Cn l D m_M_see 0 0 [va_rf (some o), .int (nI p)] σ (fun r τ => r = some (.int (seeB xs p)) ∧ τ = σ) := c_M_see hM h.1 h.2.1 hp h.2.2.1
theorem c_M_standsS {S : Sp} {xs : List Int32} {p k : Nat} (hM : ML σ o) (hX : TX σ o xs) (hp : p < 601) (hk : k < 6) (hw : Wd σ o k (s_w S k)) (hL : (s_w S k).all isL = true) : Cn l D m_M_stands 0 0 [va_rf (some o), .int (nI p), .int (nI k)] σ (fun r τ => r = some (.int (nI (stB xs (s_w S k) p && isR (seeB xs (p + (s_w S k).length + 1))).toNat)) ∧ τ = σ) := by
  generalize s_w S k = ws at hw hL
  obtain ⟨w1, w2, w3⟩ := hw
  have hx6 := hX.2.1
  generalize hQ : (fun (r : Option Value) (τ : Hp) => r = some (.int (nI (stB xs ws p && isR (seeB xs (p + ws.length + 1))).toNat)) ∧ τ = σ) = Q
  refine Cn.of (by decide) (by repeat (first | exact ca_0 | refine ca_i ?_ | refine ca_r ?_)) (Nat.le_of_ble_eq_true rfl) ?_
  refine r_aload_n rfl rfl ?_
  refine r_mg (j := 2) hM rfl rfl (by decide) ?_
  refine r_iload_n rfl rfl ?_
  refine r_mi (j := 2) hM rfl rfl (by decide) (by first | rfl | assumption) (show _ < 6 by omega) ?_
  rw [w1]
  refine r_if_ne rfl (fun q0 => ?_) (fun q0 => ?_)
  · have h0 : 0 < ws.length := by
      by_cases e : ws.length = 0
      · rw [e] at q0; exact absurd rfl q0
      · omega
    refine r_iconst (v := nI 0) rfl (by decide) ?_
    refine r_istore_n rfl (by decide) ?_
    have lp : ∀ (d i : Nat), i + d = ws.length → (∀ j, j < i → seeB xs (p + j) = ws.getD j 0) → Gm l D m_M_stands 0 0 Q 13 [some (va_rf (some o)), some (.int (nI p)), some (.int (nI k)), some (.int (nI i))] [] σ 0 0 := by
      intro d
      induction d with
      | zero =>
        intro i hi hj
        -- the word stands, or the tape ends
        have hlet : ∀ j, j < ws.length → ∃ c, 65 ≤ c ∧ c < 123 ∧ ws.getD j 0 = nI c := fun j hj => isL_nI (by rw [getD_at hj]; exact List.all_eq_true.mp hL _ (List.getElem_mem hj))
        have hin : ∀ j, j < ws.length → p + j < xs.length := by
          intro j hj2
          by_cases a : p + j < xs.length
          · exact a
          · exfalso
            obtain ⟨c, c1, c2, c3⟩ := hlet j hj2
            have := hj j (by omega)
            unfold seeB at this
            rw [if_neg a, c3] at this
            exact nI_ne0 (by omega) (by omega) this.symm
        have hpre : ws.isPrefixOf (xs.drop p) = true := by
          rw [pre_at]
          have hl := hin (ws.length - 1) (by omega)
          refine ⟨by rw [List.length_drop]; omega, fun j hj2 => ?_⟩
          obtain ⟨c, c1, c2, c3⟩ := hlet j hj2
          have := hj j (by omega)
          rw [see_drop (hin j hj2), c3] at this
          rw [c3]
          refine (eq255 ?_ (by omega)).mp this
          rw [List.getD_eq_getElem?_getD, List.getElem?_drop, ← List.getD_eq_getElem?_getD]
          exact getD_b8 hX.2.2.2 _
        have est : stB xs ws p = decide (seeB xs (p + ws.length) = 32) := by
          unfold stB
          rw [decide_eq_true h0, hpre]
          rfl
        rw [est] at hQ
        have no : (decide (seeB xs (p + ws.length) = 32) && isR (seeB xs (p + ws.length + 1))) = false → ∀ z, Gm l D m_M_stands 0 0 Q 93 [some (va_rf (some o)), some (.int (nI p)), some (.int (nI k)), z] [] σ 0 0 := by
          intro hb z
          refine r_iconst (v := nI 0) rfl (by decide) ?_
          refine r_zret rfl rfl (by decide) ?_
          rw [← hQ]
          exact ⟨by rw [hb]; rfl, rfl⟩
        refine r_iload_n rfl rfl ?_
        refine r_aload_n rfl rfl ?_
        refine r_mg (j := 2) hM rfl rfl (by decide) ?_
        refine r_iload_n rfl rfl ?_
        refine r_mi (j := 2) hM rfl rfl (by decide) (by first | rfl | assumption) (show _ < 6 by omega) ?_
        rw [w1]
        refine r_geN rfl (by omega) (by omega) (fun _ => ?_) (fun w => by omega)
        refine r_aload_n rfl rfl ?_
        refine r_iload_n rfl rfl ?_
        refine r_aload_n rfl rfl ?_
        refine r_mg (j := 2) hM rfl rfl (by decide) ?_
        refine r_iload_n rfl rfl ?_
        refine r_mi (j := 2) hM rfl rfl (by decide) (by first | rfl | assumption) (show _ < 6 by omega) ?_
        rw [w1]
        refine r_iaddN rfl ?_
        refine r_callV (As := [_]) rfl (by decide) rfl (by first | exact hM.1 | assumption) rfl rfl (Nat.le_of_ble_eq_true rfl) ⟨Nat.le_of_ble_eq_true rfl, Nat.le_of_ble_eq_true rfl⟩ (hX.see hM (by omega)) (kc' := 0) (ks' := 0) (by omega) (by omega) (by decide) ?_
        rintro r σ ⟨rfl, rfl⟩
        refine r_bipush (v := nI 32) rfl (by decide) ?_
        refine r_icmp_ne rfl (fun w => no (by rw [decide_eq_false (show ¬ seeB xs (p + ws.length) = 32 from w)]; rfl) _) (fun w2 => ?_)
        refine r_aload_n rfl rfl ?_
        refine r_iload_n rfl rfl ?_
        refine r_aload_n rfl rfl ?_
        refine r_mg (j := 2) hM rfl rfl (by decide) ?_
        refine r_iload_n rfl rfl ?_
        refine r_mi (j := 2) hM rfl rfl (by decide) (by first | rfl | assumption) (show _ < 6 by omega) ?_
        rw [w1]
        refine r_iaddN rfl ?_
        refine r_iconst (v := nI 1) rfl (by decide) ?_
        (first | refine r_iaddN rfl ?_ | refine r_iadd rfl ?_)
        refine r_callV (As := [_]) rfl (by decide) rfl (by first | exact hM.1 | assumption) rfl rfl (Nat.le_of_ble_eq_true rfl) ⟨Nat.le_of_ble_eq_true rfl, Nat.le_of_ble_eq_true rfl⟩ (hX.see hM (by omega)) (kc' := 0) (ks' := 0) (by omega) (by omega) (by decide) ?_
        rintro r σ ⟨rfl, rfl⟩
        refine r_callS (As := [_]) rfl (by decide) rfl rfl rfl (Nat.le_of_ble_eq_true rfl) ⟨Nat.le_of_ble_eq_true rfl, Nat.le_of_ble_eq_true rfl⟩ (c_M_isOfRun) (kc' := 0) (ks' := 0) (by omega) (by omega) ?_
        rintro r σ ⟨rfl, rfl⟩
        refine r_ifeqB rfl (fun w => no (by rw [w, Bool.and_false]) _) (fun w3 => ?_)
        refine r_iconst (v := nI 1) rfl (by decide) ?_
        refine r_goto rfl ?_
        refine r_zret rfl rfl (by decide) ?_
        rw [← hQ]
        refine ⟨?_, rfl⟩
        rw [decide_eq_true (show seeB xs (p + ws.length) = 32 from w2), w3]
        rfl
      | succ d ih =>
        intro i hi hj
        refine r_iload_n rfl rfl ?_
        refine r_aload_n rfl rfl ?_
        refine r_mg (j := 2) hM rfl rfl (by decide) ?_
        refine r_iload_n rfl rfl ?_
        refine r_mi (j := 2) hM rfl rfl (by decide) (by first | rfl | assumption) (show _ < 6 by omega) ?_
        rw [w1]
        refine r_geN rfl (by omega) (by omega) (fun w => by omega) (fun _ => ?_)
        refine r_aload_n rfl rfl ?_
        refine r_iload_n rfl rfl ?_
        refine r_iload_n rfl rfl ?_
        (first | refine r_iaddN rfl ?_ | refine r_iadd rfl ?_)
        refine r_callV (As := [_]) rfl (by decide) rfl (by first | exact hM.1 | assumption) rfl rfl (Nat.le_of_ble_eq_true rfl) ⟨Nat.le_of_ble_eq_true rfl, Nat.le_of_ble_eq_true rfl⟩ (hX.see hM (by omega)) (kc' := 0) (ks' := 0) (by omega) (by omega) (by decide) ?_
        rintro r σ ⟨rfl, rfl⟩
        refine r_aload_n rfl rfl ?_
        refine r_mg (j := 1) hM rfl rfl (by decide) ?_
        refine r_bipush (v := nI 10) rfl (by decide) ?_
        refine r_iload_n rfl rfl ?_
        (first | refine r_imulN rfl ?_ | refine r_imul rfl ?_)
        refine r_iload_n rfl rfl ?_
        (first | refine r_iaddN rfl ?_ | refine r_iadd rfl ?_)
        refine r_mb (j := 1) hM rfl rfl (by decide) (by first | rfl | assumption) (show _ < 60 by omega) ?_
        rw [w3 i (by omega)]
        refine r_icmp_eq rfl (fun w => ?_) (fun w => ?_)
        · refine r_iinc rfl rfl (nI_inc _) ?_
          refine r_goto rfl ?_
          refine ih (i + 1) (by omega) (fun j hj2 => ?_)
          by_cases e : j = i
          · rw [e]; exact w
          · exact hj j (by omega)
        · refine r_iconst (v := nI 0) rfl (by decide) ?_
          refine r_zret rfl rfl (by decide) ?_
          rw [← hQ]
          refine ⟨?_, rfl⟩
          have : stB xs ws p = false := by
            unfold stB
            cases e : ws.isPrefixOf (xs.drop p) with
            | false => rw [Bool.and_false]; rfl
            | true =>
              exfalso
              rw [pre_at, List.length_drop] at e
              have e2 := e.2 i (by omega)
              apply w
              rw [see_drop (by omega), e2]
              obtain ⟨c, c1, c2, c3⟩ := isL_nI (show isL (ws.getD i 0) = true by rw [getD_at (by omega)]; exact List.all_eq_true.mp hL _ (List.getElem_mem _))
              rw [c3]
              exact nI255 c (by omega)
          rw [this]
          rfl
    exact lp ws.length 0 (by omega) (fun j hj => by omega)
  · have h0 : ws.length = 0 := by
      by_cases e : ws.length = 0
      · exact e
      · exact absurd q0 (nI_ne0 (by omega) (by omega))
    refine r_iconst (v := nI 0) rfl (by decide) ?_
    refine r_zret rfl rfl (by decide) ?_
    rw [← hQ]
    refine ⟨?_, rfl⟩
    unfold stB
    rw [decide_eq_false (show ¬ 0 < ws.length by omega)]
    rfl
theorem c_M_isPartS {xs nm : List Int32} {j a p e : Nat} (hM : ML σ o) (hX : TX σ o xs) (hj : j < 40) (hT : mT j = 20) (ha : a + nm.length ≤ mN j) (hN : mN j < 2 ^ 20) (hnm : ∀ i, i < nm.length → h_X σ (o + 1 + j) (a + i) = nm.getD i 0) (hpe : p ≤ e) (he : e ≤ xs.length) : Cn l D m_M_isPart 0 0 [va_rf (some o), va_rf (some (o + 1 + j)), .int (nI a), .int (nI nm.length), .int (nI p), .int (nI e)] σ (fun r τ => r = some (.int (nI (decide (nm = (xs.drop p).take (e - p))).toNat)) ∧ τ = σ) := by
  have hx6 := hX.2.1
  have hpl : ((xs.drop p).take (e - p)).length = e - p := by rw [List.length_take, List.length_drop]; omega
  have hpg : ∀ i, i < e - p → ((xs.drop p).take (e - p)).getD i 0 = xs.getD (p + i) 0 := by
    intro i hi
    rw [List.getD_eq_getElem?_getD, List.getElem?_take, if_pos hi, List.getElem?_drop, ← List.getD_eq_getElem?_getD]
  generalize hpt : (xs.drop p).take (e - p) = pt at hpl hpg
  refine Cn.of (by decide) (by repeat (first | exact ca_0 | refine ca_i ?_ | refine ca_r ?_)) (Nat.le_of_ble_eq_true rfl) ?_
  refine r_iload_n rfl rfl ?_
  refine r_iload rfl rfl ?_
  refine r_iload rfl rfl ?_
  refine r_isubN rfl hpe ?_
  refine r_eqN rfl (by omega) (by omega) (fun q => ?_) (fun q => ?_)
  · refine r_iconst (v := nI 0) rfl (by decide) ?_
    refine r_istore rfl (by decide) ?_
    have lp : ∀ (d i : Nat), i + d = nm.length → (∀ z, z < i → nm.getD z 0 = pt.getD z 0) → Gm l D m_M_isPart 0 0 (fun r τ => r = some (.int (nI (decide (nm = pt)).toNat)) ∧ τ = σ) 14 [some (va_rf (some o)), some (va_rf (some (o + 1 + j))), some (.int (nI a)), some (.int (nI nm.length)), some (.int (nI p)), some (.int (nI e)), some (.int (nI i))] [] σ 0 0 := by
      intro d
      induction d with
      | zero =>
        intro i hi hz
        refine r_iload rfl rfl ?_
        refine r_iload_n rfl rfl ?_
        refine r_geN rfl (by omega) (by omega) (fun _ => ?_) (fun w => by omega)
        refine r_iconst (v := nI 1) rfl (by decide) ?_
        refine r_zret rfl rfl (by decide) ⟨?_, rfl⟩
        rw [decide_eq_true (List.ext_getElem (by omega) (fun z h1 h2 => ?_))]
        · rfl
        · have := hz z (by omega)
          rwa [getD_at h1, getD_at h2] at this
      | succ d ih =>
        intro i hi hz
        refine r_iload rfl rfl ?_
        refine r_iload_n rfl rfl ?_
        refine r_geN rfl (by omega) (by omega) (fun w => by omega) (fun _ => ?_)
        refine r_aload_n rfl rfl ?_
        refine r_iload_n rfl rfl ?_
        refine r_iload rfl rfl ?_
        (first | refine r_iaddN rfl ?_ | refine r_iadd rfl ?_)
        refine r_mb (j := j) hM rfl hT hj rfl (show a + i < mN j by omega) ?_
        rw [hnm i (by omega)]
        refine r_aload_n rfl rfl ?_
        refine r_mg (j := 0) hM rfl rfl (by decide) ?_
        refine r_iload rfl rfl ?_
        refine r_iload rfl rfl ?_
        (first | refine r_iaddN rfl ?_ | refine r_iadd rfl ?_)
        refine r_mb (j := 0) hM rfl rfl (by decide) (by first | rfl | assumption) (show _ < 600 by omega) ?_
        rw [hX.2.2.1 _ (by omega), ← hpg i (by omega)]
        refine r_icmp_eq rfl (fun w => ?_) (fun w => ?_)
        · refine r_iinc rfl rfl (nI_inc _) ?_
          refine r_goto rfl ?_
          refine ih (i + 1) (by omega) (fun z hz2 => ?_)
          by_cases e : z = i
          · rw [e]; exact w
          · exact hz z (by omega)
        · refine r_iconst (v := nI 0) rfl (by decide) ?_
          refine r_zret rfl rfl (by decide) ⟨?_, rfl⟩
          rw [decide_eq_false (list_ne (by omega) (by omega) w)]
          rfl
    exact lp nm.length 0 (by omega) (fun z hz => by omega)
  · refine r_iconst (v := nI 0) rfl (by decide) ?_
    refine r_zret rfl rfl (by decide) ⟨?_, rfl⟩
    rw [decide_eq_false (fun w => q (by rw [w, hpl]))]
    rfl
end MC
