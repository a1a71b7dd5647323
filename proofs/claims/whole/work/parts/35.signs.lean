/-! ===== the reference: signs ===== -/
section NR
variable {l : Launch} {D : DD} {R : Room} {Z : List Frame → Array Value → State → State → Prop} {y pc n x kc ks : Nat} {ls : List (Option Value)} {st : List Value} {σ : Hp}
theorem r_idivN {a d : Nat} (hf : ft y pc = some (.idiv, n, x)) (ha : a < 2 ^ 31) (h0 : 0 < d) (hd : d < 2 ^ 31) (k : G l D R Z y n ls (.int (nI (a / d)) :: st) σ kc ks) : G l D R Z y pc ls (.int (nI d) :: .int (nI a) :: st) σ kc ks := by
  refine r_idiv hf (nI_ne0 h0 hd) ?_
  rw [pk_div ha h0 hd]
  exact k
theorem r_iremN {a d : Nat} (hf : ft y pc = some (.irem, n, x)) (ha : a < 2 ^ 31) (h0 : 0 < d) (hd : d < 2 ^ 31) (k : G l D R Z y n ls (.int (nI (a % d)) :: st) σ kc ks) : G l D R Z y pc ls (.int (nI d) :: .int (nI a) :: st) σ kc ks := by
  refine r_irem hf (nI_ne0 h0 hd) ?_
  rw [pk_rem ha h0 hd]
  exact k
end NR
/-- a digit in Roman figures, by the signs for one, five, ten -/
def romD (d : Nat) (a b c : Int32) : List Int32 := if d = 9 then [b8 a, b8 c] else if d = 4 then [b8 a, b8 b] else (if 5 ≤ d then [b8 b] else []) ++ List.replicate (d % 5) (b8 a)
theorem romD_len (d : Nat) (a b c : Int32) : (romD d a b c).length ≤ 5 := by
  unfold romD
  split
  · simp
  · split
    · simp
    · have : d % 5 < 5 := Nat.mod_lt _ (by omega)
      split <;> simp <;> omega
def figs (c : Nat) : List Int32 := (if 100 ≤ c then [b8 (nI (48 + c / 100 % 10))] else []) ++ (if 10 ≤ c then [b8 (nI (48 + c / 10 % 10))] else []) ++ [b8 (nI (48 + c % 10))]
def lets (f c : Nat) : List Int32 := (if 26 < c then [b8 (nI (f + (c - 1) / 26 - 1))] else []) ++ [b8 (nI (f + (c - 1) % 26))]
def roms (low c : Nat) : List Int32 := romD (c / 100 % 10) (nI (67 + low)) (nI (68 + low)) (nI (77 + low)) ++ romD (c / 10 % 10) (nI (88 + low)) (nI (76 + low)) (nI (67 + low)) ++ romD (c % 10) (nI (73 + low)) (nI (86 + low)) (nI (88 + low))
/-- the sign of a count c in style s -/
def sgn (s c : Nat) : List Int32 := if s = 0 then figs c else if s = 1 then lets 97 c else if s = 2 then lets 65 c else if s = 3 then roms 32 c else roms 0 c
theorem TF.ML {σ τ : Hp} {o o' jT jS x : Nat} (h : TF σ τ o jT jS x) (hM : ML σ o') : ML τ o' := by
  obtain ⟨T, S, rfl, -, -⟩ := h
  exact hM
theorem TF.row {σ τ : Hp} {o jT jS x b : Nat} (h : TF σ τ o jT jS x) (h1 : b ≠ o + 1 + jT) (h2 : b ≠ o + 1 + jS) : h_X τ b = h_X σ b := by
  obtain ⟨T, S, rfl, -, -⟩ := h
  rw [hX_n _ _ h2, hX_n _ _ h1]
theorem TF.I {σ τ : Hp} {o jT jS x : Nat} (h : TF σ τ o jT jS x) : h_I τ = h_I σ := by
  obtain ⟨T, S, rfl, -, -⟩ := h
  rfl
section MC
variable {l : Launch} {D : DD} {σ : Hp} {o : Nat}
theorem c_M_roman {x d : Nat} {a b c : Int32} {xs : List Int32} (hM : ML σ o) (hx : x < 120) (h : Tx σ o 20 21 x xs) (hl : xs.length + 5 ≤ 60) (hd : d < 10) : Cn l D m_M_roman 0 0 [va_rf (some o), .int (nI x), .int (nI d), .int a, .int b, .int c] σ (fun r τ => r = none ∧ Tx τ o 20 21 x (xs ++ romD d a b c) ∧ TF σ τ o 20 21 x) := by
  refine Cn.of (by decide) (by repeat (first | exact ca_0 | refine ca_i ?_ | refine ca_r ?_)) (Nat.le_of_ble_eq_true rfl) ?_
  refine r_iload_n rfl rfl ?_
  refine r_bipush (v := nI 9) rfl (by decide) ?_
  refine r_neN rfl (by omega) (by omega) (fun q9 => ?_) (fun q9 => ?_)
  · refine r_iload_n rfl rfl ?_
    refine r_iconst (v := nI 4) rfl (by decide) ?_
    refine r_neN rfl (by omega) (by omega) (fun q4 => ?_) (fun q4 => ?_)
    · have e0 : romD d a b c = (if 5 ≤ d then [b8 b] else []) ++ List.replicate (d % 5) (b8 a) := by
        unfold romD
        rw [if_neg q9, if_neg q4]
      have hd5 : d % 5 < 5 := Nat.mod_lt _ (by omega)
      have ones : ∀ (m k : Nat) (τ : Hp) (zs : List Int32), k + m = d % 5 → Tx τ o 20 21 x zs → TF σ τ o 20 21 x → zs ++ List.replicate m (b8 a) = xs ++ romD d a b c → zs.length + m ≤ 60 → Gm l D m_M_roman 0 0 (fun r τ => r = none ∧ Tx τ o 20 21 x (xs ++ romD d a b c) ∧ TF σ τ o 20 21 x) 58 [some (va_rf (some o)), some (.int (nI x)), some (.int (nI d)), some (.int a), some (.int b), some (.int c), some (.int (nI k))] [] τ 0 0 := by
        intro m
        induction m with
        | zero =>
          intro k τ zs hk g1 g2 g3 g4
          refine r_iload rfl rfl ?_
          refine r_iload_n rfl rfl ?_
          refine r_iconst (v := nI 5) rfl (by decide) ?_
          refine r_iremN rfl (by omega) (by omega) (by omega) ?_
          refine r_geN rfl (by omega) (by omega) (fun _ => ?_) (fun q => by omega)
          refine r_vret rfl rfl ⟨rfl, ?_, g2⟩
          rw [← g3]
          simpa using g1
        | succ m ih =>
          intro k τ zs hk g1 g2 g3 g4
          have hMt := g2.ML hM
          refine r_iload rfl rfl ?_
          refine r_iload_n rfl rfl ?_
          refine r_iconst (v := nI 5) rfl (by decide) ?_
          refine r_iremN rfl (by omega) (by omega) (by omega) ?_
          refine r_geN rfl (by omega) (by omega) (fun q => by omega) (fun _ => ?_)
          refine r_aload_n rfl rfl ?_
          refine r_iload_n rfl rfl ?_
          refine r_iload_n rfl rfl ?_
          refine r_callV (As := [_, _]) rfl (by decide) rfl hMt.1 rfl rfl (Nat.le_of_ble_eq_true rfl) ⟨Nat.le_of_ble_eq_true rfl, Nat.le_of_ble_eq_true rfl⟩ (c_M_signByte hMt hx g1 (by omega)) (kc' := 0) (ks' := 0) (by omega) (by omega) (by decide) ?_
          rintro r ρ ⟨rfl, t1, t2⟩
          refine r_iinc rfl rfl (nI_inc _) ?_
          refine r_goto rfl ?_
          refine ih (k + 1) ρ _ (by omega) t1 (g2.tr (by decide) t2) ?_ (by simp; omega)
          rw [← g3, List.append_assoc]
          rfl
      refine r_iload_n rfl rfl ?_
      refine r_iconst (v := nI 5) rfl (by decide) ?_
      refine r_ltN rfl (by omega) (by omega) (fun q => ?_) (fun q => ?_)
      · refine r_iconst (v := nI 0) rfl (by decide) ?_
        refine r_istore rfl (by decide) ?_
        refine ones (d % 5) 0 σ xs (by omega) h (TF.rf _ _ _ _ _) ?_ (by omega)
        rw [e0, if_neg (by omega), List.nil_append]
      · refine r_aload_n rfl rfl ?_
        refine r_iload_n rfl rfl ?_
        refine r_iload rfl rfl ?_
        refine r_callV (As := [_, _]) rfl (by decide) rfl hM.1 rfl rfl (Nat.le_of_ble_eq_true rfl) ⟨Nat.le_of_ble_eq_true rfl, Nat.le_of_ble_eq_true rfl⟩ (c_M_signByte hM hx h (by omega)) (kc' := 0) (ks' := 0) (by omega) (by omega) (by decide) ?_
        rintro r ρ ⟨rfl, t1, t2⟩
        refine r_iconst (v := nI 0) rfl (by decide) ?_
        refine r_istore rfl (by decide) ?_
        refine ones (d % 5) 0 ρ _ (by omega) t1 t2 ?_ (by simp; omega)
        rw [e0, if_pos (by omega), List.append_assoc]
    · refine r_aload_n rfl rfl ?_
      refine r_iload_n rfl rfl ?_
      refine r_iload_n rfl rfl ?_
      refine r_callV (As := [_, _]) rfl (by decide) rfl hM.1 rfl rfl (Nat.le_of_ble_eq_true rfl) ⟨Nat.le_of_ble_eq_true rfl, Nat.le_of_ble_eq_true rfl⟩ (c_M_signByte hM hx h (by omega)) (kc' := 0) (ks' := 0) (by omega) (by omega) (by decide) ?_
      rintro r ρ ⟨rfl, t1, t2⟩
      have hMt := t2.ML hM
      refine r_aload_n rfl rfl ?_
      refine r_iload_n rfl rfl ?_
      refine r_iload rfl rfl ?_
      refine r_callV (As := [_, _]) rfl (by decide) rfl hMt.1 rfl rfl (Nat.le_of_ble_eq_true rfl) ⟨Nat.le_of_ble_eq_true rfl, Nat.le_of_ble_eq_true rfl⟩ (c_M_signByte hMt hx t1 (by simp; omega)) (kc' := 0) (ks' := 0) (by omega) (by omega) (by decide) ?_
      rintro r ρ2 ⟨rfl, s1, s2⟩
      refine r_goto rfl ?_
      refine r_vret rfl rfl ⟨rfl, ?_, t2.tr (by decide) s2⟩
      have e0 : romD d a b c = [b8 a, b8 b] := by
        unfold romD
        rw [if_neg q9, if_pos q4]
      rw [e0]
      simpa using s1
  · refine r_aload_n rfl rfl ?_
    refine r_iload_n rfl rfl ?_
    refine r_iload_n rfl rfl ?_
    refine r_callV (As := [_, _]) rfl (by decide) rfl hM.1 rfl rfl (Nat.le_of_ble_eq_true rfl) ⟨Nat.le_of_ble_eq_true rfl, Nat.le_of_ble_eq_true rfl⟩ (c_M_signByte hM hx h (by omega)) (kc' := 0) (ks' := 0) (by omega) (by omega) (by decide) ?_
    rintro r ρ ⟨rfl, t1, t2⟩
    have hMt := t2.ML hM
    refine r_aload_n rfl rfl ?_
    refine r_iload_n rfl rfl ?_
    refine r_iload rfl rfl ?_
    refine r_callV (As := [_, _]) rfl (by decide) rfl hMt.1 rfl rfl (Nat.le_of_ble_eq_true rfl) ⟨Nat.le_of_ble_eq_true rfl, Nat.le_of_ble_eq_true rfl⟩ (c_M_signByte hMt hx t1 (by simp; omega)) (kc' := 0) (ks' := 0) (by omega) (by omega) (by decide) ?_
    rintro r ρ2 ⟨rfl, s1, s2⟩
    refine r_goto rfl ?_
    refine r_vret rfl rfl ⟨rfl, ?_, t2.tr (by decide) s2⟩
    have e0 : romD d a b c = [b8 a, b8 c] := by
      unfold romD
      rw [if_pos q9]
    rw [e0]
    simpa using s1
set_option maxHeartbeats 1000000 in
theorem c_M_makeSign {x c k s : Nat} {zs : List Int32} (hM : ML σ o) (hx : x < 120) (hc : h_X σ (o + 1 + 16) x = nI c) (hc1 : 1 ≤ c) (hc2 : c ≤ 120) (hk : h_X σ (o + 1 + 6) x = nI k) (hk2 : k < 6) (hs : h_X σ (o + 1 + 4) k = nI s) (hs2 : s < 5) : Cn l D m_M_makeSign 0 0 [va_rf (some o), .int (nI x)] σ (fun r τ => r = none ∧ Tx τ o 20 21 x (sgn s c) ∧ TF σ τ o 20 21 x) := by
  refine Cn.of (by decide) (by repeat (first | exact ca_0 | refine ca_i ?_ | refine ca_r ?_)) (Nat.le_of_ble_eq_true rfl) ?_
  refine r_aload_n rfl rfl ?_
  refine r_mg (j := 21) hM rfl rfl (by decide) ?_
  refine r_iload_n rfl rfl ?_
  refine r_iconst (v := nI 0) rfl (by decide) ?_
  refine r_mis (j := 21) hM rfl rfl (by decide) (by first | rfl | assumption) (show _ < 120 by omega) ?_
  have t0 : Tx (w_X σ (o + 1 + 21) (upd (h_X σ (o + 1 + 21)) x (nI 0))) o 20 21 x [] := by
    refine ⟨?_, by simp, fun i hi => by simp at hi⟩
    rw [hX_w, upd_s]
    rfl
  have f0 : TF σ (w_X σ (o + 1 + 21) (upd (h_X σ (o + 1 + 21)) x (nI 0))) o 20 21 x := by
    refine ⟨h_X σ (o + 1 + 20), _, by rw [wX_self], fun _ _ => rfl, fun z hz => upd_n _ _ hz⟩
  generalize w_X σ (o + 1 + 21) (upd (h_X σ (o + 1 + 21)) x (nI 0)) = ρ at t0 f0
  have hc := (congrFun (f0.row (b := o + 1 + 16) (by omega) (by omega)) x).trans hc
  have hk := (congrFun (f0.row (b := o + 1 + 6) (by omega) (by omega)) x).trans hk
  have hs := (congrFun (f0.row (b := o + 1 + 4) (by omega) (by omega)) k).trans hs
  have hMr := f0.ML hM
  generalize hQ : (fun (r : Option Value) (τ : Hp) => r = none ∧ Tx τ o 20 21 x (sgn s c) ∧ TF σ τ o 20 21 x) = Q
  have hM := hMr
  refine r_aload_n rfl rfl ?_
  refine r_mg (j := 16) hM rfl rfl (by decide) ?_
  refine r_iload_n rfl rfl ?_
  refine r_mi (j := 16) hM rfl rfl (by decide) (by first | rfl | assumption) (show _ < 120 by omega) ?_
  rw [hc]
  refine r_istore_n rfl (by decide) ?_
  refine r_aload_n rfl rfl ?_
  refine r_mg (j := 4) hM rfl rfl (by decide) ?_
  refine r_aload_n rfl rfl ?_
  refine r_mg (j := 6) hM rfl rfl (by decide) ?_
  refine r_iload_n rfl rfl ?_
  refine r_mi (j := 6) hM rfl rfl (by decide) (by first | rfl | assumption) (show _ < 120 by omega) ?_
  rw [hk]
  refine r_mi (j := 4) hM rfl rfl (by decide) rfl (show _ < 6 by omega) ?_
  rw [hs]
  refine r_istore_n rfl (by decide) ?_
  refine r_iload_n rfl rfl ?_
  refine r_if_ne rfl (fun q => ?_) (fun q => ?_)
  · have hs0 : s ≠ 0 := fun e => q (by rw [e]; rfl)
    refine r_iload_n rfl rfl ?_
    refine r_iconst (v := nI 3) rfl (by decide) ?_
    refine r_geN rfl (by omega) (by omega) (fun q3 => ?_) (fun q3 => ?_)
    · -- Roman
      have rom : ∀ low, low ≤ 32 → roms low c = sgn s c → Gm l D m_M_makeSign 0 0 Q 155 [some (va_rf (some o)), some (.int (nI x)), some (.int (nI c)), some (.int (nI s)), some (.int (nI low))] [] ρ 0 0 := by
        intro low hlow he
        refine r_aload_n rfl rfl ?_
        refine r_iload_n rfl rfl ?_
        refine r_iload_n rfl rfl ?_
        refine r_bipush (v := nI 100) rfl (by decide) ?_
        refine r_idivN rfl (by omega) (by omega) (by omega) ?_
        refine r_bipush (v := nI 10) rfl (by decide) ?_
        refine r_iremN rfl (by omega) (by omega) (by omega) ?_
        refine r_bipush (v := nI 67) rfl (by decide) ?_
        refine r_iload rfl rfl ?_
        (first | refine r_iaddN rfl ?_ | refine r_iadd rfl ?_)
        refine r_bipush (v := nI 68) rfl (by decide) ?_
        refine r_iload rfl rfl ?_
        (first | refine r_iaddN rfl ?_ | refine r_iadd rfl ?_)
        refine r_bipush (v := nI 77) rfl (by decide) ?_
        refine r_iload rfl rfl ?_
        (first | refine r_iaddN rfl ?_ | refine r_iadd rfl ?_)
        refine r_callV (As := [_, _, _, _, _]) rfl (by decide) rfl hM.1 rfl rfl (Nat.le_of_ble_eq_true rfl) ⟨Nat.le_of_ble_eq_true rfl, Nat.le_of_ble_eq_true rfl⟩ (c_M_roman hM hx t0 (by simp) (by omega)) (kc' := 0) (ks' := 0) (by omega) (by omega) (by decide) ?_
        rintro r ρ1 ⟨rfl, t1, f1⟩
        have hM1 := f1.ML hM
        have l1 := romD_len (c / 100 % 10) (nI (67 + low)) (nI (68 + low)) (nI (77 + low))
        refine r_aload_n rfl rfl ?_
        refine r_iload_n rfl rfl ?_
        refine r_iload_n rfl rfl ?_
        refine r_bipush (v := nI 10) rfl (by decide) ?_
        refine r_idivN rfl (by omega) (by omega) (by omega) ?_
        refine r_bipush (v := nI 10) rfl (by decide) ?_
        refine r_iremN rfl (by omega) (by omega) (by omega) ?_
        refine r_bipush (v := nI 88) rfl (by decide) ?_
        refine r_iload rfl rfl ?_
        (first | refine r_iaddN rfl ?_ | refine r_iadd rfl ?_)
        refine r_bipush (v := nI 76) rfl (by decide) ?_
        refine r_iload rfl rfl ?_
        (first | refine r_iaddN rfl ?_ | refine r_iadd rfl ?_)
        refine r_bipush (v := nI 67) rfl (by decide) ?_
        refine r_iload rfl rfl ?_
        (first | refine r_iaddN rfl ?_ | refine r_iadd rfl ?_)
        refine r_callV (As := [_, _, _, _, _]) rfl (by decide) rfl hM1.1 rfl rfl (Nat.le_of_ble_eq_true rfl) ⟨Nat.le_of_ble_eq_true rfl, Nat.le_of_ble_eq_true rfl⟩ (c_M_roman hM1 hx t1 (by simp only [List.nil_append]; omega) (by omega)) (kc' := 0) (ks' := 0) (by omega) (by omega) (by decide) ?_
        rintro r ρ2 ⟨rfl, t2, f2⟩
        have hM2 := f2.ML hM1
        have l2 := romD_len (c / 10 % 10) (nI (88 + low)) (nI (76 + low)) (nI (67 + low))
        refine r_aload_n rfl rfl ?_
        refine r_iload_n rfl rfl ?_
        refine r_iload_n rfl rfl ?_
        refine r_bipush (v := nI 10) rfl (by decide) ?_
        refine r_iremN rfl (by omega) (by omega) (by omega) ?_
        refine r_bipush (v := nI 73) rfl (by decide) ?_
        refine r_iload rfl rfl ?_
        (first | refine r_iaddN rfl ?_ | refine r_iadd rfl ?_)
        refine r_bipush (v := nI 86) rfl (by decide) ?_
        refine r_iload rfl rfl ?_
        (first | refine r_iaddN rfl ?_ | refine r_iadd rfl ?_)
        refine r_bipush (v := nI 88) rfl (by decide) ?_
        refine r_iload rfl rfl ?_
        (first | refine r_iaddN rfl ?_ | refine r_iadd rfl ?_)
        refine r_callV (As := [_, _, _, _, _]) rfl (by decide) rfl hM2.1 rfl rfl (Nat.le_of_ble_eq_true rfl) ⟨Nat.le_of_ble_eq_true rfl, Nat.le_of_ble_eq_true rfl⟩ (c_M_roman hM2 hx t2 (by simp only [List.nil_append, List.length_append]; omega) (by omega)) (kc' := 0) (ks' := 0) (by omega) (by omega) (by decide) ?_
        rintro r ρ3 ⟨rfl, t3, f3⟩
        refine r_vret rfl rfl ?_
        rw [← hQ, ← he]
        exact ⟨rfl, by simpa [roms] using t3, ((f0.tr (by decide) f1).tr (by decide) f2).tr (by decide) f3⟩
      refine r_iload_n rfl rfl ?_
      refine r_iconst (v := nI 3) rfl (by decide) ?_
      refine r_neN rfl (by omega) (by omega) (fun q4 => ?_) (fun q4 => ?_)
      · refine r_iconst (v := nI 0) rfl (by decide) ?_
        refine r_istore rfl (by decide) ?_
        refine rom 0 (by omega) ?_
        unfold sgn
        rw [if_neg hs0, if_neg (by omega), if_neg (by omega), if_neg q4]
      · refine r_bipush (v := nI 32) rfl (by decide) ?_
        refine r_goto rfl ?_
        refine r_istore rfl (by decide) ?_
        refine rom 32 (by omega) ?_
        unfold sgn
        rw [if_neg hs0, if_neg (by omega), if_neg (by omega), if_pos q4]
    · -- letters
      have let1 : ∀ f, f ≤ 97 → 1 ≤ f → lets f c = sgn s c → Gm l D m_M_makeSign 0 0 Q 105 [some (va_rf (some o)), some (.int (nI x)), some (.int (nI c)), some (.int (nI s)), some (.int (nI f))] [] ρ 0 0 := by
        intro f hf hf1 he
        have last : ∀ (ρ1 : Hp) (zs : List Int32), Tx ρ1 o 20 21 x zs → TF ρ ρ1 o 20 21 x → zs.length ≤ 1 → zs ++ [b8 (nI (f + (c - 1) % 26))] = lets f c → Gm l D m_M_makeSign 0 0 Q 127 [some (va_rf (some o)), some (.int (nI x)), some (.int (nI c)), some (.int (nI s)), some (.int (nI f))] [] ρ1 0 0 := by
          intro ρ1 zs t1 f1 hz hz2
          have hM1 := f1.ML hM
          refine r_aload_n rfl rfl ?_
          refine r_iload_n rfl rfl ?_
          refine r_iload rfl rfl ?_
          refine r_iload_n rfl rfl ?_
          refine r_iconst (v := nI 1) rfl (by decide) ?_
          refine r_isubN rfl (by omega) ?_
          refine r_bipush (v := nI 26) rfl (by decide) ?_
          refine r_iremN rfl (by omega) (by omega) (by omega) ?_
          (first | refine r_iaddN rfl ?_ | refine r_iadd rfl ?_)
          refine r_callV (As := [_, _]) rfl (by decide) rfl hM1.1 rfl rfl (Nat.le_of_ble_eq_true rfl) ⟨Nat.le_of_ble_eq_true rfl, Nat.le_of_ble_eq_true rfl⟩ (c_M_signByte hM1 hx t1 (by omega)) (kc' := 0) (ks' := 0) (by omega) (by omega) (by decide) ?_
          rintro r ρ2 ⟨rfl, t2, f2⟩
          refine r_vret rfl rfl ?_
          rw [hz2] at t2
          rw [← hQ, ← he]
          exact ⟨rfl, t2, (f0.tr (by decide) f1).tr (by decide) f2⟩
        refine r_iload_n rfl rfl ?_
        refine r_bipush (v := nI 26) rfl (by decide) ?_
        refine r_leN rfl (by omega) (by omega) (fun q5 => ?_) (fun q5 => ?_)
        · refine last ρ [] t0 (TF.rf _ _ _ _ _) (by simp) ?_
          unfold lets
          rw [if_neg (by omega)]
        · refine r_aload_n rfl rfl ?_
          refine r_iload_n rfl rfl ?_
          refine r_iload rfl rfl ?_
          refine r_iload_n rfl rfl ?_
          refine r_iconst (v := nI 1) rfl (by decide) ?_
          refine r_isubN rfl (by omega) ?_
          refine r_bipush (v := nI 26) rfl (by decide) ?_
          refine r_idivN rfl (by omega) (by omega) (by omega) ?_
          (first | refine r_iaddN rfl ?_ | refine r_iadd rfl ?_)
          refine r_iconst (v := nI 1) rfl (by decide) ?_
          refine r_isubN rfl (by omega) ?_
          refine r_callV (As := [_, _]) rfl (by decide) rfl hM.1 rfl rfl (Nat.le_of_ble_eq_true rfl) ⟨Nat.le_of_ble_eq_true rfl, Nat.le_of_ble_eq_true rfl⟩ (c_M_signByte hM hx t0 (by simp)) (kc' := 0) (ks' := 0) (by omega) (by omega) (by decide) ?_
          rintro r ρ2 ⟨rfl, t2, f2⟩
          refine last ρ2 _ t2 f2 (by simp) ?_
          unfold lets
          rw [if_pos (by omega)]
          rfl
      refine r_iload_n rfl rfl ?_
      refine r_iconst (v := nI 1) rfl (by decide) ?_
      refine r_neN rfl (by omega) (by omega) (fun q4 => ?_) (fun q4 => ?_)
      · refine r_bipush (v := nI 65) rfl (by decide) ?_
        refine r_istore rfl (by decide) ?_
        refine let1 65 (by omega) (by omega) ?_
        unfold sgn
        rw [if_neg hs0, if_neg q4, if_pos (by omega)]
      · refine r_bipush (v := nI 97) rfl (by decide) ?_
        refine r_goto rfl ?_
        refine r_istore rfl (by decide) ?_
        refine let1 97 (by omega) (by omega) ?_
        unfold sgn
        rw [if_neg hs0, if_pos q4]
  · -- figures
    have hs0 : s = 0 := (nI_eq (by omega) (by omega)).mp (q.trans nI_0.symm)
    have he : sgn s c = figs c := by
      unfold sgn
      rw [if_pos hs0]
    have done : ∀ (ρ1 : Hp) (zs : List Int32), Tx ρ1 o 20 21 x zs → TF ρ ρ1 o 20 21 x → zs = figs c → Gm l D m_M_makeSign 0 0 Q 55 [some (va_rf (some o)), some (.int (nI x)), some (.int (nI c)), some (.int (nI s)), some (.int (nI 0))] [] ρ1 0 0 := by
      intro ρ1 zs t1 f1 hz
      refine r_iload rfl rfl ?_
      refine r_if_le rfl (fun _ => ?_) (fun q => absurd (by decide) q)
      refine r_vret rfl rfl ?_
      rw [← hQ, he, ← hz]
      exact ⟨rfl, t1, f0.tr (by decide) f1⟩
    have dig : ∀ (u : Nat) (ρ1 : Hp) (zs : List Int32), 0 < u → u ≤ 100 → Tx ρ1 o 20 21 x zs → TF ρ ρ1 o 20 21 x → zs.length < 60 → (∀ ρ2, Tx ρ2 o 20 21 x (zs ++ [b8 (nI (48 + c / u % 10))]) → TF ρ ρ2 o 20 21 x → Gm l D m_M_makeSign 0 0 Q 55 [some (va_rf (some o)), some (.int (nI x)), some (.int (nI c)), some (.int (nI s)), some (.int (nI (u / 10)))] [] ρ2 0 0) → Gm l D m_M_makeSign 0 0 Q 55 [some (va_rf (some o)), some (.int (nI x)), some (.int (nI c)), some (.int (nI s)), some (.int (nI u))] [] ρ1 0 0 := by
      intro u ρ1 zs hu hu2 t1 f1 hz kk
      have hM1 := f1.ML hM
      have hcu : c / u ≤ c := Nat.div_le_self _ _
      refine r_iload rfl rfl ?_
      refine r_if_le rfl (fun q => absurd q (nI_nle hu (by omega))) (fun _ => ?_)
      refine r_aload_n rfl rfl ?_
      refine r_iload_n rfl rfl ?_
      refine r_bipush (v := nI 48) rfl (by decide) ?_
      refine r_iload_n rfl rfl ?_
      refine r_iload rfl rfl ?_
      refine r_idivN rfl (by omega) hu (by omega) ?_
      refine r_bipush (v := nI 10) rfl (by decide) ?_
      refine r_iremN rfl (by omega) (by omega) (by omega) ?_
      (first | refine r_iaddN rfl ?_ | refine r_iadd rfl ?_)
      refine r_callV (As := [_, _]) rfl (by decide) rfl hM1.1 rfl rfl (Nat.le_of_ble_eq_true rfl) ⟨Nat.le_of_ble_eq_true rfl, Nat.le_of_ble_eq_true rfl⟩ (c_M_signByte hM1 hx t1 hz) (kc' := 0) (ks' := 0) (by omega) (by omega) (by decide) ?_
      rintro r ρ2 ⟨rfl, t2, f2⟩
      refine r_iload rfl rfl ?_
      refine r_bipush (v := nI 10) rfl (by decide) ?_
      refine r_idivN rfl (by omega) (by omega) (by omega) ?_
      refine r_istore rfl (by decide) ?_
      refine r_goto rfl ?_
      exact kk ρ2 t2 (f1.tr (by decide) f2)
    refine r_iload_n rfl rfl ?_
    refine r_bipush (v := nI 99) rfl (by decide) ?_
    refine r_leN rfl (by omega) (by omega) (fun q1 => ?_) (fun q1 => ?_)
    · refine r_iload_n rfl rfl ?_
      refine r_bipush (v := nI 9) rfl (by decide) ?_
      refine r_leN rfl (by omega) (by omega) (fun q2 => ?_) (fun q2 => ?_)
      · refine r_iconst (v := nI 1) rfl (by decide) ?_
        refine r_istore rfl (by decide) ?_
        refine dig 1 ρ [] (by omega) (by omega) t0 (TF.rf _ _ _ _ _) (by simp) (fun ρ2 t2 f2 => done ρ2 _ t2 f2 ?_)
        unfold figs
        rw [if_neg (by omega), if_neg (by omega), Nat.div_one]
        try rfl
      · refine r_bipush (v := nI 10) rfl (by decide) ?_
        refine r_goto rfl ?_
        refine r_istore rfl (by decide) ?_
        refine dig 10 ρ [] (by omega) (by omega) t0 (TF.rf _ _ _ _ _) (by simp) (fun ρ2 t2 f2 => dig 1 ρ2 _ (by omega) (by omega) t2 f2 (by simp) (fun ρ3 t3 f3 => done ρ3 _ t3 f3 ?_))
        unfold figs
        rw [if_neg (by omega), if_pos (by omega), Nat.div_one]
        try rfl
    · refine r_bipush (v := nI 100) rfl (by decide) ?_
      refine r_goto rfl ?_
      refine r_istore rfl (by decide) ?_
      refine dig 100 ρ [] (by omega) (by omega) t0 (TF.rf _ _ _ _ _) (by simp) (fun ρ2 t2 f2 => dig 10 ρ2 _ (by omega) (by omega) t2 f2 (by simp) (fun ρ3 t3 f3 => dig 1 ρ3 _ (by omega) (by omega) t3 f3 (by simp) (fun ρ4 t4 f4 => done ρ4 _ t4 f4 ?_)))
      unfold figs
      rw [if_pos (by omega), if_pos (by omega), Nat.div_one]
      try rfl
end MC
