/-! ===== the state that both keep, and the reference's picture of it ===== -/
abbrev Mn : Type := Nat × Nat × Nat × Nat × List Nat
abbrev Ed : Type := Nat → Option (List Int32 × List Int32)
abbrev Fi : Type := Nat × Nat × Nat × Nat × Option Nat
/-- tape, words, forms, (things, kinds, log), mentions, editions, findings -/
abbrev Sp : Type := List Int32 × (Nat → List Int32) × (Nat → Nat × Nat × Nat) × (Nat × (Nat → Nat) × List En) × List Mn × List Ed × List Fi
def s_t (S : Sp) : List Int32 := S.1
def s_w (S : Sp) : Nat → List Int32 := S.2.1
def s_f (S : Sp) : Nat → Nat × Nat × Nat := S.2.2.1
def s_g (S : Sp) : Nat × (Nat → Nat) × List En := S.2.2.2.1
def s_m (S : Sp) : List Mn := S.2.2.2.2.1
def s_e (S : Sp) : List Ed := S.2.2.2.2.2.1
def s_d (S : Sp) : List Fi := S.2.2.2.2.2.2
def s_n (S : Sp) : Nat := (s_g S).1
def s_k (S : Sp) : Nat → Nat := (s_g S).2.1
def s_l (S : Sp) : List En := (s_g S).2.2
def f_c (f : Nat → Nat × Nat × Nat) (k : Nat) : Nat := (f k).1
def f_y (f : Nat → Nat × Nat × Nat) (k : Nat) : Nat := (f k).2.1
def f_j (f : Nat → Nat × Nat × Nat) (k : Nat) : Nat := (f k).2.2
def rp : List En → Tr
  | [] => T0
  | e :: l => ap e (rp l)
def LogOk (n : Nat) (kd : Nat → Nat) : List En → Prop
  | [] => True
  | e :: l => LogOk n kd l ∧ Va n kd e (rp l)
def s_T (S : Sp) : Tr := rp (s_l S)
theorem LogOk.wf {n : Nat} {kd : Nat → Nat} (hn : n ≤ 120) : ∀ {l : List En}, LogOk n kd l → Wf n kd (rp l)
  | [], _ => Wf_T0 hn
  | _ :: _, h => Wf_ap (LogOk.wf hn h.1) h.2
theorem Va.more {n m : Nat} {kd kd' : Nat → Nat} {e : En} {T : Tr} (hW : Wf n kd T) (h : n ≤ m) (hk : ∀ x, x < n → kd' x = kd x) (hv : Va n kd e T) : Va m kd' e T := by
  rcases hv with ⟨a, v⟩ | ⟨a, v⟩ | ⟨a, v⟩ | ⟨a, v⟩
  · exact Or.inl ⟨a, by have := v.1; omega, v.2⟩
  · exact Or.inr (Or.inl ⟨a, v⟩)
  · exact Or.inr (Or.inr (Or.inl ⟨a, v⟩))
  · refine Or.inr (Or.inr (Or.inr ⟨a, v.1, v.2.1, ?_, v.2.2.2⟩))
    rw [hk _ (hW.h_lt v.1), hk _ (hW.h_lt v.2.1)]
    exact v.2.2.1
theorem LogOk.more {n m : Nat} {kd kd' : Nat → Nat} (hn : n ≤ 120) (h : n ≤ m) (hk : ∀ x, x < n → kd' x = kd x) : ∀ {l : List En}, LogOk n kd l → LogOk m kd' l
  | [], _ => trivial
  | _ :: _, g => ⟨LogOk.more hn h hk g.1, Va.more (LogOk.wf hn g.1) h hk g.2⟩
/-- what is true of every state -/
def SOk (S : Sp) : Prop :=
  s_n S ≤ 120 ∧ (∀ x, x < s_n S → s_k S x < 6) ∧ LogOk (s_n S) (s_k S) (s_l S) ∧ (s_l S).length ≤ 200 ∧ (∀ k, k < 6 → (s_w S k).length ≤ 10 ∧ (s_w S k).all isL = true) ∧
  (∀ k, k < 6 → f_c (s_f S) k < 8 ∧ f_y (s_f S) k < 5 ∧ f_j (s_f S) k < 3) ∧ (s_t S).length ≤ 600 ∧ (s_m S).length ≤ 100 ∧ (s_e S).length ≤ 8 ∧
  (∀ i k f e m, (i, k, f, e, m) ∈ s_m S → i < s_n S ∧ k < 5 ∧ (k = 0 → f < s_n S) ∧ (k = 1 → f < 6) ∧ (k = 2 → f < 6) ∧ (k = 3 → f < 6) ∧ (k = 4 → f < s_n S ∧ ∃ d, (s_e S)[e]? = some d ∧ d f ≠ none) ∧ (k ≠ 1 → m = []) ∧ m.length ≤ 12 ∧ ∀ x ∈ m, x < s_n S ∧ s_k S x = f) ∧
  (∀ d, d ∈ s_e S → ∀ x td nm, d x = some (td, nm) → x < s_n S ∧ td.length ≤ 60 ∧ nm.length ≤ td.length ∧ nm = td.drop (td.length - nm.length) ∧ ∀ v ∈ td, b8 v = v)
theorem SOk.wf {S : Sp} (h : SOk S) : Wf (s_n S) (s_k S) (s_T S) := LogOk.wf h.1 h.2.2.1
/-! the reference's rows -/
def RF (σ : Hp) (o : Nat) (f : Nat → Nat × Nat × Nat) : Prop := ∀ k, k < 6 → h_X σ (o + 1 + 3) k = nI (f_c f k) ∧ h_X σ (o + 1 + 4) k = nI (f_y f k) ∧ h_X σ (o + 1 + 5) k = nI (f_j f k)
def RL (σ : Hp) (o : Nat) (l : List En) : Prop := h_I σ 716 o = nI l.length ∧ ∀ k e, l.reverse[k]? = some e → h_X σ (o + 1 + 10) k = nI e.1 ∧ h_X σ (o + 1 + 11) k = nI e.2.1 ∧ h_X σ (o + 1 + 12) k = eB e ∧ h_X σ (o + 1 + 13) k = nI e.2.2.2
def RG (σ : Hp) (o : Nat) (g : Nat × (Nat → Nat) × List En) : Prop := RT σ o g.1 g.2.1 (rp g.2.2) ∧ RL σ o g.2.2
def RU (σ : Hp) (o : Nat) (f : Nat → Nat × Nat × Nat) (g : Nat × (Nat → Nat) × List En) : Prop := h_I σ 721 o = nI 1 ∧ mkD σ o g.1 (onT g.1 (rp g.2.2)) (fun x => nI (g.2.1 x)) (f_c f) (f_y f) (f_j f) (ordT (rp g.2.2)) ∨ h_I σ 721 o = nI 0
def RMe (σ : Hp) (o : Nat) (ms : List Mn) : Prop := h_I σ 733 o = nI ms.length ∧ ∀ q i k f e m, ms[q]? = some (i, k, f, e, m) → h_X σ (o + 1 + 24) q = nI i ∧ h_X σ (o + 1 + 25) q = nI k ∧ h_X σ (o + 1 + 26) q = nI f ∧ (k = 4 → h_X σ (o + 1 + 27) q = nI e) ∧ h_X σ (o + 1 + 28) q = nI m.length ∧ ∀ j, j < m.length → h_X σ (o + 1 + 29) (12 * q + j) = nI (m.getD j 0)
def RE1 (σ : Hp) (o e : Nat) (d : Ed) : Prop := ∀ x, x < 120 → (d x = none → h_X σ (o + 1 + 34) (120 * e + x) = -1) ∧ ∀ td nm, d x = some (td, nm) → h_X σ (o + 1 + 33) (120 * e + x) = nI td.length ∧ h_X σ (o + 1 + 34) (120 * e + x) = nI (td.length - nm.length) ∧ ∀ i, i < td.length → h_X σ (o + 1 + 32) (60 * (120 * e + x) + i) = td.getD i 0
def RE (σ : Hp) (o : Nat) (es : List Ed) : Prop := h_I σ 744 o = nI es.length ∧ ∀ e d, es[e]? = some d → RE1 σ o e d
def RFi (σ : Hp) (o : Nat) (fs : List Fi) : Prop := h_I σ 748 o = nI (min 40 fs.length) ∧ ∀ i f t k m q, i < 40 → fs[i]? = some (f, t, k, m, q) → h_X σ (o + 1 + 35) i = nI f ∧ h_X σ (o + 1 + 36) i = nI t ∧ h_X σ (o + 1 + 37) i = nI k ∧ h_X σ (o + 1 + 38) i = nI m ∧ h_X σ (o + 1 + 39) i = oI q
def RM (σ : Hp) (o : Nat) (S : Sp) : Prop := ML σ o ∧ SOk S ∧ Tp σ o (s_t S) ∧ (∀ k, k < 6 → Wd σ o k (s_w S k)) ∧ RF σ o (s_f S) ∧ RG σ o (s_g S) ∧ RU σ o (s_f S) (s_g S) ∧ RMe σ o (s_m S) ∧ RE σ o (s_e S) ∧ RFi σ o (s_d S)
abbrev mAR : List Nat := [0, 1, 2, 3, 4, 5, 6, 7, 8, 9, 10, 11, 12, 13, 14, 15, 16, 17, 18, 19, 20, 21, 22, 23, 24, 25, 26, 27, 28, 29, 30, 31, 32, 33, 34, 35, 36, 37, 38, 39]
abbrev mAI : List Nat := [705, 711, 716, 721, 724, 733, 741, 742, 744, 748, 749, 755, 756]
theorem MFr.wide {R1 F1 R2 F2 : List Nat} {σ τ : Hp} {o : Nat} (h : MFr R1 F1 σ τ o) (h1 : ∀ j ∈ R1, j ∈ R2) (h2 : ∀ f ∈ F1, f ∈ F2) : MFr R2 F2 σ τ o := by
  obtain ⟨a, b, c, d, e, f, g⟩ := h
  exact ⟨a, b, c, d, e, fun f' b' q => f f' b' (fun w => q ⟨w.1, h2 _ w.2⟩), fun b' q => g b' (fun j hj => q j (h1 j hj))⟩
section KP
variable {R F : List Nat} {σ τ : Hp} {o : Nat}
theorem Tp.kp {xs : List Int32} (h : MFr R F σ τ o) (h0 : 0 ∉ R) (h1 : 705 ∉ F) (g : Tp σ o xs) : Tp τ o xs := by
  unfold Tp at g ⊢
  rw [h.row h0, h.fld h1]
  exact g
theorem Wd.kp {k : Nat} {ws : List Int32} (h : MFr R F σ τ o) (h0 : 1 ∉ R) (h1 : 2 ∉ R) (g : Wd σ o k ws) : Wd τ o k ws := by
  unfold Wd at g ⊢
  rw [h.row h0, h.row h1]
  exact g
theorem RF.kp {f : Nat → Nat × Nat × Nat} (h : MFr R F σ τ o) (h0 : 3 ∉ R) (h1 : 4 ∉ R) (h2 : 5 ∉ R) (g : RF σ o f) : RF τ o f := by
  unfold RF at g ⊢
  rw [h.row h0, h.row h1, h.row h2]
  exact g
theorem RT.kp {n : Nat} {kd : Nat → Nat} {T : Tr} (h : MFr R F σ τ o) (h0 : 6 ∉ R) (h1 : 7 ∉ R) (h2 : 8 ∉ R) (h3 : 9 ∉ R) (h4 : 711 ∉ F) (g : RT σ o n kd T) : RT τ o n kd T := by
  unfold RT at g ⊢
  rw [h.row h0, h.row h1, h.row h2, h.row h3, h.fld h4]
  exact g
theorem RL.kp {l : List En} (h : MFr R F σ τ o) (h0 : 10 ∉ R) (h1 : 11 ∉ R) (h2 : 12 ∉ R) (h3 : 13 ∉ R) (h4 : 716 ∉ F) (g : RL σ o l) : RL τ o l := by
  unfold RL at g ⊢
  rw [h.row h0, h.row h1, h.row h2, h.row h3, h.fld h4]
  exact g
theorem RG.kp {g' : Nat × (Nat → Nat) × List En} (h : MFr R F σ τ o) (hr : ∀ j, 6 ≤ j → j < 14 → j ∉ R) (h4 : 711 ∉ F) (h5 : 716 ∉ F) (g : RG σ o g') : RG τ o g' :=
  ⟨g.1.kp h (hr 6 (by omega) (by omega)) (hr 7 (by omega) (by omega)) (hr 8 (by omega) (by omega)) (hr 9 (by omega) (by omega)) h4, g.2.kp h (hr 10 (by omega) (by omega)) (hr 11 (by omega) (by omega)) (hr 12 (by omega) (by omega)) (hr 13 (by omega) (by omega)) h5⟩
theorem RU.kp {f : Nat → Nat × Nat × Nat} {g' : Nat × (Nat → Nat) × List En} (h : MFr R F σ τ o) (hr : ∀ j, 14 ≤ j → j < 22 → j ∉ R) (h4 : 721 ∉ F) (h5 : 724 ∉ F) (g : RU σ o f g') : RU τ o f g' := by
  unfold RU mkD Tx at g ⊢
  rw [h.row (hr 14 (by omega) (by omega)), h.row (hr 15 (by omega) (by omega)), h.row (hr 16 (by omega) (by omega)), h.row (hr 17 (by omega) (by omega)), h.row (hr 18 (by omega) (by omega)), h.row (hr 19 (by omega) (by omega)), h.row (hr 20 (by omega) (by omega)), h.row (hr 21 (by omega) (by omega)), h.fld h4, h.fld h5]
  exact g
theorem RMe.kp {ms : List Mn} (h : MFr R F σ τ o) (hr : ∀ j, 24 ≤ j → j < 30 → j ∉ R) (h4 : 733 ∉ F) (g : RMe σ o ms) : RMe τ o ms := by
  unfold RMe at g ⊢
  rw [h.row (hr 24 (by omega) (by omega)), h.row (hr 25 (by omega) (by omega)), h.row (hr 26 (by omega) (by omega)), h.row (hr 27 (by omega) (by omega)), h.row (hr 28 (by omega) (by omega)), h.row (hr 29 (by omega) (by omega)), h.fld h4]
  exact g
theorem RE1.kp {e : Nat} {d : Ed} (h : MFr R F σ τ o) (hr : ∀ j, 32 ≤ j → j < 35 → j ∉ R) (g : RE1 σ o e d) : RE1 τ o e d := by
  unfold RE1 at g ⊢
  rw [h.row (hr 32 (by omega) (by omega)), h.row (hr 33 (by omega) (by omega)), h.row (hr 34 (by omega) (by omega))]
  exact g
theorem RE.kp {es : List Ed} (h : MFr R F σ τ o) (hr : ∀ j, 32 ≤ j → j < 35 → j ∉ R) (h4 : 744 ∉ F) (g : RE σ o es) : RE τ o es :=
  ⟨by rw [h.fld h4]; exact g.1, fun e d hd => (g.2 e d hd).kp h hr⟩
theorem RFi.kp {fs : List Fi} (h : MFr R F σ τ o) (hr : ∀ j, 35 ≤ j → j < 40 → j ∉ R) (h4 : 748 ∉ F) (g : RFi σ o fs) : RFi τ o fs := by
  unfold RFi at g ⊢
  rw [h.row (hr 35 (by omega) (by omega)), h.row (hr 36 (by omega) (by omega)), h.row (hr 37 (by omega) (by omega)), h.row (hr 38 (by omega) (by omega)), h.row (hr 39 (by omega) (by omega)), h.fld h4]
  exact g
end KP
section MC
variable {l : Launch} {D : DD} {σ : Hp} {o : Nat}
theorem onT_lt {n : Nat} {kd : Nat → Nat} {T : Tr} (hW : Wf n kd T) {x : Nat} (hx : t_h T x = true) : ∃ p, liv T p ∧ x ∈ t_k T p ∧ onT n T x = cd p := by
  obtain ⟨p, h1, h2, -⟩ := hW.h_par hx
  exact ⟨p, h1, h2, onT_on hW h1 h2⟩
theorem mkP_T {S : Sp} (h : RM σ o S) : mkP σ o (s_n S) (f_c (s_f S)) (f_y (s_f S)) (f_j (s_f S)) (ordT (s_T S)) := by
  obtain ⟨-, hS, -, -, hF, ⟨⟨r1, r2, r3, r4, r5, r6, r7⟩, -⟩, -⟩ := h
  have hW := hS.wf
  have hn := hW.1
  have r5 : h_X σ (o + 1 + 7) = onT (s_n S) (s_T S) := r5
  have r2 : h_X σ (o + 1 + 6) = fun x => nI (s_k S x) := r2
  have r6 : ∀ p, liv (s_T S) p → ∀ i z, (t_k (s_T S) p)[i]? = some z → h_X σ (o + 1 + 8) z = nI i := r6
  have k31 : ∀ x, x < s_n S → s_k S x < 2 ^ 31 := fun x hx => by have := hS.2.1 x hx; omega
  refine ⟨hn, r1, ?_, by have := ord_len hW; omega, ord_nd hW, fun x hx => ⟨s_k S x, hS.2.1 x hx, by rw [r2]⟩, fun k hk => ?_, fun x hx => ?_⟩
  · rw [r5]
    exact isW_T hW r6
  · have a := hF k hk
    have b := hS.2.2.2.2.2.1 k hk
    exact ⟨a.1, b.1, a.2.1, b.2.1, a.2.2, b.2.2⟩
  · have hx := (ord_mem hW).mp hx
    have hxn := hW.h_lt hx
    obtain ⟨p, p1, p2, p3⟩ := onT_lt hW hx
    rw [r5, r2]
    refine ⟨hxn, clS_T hW 200 x (fuel hW (by omega)) hx, fun c => ?_, fun t => ?_, ?_⟩
    · rw [p3]
      exact abS_T hW 200 p (fuel hW (hW.liv_le p1)) p1
    · rw [← cd_n (show x ≠ 120 by omega)]
      exact upS_T hW 200 x (fuel hW (by omega)) (Or.inr hx)
    · have hkx := hS.2.1 x hxn
      have hsc := (hS.2.2.2.2.2.1 _ hkx).1
      unfold b0O
      rw [nI_clamp (by omega)]
      by_cases e : 1 < f_c (s_f S) (s_k S x)
      · rw [if_pos e, abv_T hW (by omega) k31 hx]
        cases e2 : abT (s_T S) (s_k S) (f_c (s_f S) (s_k S x) - 2) x with
        | none => exact Or.inl (by decide)
        | some q =>
          obtain ⟨-, q2, q3, -⟩ := abT_le hW hx e2
          exact Or.inr ⟨q, hW.h_lt q2, q3, rfl⟩
      · rw [if_neg e, p3]
        rcases p1 with rfl | p1
        · exact Or.inl (by decide)
        · have hpn := hW.h_lt p1
          obtain ⟨dp, hd⟩ := hW.2.2.2.2.1
          exact Or.inr ⟨p, hpn, fun e => by have := hd _ _ p2; rw [e] at this; omega, cd_n (by omega)⟩
/-- behind make(): all is made -/
def RMd (σ : Hp) (o : Nat) (S : Sp) : Prop := RM σ o S ∧ h_I σ 721 o = nI 1 ∧ mkD σ o (s_n S) (onT (s_n S) (s_T S)) (fun x => nI (s_k S x)) (f_c (s_f S)) (f_y (s_f S)) (f_j (s_f S)) (ordT (s_T S))
theorem RM.kp {R F : List Nat} {τ : Hp} {S : Sp} (h : MFr R F σ τ o) (hR : ∀ j ∈ R, j ∈ [22, 23, 30, 31]) (hF : ∀ f ∈ F, f ∈ [741, 742, 749, 755, 756]) (g : RM σ o S) : RM τ o S := by
  have nr : ∀ j, j ∉ [22, 23, 30, 31] → j ∉ R := fun j hj q => hj (hR j q)
  have nf : ∀ f, f ∉ [741, 742, 749, 755, 756] → f ∉ F := fun f hf q => hf (hF f q)
  obtain ⟨g1, g2, g3, g4, g5, g6, g7, g8, g9, g10⟩ := g
  refine ⟨h.mL g1, g2, g3.kp h (nr _ (by decide)) (nf _ (by decide)), fun k hk => (g4 k hk).kp h (nr _ (by decide)) (nr _ (by decide)), g5.kp h (nr _ (by decide)) (nr _ (by decide)) (nr _ (by decide)), g6.kp h (fun j a b => nr j ?_) (nf _ (by decide)) (nf _ (by decide)), g7.kp h (fun j a b => nr j ?_) (nf _ (by decide)) (nf _ (by decide)), g8.kp h (fun j a b => nr j ?_) (nf _ (by decide)), g9.kp h (fun j a b => nr j ?_) (nf _ (by decide)), g10.kp h (fun j a b => nr j ?_) (nf _ (by decide))⟩
  all_goals simp only [List.mem_cons, List.not_mem_nil, or_false]; omega
theorem c_M_makeS {S : Sp} (h : RM σ o S) : Cn l D m_M_make 0 0 [va_rf (some o)] σ (fun r τ => r = none ∧ RMd τ o S ∧ MFr mkR mkI σ τ o) := by
  have hP := mkP_T h
  obtain ⟨g1, g2, g3, g4, g5, g6, g7, g8, g9, g10⟩ := id h
  have r5 : h_X σ (o + 1 + 7) = onT (s_n S) (s_T S) := g6.1.2.2.2.2.1
  have r2 : h_X σ (o + 1 + 6) = fun x => nI (s_k S x) := g6.1.2.1
  refine Cn.mono (c_M_make g1 hP (by rw [r5, r2]; exact g7)) ?_
  rintro r τ ⟨rfl, hf, h1, h2⟩
  rw [r5, r2] at h2
  refine ⟨rfl, ⟨⟨hf.mL g1, g2, g3.kp hf (by decide) (by decide), fun k hk => (g4 k hk).kp hf (by decide) (by decide), g5.kp hf (by decide) (by decide) (by decide), g6.kp hf (fun j a b => ?_) (by decide) (by decide), Or.inl ⟨h1, h2⟩, g8.kp hf (fun j a b => ?_) (by decide), g9.kp hf (fun j a b => ?_) (by decide), g10.kp hf (fun j a b => ?_) (by decide)⟩, h1, h2⟩, hf⟩
  all_goals simp only [List.mem_cons, List.not_mem_nil, or_false]; omega
end MC
