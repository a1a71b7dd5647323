/-! ===== the class's picture of the state ===== -/
/-- numbers that hold -/
def CN (σ : Hp) (c : Nat) (ad : Nat → Nat) (S : Sp) : Prop := Ch σ 520 ((ordT (s_T S)).map ad) (h_P σ 520 (c + 4)) ∧ ∀ i x, (ordT (s_T S))[i]? = some x → h_I σ 521 (ad x) = nI i ∧ h_I σ 523 (ad x) = nI (n_c S i) ∧ h_P σ 524 (ad x) = (nbO S x).map ad ∧ Ln σ (ad x + 2) 10 (mkX S x) ∧ Ln σ (ad x + 4) 40 (n_n S x)
/-- a change, of entry e, which was done to the tree T -/
def CO (σ : Hp) (ad : Nat → Nat) (a : Nat) (e : En) (T : Tr) : Prop := a < h_z σ ∧ h_K σ a = 1 ∧
  ((e.1 = 1 ∧ h_I σ 0 a = nI 0 ∧ h_P σ 1 a = some (ad e.2.1)) ∨
   (e.1 = 2 ∧ h_I σ 0 a = nI 1 ∧ h_P σ 1 a = some (ad e.2.1) ∧ ∃ p k, liv T p ∧ (t_k T p)[k]? = some e.2.1 ∧ h_P σ 2 a = some (ad p) ∧ h_I σ 3 a = nI k) ∨
   (e.1 = 3 ∧ h_I σ 0 a = nI 2 ∧ h_P σ 1 a = some (ad e.2.1) ∧ ∃ p k, liv T p ∧ (t_k T p)[k]? = some e.2.1 ∧ h_P σ 2 a = some (ad p) ∧ h_I σ 3 a = nI k) ∨
   (e.1 = 4 ∧ h_I σ 0 a = nI 3 ∧ h_P σ 1 a = some (ad e.2.2.1) ∧ h_P σ 4 a = (t_k T e.2.2.1).head?.map ad ∧ ∃ p k, liv T p ∧ (t_k T p)[k]? = some e.2.2.1 ∧ h_P σ 2 a = some (ad p) ∧ h_I σ 3 a = nI k))
def CLg (σ : Hp) (c : Nat) (ad : Nat → Nat) : List En → Prop
  | [] => True
  | e :: t => CLg σ c ad t ∧ ∃ a, h_Y σ (c + 37) t.length = some a ∧ CO σ ad a e (rp t)
def CL (σ : Hp) (c : Nat) (ad : Nat → Nat) (S : Sp) : Prop := h_I σ 644 c = nI (s_l S).length ∧ CLg σ c ad (s_l S)
/-- a Line that is never changed -/
def LnI (ow : Nat → Nat) (σ : Hp) (a : Nat) (xs : List Int32) : Prop := a + 1 < h_z σ ∧ ow a = 6 ∧ ow (a + 1) = 6 ∧ Ln σ a xs.length xs
def mRow (ad : Nat → Nat) (q : Mn) : List Nat := if q.2.1 = 0 ∨ q.2.1 = 4 then [ad q.2.2.1] else if q.2.1 = 1 then q.2.2.2.2.map ad else []
def mLen (q : Mn) : Nat := if q.2.1 = 0 ∨ q.2.1 = 4 then 1 else if q.2.1 = 1 then 12 else 0
/-- a mention -/
def CM1 (ow : Nat → Nat) (σ : Hp) (ad : Nat → Nat) (S : Sp) (a : Nat) (q : Mn) : Prop := a < h_z σ ∧ h_K σ a = 5 ∧ h_I σ 256 a = nI q.2.1 ∧ h_P σ 257 a = some (ad q.1) ∧ ((q.2.1 = 2 ∨ q.2.1 = 3) → h_I σ 258 a = nI q.2.2.1) ∧
  (q.2.1 ≠ 4 → h_P σ 259 a = none) ∧ (q.2.1 = 4 → ∃ b, h_P σ 259 a = some b ∧ LnI ow σ b (edT S q.2.2.2.1 q.2.2.1)) ∧ ∃ b, h_P σ 260 a = some b ∧ b < h_z σ ∧ ow b = 6 ∧ h_K σ b = 35 ∧ h_L σ b = mLen q ∧ ∀ j, j < mLen q → h_Y σ b j = (mRow ad q)[j]?
def CM (ow : Nat → Nat) (σ : Hp) (c : Nat) (ad : Nat → Nat) (S : Sp) : Prop := h_I σ 646 c = nI (s_m S).length ∧ ∀ k q, (s_m S)[k]? = some q → ∃ a, h_Y σ (c + 38) k = some a ∧ CM1 ow σ ad S a q
/-- an edition -/
def CE1 (ow : Nat → Nat) (σ : Hp) (a : Nat) (d : Ed) : Prop := a < h_z σ ∧ h_K σ a = 2 ∧ ∃ t u N, h_P σ 64 a = some t ∧ h_P σ 65 a = some u ∧ t < h_z σ ∧ u < h_z σ ∧ ow t = 6 ∧ ow u = 6 ∧ h_K σ t = 33 ∧ h_K σ u = 33 ∧ h_L σ t = N ∧ h_L σ u = N ∧ N ≤ 120 ∧ (∀ x, N ≤ x → d x = none) ∧
  ∀ x, x < N → (d x = none → h_Y σ t x = none ∧ h_Y σ u x = none) ∧ ∀ td nm, d x = some (td, nm) → ∃ p q, h_Y σ t x = some p ∧ h_Y σ u x = some q ∧ LnI ow σ p td ∧ LnI ow σ q nm
def CE (ow : Nat → Nat) (σ : Hp) (c : Nat) (S : Sp) : Prop := h_I σ 649 c = nI (s_e S).length ∧ ∀ k d, (s_e S)[k]? = some d → ∃ a, h_Y σ (c + 40) k = some a ∧ CE1 ow σ a d
/-- the findings -/
def CR (σ : Hp) (c : Nat) (S : Sp) : Prop := h_I σ 387 (c + 41) = nI (s_d S).length ∧ (s_d S).length ≤ 601 ∧ ∀ i f t k m q, i < 40 → (s_d S)[i]? = some (f, t, k, m, q) → h_X σ (c + 42) (5 * i) = nI f ∧ h_X σ (c + 42) (5 * i + 1) = nI t ∧ h_X σ (c + 42) (5 * i + 2) = nI k ∧ h_X σ (c + 42) (5 * i + 3) = nI m ∧ h_X σ (c + 42) (5 * i + 4) = oI q
/-- forms and words -/
def CW (σ : Hp) (c : Nat) (S : Sp) : Prop := ∀ k, k < 6 → Ln σ (c + 18 + 3 * k) 10 (s_w S k) ∧ h_I σ 129 (c + 17 + 3 * k) = nI (f_c (s_f S) k) ∧ h_I σ 130 (c + 17 + 3 * k) = nI (f_y (s_f S) k) ∧ h_I σ 131 (c + 17 + 3 * k) = nI (f_j (s_f S) k)
/-- the stamps -/
def CP (σ : Hp) (c n : Nat) (ad : Nat → Nat) (B : Nat) : Prop := ∃ s, h_I σ 449 (c + 39) = nI s ∧ s ≤ B ∧ ∀ x, x < n → ∃ p, p ≤ s ∧ h_I σ 529 (ad x) = nI p
/-- all of it; B: how far the stamps may be -/
def RC (ow : Nat → Nat) (σ : Hp) (c : Nat) (ad : Nat → Nat) (B : Nat) (S : Sp) : Prop :=
  SOk S ∧ CF ow σ c ∧ TC ow σ c (s_n S) (s_k S) ad ∧ CT σ (s_n S) (s_T S) ad ∧ Ln σ (c + 1) 600 (s_t S) ∧ (∃ xs, Ln σ (c + 43) 539 xs) ∧ CW σ c S ∧ (h_I σ 320 (c + 35) = nI 1 ∨ h_I σ 320 (c + 35) = nI 0 ∧ CN σ c ad S) ∧
  CL σ c ad S ∧ CM ow σ c ad S ∧ CE ow σ c S ∧ CR σ c S ∧ CP σ c (s_n S) ad B
section KC
variable {ow : Nat → Nat} {FI FP RS : List Nat} {σ τ : Hp} {c B : Nat} {ad : Nat → Nat} {S : Sp}
theorem TN.lt (hc : CF ow σ c) {n : Nat} {kd : Nat → Nat} (ht : TC ow σ c n kd ad) {x : Nat} (hx : TN n x) : ad x < h_z σ := by
  rcases hx with hx | rfl
  · have := (ht.2.2.2 x hx).2.2.1; omega
  · rw [ht.2.1]; have := hc.1; omega
theorem TC.kp {n : Nat} {kd : Nat → Nat} {ow' : Nat → Nat} (h : Fm ow FI FP RS σ τ) (hc : CF ow σ c) (h1 : ∀ f ∈ [512, 513, 579], f ∉ FI) (h2 : ∀ f ∈ [514, 525, 526, 527, 528], f ∉ FP) (h7 : 7 ∉ RS) (hl : ∀ x, x < n → LnK σ τ (ad x + 2) ∧ LnK σ τ (ad x + 4) ∧ LnK σ τ (ad x + 6)) (he : ∀ a, a < h_z σ → ow' a = ow a) (g : TC ow σ c n kd ad) : TC ow' τ c n kd ad := by
  obtain ⟨g1, g2, g3, g4⟩ := id g
  have z1 := h.1
  have z0 := hc.1
  have e15 : ow (c + 15) = 7 := hc.2.2.2.2.1 (15, 7) (by decide)
  refine ⟨?_, g2, g3, fun x hx => ?_⟩
  · rw [(h.2 (c + 3) (by omega)).2.2.1 579 (h1 579 (by decide)) (fun e => by cases e)]
    exact g1
  · obtain ⟨k1, k2, k3, k4, k5, k6, k7, k8, k9, k10, k11, k12, k13, k14, k15, k16, k17⟩ := g4 x hx
    obtain ⟨b1, b2, b3, b4, b5⟩ := h.2 (ad x) (by omega)
    obtain ⟨d1, d2, d3, d4, d5⟩ := h.2 (ad x + 1) (by omega)
    refine ⟨?_, k2, by omega, ?_, ?_, k6, ?_, ?_, ?_, ?_, ?_, by rw [d1]; exact k12, by rw [d2]; exact k13, fun j j1 j2 => by rw [he _ (by omega)]; exact k14 j j1 j2, (hl x hx).1 _ k15, (hl x hx).2.1 _ k16, (hl x hx).2.2 _ k17⟩
    · rw [((h.2 (c + 15) (by omega)).2.2.2.2 (by rw [e15]; exact h7)).2]
      exact k1
    · rw [b3 512 (h1 512 (by decide)) (fun e => by cases e)]; exact k4
    · rw [b3 513 (h1 513 (by decide)) (fun e => by cases e)]; exact k5
    · rw [b4 514 (h2 514 (by decide))]; exact k7
    · rw [b4 525 (h2 525 (by decide))]; exact k8
    · rw [b4 526 (h2 526 (by decide))]; exact k9
    · rw [b4 527 (h2 527 (by decide))]; exact k10
    · rw [b4 528 (h2 528 (by decide))]; exact k11
theorem CT.kp {n : Nat} {kd : Nat → Nat} {T : Tr} (h : Fm ow FI FP RS σ τ) (hc : CF ow σ c) (ht : TC ow σ c n kd ad) (hW : W0 n T) (h1 : 519 ∉ FI) (h2 : ∀ f ∈ [515, 516, 517, 518], f ∉ FP) (g : CT σ n T ad) : CT τ n T ad := by
  obtain ⟨g1, g2, g3, g4, g5, g6, g7⟩ := id g
  have hlt : ∀ x, TN n x → ad x < h_z σ := fun x hx => TN.lt hc ht hx
  have hcs := (CT.cs g).kp (τ := τ) (fun x hx => (h.2 _ (hlt x hx)).1) (fun f x hx hf => (h.2 _ (hlt x hx)).2.2.2.1 f (by rcases hf with rfl | rfl | rfl <;> exact h2 _ (by decide))) (fun x cc _ hcc => hW.2.1 x cc hcc)
  refine ⟨hcs.1, hcs.2.1, hcs.2.2.1, hcs.2.2.2.1, hcs.2.2.2.2, fun x hx => ?_, fun x hx => ?_⟩
  · rw [(h.2 _ (hlt x (Or.inl hx))).2.2.2.1 518 (h2 518 (by decide))]; exact g6 x hx
  · rw [(h.2 _ (hlt x (Or.inl hx))).2.2.1 519 h1 (fun e => by cases e)]; exact g7 x hx
theorem CN.kp (h : Fm ow FI FP RS σ τ) (hc : CF ow σ c) (hS : SOk S) (ht : TC ow σ c (s_n S) (s_k S) ad) (hk : ∀ x, x < s_n S → h_K σ (ad x) = 9) (h1 : ∀ f ∈ [521, 523, 193], f ∉ FI) (h2 : ∀ f ∈ [520, 524, 192], f ∉ FP) (h4 : 4 ∉ RS) (g : CN σ c ad S) : CN τ c ad S := by
  have hW := hS.wf
  have z0 := hc.1
  have hlt : ∀ x, x < s_n S → ad x + 8 ≤ h_z σ := fun x hx => (ht.2.2.2 x hx).2.2.1
  have hon : ∀ x, x ∈ ordT (s_T S) → x < s_n S := fun x hx => hW.h_lt ((ord_mem hW).mp hx)
  refine ⟨?_, fun i x hx => ?_⟩
  · rw [(h.2 (c + 4) (by omega)).2.2.2.1 520 (h2 520 (by decide))]
    refine Ch.ext (σ := σ) (fun b hb => ?_) g.1
    obtain ⟨d, hd, rfl⟩ := List.mem_map.mp hb
    have := hlt d (hon d hd)
    exact ⟨(h.2 _ (by omega)).1, (h.2 _ (by omega)).2.2.2.1 520 (h2 520 (by decide))⟩
  · have hxn := hon x (List.mem_of_getElem? hx)
    have := hlt x hxn
    obtain ⟨k1, k2, k3, k4, k5⟩ := g.2 i x hx
    obtain ⟨b1, b2, b3, b4, b5⟩ := h.2 (ad x) (by omega)
    have hown := (ht.2.2.2 x hxn).2.2.2.2.2.2.2.2.2.2.2.2.2.1
    refine ⟨by rw [b3 521 (h1 521 (by decide)) (fun e => by cases e)]; exact k1, by rw [b3 523 (h1 523 (by decide)) (fun e => by cases e)]; exact k2, by rw [b4 524 (h2 524 (by decide))]; exact k3, k4.kp h (by omega) ?_ ?_ (h2 192 (by decide)) (h1 193 (by decide)), k5.kp h (by omega) ?_ ?_ (h2 192 (by decide)) (h1 193 (by decide))⟩
    · rw [hown 2 (by omega) (by omega)]; exact h4
    · rw [show ad x + 2 + 1 = ad x + 3 by omega, hown 3 (by omega) (by omega)]; exact h4
    · rw [hown 4 (by omega) (by omega)]; exact h4
    · rw [show ad x + 4 + 1 = ad x + 5 by omega, hown 5 (by omega) (by omega)]; exact h4
theorem CO.kp {a : Nat} {e : En} {T : Tr} (h : Fm ow FI FP RS σ τ) (h1 : ∀ f ∈ [0, 3], f ∉ FI) (h2 : ∀ f ∈ [1, 2, 4], f ∉ FP) (g : CO σ ad a e T) : CO τ ad a e T := by
  unfold CO at g ⊢
  have z1 := h.1
  obtain ⟨b1, -, b3, b4, -⟩ := h.2 a g.1
  rw [b1, b3 0 (h1 0 (by decide)) (fun e => by cases e), b3 3 (h1 3 (by decide)) (fun e => by cases e), b4 1 (h2 1 (by decide)), b4 2 (h2 2 (by decide)), b4 4 (h2 4 (by decide))]
  exact ⟨by omega, g.2⟩
theorem CLg.kp (h : Fm ow FI FP RS σ τ) (hc : CF ow σ c) (h1 : ∀ f ∈ [0, 3], f ∉ FI) (h2 : ∀ f ∈ [1, 2, 4], f ∉ FP) (h7 : 9 ∉ RS) : ∀ {t : List En}, CLg σ c ad t → CLg τ c ad t
  | [], _ => trivial
  | e :: t, g => by
    have e37 : ow (c + 37) = 9 := hc.2.2.2.2.1 (37, 9) (by decide)
    have z0 := hc.1
    obtain ⟨a, a1, a2⟩ := g.2
    refine ⟨CLg.kp h hc h1 h2 h7 g.1, a, ?_, a2.kp h h1 h2⟩
    rw [((h.2 (c + 37) (by omega)).2.2.2.2 (by rw [e37]; exact h7)).2]
    exact a1
theorem CL.kp (h : Fm ow FI FP RS σ τ) (hc : CF ow σ c) (h1 : ∀ f ∈ [0, 3, 644], f ∉ FI) (h2 : ∀ f ∈ [1, 2, 4], f ∉ FP) (h7 : 9 ∉ RS) (g : CL σ c ad S) : CL τ c ad S := by
  have z0 := hc.1
  refine ⟨?_, CLg.kp h hc (fun f hf => h1 f (by simp only [List.mem_cons, List.not_mem_nil, or_false] at hf ⊢; omega)) h2 h7 g.2⟩
  rw [(h.2 c (by omega)).2.2.1 644 (h1 644 (by decide)) (fun e => by cases e)]
  exact g.1
theorem LnI.kp {a : Nat} {xs : List Int32} {ow' : Nat → Nat} (h : Fm ow FI FP RS σ τ) (h1 : 193 ∉ FI) (h2 : 192 ∉ FP) (h6 : 6 ∉ RS) (he : ∀ a, a < h_z σ → ow' a = ow a) (g : LnI ow σ a xs) : LnI ow' τ a xs := by
  obtain ⟨g1, g2, g3, g4⟩ := g
  have z1 := h.1
  exact ⟨by omega, by rw [he _ (by omega)]; exact g2, by rw [he _ (by omega)]; exact g3, g4.kp h g1 (by rw [g2]; exact h6) (by rw [g3]; exact h6) h2 h1⟩
theorem CM1.kp {a : Nat} {q : Mn} {ow' : Nat → Nat} {S' : Sp} (h : Fm ow FI FP RS σ τ) (h1 : ∀ f ∈ [256, 258, 193], f ∉ FI) (h2 : ∀ f ∈ [257, 259, 260, 192], f ∉ FP) (h6 : 6 ∉ RS) (he : ∀ a, a < h_z σ → ow' a = ow a) (hS' : q.2.1 = 4 → edT S' q.2.2.2.1 q.2.2.1 = edT S q.2.2.2.1 q.2.2.1) (g : CM1 ow σ ad S a q) : CM1 ow' τ ad S' a q := by
  obtain ⟨g0, g1, g2, g3, g4, g5, g6, b, g7, g8, g9, g10, g11, g12⟩ := g
  have z1 := h.1
  obtain ⟨b1, b2, b3, b4, b5⟩ := h.2 a g0
  obtain ⟨d1, d2, d3, d4, d5⟩ := h.2 b g8
  refine ⟨by omega, by rw [b1]; exact g1, by rw [b3 256 (h1 256 (by decide)) (fun e => by cases e)]; exact g2, by rw [b4 257 (h2 257 (by decide))]; exact g3, fun w => by rw [b3 258 (h1 258 (by decide)) (fun e => by cases e)]; exact g4 w, fun w => by rw [b4 259 (h2 259 (by decide))]; exact g5 w, fun w => ?_, b, by rw [b4 260 (h2 260 (by decide))]; exact g7, by omega, by rw [he _ g8]; exact g9, by rw [d1]; exact g10, by rw [d2]; exact g11, fun j hj => by rw [(d5 (by rw [g9]; exact h6)).2]; exact g12 j hj⟩
  obtain ⟨p, p1, p2⟩ := g6 w
  exact ⟨p, by rw [b4 259 (h2 259 (by decide))]; exact p1, by rw [hS' w]; exact p2.kp h (h1 193 (by decide)) (h2 192 (by decide)) h6 he⟩
theorem CM.kp {ow' : Nat → Nat} {S' : Sp} (h : Fm ow FI FP RS σ τ) (hc : CF ow σ c) (h1 : ∀ f ∈ [256, 258, 193, 646], f ∉ FI) (h2 : ∀ f ∈ [257, 259, 260, 192], f ∉ FP) (h6 : 6 ∉ RS) (h7 : 10 ∉ RS) (he : ∀ a, a < h_z σ → ow' a = ow a) (hm : s_m S' = s_m S) (hS' : ∀ q ∈ s_m S, q.2.1 = 4 → edT S' q.2.2.2.1 q.2.2.1 = edT S q.2.2.2.1 q.2.2.1) (g : CM ow σ c ad S) : CM ow' τ c ad S' := by
  have z0 := hc.1
  have e38 : ow (c + 38) = 10 := hc.2.2.2.2.1 (38, 10) (by decide)
  unfold CM
  rw [hm]
  refine ⟨by rw [(h.2 c (by omega)).2.2.1 646 (h1 646 (by decide)) (fun e => by cases e)]; exact g.1, fun k q hq => ?_⟩
  obtain ⟨a, a1, a2⟩ := g.2 k q hq
  refine ⟨a, ?_, a2.kp h (fun f hf => h1 f (by simp only [List.mem_cons, List.not_mem_nil, or_false] at hf ⊢; omega)) h2 h6 he (hS' q (List.mem_of_getElem? hq))⟩
  rw [((h.2 (c + 38) (by omega)).2.2.2.2 (by rw [e38]; exact h7)).2]
  exact a1
theorem CE1.kp {a : Nat} {d : Ed} {ow' : Nat → Nat} (h : Fm ow FI FP RS σ τ) (h1 : 193 ∉ FI) (h2 : ∀ f ∈ [64, 65, 192], f ∉ FP) (h6 : 6 ∉ RS) (he : ∀ a, a < h_z σ → ow' a = ow a) (g : CE1 ow σ a d) : CE1 ow' τ a d := by
  obtain ⟨g0, g1, t, u, N, g2, g3, g4, g5, g6, g7, g8, g9, g10, g11, g12, g13, g14⟩ := g
  have z1 := h.1
  obtain ⟨b1, b2, b3, b4, b5⟩ := h.2 a g0
  obtain ⟨t1, t2, t3, t4, t5⟩ := h.2 t g4
  obtain ⟨u1, u2, u3, u4, u5⟩ := h.2 u g5
  refine ⟨by omega, by rw [b1]; exact g1, t, u, N, by rw [b4 64 (h2 64 (by decide))]; exact g2, by rw [b4 65 (h2 65 (by decide))]; exact g3, by omega, by omega, by rw [he _ g4]; exact g6, by rw [he _ g5]; exact g7, by rw [t1]; exact g8, by rw [u1]; exact g9, by rw [t2]; exact g10, by rw [u2]; exact g11, g12, g13, fun x hx => ?_⟩
  rw [(t5 (by rw [g6]; exact h6)).2, (u5 (by rw [g7]; exact h6)).2]
  refine ⟨(g14 x hx).1, fun td nm e => ?_⟩
  obtain ⟨p, q, q1, q2, q3, q4⟩ := (g14 x hx).2 td nm e
  exact ⟨p, q, q1, q2, q3.kp h h1 (h2 192 (by decide)) h6 he, q4.kp h h1 (h2 192 (by decide)) h6 he⟩
theorem CE.kp {ow' : Nat → Nat} {S' : Sp} (h : Fm ow FI FP RS σ τ) (hc : CF ow σ c) (h1 : ∀ f ∈ [193, 649], f ∉ FI) (h2 : ∀ f ∈ [64, 65, 192], f ∉ FP) (h6 : 6 ∉ RS) (h7 : 11 ∉ RS) (he : ∀ a, a < h_z σ → ow' a = ow a) (hm : s_e S' = s_e S) (g : CE ow σ c S) : CE ow' τ c S' := by
  have z0 := hc.1
  have e40 : ow (c + 40) = 11 := hc.2.2.2.2.1 (40, 11) (by decide)
  unfold CE
  rw [hm]
  refine ⟨by rw [(h.2 c (by omega)).2.2.1 649 (h1 649 (by decide)) (fun e => by cases e)]; exact g.1, fun k d hd => ?_⟩
  obtain ⟨a, a1, a2⟩ := g.2 k d hd
  refine ⟨a, ?_, a2.kp h (h1 193 (by decide)) h2 h6 he⟩
  rw [((h.2 (c + 40) (by omega)).2.2.2.2 (by rw [e40]; exact h7)).2]
  exact a1
theorem CR.kp {S' : Sp} (h : Fm ow FI FP RS σ τ) (hc : CF ow σ c) (h1 : 387 ∉ FI) (h8 : 8 ∉ RS) (hm : s_d S' = s_d S) (g : CR σ c S) : CR τ c S' := by
  have z0 := hc.1
  have e42 : ow (c + 42) = 8 := hc.2.2.2.2.1 (42, 8) (by decide)
  unfold CR at g ⊢
  rw [hm, (h.2 (c + 41) (by omega)).2.2.1 387 h1 (fun e => by cases e), ((h.2 (c + 42) (by omega)).2.2.2.2 (by rw [e42]; exact h8)).1]
  exact g
theorem CW.kp {S' : Sp} (h : Fm ow FI FP RS σ τ) (hc : CF ow σ c) (h1 : ∀ f ∈ [129, 130, 131, 193], f ∉ FI) (h2 : 192 ∉ FP) (h3 : 3 ∉ RS) (hm : s_w S' = s_w S) (hf : s_f S' = s_f S) (g : CW σ c S) : CW τ c S' := by
  have z0 := hc.1
  intro k hk
  obtain ⟨g1, g2, g3, g4⟩ := g k hk
  have o1 : ow (c + 18 + 3 * k) = 3 := by
    have := hc.2.2.2.2.1
    match k, hk with
    | 0, _ => exact this (18, 3) (by decide)
    | 1, _ => exact this (21, 3) (by decide)
    | 2, _ => exact this (24, 3) (by decide)
    | 3, _ => exact this (27, 3) (by decide)
    | 4, _ => exact this (30, 3) (by decide)
    | 5, _ => exact this (33, 3) (by decide)
    | k + 6, hk2 => omega
  have o2 : ow (c + 18 + 3 * k + 1) = 3 := by
    have := hc.2.2.2.2.1
    match k, hk with
    | 0, _ => exact this (19, 3) (by decide)
    | 1, _ => exact this (22, 3) (by decide)
    | 2, _ => exact this (25, 3) (by decide)
    | 3, _ => exact this (28, 3) (by decide)
    | 4, _ => exact this (31, 3) (by decide)
    | 5, _ => exact this (34, 3) (by decide)
    | k + 6, hk2 => omega
  obtain ⟨b1, b2, b3, b4, b5⟩ := h.2 (c + 17 + 3 * k) (by omega)
  rw [hm, hf]
  exact ⟨g1.kp h (by omega) (by rw [o1]; exact h3) (by rw [o2]; exact h3) h2 (h1 193 (by decide)), by rw [b3 129 (h1 129 (by decide)) (fun e => by cases e)]; exact g2, by rw [b3 130 (h1 130 (by decide)) (fun e => by cases e)]; exact g3, by rw [b3 131 (h1 131 (by decide)) (fun e => by cases e)]; exact g4⟩
theorem CP.kp {n : Nat} {kd : Nat → Nat} (h : Fm ow FI FP RS σ τ) (hc : CF ow σ c) (ht : TC ow σ c n kd ad) (h1 : ∀ f ∈ [449, 529], f ∉ FI) (g : CP σ c n ad B) : CP τ c n ad B := by
  have z0 := hc.1
  obtain ⟨s, s1, s2, s3⟩ := g
  refine ⟨s, by rw [(h.2 (c + 39) (by omega)).2.2.1 449 (h1 449 (by decide)) (fun e => by cases e)]; exact s1, s2, fun x hx => ?_⟩
  obtain ⟨p, p1, p2⟩ := s3 x hx
  have := (ht.2.2.2 x hx).2.2.1
  exact ⟨p, p1, by rw [(h.2 (ad x) (by omega)).2.2.1 529 (h1 529 (by decide)) (fun e => by cases e)]; exact p2⟩
end KC
