/-! ===== the class: kids taken, given; the walk; there or not ===== -/
theorem ups_P {f : Nat} (hf : f ≠ 515) : ∀ (L : List Nat) (σ : Hp) (a c : Nat), h_P (upsA σ L a) f c = h_P σ f c
  | [], _, _, _ => rfl
  | b :: L, σ, a, c => by
    rw [upsA, ups_P hf L]
    exact hP_n _ _ hf
theorem ups_U : ∀ (L : List Nat) (σ : Hp) (a c : Nat), h_P (upsA σ L a) 515 c = if c ∈ L then some a else h_P σ 515 c
  | [], _, _, _ => by rw [if_neg (fun q => by cases q)]; rfl
  | b :: L, σ, a, c => by
    rw [upsA, ups_U L]
    by_cases e : c ∈ L
    · rw [if_pos e, if_pos (List.mem_cons_of_mem _ e)]
    · rw [if_neg e]
      by_cases e2 : c = b
      · rw [e2, hP_w, if_pos List.mem_cons_self]
      · rw [hP_m _ _ e2, if_neg (fun q => (List.mem_cons.mp q).elim e2 e)]
theorem ups_I : ∀ (L : List Nat) (σ : Hp) (a : Nat), h_I (upsA σ L a) = h_I σ
  | [], _, _ => rfl
  | b :: L, σ, a => (ups_I L _ a).trans rfl
theorem ups_z : ∀ (L : List Nat) (σ : Hp) (a : Nat), h_z (upsA σ L a) = h_z σ ∧ h_L (upsA σ L a) = h_L σ ∧ h_X (upsA σ L a) = h_X σ ∧ h_Y (upsA σ L a) = h_Y σ
  | [], _, _ => ⟨rfl, rfl, rfl, rfl⟩
  | b :: L, σ, a => ups_z L (w_P σ 515 b (some a)) a
def tkT (x y : Nat) (T : Tr) : Tr := (fun q => if q = x then t_k T x ++ t_k T y else if q = y then [] else t_k T q, t_h T, t_i T)
def gvT (x y j : Nat) (T : Tr) : Tr := (fun q => if q = x then (t_k T x).take j else if q = y then (t_k T x).drop j else t_k T q, t_h T, t_i T)
section CT
variable {σ : Hp} {n : Nat} {T : Tr} {ad : Nat → Nat}
theorem CT.take {x y : Nat} (h : CT σ n T ad) (hW : W0 n T) (hx : x < n) (hy : y < n) (hxy : x ≠ y) : CT (tkS σ (ad x) (ad y) ((t_k T x).map ad) ((t_k T y).map ad)) n (tkT x y T) ad := by
  obtain ⟨w0, w1, w2, w3⟩ := id hW
  obtain ⟨h1, h2, h3, h4, h5, h6, h7⟩ := id h
  have nxy : ad x ≠ ad y := fun e => hxy (h2 x y (Or.inl hx) (Or.inl hy) e)
  have kt : ∀ q, t_k (tkT x y T) q = if q = x then t_k T x ++ t_k T y else if q = y then [] else t_k T q := fun q => rfl
  have hB := h3 y (Or.inl hy)
  have hA := h3 x (Or.inl hx)
  -- the heap ahead of the ups
  generalize hρ : (match (if ((t_k T x).map ad).length = 0 then none else ((t_k T x).map ad)[((t_k T x).map ad).length - 1]?) with
    | none => w_P σ 516 (ad x) (h_P σ 516 (ad y))
    | some c => w_P σ 517 c (h_P σ 516 (ad y))) = ρ
  have es : tkS σ (ad x) (ad y) ((t_k T x).map ad) ((t_k T y).map ad) = w_P (upsA ρ ((t_k T y).map ad) (ad x)) 516 (ad y) none := by rw [← hρ]; rfl
  rw [es]
  -- what holds of ρ
  have facts : h_K ρ = h_K σ ∧ h_I ρ = h_I σ ∧ (∀ a, h_P ρ 515 a = h_P σ 515 a ∧ h_P ρ 518 a = h_P σ 518 a) ∧ (∀ q, TN n q → q ≠ x → h_P ρ 516 (ad q) = h_P σ 516 (ad q)) ∧ (∀ d, d < n → d ∉ t_k T x → h_P ρ 517 (ad d) = h_P σ 517 (ad d)) ∧ Ch ρ 517 ((t_k T x ++ t_k T y).map ad) (h_P ρ 516 (ad x)) := by
    cases hkx : t_k T x with
    | nil =>
      rw [hkx] at hρ
      have hρ : w_P σ 516 (ad x) (h_P σ 516 (ad y)) = ρ := hρ
      rw [← hρ]
      refine ⟨rfl, rfl, fun a => ⟨hP_n _ _ (by decide), hP_n _ _ (by decide)⟩, fun q hq hqx => hP_m _ _ (fun e => hqx (h2 q x hq (Or.inl hx) e)), fun d _ _ => hP_n _ _ (by decide), ?_⟩
      rw [List.nil_append, hP_w]
      exact Ch.ext (σ := σ) (fun b hb => ⟨rfl, hP_n _ _ (by decide)⟩) hB
    | cons c0 ks =>
      obtain ⟨A, cl, hsp⟩ : ∃ A cl, t_k T x = A ++ [cl] := ⟨_, _, (List.dropLast_concat_getLast (l := t_k T x) (by rw [hkx]; exact List.cons_ne_nil _ _)).symm⟩
      rw [← hkx]
      have hcm : cl ∈ t_k T x := by rw [hsp]; exact List.mem_append.mpr (Or.inr List.mem_cons_self)
      have hcn := w1 x cl hcm
      have hρ2 : w_P σ 517 (ad cl) (h_P σ 516 (ad y)) = ρ := by
        rw [← hρ, hsp, List.map_append, List.length_append, List.map_cons, List.map_nil, List.length_singleton, if_neg (by omega), Nat.add_sub_cancel, List.getElem?_append_right (by omega), Nat.sub_self]
        rfl
      rw [← hρ2]
      refine ⟨rfl, rfl, fun a => ⟨hP_n _ _ (by decide), hP_n _ _ (by decide)⟩, fun q _ _ => hP_n _ _ (by decide), fun d hd hdx => hP_m _ _ (fun e => hdx (by rw [h2 d cl (Or.inl hd) (Or.inl hcn) e]; exact hcm)), ?_⟩
      rw [hP_n _ _ (by decide)]
      have hnd := w2 x
      rw [hsp, List.map_append, List.map_cons, List.map_nil] at hA
      rw [hsp] at hnd
      obtain ⟨n1, n2, n3⟩ := List.nodup_append.mp hnd
      have emap : (t_k T x ++ t_k T y).map ad = A.map ad ++ ad cl :: (t_k T y).map ad := by
        rw [hsp, List.append_assoc, List.map_append]
        rfl
      rw [emap]
      refine Ch.chg (σ := σ) (fun b hb => ⟨rfl, ?_⟩) (h1 cl (Or.inl hcn)) ?_ hA
      · obtain ⟨d, hd, rfl⟩ := List.mem_map.mp hb
        have hdm : d ∈ t_k T x := by rw [hsp]; exact List.mem_append.mpr (Or.inl hd)
        exact hP_m _ _ (fun e => n3 d hd cl List.mem_cons_self (h2 d cl (Or.inl (w1 x d hdm)) (Or.inl hcn) e))
      · rw [hP_w]
        refine Ch.ext (σ := σ) (fun b hb => ⟨rfl, ?_⟩) hB
        obtain ⟨d, hd, rfl⟩ := List.mem_map.mp hb
        exact hP_m _ _ (fun e => hxy (w3 x y cl hcm (by rw [← h2 d cl (Or.inl (w1 y d hd)) (Or.inl hcn) e]; exact hd)))
  obtain ⟨f1, f2, f3, f4, f5, f6⟩ := facts
  have hKu : h_K (w_P (upsA ρ ((t_k T y).map ad) (ad x)) 516 (ad y) none) = h_K σ := (upsA_K ρ _ _).trans f1
  have ext : ∀ {L : List Nat} {p : Option Nat}, Ch ρ 517 L p → Ch (w_P (upsA ρ ((t_k T y).map ad) (ad x)) 516 (ad y) none) 517 L p := fun hc => Ch.ext (σ := ρ) (fun b _ => ⟨by rw [hKu, f1], by rw [hP_n _ _ (by decide), ups_P (by decide)]⟩) hc
  refine ⟨fun q hq => by rw [hKu]; exact h1 q hq, h2, fun q hq => ?_, fun q c hq hc => ?_, ?_, fun q hq => ?_, fun q hq => ?_⟩
  · rw [kt]
    by_cases e : q = x
    · rw [if_pos e, e, hP_m _ _ nxy, ups_P (by decide)]
      exact ext f6
    · rw [if_neg e]
      by_cases e2 : q = y
      · rw [if_pos e2, e2, hP_w]
        exact rfl
      · rw [if_neg e2, hP_m _ _ (fun e3 => e2 (h2 q y hq (Or.inl hy) e3)), ups_P (by decide), f4 q hq e]
        refine ext (Ch.ext (σ := σ) (fun b hb => ⟨by rw [f1], ?_⟩) (h3 q hq))
        obtain ⟨d, hd, rfl⟩ := List.mem_map.mp hb
        exact f5 d (w1 q d hd) (fun hm => e (w3 q x d hd hm))
  · rw [hP_n _ _ (by decide), ups_U]
    rw [kt] at hc
    by_cases e : q = x
    · rw [if_pos e] at hc
      rcases List.mem_append.mp hc with hc | hc
      · rw [if_neg (fun hm => hxy (w3 x y c hc ((mem_ad h hW (w1 x c hc)).mp hm))), (f3 _).1, e]
        exact h4 x c (Or.inl hx) hc
      · rw [if_pos ((mem_ad h hW (w1 y c hc)).mpr hc), e]
    · rw [if_neg e] at hc
      by_cases e2 : q = y
      · rw [if_pos e2] at hc; cases hc
      · rw [if_neg e2] at hc
        rw [if_neg (fun hm => e2 (w3 q y c hc ((mem_ad h hW (w1 q c hc)).mp hm))), (f3 _).1]
        exact h4 q c hq hc
  · rw [hP_n _ _ (by decide), ups_U, if_neg, (f3 _).1]
    · exact h5
    · intro hm
      obtain ⟨d, hd, e⟩ := List.mem_map.mp hm
      have := h2 d 120 (Or.inl (w1 y d hd)) (Or.inr rfl) e
      have := w1 y d hd
      omega
  · rw [hP_n _ _ (by decide), ups_P (by decide), (f3 _).2]
    exact h6 q hq
  · show h_I (upsA ρ ((t_k T y).map ad) (ad x)) 519 (ad q) = _
    rw [ups_I, f2]
    exact h7 q hq
theorem CT.give {x y j kid : Nat} (h : CT σ n T ad) (hW : W0 n T) (hx : x < n) (hy : y < n) (hxy : x ≠ y) (hky : t_k T y = []) (hj : (t_k T x)[j]? = some kid) : CT (gvS σ (ad x) (ad y) (ad kid) j ((t_k T x).map ad)) n (gvT x y j T) ad := by
  obtain ⟨w0, w1, w2, w3⟩ := id hW
  obtain ⟨h1, h2, h3, h4, h5, h6, h7⟩ := id h
  have nxy : ad x ≠ ad y := fun e => hxy (h2 x y (Or.inl hx) (Or.inl hy) e)
  have hkm := List.mem_of_getElem? hj
  have hjl := getE_lt hj
  have hdr : (t_k T x).drop j = kid :: (t_k T x).drop (j + 1) := by
    have hg : (t_k T x)[j] = kid := by rw [List.getElem?_eq_getElem hjl] at hj; exact Option.some.inj hj
    rw [List.drop_eq_getElem_cons hjl, hg]
  have kt : ∀ q, t_k (gvT x y j T) q = if q = x then (t_k T x).take j else if q = y then (t_k T x).drop j else t_k T q := fun q => rfl
  have hA := h3 x (Or.inl hx)
  have spl : t_k T x = (t_k T x).take j ++ (t_k T x).drop j := (List.take_append_drop j _).symm
  have hnd := w2 x
  rw [spl] at hnd
  obtain ⟨n1, n2, n3⟩ := List.nodup_append.mp hnd
  generalize hρ : (match (if j = 0 then none else ((t_k T x).map ad)[j - 1]?) with
    | none => w_P σ 516 (ad x) none
    | some c => w_P σ 517 c none) = ρ
  have es : gvS σ (ad x) (ad y) (ad kid) j ((t_k T x).map ad) = upsA (w_P ρ 516 (ad y) (some (ad kid))) (((t_k T x).drop j).map ad) (ad y) := by rw [← hρ, List.map_drop]; rfl
  rw [es]
  have facts : h_K ρ = h_K σ ∧ h_I ρ = h_I σ ∧ (∀ a, h_P ρ 515 a = h_P σ 515 a ∧ h_P ρ 518 a = h_P σ 518 a) ∧ (∀ q, TN n q → q ≠ x → h_P ρ 516 (ad q) = h_P σ 516 (ad q)) ∧ (∀ d, d < n → d ∉ (t_k T x).take j → h_P ρ 517 (ad d) = h_P σ 517 (ad d)) ∧ Ch ρ 517 (((t_k T x).take j).map ad) (h_P ρ 516 (ad x)) ∧ Ch σ 517 (((t_k T x).drop j).map ad) (some (ad kid)) := by
    by_cases hj0 : j = 0
    · subst hj0
      have hρ : w_P σ 516 (ad x) none = ρ := hρ
      rw [← hρ]
      refine ⟨rfl, rfl, fun a => ⟨hP_n _ _ (by decide), hP_n _ _ (by decide)⟩, fun q hq hqx => hP_m _ _ (fun e => hqx (h2 q x hq (Or.inl hx) e)), fun d _ _ => hP_n _ _ (by decide), ?_, ?_⟩
      · rw [hP_w]; exact rfl
      · rw [List.drop_zero] at hdr ⊢
        rw [hdr, List.map_cons] at hA ⊢
        exact ⟨rfl, hA.2⟩
    · have hjl2 : j - 1 < (t_k T x).length := by omega
      obtain ⟨cc, hcc⟩ : ∃ cc, (t_k T x)[j - 1]? = some cc := ⟨_, List.getElem?_eq_getElem hjl2⟩
      have hcm := List.mem_of_getElem? hcc
      have hcn := w1 x cc hcm
      have htk : (t_k T x).take j = (t_k T x).take (j - 1) ++ [cc] := by
        have hg : (t_k T x)[j - 1] = cc := by rw [List.getElem?_eq_getElem hjl2] at hcc; exact Option.some.inj hcc
        rw [← hg, ← List.take_succ_eq_append_getElem hjl2, show j - 1 + 1 = j by omega]
      have hct : cc ∈ (t_k T x).take j := by rw [htk]; exact List.mem_append.mpr (Or.inr List.mem_cons_self)
      have hρ2 : w_P σ 517 (ad cc) none = ρ := by
        rw [← hρ, if_neg hj0, List.getElem?_map, hcc]
        rfl
      rw [← hρ2]
      have hA2 : Ch σ 517 (((t_k T x).take (j - 1)).map ad ++ ad cc :: ((t_k T x).drop j).map ad) (h_P σ 516 (ad x)) := by
        have : (t_k T x).map ad = ((t_k T x).take (j - 1)).map ad ++ ad cc :: ((t_k T x).drop j).map ad := by
          conv => lhs; rw [spl, htk]
          rw [List.append_assoc, List.map_append]
          rfl
        rw [← this]
        exact hA
      refine ⟨rfl, rfl, fun a => ⟨hP_n _ _ (by decide), hP_n _ _ (by decide)⟩, fun q _ _ => hP_n _ _ (by decide), fun d hd hdx => hP_m _ _ (fun e => hdx (by rw [h2 d cc (Or.inl hd) (Or.inl hcn) e]; exact hct)), ?_, ?_⟩
      · rw [hP_n _ _ (by decide), htk, List.map_append, List.map_cons, List.map_nil]
        rw [htk] at n1
        obtain ⟨m1, m2, m3⟩ := List.nodup_append.mp n1
        refine Ch.chg (σ := σ) (B' := []) (fun b hb => ⟨rfl, ?_⟩) (h1 cc (Or.inl hcn)) ?_ hA2
        · obtain ⟨d, hd, rfl⟩ := List.mem_map.mp hb
          exact hP_m _ _ (fun e => m3 d hd cc List.mem_cons_self (h2 d cc (Or.inl (w1 x d (List.mem_of_mem_take hd))) (Or.inl hcn) e))
        · rw [hP_w]; exact rfl
      · have := (Ch.rest hA2).2
        rw [hdr, List.map_cons] at this ⊢
        exact ⟨rfl, this.2⟩
  obtain ⟨f1, f2, f3, f4, f5, f6, f7⟩ := facts
  have hKu : h_K (upsA (w_P ρ 516 (ad y) (some (ad kid))) (((t_k T x).drop j).map ad) (ad y)) = h_K σ := (upsA_K _ _ _).trans f1
  have ext : ∀ {L : List Nat} {p : Option Nat}, Ch ρ 517 L p → Ch (upsA (w_P ρ 516 (ad y) (some (ad kid))) (((t_k T x).drop j).map ad) (ad y)) 517 L p := fun hc => Ch.ext (σ := ρ) (fun b _ => ⟨by rw [hKu, f1], by rw [ups_P (by decide), hP_n _ _ (by decide)]⟩) hc
  have inD : ∀ c, c < n → (ad c ∈ ((t_k T x).drop j).map ad ↔ c ∈ (t_k T x).drop j) := by
    intro c hc
    rw [List.mem_map]
    constructor
    · rintro ⟨d, hd, e⟩
      rw [← h2 d c (Or.inl (w1 x d (List.mem_of_mem_drop hd))) (Or.inl hc) e]
      exact hd
    · exact fun hm => ⟨c, hm, rfl⟩
  refine ⟨fun q hq => by rw [hKu]; exact h1 q hq, h2, fun q hq => ?_, fun q c hq hc => ?_, ?_, fun q hq => ?_, fun q hq => ?_⟩
  · rw [kt, ups_P (by decide)]
    by_cases e : q = x
    · rw [if_pos e, e, hP_m _ _ nxy]
      exact ext f6
    · rw [if_neg e]
      by_cases e2 : q = y
      · rw [if_pos e2, e2, hP_w]
        refine ext (Ch.ext (σ := σ) (fun b hb => ⟨by rw [f1], ?_⟩) f7)
        obtain ⟨d, hd, rfl⟩ := List.mem_map.mp hb
        exact f5 d (w1 x d (List.mem_of_mem_drop hd)) (fun hm => n3 d hm d hd rfl)
      · rw [if_neg e2, hP_m _ _ (fun e3 => e2 (h2 q y hq (Or.inl hy) e3)), f4 q hq e]
        refine ext (Ch.ext (σ := σ) (fun b hb => ⟨by rw [f1], ?_⟩) (h3 q hq))
        obtain ⟨d, hd, rfl⟩ := List.mem_map.mp hb
        exact f5 d (w1 q d hd) (fun hm => e (w3 q x d hd (List.mem_of_mem_take hm)))
  · rw [ups_U, hP_n _ _ (by decide)]
    rw [kt] at hc
    by_cases e : q = x
    · rw [if_pos e] at hc
      have hcx := List.mem_of_mem_take hc
      rw [if_neg (fun hm => n3 c hc c ((inD c (w1 x c hcx)).mp hm) rfl), (f3 _).1, e]
      exact h4 x c (Or.inl hx) hcx
    · rw [if_neg e] at hc
      by_cases e2 : q = y
      · rw [if_pos e2] at hc
        rw [if_pos ((inD c (w1 x c (List.mem_of_mem_drop hc))).mpr hc), e2]
      · rw [if_neg e2] at hc
        rw [if_neg (fun hm => e (w3 q x c hc (List.mem_of_mem_drop ((inD c (w1 q c hc)).mp hm)))), (f3 _).1]
        exact h4 q c hq hc
  · rw [ups_U, hP_n _ _ (by decide), if_neg, (f3 _).1]
    · exact h5
    · intro hm
      obtain ⟨d, hd, e⟩ := List.mem_map.mp hm
      have hd1 := w1 x d (List.mem_of_mem_drop hd)
      have := h2 d 120 (Or.inl hd1) (Or.inr rfl) e
      omega
  · rw [ups_P (by decide), hP_n _ _ (by decide), (f3 _).2]
    exact h6 q hq
  · rw [ups_I]
    show h_I ρ 519 (ad q) = _
    rw [f2]
    exact h7 q hq
end CT
