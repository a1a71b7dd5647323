/-! ===== the class: its things as a tree ===== -/
theorem Ch.ext {σ τ : Hp} {f : Nat} : ∀ {L : List Nat} {p : Option Nat}, (∀ a ∈ L, h_K τ a = h_K σ a ∧ h_P τ f a = h_P σ f a) → Ch σ f L p → Ch τ f L p
  | [], _, _, h => h
  | a :: L, _, hL, h => ⟨h.1, by rw [(hL a List.mem_cons_self).1]; exact h.2.1, by rw [(hL a List.mem_cons_self).2]; exact Ch.ext (fun b hb => hL b (List.mem_cons_of_mem _ hb)) h.2.2⟩
theorem Ch.rest {σ : Hp} {f c : Nat} : ∀ {A B : List Nat} {p : Option Nat}, Ch σ f (A ++ c :: B) p → h_K σ c = 9 ∧ Ch σ f B (h_P σ f c)
  | [], _, _, h => ⟨h.2.1, h.2.2⟩
  | _ :: _, _, _, h => Ch.rest h.2.2
theorem Ch.chg {σ τ : Hp} {f c : Nat} {B B' : List Nat} : ∀ {A : List Nat} {p : Option Nat}, (∀ a ∈ A, h_K τ a = h_K σ a ∧ h_P τ f a = h_P σ f a) → h_K τ c = 9 → Ch τ f B' (h_P τ f c) → Ch σ f (A ++ c :: B) p → Ch τ f (A ++ c :: B') p
  | [], _, _, hc, hB, h => ⟨h.1, hc, hB⟩
  | a :: A, _, hA, hc, hB, h => ⟨h.1, by rw [(hA a List.mem_cons_self).1]; exact h.2.1, by rw [(hA a List.mem_cons_self).2]; exact Ch.chg (fun b hb => hA b (List.mem_cons_of_mem _ hb)) hc hB h.2.2⟩
def TN (n x : Nat) : Prop := x < n ∨ x = 120
def CT (σ : Hp) (n : Nat) (T : Tr) (ad : Nat → Nat) : Prop :=
  (∀ x, TN n x → h_K σ (ad x) = 9) ∧ (∀ x y, TN n x → TN n y → ad x = ad y → x = y) ∧ (∀ x, TN n x → Ch σ 517 ((t_k T x).map ad) (h_P σ 516 (ad x))) ∧
  (∀ x c, TN n x → c ∈ t_k T x → h_P σ 515 (ad c) = some (ad x)) ∧ h_P σ 515 (ad 120) = none ∧ (∀ x, x < n → h_P σ 518 (ad x) = (t_i T x).map ad) ∧ ∀ x, x < n → h_I σ 519 (ad x) = nI (t_h T x).toNat
/-- what is asked of the chains' lists -/
def W0 (n : Nat) (T : Tr) : Prop := n ≤ 120 ∧ (∀ q c, c ∈ t_k T q → c < n) ∧ (∀ q, (t_k T q).Nodup) ∧ ∀ q r c, c ∈ t_k T q → c ∈ t_k T r → q = r
theorem Wf.w0 {n : Nat} {kd : Nat → Nat} {T : Tr} (h : Wf n kd T) : W0 n T := ⟨h.1, fun _ _ hc => h.k_lt hc, h.2.2.1, h.2.2.2.1⟩
def hgT (x p j : Nat) (T : Tr) : Tr := (u_1 (t_k T) p (insA (t_k T p) j x), t_h T, t_i T)
def lvT (x : Nat) (T : Tr) : Tr := (fun q => rmv (t_k T q) x, t_h T, t_i T)
def thT (B : Nat → Bool) (b : Bool) (T : Tr) : Tr := (t_k T, fun z => if B z = true then b else t_h T z, t_i T)
section CT
variable {σ : Hp} {n : Nat} {T : Tr} {ad : Nat → Nat}
theorem mem_ad (h : CT σ n T ad) (hW : W0 n T) {q c : Nat} (hc : c < n) : ad c ∈ (t_k T q).map ad ↔ c ∈ t_k T q := by
  rw [List.mem_map]
  constructor
  · rintro ⟨d, hd, e⟩
    rw [← h.2.1 d c (Or.inl (hW.2.1 q d hd)) (Or.inl hc) e]
    exact hd
  · exact fun hm => ⟨c, hm, rfl⟩
theorem CT.hang {x p j : Nat} (h : CT σ n T ad) (hW : W0 n T) (hx : x < n) (hp : TN n p) (hxp : x ≠ p) (hno : ∀ q, x ∉ t_k T q) (hj : j ≤ (t_k T p).length) : CT (hgS σ (ad x) (ad p) j ((t_k T p).map ad)) n (hgT x p j T) ad := by
  have hW' := hW
  obtain ⟨w0, w1, w2, w3⟩ := hW'
  have h' := h
  obtain ⟨h1, h2, h3, h4, h5, h6, h7⟩ := h'
  have hx120 : x ≠ 120 := by omega
  have adn : ∀ q, TN n q → q ≠ x → ad q ≠ ad x := fun q hq hne e => hne (h2 q x hq (Or.inl hx) e)
  have kt : ∀ q, t_k (hgT x p j T) q = u_1 (t_k T) p (insA (t_k T p) j x) q := fun q => rfl
  by_cases hj0 : j = 0
  · subst hj0
    have es : hgS σ (ad x) (ad p) 0 ((t_k T p).map ad) = w_P (w_P (w_P σ 515 (ad x) (some (ad p))) 517 (ad x) (h_P σ 516 (ad p))) 516 (ad p) (some (ad x)) := rfl
    rw [es]
    refine ⟨h1, h2, fun q hq => ?_, fun q c hq hc => ?_, ?_, fun q hq => ?_, h7⟩
    · rw [kt]
      by_cases e : q = p
      · rw [e, u1_s, hP_w]
        show Ch _ 517 (ad x :: (t_k T p).map ad) _
        refine ⟨rfl, h1 x (Or.inl hx), ?_⟩
        rw [hP_n _ _ (by decide), hP_w]
        refine Ch.ext (σ := σ) (fun b hb => ⟨rfl, ?_⟩) (h3 p hp)
        obtain ⟨d, hd, rfl⟩ := List.mem_map.mp hb
        rw [hP_n _ _ (by decide), hP_m _ _ (adn d (Or.inl (w1 p d hd)) (fun e2 => hno p (e2 ▸ hd))), hP_n _ _ (by decide)]
      · rw [u1_n _ _ e, hP_m _ _ (fun e2 => e (h2 q p hq hp e2)), hP_n _ _ (by decide), hP_n _ _ (by decide)]
        refine Ch.ext (σ := σ) (fun b hb => ⟨rfl, ?_⟩) (h3 q hq)
        obtain ⟨d, hd, rfl⟩ := List.mem_map.mp hb
        rw [hP_n _ _ (by decide), hP_m _ _ (adn d (Or.inl (w1 q d hd)) (fun e2 => hno q (e2 ▸ hd))), hP_n _ _ (by decide)]
    · rw [hP_n _ _ (by decide), hP_n _ _ (by decide)]
      rw [kt] at hc
      by_cases e : q = p
      · rw [e, u1_s] at hc
        rcases mem_ins.mp hc with e2 | hc2
        · rw [e2, hP_w, e]
        · rw [hP_m _ _ (adn c (Or.inl (w1 p c hc2)) (fun e2 => hno p (e2 ▸ hc2))), e]
          exact h4 p c hp hc2
      · rw [u1_n _ _ e] at hc
        rw [hP_m _ _ (adn c (Or.inl (w1 q c hc)) (fun e2 => hno q (e2 ▸ hc)))]
        exact h4 q c hq hc
    · rw [hP_n _ _ (by decide), hP_n _ _ (by decide), hP_m _ _ (adn 120 (Or.inr rfl) hx120.symm)]
      exact h5
    · rw [hP_n _ _ (by decide), hP_n _ _ (by decide), hP_n _ _ (by decide)]
      exact h6 q hq
  · have hjl : j - 1 < (t_k T p).length := by omega
    obtain ⟨cc, hcc⟩ : ∃ cc, (t_k T p)[j - 1]? = some cc := ⟨_, List.getElem?_eq_getElem hjl⟩
    have hcm := List.mem_of_getElem? hcc
    have hcn := w1 p cc hcm
    have hcx : cc ≠ x := fun e => hno p (e ▸ hcm)
    have es : hgS σ (ad x) (ad p) j ((t_k T p).map ad) = w_P (w_P (w_P σ 515 (ad x) (some (ad p))) 517 (ad x) (h_P σ 517 (ad cc))) 517 (ad cc) (some (ad x)) := by
      unfold hgS
      rw [if_neg hj0, List.getElem?_map, hcc]
      rfl
    rw [es]
    have sp := split_at hcc
    rw [show j - 1 + 1 = j by omega] at sp
    have hins : insA (t_k T p) j x = (t_k T p).take (j - 1) ++ cc :: x :: (t_k T p).drop j := by
      unfold insA
      have : (t_k T p).take j = (t_k T p).take (j - 1) ++ [cc] := by
        have hg : (t_k T p)[j - 1] = cc := by rw [List.getElem?_eq_getElem hjl] at hcc; exact Option.some.inj hcc
        rw [← hg, ← List.take_succ_eq_append_getElem hjl, show j - 1 + 1 = j by omega]
      rw [this, List.append_assoc]
      rfl
    refine ⟨h1, h2, fun q hq => ?_, fun q c hq hc => ?_, ?_, fun q hq => ?_, h7⟩
    · rw [kt, hP_n _ _ (by decide), hP_n _ _ (by decide), hP_n _ _ (by decide)]
      have ne : ∀ d, d < n → d ≠ x → d ≠ cc → h_P (w_P (w_P (w_P σ 515 (ad x) (some (ad p))) 517 (ad x) (h_P σ 517 (ad cc))) 517 (ad cc) (some (ad x))) 517 (ad d) = h_P σ 517 (ad d) := by
        intro d hd d1 d2
        rw [hP_m _ _ (fun e2 => d2 (h2 d cc (Or.inl hd) (Or.inl hcn) e2)), hP_m _ _ (adn d (Or.inl hd) d1), hP_n _ _ (by decide)]
      by_cases e : q = p
      · rw [e, u1_s, hins, List.map_append, List.map_cons, List.map_cons]
        have hch := h3 p hp
        have hnd := w2 p
        rw [sp] at hch hnd
        rw [List.map_append, List.map_cons] at hch
        obtain ⟨n1, n2, n3⟩ := List.nodup_append.mp hnd
        obtain ⟨n4, n5⟩ := List.nodup_cons.mp n2
        refine Ch.chg (σ := σ) (fun b hb => ⟨rfl, ?_⟩) (h1 cc (Or.inl hcn)) ?_ hch
        · obtain ⟨d, hd, rfl⟩ := List.mem_map.mp hb
          have hdm : d ∈ t_k T p := List.mem_of_mem_take hd
          exact ne d (w1 p d hdm) (fun e2 => hno p (e2 ▸ hdm)) (fun e2 => n3 d hd cc List.mem_cons_self e2)
        · rw [hP_w]
          refine ⟨rfl, h1 x (Or.inl hx), ?_⟩
          rw [hP_m _ _ (adn cc (Or.inl hcn) hcx).symm, hP_w]
          refine Ch.ext (σ := σ) (fun b hb => ⟨rfl, ?_⟩) (Ch.rest hch).2
          obtain ⟨d, hd, rfl⟩ := List.mem_map.mp hb
          have hdm : d ∈ t_k T p := List.mem_of_mem_drop hd
          exact ne d (w1 p d hdm) (fun e2 => hno p (e2 ▸ hdm)) (fun e2 => n4 (e2 ▸ hd))
      · rw [u1_n _ _ e]
        refine Ch.ext (σ := σ) (fun b hb => ⟨rfl, ?_⟩) (h3 q hq)
        obtain ⟨d, hd, rfl⟩ := List.mem_map.mp hb
        exact ne d (w1 q d hd) (fun e2 => hno q (e2 ▸ hd)) (fun e2 => e (w3 q p cc (e2 ▸ hd) hcm))
    · rw [hP_n _ _ (by decide), hP_n _ _ (by decide)]
      rw [kt] at hc
      by_cases e : q = p
      · rw [e, u1_s] at hc
        rcases mem_ins.mp hc with e2 | hc2
        · rw [e2, hP_w, e]
        · rw [hP_m _ _ (adn c (Or.inl (w1 p c hc2)) (fun e2 => hno p (e2 ▸ hc2))), e]
          exact h4 p c hp hc2
      · rw [u1_n _ _ e] at hc
        rw [hP_m _ _ (adn c (Or.inl (w1 q c hc)) (fun e2 => hno q (e2 ▸ hc)))]
        exact h4 q c hq hc
    · rw [hP_n _ _ (by decide), hP_n _ _ (by decide), hP_m _ _ (adn 120 (Or.inr rfl) hx120.symm)]
      exact h5
    · rw [hP_n _ _ (by decide), hP_n _ _ (by decide), hP_n _ _ (by decide)]
      exact h6 q hq
theorem CT.leave {x p k : Nat} (h : CT σ n T ad) (hW : W0 n T) (hp : TN n p) (hk : (t_k T p)[k]? = some x) : CT (lvS σ (ad x) (ad p) k ((t_k T p).map ad)) n (lvT x T) ad := by
  obtain ⟨w0, w1, w2, w3⟩ := id hW
  obtain ⟨h1, h2, h3, h4, h5, h6, h7⟩ := id h
  have hxm := List.mem_of_getElem? hk
  have hx := w1 p x hxm
  have adn : ∀ q, TN n q → q ≠ x → ad q ≠ ad x := fun q hq hne e => hne (h2 q x hq (Or.inl hx) e)
  have kt : ∀ q, t_k (lvT x T) q = rmv (t_k T q) x := fun q => rfl
  have hno : ∀ q, q ≠ p → x ∉ t_k T q := fun q hq hm => hq (w3 q p x hm hxm)
  by_cases hk0 : k = 0
  · subst hk0
    have es : lvS σ (ad x) (ad p) 0 ((t_k T p).map ad) = w_P (w_P σ 516 (ad p) (h_P σ 517 (ad x))) 517 (ad x) none := rfl
    rw [es]
    have sp := split_at hk
    rw [List.take_zero, List.nil_append] at sp
    have hnd := w2 p
    rw [sp] at hnd
    obtain ⟨n1, n2⟩ := List.nodup_cons.mp hnd
    have hrm : rmv (t_k T p) x = (t_k T p).drop 1 := by
      rw [rmv_split (w2 p) hk, List.take_zero, List.nil_append]
    refine ⟨h1, h2, fun q hq => ?_, fun q c hq hc => ?_, ?_, fun q hq => ?_, h7⟩
    · rw [kt, hP_n _ _ (by decide)]
      have ne : ∀ d, d < n → d ≠ x → h_P (w_P (w_P σ 516 (ad p) (h_P σ 517 (ad x))) 517 (ad x) none) 517 (ad d) = h_P σ 517 (ad d) := by
        intro d hd d1
        rw [hP_m _ _ (adn d (Or.inl hd) d1), hP_n _ _ (by decide)]
      by_cases e : q = p
      · rw [e, hrm, hP_w]
        have hch := h3 p hp
        rw [sp, List.map_cons] at hch
        refine Ch.ext (σ := σ) (fun b hb => ⟨rfl, ?_⟩) hch.2.2
        obtain ⟨d, hd, rfl⟩ := List.mem_map.mp hb
        exact ne d (w1 p d (List.mem_of_mem_drop hd)) (fun e2 => n1 (e2 ▸ hd))
      · rw [rmv_no (hno q e), hP_m _ _ (fun e2 => e (h2 q p hq hp e2))]
        refine Ch.ext (σ := σ) (fun b hb => ⟨rfl, ?_⟩) (h3 q hq)
        obtain ⟨d, hd, rfl⟩ := List.mem_map.mp hb
        exact ne d (w1 q d hd) (fun e2 => hno q e (e2 ▸ hd))
    · rw [hP_n _ _ (by decide), hP_n _ _ (by decide)]
      exact h4 q c hq (mem_rmv.mp hc).1
    · rw [hP_n _ _ (by decide), hP_n _ _ (by decide)]
      exact h5
    · rw [hP_n _ _ (by decide), hP_n _ _ (by decide)]
      exact h6 q hq
  · have hkl := getE_lt hk
    have hjl : k - 1 < (t_k T p).length := by omega
    obtain ⟨cc, hcc⟩ : ∃ cc, (t_k T p)[k - 1]? = some cc := ⟨_, List.getElem?_eq_getElem hjl⟩
    have hcm := List.mem_of_getElem? hcc
    have hcn := w1 p cc hcm
    have es : lvS σ (ad x) (ad p) k ((t_k T p).map ad) = w_P (w_P σ 517 (ad cc) (h_P σ 517 (ad x))) 517 (ad x) none := by
      unfold lvS
      rw [if_neg hk0, List.getElem?_map, hcc]
      rfl
    rw [es]
    have sp := split_at hcc
    rw [show k - 1 + 1 = k by omega] at sp
    have hdr : (t_k T p).drop k = x :: (t_k T p).drop (k + 1) := by
      have hg : (t_k T p)[k] = x := by rw [List.getElem?_eq_getElem hkl] at hk; exact Option.some.inj hk
      rw [List.drop_eq_getElem_cons hkl, hg]
    rw [hdr] at sp
    have hnd := w2 p
    rw [sp] at hnd
    obtain ⟨n1, n2, n3⟩ := List.nodup_append.mp hnd
    obtain ⟨n4, n5⟩ := List.nodup_cons.mp n2
    obtain ⟨n6, n7⟩ := List.nodup_cons.mp n5
    have hcx : cc ≠ x := fun e => n4 (e ▸ List.mem_cons_self)
    have hrm : rmv (t_k T p) x = (t_k T p).take (k - 1) ++ cc :: (t_k T p).drop (k + 1) := by
      rw [rmv_split (w2 p) hk]
      have : (t_k T p).take k = (t_k T p).take (k - 1) ++ [cc] := by
        have hg : (t_k T p)[k - 1] = cc := by rw [List.getElem?_eq_getElem hjl] at hcc; exact Option.some.inj hcc
        rw [← hg, ← List.take_succ_eq_append_getElem hjl, show k - 1 + 1 = k by omega]
      rw [this, List.append_assoc]
      rfl
    refine ⟨h1, h2, fun q hq => ?_, fun q c hq hc => ?_, ?_, fun q hq => ?_, h7⟩
    · rw [kt, hP_n _ _ (by decide), hP_n _ _ (by decide)]
      have ne : ∀ d, d < n → d ≠ x → d ≠ cc → h_P (w_P (w_P σ 517 (ad cc) (h_P σ 517 (ad x))) 517 (ad x) none) 517 (ad d) = h_P σ 517 (ad d) := by
        intro d hd d1 d2
        rw [hP_m _ _ (adn d (Or.inl hd) d1), hP_m _ _ (fun e2 => d2 (h2 d cc (Or.inl hd) (Or.inl hcn) e2))]
      by_cases e : q = p
      · rw [e, hrm, List.map_append, List.map_cons]
        have hch := h3 p hp
        rw [sp, List.map_append, List.map_cons, List.map_cons] at hch
        refine Ch.chg (σ := σ) (fun b hb => ⟨rfl, ?_⟩) (h1 cc (Or.inl hcn)) ?_ hch
        · obtain ⟨d, hd, rfl⟩ := List.mem_map.mp hb
          have hdm : d ∈ t_k T p := List.mem_of_mem_take hd
          exact ne d (w1 p d hdm) (fun e2 => n3 d hd x (List.mem_cons_of_mem _ List.mem_cons_self) e2) (fun e2 => n3 d hd cc List.mem_cons_self e2)
        · rw [hP_m _ _ (adn cc (Or.inl hcn) hcx), hP_w]
          refine Ch.ext (σ := σ) (fun b hb => ⟨rfl, ?_⟩) (Ch.rest hch).2.2.2
          obtain ⟨d, hd, rfl⟩ := List.mem_map.mp hb
          have hdm : d ∈ t_k T p := List.mem_of_mem_drop hd
          exact ne d (w1 p d hdm) (fun e2 => n6 (e2 ▸ hd)) (fun e2 => n4 (List.mem_cons_of_mem _ (e2 ▸ hd)))
      · rw [rmv_no (hno q e)]
        refine Ch.ext (σ := σ) (fun b hb => ⟨rfl, ?_⟩) (h3 q hq)
        obtain ⟨d, hd, rfl⟩ := List.mem_map.mp hb
        exact ne d (w1 q d hd) (fun e2 => hno q e (e2 ▸ hd)) (fun e2 => e (w3 q p cc (e2 ▸ hd) hcm))
    · rw [hP_n _ _ (by decide), hP_n _ _ (by decide)]
      exact h4 q c hq (mem_rmv.mp hc).1
    · rw [hP_n _ _ (by decide), hP_n _ _ (by decide)]
      exact h5
    · rw [hP_n _ _ (by decide), hP_n _ _ (by decide)]
      exact h6 q hq
end CT
