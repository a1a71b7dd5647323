/-! ===== the ORDER of a tree; the reference's rows as a tree ===== -/
section TR
variable {n : Nat} {kd : Nat → Nat} {T : Tr}
theorem Wf.h_lt (hW : Wf n kd T) {x : Nat} (h : t_h T x = true) : x < n := (hW.2.2.2.2.2.1 x h).1
theorem Wf.h_par (hW : Wf n kd T) {x : Nat} (h : t_h T x = true) : ∃ p, liv T p ∧ x ∈ t_k T p ∧ par T x = some p := by
  obtain ⟨p, h1, h2⟩ := (hW.2.2.2.2.2.1 x h).2
  exact ⟨p, h1, h2, par_of hW h2⟩
theorem Wf.kid (hW : Wf n kd T) {p c : Nat} (hp : liv T p) (h : c ∈ t_k T p) : t_h T c = true := hW.2.2.2.2.2.2.1 p hp c h
theorem Wf.k_lt (hW : Wf n kd T) {p c : Nat} (h : c ∈ t_k T p) : c < n := (hW.2.1 p c h).1
theorem Wf.liv_le (hW : Wf n kd T) {p : Nat} (h : liv T p) : p ≤ 120 := by
  rcases h with rfl | h
  · exact Nat.le_refl _
  · have := hW.h_lt h; have := hW.1; omega
theorem Wf.h_120 (hW : Wf n kd T) : t_h T 120 = false := by
  cases e : t_h T 120 with
  | false => rfl
  | true => have := hW.h_lt e; have := hW.1; omega
theorem Wf.par_120 (hW : Wf n kd T) : par T 120 = none := by
  cases e : par T 120 with
  | none => rfl
  | some p => have := hW.k_lt (par_mem e).1; have := hW.1; omega
theorem Wf.len (hW : Wf n kd T) (p : Nat) : (t_k T p).length ≤ n := nodup_len (hW.2.2.1 p) (fun z hz => hW.k_lt hz)
theorem liv_up (hW : Wf n kd T) : ∀ {z : Nat}, t_h T z = true → 120 ∈ upl T 200 z := by
  obtain ⟨dp, hd⟩ := hW.2.2.2.2.1
  have key : ∀ (m z : Nat), dp z ≤ m → t_h T z = true → 120 ∈ upl T 200 z := by
    intro m
    induction m with
    | zero =>
      intro z hm hz
      obtain ⟨p, h1, h2, h3⟩ := hW.h_par hz
      have := hd _ _ h2
      omega
    | succ m ih =>
      intro z hm hz
      obtain ⟨p, h1, h2, h3⟩ := hW.h_par hz
      have := hd _ _ h2
      rw [upl_step hW h2]
      rcases h1 with rfl | h1
      · exact List.mem_cons_of_mem _ upl_self
      · exact List.mem_cons_of_mem _ (ih p (by omega) h1)
  intro z hz
  exact key _ z (Nat.le_refl _) hz
theorem up_liv (hW : Wf n kd T) : ∀ (f z : Nat), 120 ∈ upl T f z → liv T z := by
  intro f
  induction f with
  | zero => intro z hz; cases hz
  | succ f ih =>
    intro z hz
    rw [upl_s] at hz
    rcases List.mem_cons.mp hz with rfl | hz
    · exact Or.inl rfl
    · cases e : par T z with
      | none => rw [e] at hz; cases hz
      | some p =>
        rw [e] at hz
        exact Or.inr (hW.kid (ih p hz) (par_mem e).1)
theorem ord_pre : pre T 121 120 = 120 :: ordT T := rfl
theorem ord_nd (hW : Wf n kd T) : (ordT T).Nodup := by
  have := pre_nd hW 121 120 (Nat.le_refl _)
  rw [ord_pre] at this
  exact (List.nodup_cons.mp this).2
theorem ord_mem (hW : Wf n kd T) {z : Nat} : z ∈ ordT T ↔ t_h T z = true := by
  have h0 := pre_nd hW 121 120 (Nat.le_refl _)
  rw [ord_pre] at h0
  constructor
  · intro h
    have h1 : z ∈ pre T 121 120 := by rw [ord_pre]; exact List.mem_cons_of_mem _ h
    rcases up_liv hW _ _ (pre_up hW _ _ _ h1 (Nat.le_refl _)).2 with rfl | h2
    · exact absurd h (List.nodup_cons.mp h0).1
    · exact h2
  · intro h
    have h1 := hW.h_lt h
    have h2 := (pre_iff hW (Nat.le_refl 120) (show z ≤ 120 by have := hW.1; omega)).mpr (liv_up hW h)
    rw [ord_pre] at h2
    rcases List.mem_cons.mp h2 with rfl | h2
    · have := hW.1; omega
    · exact h2
theorem ord_len (hW : Wf n kd T) : (ordT T).length ≤ n := nodup_len (ord_nd hW) (fun z hz => hW.h_lt ((ord_mem hW).mp hz))
theorem wk_all (hW : Wf n kd T) {x : Nat} (hx : x ≤ 120) : Wk (nxT T x) (pre T 121 x) (some x) := by
  obtain ⟨dp, hd⟩ := hW.2.2.2.2.1
  have := wk_pre hW hd (top := x) 121 x [] hx (Nat.le_refl _) (fun w hw h => by
    have h1 := upl_dp hd _ _ _ h
    have h2 := upl_len hW (f := 200) hw
    omega) (by rw [clT_top]; exact rfl)
  rwa [List.append_nil] at this
theorem ord_wk (hW : Wf n kd T) : Wk (nxT T 120) (ordT T) (nxT T 120 120) := by
  have := wk_all hW (Nat.le_refl 120)
  rw [ord_pre] at this
  exact this.2
/-! ===== the reference's rows ===== -/
def cd (p : Nat) : Int32 := if p = 120 then -1 else nI p
theorem cd_120 : cd 120 = -1 := rfl
theorem cd_n {p : Nat} (h : p ≠ 120) : cd p = nI p := by rw [cd, if_neg h]
theorem cd_inj {p q : Nat} (hp : p ≤ 120) (hq : q ≤ 120) (h : cd p = cd q) : p = q := by
  unfold cd at h
  by_cases a : p = 120
  · by_cases b : q = 120
    · rw [a, b]
    · rw [if_pos a, if_neg b] at h
      exact absurd h.symm (nI_m1 q (by omega))
  · by_cases b : q = 120
    · rw [if_neg a, if_pos b] at h
      exact absurd h (nI_m1 p (by omega))
    · rw [if_neg a, if_neg b] at h
      exact (nI_eq (by omega) (by omega)).mp h
theorem cd_9 {p : Nat} (hp : p ≤ 120) : cd p ≠ -9 := by
  unfold cd
  by_cases a : p = 120
  · rw [if_pos a]; decide
  · rw [if_neg a]
    intro q
    exact nI_pos (show p < 2 ^ 31 by omega) (by rw [q]; decide)
def onT (n : Nat) (T : Tr) (x : Nat) : Int32 := if x < n then (if t_h T x = true then (match par T x with
    | some p => cd p
    | none => -1) else -9) else 0
theorem onT_off {x : Nat} (h : x < n) (h2 : t_h T x = false) : onT n T x = -9 := by
  rw [onT, if_pos h, h2]; rfl
theorem onT_on (hW : Wf n kd T) {x p : Nat} (hp : liv T p) (h : x ∈ t_k T p) : onT n T x = cd p := by
  rw [onT, if_pos (hW.k_lt h), if_pos (hW.kid hp h), par_of hW h]
theorem onT_iff (hW : Wf n kd T) {x p : Nat} (hx : x < n) (hp : liv T p) : onT n T x = cd p ↔ x ∈ t_k T p := by
  refine ⟨fun h => ?_, fun h => onT_on hW hp h⟩
  cases e : t_h T x with
  | false =>
    rw [onT_off hx e] at h
    exact absurd h.symm (cd_9 (hW.liv_le hp))
  | true =>
    obtain ⟨q, h1, h2, h3⟩ := hW.h_par e
    rw [onT_on hW h1 h2] at h
    rw [← cd_inj (hW.liv_le h1) (hW.liv_le hp) h]
    exact h2
theorem onT_9 (hW : Wf n kd T) {x : Nat} (hx : x < n) : onT n T x = -9 ↔ t_h T x = false := by
  refine ⟨fun h => ?_, fun h => onT_off hx h⟩
  cases e : t_h T x with
  | false => rfl
  | true =>
    obtain ⟨q, h1, h2, h3⟩ := hW.h_par e
    rw [onT_on hW h1 h2] at h
    exact absurd h (cd_9 (hW.liv_le h1))
def RT (σ : Hp) (o n : Nat) (kd : Nat → Nat) (T : Tr) : Prop :=
  h_I σ 711 o = nI n ∧ h_X σ (o + 1 + 6) = (fun x => nI (kd x)) ∧ (∀ x, x < n → kd x < 6) ∧ (∀ x, n ≤ x → kd x = 0) ∧ h_X σ (o + 1 + 7) = onT n T ∧
  (∀ p, liv T p → ∀ i z, (t_k T p)[i]? = some z → h_X σ (o + 1 + 8) z = nI i) ∧ ∀ x, x < n → h_X σ (o + 1 + 9) x = oI (t_i T x)
theorem cntB_len {p : Nat → Bool} {n : Nat} {l : List Nat} (hn : l.Nodup) (h : ∀ x, x ∈ l ↔ x < n ∧ p x = true) : cntB p n = l.length := by
  have h1 : ∀ m, cntB p m = ((List.range m).filter p).length := by
    intro m
    induction m with
    | zero => rfl
    | succ m ih =>
      rw [cntB, ih, List.range_succ, List.filter_append, List.length_append]
      cases e : p m <;> simp [e]
  rw [h1]
  apply List.Perm.length_eq
  refine (List.perm_ext_iff_of_nodup (List.Nodup.sublist List.filter_sublist List.nodup_range) hn).mpr (fun a => ?_)
  rw [List.mem_filter, List.mem_range, h]
theorem hang_T (hW : Wf n kd T) {p : Nat} (hp : liv T p) : cntB (fun x => decide (onT n T x = cd p)) n = (t_k T p).length :=
  cntB_len (hW.2.2.1 p) (fun x => ⟨fun h => ⟨hW.k_lt h, decide_eq_true ((onT_iff hW (hW.k_lt h) hp).mpr h)⟩, fun h => (onT_iff hW h.1 hp).mp (of_decide_eq_true h.2)⟩)
theorem isTh_T (hW : Wf n kd T) {x : Nat} (hx : x < 2 ^ 31) : isTh n (onT n T) (nI x) = (decide (x < n) && t_h T x) := by
  have hn := hW.1
  unfold isTh
  rw [nI_clamp hx, decide_eq_true (nI_pos' hx), Bool.true_and]
  by_cases a : x < n
  · rw [decide_eq_true (nI_lt a (by omega)), decide_eq_true a, Bool.true_and, Bool.true_and]
    cases e : t_h T x with
    | false => rw [onT_off a e]; rfl
    | true => exact decide_eq_true (fun q => by rw [(onT_9 hW a).mp q] at e; cases e)
  · rw [decide_eq_false (nI_nlt (by omega) hx), decide_eq_false a]
    rfl
theorem isTh_neg {v : Int32} {on : Nat → Int32} (h : v < 0) : isTh n on v = false := by
  unfold isTh
  rw [decide_eq_false (fun q => absurd h (Int32.not_lt.mpr q))]
  rfl
theorem chAt_T (hW : Wf n kd T) {pl : Nat → Int32} (hp : ∀ p, liv T p → ∀ i z, (t_k T p)[i]? = some z → pl z = nI i) {p i : Nat} (hl : liv T p) (hi : i < 2 ^ 31) : chAt n (onT n T) pl (cd p) (nI i) = (t_k T p)[i]? := by
  have hn := hW.1
  have only : ∀ w, w < n → (decide (onT n T w = cd p) && decide (pl w = nI i)) = true → (t_k T p)[i]? = some w := by
    intro w hw h
    simp only [Bool.and_eq_true, decide_eq_true_eq] at h
    have h1 := (onT_iff hW hw hl).mp h.1
    obtain ⟨j, hj, e⟩ := List.getElem_of_mem h1
    have h2 : (t_k T p)[j]? = some w := by rw [List.getElem?_eq_getElem hj, e]
    have h3 := hp p hl j w h2
    rw [h.2] at h3
    have := hW.len p
    rw [(nI_eq hi (by omega)).mp h3]
    exact h2
  unfold chAt
  cases e : (List.range n).find? (fun x => decide (onT n T x = cd p) && decide (pl x = nI i)) with
  | some w => exact (only w (List.mem_range.mp (List.mem_of_find?_eq_some e)) (by have := List.find?_some e; exact this)).symm
  | none =>
    cases e2 : (t_k T p)[i]? with
    | none => rfl
    | some z =>
      have hz := List.mem_of_getElem? e2
      have := List.find?_eq_none.mp e z (List.mem_range.mpr (hW.k_lt hz))
      rw [onT_on hW hl hz, hp p hl i z e2, decide_eq_true rfl, decide_eq_true rfl] at this
      exact absurd rfl this
theorem clb_T (hW : Wf n kd T) {pl : Nat → Int32} (hp : ∀ p, liv T p → ∀ i z, (t_k T p)[i]? = some z → pl z = nI i) : ∀ (f x : Nat), (upl T f x).length < f → t_h T x = true → clb n (onT n T) pl f x = clT T 120 f x := by
  intro f
  induction f with
  | zero => intro x h; omega
  | succ f ih =>
    intro x h hx
    have hn := hW.1
    have hxn := hW.h_lt hx
    obtain ⟨p, h1, h2, h3⟩ := hW.h_par hx
    obtain ⟨j, hj, e⟩ := List.getElem_of_mem h2
    have h4 : (t_k T p)[j]? = some x := by rw [List.getElem?_eq_getElem hj, e]
    have hlen := hW.len p
    have hsib : sib T x = (t_k T p)[j + 1]? := by
      unfold sib
      rw [h3]
      show (t_k T p)[(t_k T p).idxOf x + 1]? = _
      rw [← e, List.Nodup.idxOf_getElem (hW.2.2.1 p) j hj]
    rw [clb, clT, if_neg (show x ≠ 120 by omega), onT_on hW h1 h2, hp p h1 j x h4, nI_add, chAt_T hW hp h1 (by omega), hsib, h3]
    cases e5 : (t_k T p)[j + 1]? with
    | some z => rfl
    | none =>
      rw [upl_s, h3, List.length_cons] at h
      have h : (upl T f p).length + 1 < f + 1 := h
      rcases h1 with rfl | h1
      · show (if cd 120 = -1 then none else _) = clT T 120 f 120
        rw [if_pos cd_120]
        cases f with
        | zero => rfl
        | succ f => rw [clT, if_pos rfl]
      · have hpn := hW.h_lt h1
        show (if cd p = -1 then none else _) = clT T 120 f p
        rw [cd_n (by omega), if_neg (nI_m1 p (by omega)), nI_clamp (by omega)]
        exact ih p (by omega) h1
theorem nxt_T (hW : Wf n kd T) {pl : Nat → Int32} (hp : ∀ p, liv T p → ∀ i z, (t_k T p)[i]? = some z → pl z = nI i) {x : Nat} (hx : t_h T x = true) : nxt n (onT n T) pl x = nxT T 120 x := by
  have hn := hW.1
  have hxn := hW.h_lt hx
  unfold nxt nxT
  rw [← cd_n (show x ≠ 120 by omega), chAt_T hW hp (Or.inr hx) (by omega)]
  cases e : t_k T x with
  | cons c ks => rfl
  | nil => exact clb_T hW hp 200 x (by have := upl_len hW (f := 200) (show x ≤ 120 by omega); omega) hx
theorem isW_T (hW : Wf n kd T) {pl : Nat → Int32} (hp : ∀ p, liv T p → ∀ i z, (t_k T p)[i]? = some z → pl z = nI i) : isW n (onT n T) pl (ordT T) (chAt n (onT n T) pl (-1) (nI 0)) := by
  have key : ∀ (L : List Nat) (c : Option Nat), (∀ z ∈ L, t_h T z = true) → Wk (nxT T 120) L c → isW n (onT n T) pl L c := by
    intro L
    induction L with
    | nil => intro c _ h; exact h
    | cons y L ih =>
      intro c hL h
      refine ⟨h.1, ?_⟩
      rw [nxt_T hW hp (hL y List.mem_cons_self)]
      exact ih _ (fun z hz => hL z (List.mem_cons_of_mem _ hz)) h.2
  refine key _ _ (fun z hz => (ord_mem hW).mp hz) ?_
  have h1 := chAt_T hW hp (Or.inl rfl : liv T 120) (show 0 < 2 ^ 31 by decide)
  rw [cd_120] at h1
  rw [h1]
  have h2 := ord_wk hW
  unfold nxT at h2
  cases e : t_k T 120 with
  | cons c ks => rw [e] at h2; exact h2
  | nil => rw [e, clT_top] at h2; exact h2
end TR
