/-! ===== ways up and into, of the tree and of the reference's rows ===== -/
def abT (T : Tr) (kd : Nat → Nat) (k x : Nat) : Option Nat := (upl T 200 x).tail.find? (fun p => decide (p ≠ 120) && decide (kd p = k))
def ldT (T : Tr) : Nat → Nat → Nat
  | 0, x => x
  | f + 1, x => match t_i T x with
    | none => x
    | some y => ldT T f y
def inl (T : Tr) : Nat → Nat → List Nat
  | 0, _ => []
  | f + 1, x => match t_i T x with
    | none => []
    | some y => y :: inl T f y
def ld (T : Tr) (x : Nat) : Nat := ldT T 200 x
def ldo (T : Tr) (x : Nat) : Option Nat := if t_h T (ld T x) = true then some (ld T x) else none
section TR
variable {n : Nat} {kd : Nat → Nat} {T : Tr}
theorem upS_T (hW : Wf n kd T) {top : Int32} : ∀ (f z : Nat), (upl T f z).length < f → liv T z → upS (onT n T) top f (cd z) := by
  intro f
  induction f with
  | zero => intro z h; omega
  | succ f ih =>
    intro z h hz
    rcases hz with rfl | hz
    · exact Or.inl (by decide)
    · obtain ⟨p, h1, h2, h3⟩ := hW.h_par hz
      have hn := hW.1
      have hzn := hW.h_lt hz
      rw [upl_s, h3, List.length_cons] at h
      have h : (upl T f p).length + 1 < f + 1 := h
      refine Or.inr (Or.inr ⟨z, by omega, cd_n (by omega), ?_⟩)
      rw [onT_on hW h1 h2]
      exact ih p (by omega) h1
theorem upE_T (hW : Wf n kd T) {x : Nat} (hx : x ≤ 120) : ∀ (f z : Nat), (upl T f z).length < f → liv T z → (upE (onT n T) (cd x) f (cd z) = cd x ↔ x ∈ upl T f z) := by
  intro f
  induction f with
  | zero => intro z h; omega
  | succ f ih =>
    intro z h hz
    have hn := hW.1
    rw [upE]
    rcases hz with rfl | hz
    · rw [if_pos (Or.inl (by decide)), upl_s, hW.par_120, List.mem_singleton]
      exact ⟨fun e => (cd_inj (by omega) hx e).symm, fun e => by rw [e]⟩
    · obtain ⟨p, h1, h2, h3⟩ := hW.h_par hz
      have hzn := hW.h_lt hz
      rw [upl_s, h3, List.length_cons] at h
      have h : (upl T f p).length + 1 < f + 1 := h
      rw [upl_s, h3]
      by_cases e : z = x
      · rw [e, if_pos (Or.inr rfl)]
        exact ⟨fun _ => List.mem_cons_self, fun _ => rfl⟩
      · have e2 : ¬ (cd z < 0 ∨ cd z = cd x) := by
          intro q
          rcases q with q | q
          · rw [cd_n (by omega)] at q
            exact nI_pos (by omega) q
          · exact e (cd_inj (by omega) hx q)
        rw [if_neg e2, cd_n (show z ≠ 120 by omega), nI_clamp (by omega), onT_on hW h1 h2, ih p (by omega) h1, List.mem_cons]
        exact ⟨fun q => Or.inr q, fun q => q.elim (fun w => absurd w.symm e) id⟩
theorem fuel (hW : Wf n kd T) {z : Nat} (hz : z ≤ 120) : (upl T 200 z).length < 200 := by
  have := upl_len hW (f := 200) hz
  omega
theorem below_T (hW : Wf n kd T) {x z : Nat} (hx : x ≤ 120) (hz : liv T z) : decide (upE (onT n T) (cd x) 200 (cd z) = cd x) = bel T x z := by
  unfold bel
  have := upE_T hW hx 200 z (fuel hW (hW.liv_le hz)) hz
  by_cases e : x ∈ upl T 200 z
  · rw [decide_eq_true e, decide_eq_true (this.mpr e)]
  · rw [decide_eq_false e, decide_eq_false (fun q => e (this.mp q))]
theorem abS_T (hW : Wf n kd T) {kI : Nat → Int32} {c : Int32} : ∀ (f z : Nat), (upl T f z).length < f → liv T z → abS (onT n T) kI c f (cd z) := by
  intro f
  induction f with
  | zero => intro z h; omega
  | succ f ih =>
    intro z h hz
    rcases hz with rfl | hz
    · exact Or.inl (by decide)
    · obtain ⟨p, h1, h2, h3⟩ := hW.h_par hz
      have hn := hW.1
      have hzn := hW.h_lt hz
      rw [upl_s, h3, List.length_cons] at h
      have h : (upl T f p).length + 1 < f + 1 := h
      refine Or.inr ⟨z, by omega, cd_n (by omega), Or.inr ?_⟩
      rw [onT_on hW h1 h2]
      exact ih p (by omega) h1
theorem abE_T (hW : Wf n kd T) {k : Nat} (hk : k < 2 ^ 31) (hkd : ∀ x, x < n → kd x < 2 ^ 31) : ∀ (f z : Nat), (upl T f z).length < f → liv T z → abE (onT n T) (fun x => nI (kd x)) (nI k) f (cd z) = oI ((upl T f z).find? (fun p => decide (p ≠ 120) && decide (kd p = k))) := by
  intro f
  induction f with
  | zero => intro z h; omega
  | succ f ih =>
    intro z h hz
    have hn := hW.1
    rw [abE]
    rcases hz with rfl | hz
    · rw [if_pos (Or.inl (by decide)), upl_s, hW.par_120]
      rfl
    · obtain ⟨p, h1, h2, h3⟩ := hW.h_par hz
      have hzn := hW.h_lt hz
      rw [upl_s, h3, List.length_cons] at h
      have h : (upl T f p).length + 1 < f + 1 := h
      rw [upl_s, h3, List.find?_cons, cd_n (show z ≠ 120 by omega), nI_clamp (by omega), decide_eq_true (show z ≠ 120 by omega), Bool.true_and]
      have e0 : (nI (kd z) = nI k) ↔ kd z = k := nI_eq (hkd z hzn) hk
      by_cases e : kd z = k
      · rw [decide_eq_true e, if_pos (Or.inr (e0.mpr e))]
        rfl
      · rw [decide_eq_false e, if_neg (fun q => q.elim (nI_pos (by omega)) (fun w => e (e0.mp w))), onT_on hW h1 h2]
        exact ih p (by omega) h1
theorem abv_T (hW : Wf n kd T) {k x : Nat} (hk : k < 2 ^ 31) (hkd : ∀ x, x < n → kd x < 2 ^ 31) (hx : t_h T x = true) : abE (onT n T) (fun x => nI (kd x)) (nI k) 200 (onT n T x) = oI (abT T kd k x) := by
  obtain ⟨p, h1, h2, h3⟩ := hW.h_par hx
  rw [onT_on hW h1 h2, abE_T hW hk hkd 200 p (fuel hW (hW.liv_le h1)) h1]
  unfold abT
  rw [upl_step hW h2]
  rfl
theorem abT_le (hW : Wf n kd T) {k x q : Nat} (hx : t_h T x = true) (h : abT T kd k x = some q) : q ∈ (upl T 200 x).tail ∧ t_h T q = true ∧ q ≠ x ∧ kd q = k := by
  have h1 := List.mem_of_find?_eq_some h
  have h2 := List.find?_some h
  simp only [Bool.and_eq_true, decide_eq_true_eq] at h2
  obtain ⟨p, l1, l2, l3⟩ := hW.h_par hx
  have h3 := upl_step hW l2
  rw [h3] at h1
  obtain ⟨dp, hd⟩ := hW.2.2.2.2.1
  have h4 : q ∈ upl T 200 p := h1
  have d1 := (upl_dp hd _ _ _ h4).1
  have d2 := hd _ _ l2
  refine ⟨by rw [h3]; exact h1, ?_, fun e => by rw [e] at d1; omega, h2.2⟩
  have key : ∀ (f z : Nat), liv T z → ∀ w, w ∈ upl T f z → liv T w := by
    intro f
    induction f with
    | zero => intro z _ w hw; cases hw
    | succ f ih =>
      intro z hz w hw
      rw [upl_s] at hw
      rcases List.mem_cons.mp hw with rfl | hw
      · exact hz
      · rcases hz with rfl | hz
        · rw [hW.par_120] at hw
          cases hw
        · obtain ⟨r, r1, r2, r3⟩ := hW.h_par hz
          rw [r3] at hw
          exact ih r r1 w hw
  rcases key _ _ l1 _ h4 with w | w
  · exact absurd w h2.1
  · exact w
theorem clS_T (hW : Wf n kd T) : ∀ (f z : Nat), (upl T f z).length < f → t_h T z = true → clS (onT n T) f z := by
  intro f
  induction f with
  | zero => intro z h; omega
  | succ f ih =>
    intro z h hz
    obtain ⟨p, h1, h2, h3⟩ := hW.h_par hz
    have hn := hW.1
    have hzn := hW.h_lt hz
    rw [upl_s, h3, List.length_cons] at h
    have h : (upl T f p).length + 1 < f + 1 := h
    refine ⟨by omega, ?_⟩
    rw [onT_on hW h1 h2]
    rcases h1 with rfl | h1
    · exact Or.inl rfl
    · have := hW.h_lt h1
      exact Or.inr ⟨p, cd_n (by omega), ih p (by omega) h1⟩
/-! into -/
theorem inl_nd (hW : Wf n kd T) : ∀ (f x : Nat), (inl T f x).Nodup ∧ (∀ y ∈ inl T f x, y < n ∧ kd y = kd x) := by
  obtain ⟨rk, hr⟩ := hW.2.2.2.2.2.2.2.2
  have h8 := hW.2.2.2.2.2.2.2.1
  have key : ∀ (f x : Nat), (inl T f x).Nodup ∧ ∀ y ∈ inl T f x, (y < n ∧ kd y = kd x) ∧ rk y < rk x := by
    intro f
    induction f with
    | zero => intro x; exact ⟨List.nodup_nil, fun y hy => by cases hy⟩
    | succ f ih =>
      intro x
      rw [inl]
      cases e : t_i T x with
      | none => exact ⟨List.nodup_nil, fun y hy => by cases hy⟩
      | some y =>
        have h1 := h8 x y e
        have h2 := hr x y e
        obtain ⟨i1, i2⟩ := ih y
        refine ⟨List.nodup_cons.mpr ⟨fun q => ?_, i1⟩, fun z hz => ?_⟩
        · have := (i2 y q).2
          omega
        · rcases List.mem_cons.mp hz with rfl | hz
          · exact ⟨⟨h1.2.2.1, h1.2.2.2.symm⟩, h2⟩
          · have := i2 z hz
            exact ⟨⟨this.1.1, this.1.2.trans h1.2.2.2.symm⟩, by omega⟩
  intro f x
  exact ⟨(key f x).1, fun y hy => ((key f x).2 y hy).1⟩
theorem inl_len (hW : Wf n kd T) (f x : Nat) : (inl T f x).length ≤ n := nodup_len (inl_nd hW f x).1 (fun y hy => ((inl_nd hW f x).2 y hy).1)
theorem ldT_last : ∀ (f x : Nat), ldT T f x = (inl T f x).getLastD x := by
  intro f
  induction f with
  | zero => intro x; rfl
  | succ f ih =>
    intro x
    rw [ldT, inl]
    cases e : t_i T x with
    | none => rfl
    | some y => rw [List.getLastD_cons]; exact ih y
theorem inl_end : ∀ (f x : Nat), (inl T f x).length < f → t_i T (ldT T f x) = none := by
  intro f
  induction f with
  | zero => intro x h; omega
  | succ f ih =>
    intro x h
    rw [inl] at h
    rw [ldT]
    cases e : t_i T x with
    | none => exact e
    | some y =>
      rw [e] at h
      have h : (inl T f y).length + 1 < f + 1 := h
      exact ih y (by omega)
theorem foS_T (hW : Wf n kd T) {into : Nat → Int32} (hi : ∀ x, x < n → into x = oI (t_i T x)) : ∀ (f x : Nat), x < n → (inl T f x).length < f → foS (onT n T) into f x ∧ foE (onT n T) into f x = ldT T f x := by
  intro f
  induction f with
  | zero => intro x _ h; omega
  | succ f ih =>
    intro x hx h
    have hn := hW.1
    rw [inl] at h
    rw [foS, foE, ldT, hi x hx]
    cases e : t_i T x with
    | none => exact ⟨⟨by omega, Or.inr (Or.inl rfl)⟩, by rw [if_pos (Or.inr (show oI none = -1 from rfl))]⟩
    | some y =>
      rw [e] at h
      have h : (inl T f y).length + 1 < f + 1 := h
      have h8 := hW.2.2.2.2.2.2.2.1 x y e
      obtain ⟨i1, i2⟩ := ih y h8.2.2.1 (by omega)
      refine ⟨⟨by omega, Or.inr (Or.inr ⟨y, rfl, i1⟩)⟩, ?_⟩
      rw [if_neg (fun q => q.elim (fun w => w (onT_off hx h8.1)) (nI_m1 y (by omega)))]
      show foE (onT n T) into f (nI y).toNatClampNeg = _
      rw [nI_clamp (by omega), i2]
theorem ld_lt (hW : Wf n kd T) {x : Nat} (hx : x < n) : ld T x < n ∧ kd (ld T x) = kd x := by
  unfold ld
  rw [ldT_last]
  have h := (inl_nd hW 200 x).2
  cases e : inl T 200 x with
  | nil => exact ⟨hx, rfl⟩
  | cons y l =>
    rw [e] at h
    have hm : (y :: l).getLastD x ∈ y :: l := by
      rw [List.getLastD_cons]
      cases l with
      | nil => exact List.mem_cons_self
      | cons z l => rw [List.getLastD_cons, ← List.getLast_eq_getLastD (a := z) (l := l) (List.cons_ne_nil _ _)]; exact List.mem_cons_of_mem _ (List.getLast_mem (List.cons_ne_nil _ _))
    exact h _ hm
theorem lead_T (hW : Wf n kd T) {into : Nat → Int32} (hi : ∀ x, x < n → into x = oI (t_i T x)) {x : Nat} (hx : x < n) : foS (onT n T) into 200 x ∧ foE (onT n T) into 200 x = ld T x ∧ (if isTh n (onT n T) (nI (ld T x)) = true then nI (ld T x) else -1) = oI (ldo T x) := by
  have hl := inl_len hW 200 x
  have hn := hW.1
  obtain ⟨h1, h2⟩ := foS_T hW hi 200 x hx (by omega)
  refine ⟨h1, h2, ?_⟩
  have h3 := (ld_lt hW hx).1
  rw [isTh_T hW (by omega), decide_eq_true h3, Bool.true_and]
  unfold ldo
  by_cases e : t_h T (ld T x) = true
  · rw [if_pos e, if_pos e]; rfl
  · rw [if_neg e, if_neg e]; rfl
end TR
