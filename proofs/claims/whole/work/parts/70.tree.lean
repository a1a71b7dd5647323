/-! ===== the tree, pure: who hangs on whom, who is there, into which one a thing was joined; 120 is the text ===== -/
abbrev Tr : Type := (Nat → List Nat) × (Nat → Bool) × (Nat → Option Nat)
def t_k (T : Tr) : Nat → List Nat := T.1
def t_h (T : Tr) : Nat → Bool := T.2.1
def t_i (T : Tr) : Nat → Option Nat := T.2.2
def T0 : Tr := (fun _ => [], fun _ => false, fun _ => none)
def liv (T : Tr) (p : Nat) : Prop := p = 120 ∨ t_h T p = true
def Wf (n : Nat) (kd : Nat → Nat) (T : Tr) : Prop :=
  n ≤ 120 ∧ (∀ p c, c ∈ t_k T p → c < n ∧ (p = 120 ∨ p < n)) ∧ (∀ p, (t_k T p).Nodup) ∧ (∀ p q c, c ∈ t_k T p → c ∈ t_k T q → p = q) ∧
  (∃ dp : Nat → Nat, ∀ p c, c ∈ t_k T p → dp c = dp p + 1) ∧ (∀ x, t_h T x = true → x < n ∧ ∃ p, liv T p ∧ x ∈ t_k T p) ∧
  (∀ p, liv T p → ∀ c, c ∈ t_k T p → t_h T c = true) ∧ (∀ x y, t_i T x = some y → t_h T x = false ∧ x < n ∧ y < n ∧ kd x = kd y) ∧
  (∃ rk : Nat → Nat, ∀ x y, t_i T x = some y → rk y < rk x)
def par (T : Tr) (x : Nat) : Option Nat := (List.range 121).find? (fun p => decide (x ∈ t_k T p))
def upl (T : Tr) : Nat → Nat → List Nat
  | 0, _ => []
  | f + 1, x => x :: (match par T x with
    | none => []
    | some p => upl T f p)
def bel (T : Tr) (x z : Nat) : Bool := decide (x ∈ upl T 200 z)
def pre (T : Tr) : Nat → Nat → List Nat
  | 0, _ => []
  | f + 1, x => x :: (t_k T x).flatMap (pre T f)
def sib (T : Tr) (z : Nat) : Option Nat := match par T z with
  | none => none
  | some p => (t_k T p)[(t_k T p).idxOf z + 1]?
def clT (T : Tr) (top : Nat) : Nat → Nat → Option Nat
  | 0, _ => none
  | f + 1, z => if z = top then none else match sib T z with
    | some s => some s
    | none => match par T z with
      | none => none
      | some p => clT T top f p
def nxT (T : Tr) (top z : Nat) : Option Nat := match t_k T z with
  | c :: _ => some c
  | [] => clT T top 200 z
def Wk (nx : Nat → Option Nat) : List Nat → Option Nat → Prop
  | [], c => c = none
  | y :: L, c => c = some y ∧ Wk nx L (nx y)
def hdO : List Nat → Option Nat → Option Nat
  | d :: _, _ => some d
  | [], e => e
def ordT (T : Tr) : List Nat := (t_k T 120).flatMap (pre T 120)
theorem par_mem {T : Tr} {x p : Nat} (h : par T x = some p) : x ∈ t_k T p ∧ p ≤ 120 := by
  have h1 := List.find?_some h
  have h2 := List.mem_of_find?_eq_some h
  exact ⟨by simpa using h1, by have := List.mem_range.mp h2; omega⟩
section TR
variable {n : Nat} {kd : Nat → Nat} {T : Tr}
theorem par_of (hW : Wf n kd T) {c p : Nat} (h : c ∈ t_k T p) : par T c = some p := by
  cases e : par T c with
  | none =>
    have h2 : p ≤ 120 := by
      obtain ⟨h1, h2, -⟩ := hW
      have := (h2 p c h).2
      omega
    have := List.find?_eq_none.mp e p (List.mem_range.mpr (by omega))
    exact absurd (decide_eq_true h) this
  | some q => rw [hW.2.2.2.1 p q c h (par_mem e).1]
theorem upl_s (f x : Nat) : upl T (f + 1) x = x :: (match par T x with
    | none => []
    | some p => upl T f p) := rfl
theorem upl_dp {dp : Nat → Nat} (hd : ∀ p c, c ∈ t_k T p → dp c = dp p + 1) : ∀ (f x z : Nat), z ∈ upl T f x → dp z ≤ dp x ∧ (dp z = dp x → z = x) ∧ dp x < dp z + (upl T f x).length := by
  intro f
  induction f with
  | zero => intro x z hz; cases hz
  | succ f ih =>
    intro x z hz
    rw [upl_s] at hz ⊢
    rw [List.length_cons]
    rcases List.mem_cons.mp hz with rfl | hz
    · exact ⟨Nat.le_refl _, fun _ => rfl, by omega⟩
    · cases e : par T x with
      | none => rw [e] at hz; cases hz
      | some p =>
        rw [e] at hz
        have h1 := hd _ _ (par_mem e).1
        obtain ⟨a, b, c⟩ := ih p z hz
        exact ⟨by omega, fun q => by omega, by show _ < _ + ((upl T f p).length + 1); omega⟩
theorem upl_nd {dp : Nat → Nat} (hd : ∀ p c, c ∈ t_k T p → dp c = dp p + 1) : ∀ (f x : Nat), (upl T f x).Nodup := by
  intro f
  induction f with
  | zero => intro x; exact List.nodup_nil
  | succ f ih =>
    intro x
    rw [upl_s]
    cases e : par T x with
    | none => exact List.nodup_cons.mpr ⟨List.not_mem_nil, List.nodup_nil⟩
    | some p =>
      refine List.nodup_cons.mpr ⟨fun q => ?_, ih p⟩
      have h1 := hd _ _ (par_mem e).1
      have h2 := (upl_dp hd f p x q).1
      omega
theorem upl_le : ∀ (f x : Nat), x ≤ 120 → ∀ z, z ∈ upl T f x → z ≤ 120 := by
  intro f
  induction f with
  | zero => intro x _ z hz; cases hz
  | succ f ih =>
    intro x hx z hz
    rw [upl_s] at hz
    rcases List.mem_cons.mp hz with rfl | hz
    · exact hx
    · cases e : par T x with
      | none => rw [e] at hz; cases hz
      | some p => rw [e] at hz; exact ih p (par_mem e).2 z hz
theorem nodup_len {l : List Nat} {m : Nat} (h : l.Nodup) (h2 : ∀ z ∈ l, z < m) : l.length ≤ m := by
  have := List.Nodup.length_le_of_subset h (l₂ := List.range m) (fun z hz => List.mem_range.mpr (h2 z hz))
  rwa [List.length_range] at this
theorem upl_len (hW : Wf n kd T) {f x : Nat} (hx : x ≤ 120) : (upl T f x).length ≤ 121 := by
  obtain ⟨dp, hd⟩ := hW.2.2.2.2.1
  exact nodup_len (upl_nd hd f x) (fun z hz => by have := upl_le f x hx z hz; omega)
theorem upl_sat : ∀ (f x : Nat), (upl T f x).length < f → upl T (f + 1) x = upl T f x := by
  intro f
  induction f with
  | zero => intro x h; omega
  | succ f ih =>
    intro x h
    rw [upl_s (f + 1), upl_s f]
    rw [upl_s f] at h
    cases e : par T x with
    | none => rfl
    | some p =>
      rw [e] at h
      rw [List.length_cons] at h
      have := ih p (by have h : (upl T f p).length + 1 < f + 1 := h; omega)
      show x :: upl T (f + 1) p = x :: upl T f p
      rw [this]
theorem upl_step (hW : Wf n kd T) {x p : Nat} (h : x ∈ t_k T p) : upl T 200 x = x :: upl T 200 p := by
  rw [upl_s 199, par_of hW h]
  show x :: upl T 199 p = _
  rw [upl_sat 199 p (by have := upl_len hW (f := 199) (par_mem (par_of hW h)).2; omega)]
theorem upl_root {x : Nat} (h : par T x = none) : upl T 200 x = [x] := by rw [upl_s 199, h]
theorem upl_self {x : Nat} : x ∈ upl T 200 x := by rw [upl_s 199]; exact List.mem_cons_self
theorem upl_up (hW : Wf n kd T) {c p : Nat} (h : c ∈ t_k T p) : ∀ (f z : Nat), c ∈ upl T f z → p ∈ upl T (f + 1) z := by
  intro f
  induction f with
  | zero => intro z hz; cases hz
  | succ f ih =>
    intro z hz
    rw [upl_s] at hz ⊢
    rcases List.mem_cons.mp hz with rfl | hz
    · rw [par_of hW h]
      exact List.mem_cons_of_mem _ (show p ∈ upl T (f + 1) p by rw [upl_s]; exact List.mem_cons_self)
    · cases e : par T z with
      | none => rw [e] at hz; cases hz
      | some q => rw [e] at hz; exact List.mem_cons_of_mem _ (ih q hz)
theorem upl_upw (hW : Wf n kd T) {c p z : Nat} (hz : z ≤ 120) (h : c ∈ t_k T p) (hc : c ∈ upl T 200 z) : p ∈ upl T 200 z := by
  have := upl_up hW h 200 z hc
  rwa [upl_sat 200 z (by have := upl_len hW (f := 200) hz; omega)] at this
/-- two of one height on one way up are one -/
theorem upl_one {dp : Nat → Nat} (hd : ∀ p c, c ∈ t_k T p → dp c = dp p + 1) : ∀ (f v z w : Nat), z ∈ upl T f v → w ∈ upl T f v → dp z = dp w → z = w := by
  intro f
  induction f with
  | zero => intro v z w hz; cases hz
  | succ f ih =>
    intro v z w hz hw e
    have a := upl_dp hd _ _ _ hz
    have b := upl_dp hd _ _ _ hw
    rw [upl_s] at hz hw
    cases e2 : par T v with
    | none =>
      rw [e2] at hz hw
      rw [List.mem_singleton.mp hz, List.mem_singleton.mp hw]
    | some p =>
      rw [e2] at hz hw
      have h1 := hd _ _ (par_mem e2).1
      rcases List.mem_cons.mp hz with q1 | q1
      · rcases List.mem_cons.mp hw with q2 | q2
        · rw [q1, q2]
        · have := (upl_dp hd f p w q2).1
          rw [q1] at e
          omega
      · rcases List.mem_cons.mp hw with q2 | q2
        · have := (upl_dp hd f p z q1).1
          rw [q2] at e
          omega
        · exact ih p z w q1 q2 e
theorem sib_at (hW : Wf n kd T) {p c : Nat} {a ks : List Nat} (h : t_k T p = a ++ c :: ks) : sib T c = ks.head? := by
  have hm : c ∈ t_k T p := by rw [h]; simp
  have hnd := hW.2.2.1 p
  unfold sib
  rw [par_of hW hm]
  show (t_k T p)[(t_k T p).idxOf c + 1]? = _
  have hi : (t_k T p).idxOf c = a.length := by
    have h2 : a.length < (t_k T p).length := by rw [h, List.length_append, List.length_cons]; omega
    have h3 := List.Nodup.idxOf_getElem hnd a.length h2
    have h4 : (t_k T p)[a.length] = c := by
      have : (t_k T p)[a.length]? = some c := by rw [h, List.getElem?_append_right (Nat.le_refl _), Nat.sub_self]; rfl
      rw [List.getElem?_eq_getElem h2] at this
      exact Option.some.inj this
    rwa [h4] at h3
  rw [hi, h, List.getElem?_append_right (by omega), show a.length + 1 - a.length = 1 by omega]
  cases ks <;> rfl
theorem clT_sat {top : Nat} : ∀ (f z : Nat), (upl T f z).length < f → clT T top (f + 1) z = clT T top f z := by
  intro f
  induction f with
  | zero => intro z h; omega
  | succ f ih =>
    intro z h
    rw [clT, clT]
    by_cases e : z = top
    · rw [if_pos e, if_pos e]
    · rw [if_neg e, if_neg e]
      rw [upl_s f, List.length_cons] at h
      cases sib T z with
      | some s => rfl
      | none =>
        cases e2 : par T z with
        | none => rfl
        | some p =>
          rw [e2] at h
          exact ih p (by have h : (upl T f p).length + 1 < f + 1 := h; omega)
theorem clT_top {top : Nat} : clT T top 200 top = none := by rw [clT, if_pos rfl]
theorem clT_step (hW : Wf n kd T) {top p c : Nat} {a ks : List Nat} (h : t_k T p = a ++ c :: ks) (hn : c ≠ top) : clT T top 200 c = hdO ks (clT T top 200 p) := by
  have hm : c ∈ t_k T p := by rw [h]; simp
  rw [clT, if_neg hn, sib_at hW h, par_of hW hm]
  cases ks with
  | cons d ks => rfl
  | nil =>
    show clT T top 199 p = clT T top 200 p
    rw [clT_sat 199 p (by have := upl_len hW (f := 199) (par_mem (par_of hW hm)).2; omega)]
theorem wk_pre (hW : Wf n kd T) {dp : Nat → Nat} (hd : ∀ p c, c ∈ t_k T p → dp c = dp p + 1) {top : Nat} : ∀ (f z : Nat) (M : List Nat), z ≤ 120 → dp top ≤ dp z → (∀ w, w ≤ 120 → z ∈ upl T 200 w → dp w < dp z + f) → Wk (nxT T top) M (clT T top 200 z) → Wk (nxT T top) (pre T f z ++ M) (some z) := by
  intro f
  induction f with
  | zero =>
    intro z M hz _ hf _
    have := hf z hz upl_self
    omega
  | succ f ih =>
    intro z M hz ht hf hM
    refine ⟨rfl, ?_⟩
    show Wk (nxT T top) ((t_k T z).flatMap (pre T f) ++ M) (nxT T top z)
    have inner : ∀ (ks a : List Nat), t_k T z = a ++ ks → Wk (nxT T top) (ks.flatMap (pre T f) ++ M) (hdO ks (clT T top 200 z)) := by
      intro ks
      induction ks with
      | nil => intro a _; exact hM
      | cons c ks ih2 =>
        intro a ha
        have hm : c ∈ t_k T z := by rw [ha]; simp
        have h1 := hd _ _ hm
        have h2 := hW.2.1 z c hm
        rw [List.flatMap_cons, List.append_assoc]
        refine ih c _ (by have := hW.1; omega) (by omega) (fun w hw hc => ?_) ?_
        · have := hf w hw (upl_upw hW hw hm hc)
          omega
        · rw [clT_step hW ha (fun e => by rw [e] at h1; omega)]
          exact ih2 (a ++ [c]) (by rw [ha]; simp)
    have := inner (t_k T z) [] rfl
    unfold nxT
    cases e : t_k T z with
    | nil => rw [e] at this; exact this
    | cons c ks => rw [e] at this; exact this
theorem pre_up (hW : Wf n kd T) : ∀ (f x z : Nat), z ∈ pre T f x → x ≤ 120 → z ≤ 120 ∧ x ∈ upl T 200 z := by
  intro f
  induction f with
  | zero => intro x z hz; cases hz
  | succ f ih =>
    intro x z hz hx
    rw [pre] at hz
    rcases List.mem_cons.mp hz with rfl | hz
    · exact ⟨hx, upl_self⟩
    · obtain ⟨c, hc, hz⟩ := List.mem_flatMap.mp hz
      have h2 := hW.2.1 x c hc
      obtain ⟨h3, h4⟩ := ih c z hz (by have := hW.1; omega)
      exact ⟨h3, upl_upw hW h3 hc h4⟩
theorem pre_more : ∀ (f x z : Nat), z ∈ pre T f x → z ∈ pre T (f + 1) x := by
  intro f
  induction f with
  | zero => intro x z hz; cases hz
  | succ f ih =>
    intro x z hz
    rw [pre] at hz ⊢
    rcases List.mem_cons.mp hz with rfl | hz
    · exact List.mem_cons_self
    · obtain ⟨c, hc, hz⟩ := List.mem_flatMap.mp hz
      exact List.mem_cons_of_mem _ (List.mem_flatMap.mpr ⟨c, hc, ih c z hz⟩)
theorem pre_le {f g x z : Nat} (h : f ≤ g) (hz : z ∈ pre T f x) : z ∈ pre T g x := by
  induction g with
  | zero =>
    have : f = 0 := by omega
    rwa [this] at hz
  | succ g ih =>
    by_cases e : f = g + 1
    · rwa [e] at hz
    · exact pre_more _ _ _ (ih (by omega))
theorem pre_kid : ∀ (f x z c : Nat), z ∈ pre T f x → c ∈ t_k T z → c ∈ pre T (f + 1) x := by
  intro f
  induction f with
  | zero => intro x z c hz; cases hz
  | succ f ih =>
    intro x z c hz hc
    rw [pre] at hz
    rw [pre]
    rcases List.mem_cons.mp hz with rfl | hz
    · refine List.mem_cons_of_mem _ (List.mem_flatMap.mpr ⟨c, hc, ?_⟩)
      rw [pre]
      exact List.mem_cons_self
    · obtain ⟨d, hd, hz⟩ := List.mem_flatMap.mp hz
      exact List.mem_cons_of_mem _ (List.mem_flatMap.mpr ⟨d, hd, ih d z c hz hc⟩)
theorem up_pre {dp : Nat → Nat} (hd : ∀ p c, c ∈ t_k T p → dp c = dp p + 1) : ∀ (f x z : Nat), x ∈ upl T f z → z ∈ pre T (dp z - dp x + 1) x := by
  intro f
  induction f with
  | zero => intro x z hz; cases hz
  | succ f ih =>
    intro x z hz
    rw [upl_s] at hz
    rcases List.mem_cons.mp hz with rfl | hz
    · rw [Nat.sub_self, pre]
      exact List.mem_cons_self
    · cases e : par T z with
      | none => rw [e] at hz; cases hz
      | some p =>
        rw [e] at hz
        have h1 := hd _ _ (par_mem e).1
        have h2 := (upl_dp hd f p x hz).1
        have h3 := pre_kid _ _ _ _ (ih x p hz) (par_mem e).1
        rwa [show dp z - dp x = dp p - dp x + 1 by omega]
theorem pre_iff (hW : Wf n kd T) {x z : Nat} (hx : x ≤ 120) (hz : z ≤ 120) : z ∈ pre T 121 x ↔ x ∈ upl T 200 z := by
  refine ⟨fun h => (pre_up hW _ _ _ h hx).2, fun h => ?_⟩
  obtain ⟨dp, hd⟩ := hW.2.2.2.2.1
  have h1 := upl_dp hd _ _ _ h
  have h2 := upl_len hW (f := 200) hz
  exact pre_le (by omega) (up_pre hd _ _ _ h)
theorem pre_nd (hW : Wf n kd T) : ∀ (f x : Nat), x ≤ 120 → (pre T f x).Nodup := by
  obtain ⟨dp, hd⟩ := hW.2.2.2.2.1
  intro f
  induction f with
  | zero => intro x _; exact List.nodup_nil
  | succ f ih =>
    intro x hx
    rw [pre]
    have kl : ∀ c, c ∈ t_k T x → c ≤ 120 := fun c hc => by have := hW.2.1 x c hc; have := hW.1; omega
    refine List.nodup_cons.mpr ⟨fun h => ?_, ?_⟩
    · obtain ⟨c, hc, h⟩ := List.mem_flatMap.mp h
      have h1 := hd _ _ hc
      have h2 := upl_dp hd _ _ _ (pre_up hW _ _ _ h (kl c hc)).2
      omega
    · have key : ∀ ks : List Nat, ks.Nodup → (∀ c ∈ ks, c ∈ t_k T x) → (ks.flatMap (pre T f)).Nodup := by
        intro ks
        induction ks with
        | nil => intro _ _; exact List.nodup_nil
        | cons c ks ih2 =>
          intro hn hk
          rw [List.flatMap_cons]
          obtain ⟨n1, n2⟩ := List.nodup_cons.mp hn
          refine List.nodup_append.mpr ⟨ih c (kl c (hk c List.mem_cons_self)), ih2 n2 (fun d hd => hk d (List.mem_cons_of_mem _ hd)), fun a ha b hb e => ?_⟩
          subst e
          obtain ⟨d, hd2, hb⟩ := List.mem_flatMap.mp hb
          have hc1 := hk c List.mem_cons_self
          have hd1 := hk d (List.mem_cons_of_mem _ hd2)
          have u1 := (pre_up hW _ _ _ ha (kl c hc1)).2
          have u2 := (pre_up hW _ _ _ hb (kl d hd1)).2
          have := upl_one hd _ _ _ _ u1 u2 (by rw [hd _ _ hc1, hd _ _ hd1])
          exact n1 (this ▸ hd2)
      exact key _ (hW.2.2.1 x) (fun c hc => hc)
end TR
