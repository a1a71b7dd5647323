/-! ===== what is done to the tree, pure ===== -/
def rmv (l : List Nat) (x : Nat) : List Nat := l.filter (fun z => decide (z ≠ x))
def insA (l : List Nat) (i x : Nat) : List Nat := l.take i ++ x :: l.drop i
theorem mem_rmv {l : List Nat} {x z : Nat} : z ∈ rmv l x ↔ z ∈ l ∧ z ≠ x := by
  unfold rmv
  rw [List.mem_filter, decide_eq_true_eq]
theorem rmv_no {l : List Nat} {x : Nat} (h : x ∉ l) : rmv l x = l := by
  unfold rmv
  refine List.filter_eq_self.mpr (fun z hz => decide_eq_true (fun e => h (e ▸ hz)))
theorem rmv_nd {l : List Nat} {x : Nat} (h : l.Nodup) : (rmv l x).Nodup := List.Nodup.sublist List.filter_sublist h
theorem mem_ins {l : List Nat} {i x z : Nat} : z ∈ insA l i x ↔ z = x ∨ z ∈ l := by
  unfold insA
  rw [List.mem_append, List.mem_cons]
  have : z ∈ l ↔ z ∈ l.take i ∨ z ∈ l.drop i := by rw [← List.mem_append, List.take_append_drop]
  rw [this]
  constructor
  · rintro (h | h | h)
    · exact Or.inr (Or.inl h)
    · exact Or.inl h
    · exact Or.inr (Or.inr h)
  · rintro (h | h | h)
    · exact Or.inr (Or.inl h)
    · exact Or.inl h
    · exact Or.inr (Or.inr h)
theorem ins_nd {l : List Nat} {i x : Nat} (h : l.Nodup) (hx : x ∉ l) : (insA l i x).Nodup := by
  unfold insA
  refine (List.perm_middle.nodup_iff).mpr ?_
  rw [List.take_append_drop]
  exact List.nodup_cons.mpr ⟨hx, h⟩
theorem ins_at {l : List Nat} {i x : Nat} (hi : i ≤ l.length) (j : Nat) : (insA l i x)[j]? = if j < i then l[j]? else if j = i then some x else l[j - 1]? := by
  unfold insA
  have ht : (l.take i).length = i := by rw [List.length_take]; omega
  by_cases a : j < i
  · rw [if_pos a, List.getElem?_append_left (by omega), List.getElem?_take, if_pos a]
  · rw [if_neg a, List.getElem?_append_right (by omega), ht]
    by_cases b : j = i
    · rw [if_pos b, b, Nat.sub_self]; rfl
    · rw [if_neg b, show j - i = (j - i - 1) + 1 by omega, List.getElem?_cons_succ, List.getElem?_drop]
      congr 1
      omega
theorem split_at {l : List Nat} {k x : Nat} (h : l[k]? = some x) : l = l.take k ++ x :: l.drop (k + 1) := by
  have hk : k < l.length := by
    by_cases a : k < l.length
    · exact a
    · rw [List.getElem?_eq_none (by omega)] at h; cases h
  rw [List.getElem?_eq_getElem hk] at h
  have : l.drop k = x :: l.drop (k + 1) := by rw [List.drop_eq_getElem_cons hk, Option.some.inj h]
  rw [← this, List.take_append_drop]
theorem rmv_split {l : List Nat} {k x : Nat} (hn : l.Nodup) (h : l[k]? = some x) : rmv l x = l.take k ++ l.drop (k + 1) := by
  have e := split_at h
  rw [e] at hn
  have h2 := List.nodup_append.mp hn
  have h3 : x ∉ l.take k := fun q => h2.2.2 x q x List.mem_cons_self rfl
  have h4 := (List.nodup_cons.mp h2.2.1).1
  conv => lhs; rw [e]
  unfold rmv
  rw [List.filter_append, List.filter_cons, if_neg (by simp)]
  have a := rmv_no h3
  have b := rmv_no h4
  unfold rmv at a b
  rw [a, b]
theorem rmv_at {l : List Nat} {k x : Nat} (hn : l.Nodup) (h : l[k]? = some x) (j : Nat) : (rmv l x)[j]? = if j < k then l[j]? else l[j + 1]? := by
  have hk : k < l.length := by
    by_cases a : k < l.length
    · exact a
    · rw [List.getElem?_eq_none (by omega)] at h; cases h
  have ht : (l.take k).length = k := by rw [List.length_take]; omega
  rw [rmv_split hn h]
  by_cases a : j < k
  · rw [if_pos a, List.getElem?_append_left (by omega), List.getElem?_take, if_pos a]
  · rw [if_neg a, List.getElem?_append_right (by omega), ht, List.getElem?_drop]
    congr 1
    omega
theorem rmv_len {l : List Nat} {k x : Nat} (hn : l.Nodup) (h : l[k]? = some x) : (rmv l x).length + 1 = l.length := by
  have hk : k < l.length := by
    by_cases a : k < l.length
    · exact a
    · rw [List.getElem?_eq_none (by omega)] at h; cases h
  rw [rmv_split hn h, List.length_append, List.length_take, List.length_drop]
  omega
theorem ins_rmv {l : List Nat} {k x : Nat} (hn : l.Nodup) (h : l[k]? = some x) : insA (rmv l x) k x = l := by
  have hk : k < l.length := by
    by_cases a : k < l.length
    · exact a
    · rw [List.getElem?_eq_none (by omega)] at h; cases h
  have ht : (l.take k).length = k := by rw [List.length_take]; omega
  rw [rmv_split hn h]
  unfold insA
  rw [List.take_left' ht, List.drop_left' ht]
  exact (split_at h).symm
theorem rmv_ins {l : List Nat} {i x : Nat} (h : x ∉ l) : rmv (insA l i x) x = l := by
  unfold insA rmv
  rw [List.filter_append, List.filter_cons, if_neg (by simp), ← List.filter_append, List.take_append_drop]
  exact rmv_no h
def apA (x p i : Nat) (T : Tr) : Tr := (u_1 (t_k T) p (insA (t_k T p) i x), u_1 (t_h T) x true, t_i T)
def apM (x p i : Nat) (T : Tr) : Tr := (u_1 (fun q => rmv (t_k T q) x) p (insA (rmv (t_k T p) x) i x), t_h T, t_i T)
def apC (x : Nat) (T : Tr) : Tr := (fun q => rmv (t_k T q) x, fun z => t_h T z && !bel T x z, t_i T)
def apJ (x y : Nat) (T : Tr) : Tr := (fun q => if q = x then t_k T x ++ t_k T y else if q = y then [] else rmv (t_k T q) y, u_1 (t_h T) y false, u_1 (t_i T) y (some x))
def VA (n : Nat) (T : Tr) (x p i : Nat) : Prop := x < n ∧ t_h T x = false ∧ t_k T x = [] ∧ t_i T x = none ∧ (∀ q, x ∉ t_k T q) ∧ liv T p ∧ i ≤ (t_k T p).length
def VM (T : Tr) (x p i : Nat) : Prop := t_h T x = true ∧ liv T p ∧ bel T x p = false ∧ i ≤ (rmv (t_k T p) x).length
def VJ (kd : Nat → Nat) (T : Tr) (x y : Nat) : Prop := t_h T x = true ∧ t_h T y = true ∧ kd x = kd y ∧ ∃ p i, liv T p ∧ (t_k T p)[i]? = some x ∧ (t_k T p)[i + 1]? = some y
section TR
variable {n : Nat} {kd : Nat → Nat} {T : Tr}
theorem Wf.more {m : Nat} {kd' : Nat → Nat} (h : Wf n kd T) (h1 : n ≤ m) (h2 : m ≤ 120) (h3 : ∀ x, x < n → kd' x = kd x) : Wf m kd' T := by
  obtain ⟨w1, w2, w3, w4, w5, w6, w7, w8, w9⟩ := h
  refine ⟨h2, fun p c hc => ?_, w3, w4, w5, fun x hx => ?_, w7, fun x y e => ?_, w9⟩
  · have := w2 p c hc; omega
  · have := w6 x hx
    exact ⟨by omega, this.2⟩
  · have := w8 x y e
    exact ⟨this.1, by omega, by omega, by rw [h3 x this.2.1, h3 y this.2.2.1]; exact this.2.2.2⟩
theorem Wf_T0 (h : n ≤ 120) : Wf n kd T0 := by
  refine ⟨h, fun p c hc => (by cases hc), fun p => List.nodup_nil, fun p q c hc => (by cases hc), ⟨fun _ => 0, fun p c hc => (by cases hc)⟩, fun x hx => (by cases hx), fun p _ c hc => (by cases hc), fun x y e => (by cases e), ⟨fun _ => 0, fun x y e => (by cases e)⟩⟩
theorem bel_kid (hW : Wf n kd T) {x c q : Nat} (h : c ∈ t_k T q) (hc : c ≠ x) : bel T x c = bel T x q := by
  unfold bel
  rw [upl_step hW h]
  by_cases e : x ∈ upl T 200 q
  · rw [decide_eq_true e, decide_eq_true (List.mem_cons_of_mem _ e)]
  · rw [decide_eq_false e, decide_eq_false (fun w => (List.mem_cons.mp w).elim (fun v => hc v.symm) e)]
theorem bel_self {x : Nat} : bel T x x = true := decide_eq_true upl_self
theorem bel_dp {dp : Nat → Nat} (hd : ∀ p c, c ∈ t_k T p → dp c = dp p + 1) {x z : Nat} (h : bel T x z = true) : dp x ≤ dp z := (upl_dp hd _ _ _ (of_decide_eq_true h)).1
theorem bel_120 (hW : Wf n kd T) {x : Nat} (hx : x < n) : bel T x 120 = false := by
  unfold bel
  rw [upl_root hW.par_120]
  refine decide_eq_false (fun q => ?_)
  have := List.mem_singleton.mp q
  have := hW.1
  omega
theorem Wf.liv_n (hW : Wf n kd T) {p : Nat} (h : liv T p) : p = 120 ∨ p < n := h.elim Or.inl (fun q => Or.inr (hW.h_lt q))
theorem Wf_A {x p i : Nat} (hW : Wf n kd T) (hv : VA n T x p i) : Wf n kd (apA x p i T) := by
  obtain ⟨v1, v2, v3, v4, v5, v6, v7⟩ := hv
  have hn := hW.1
  have hpx : p ≠ x := by
    rintro rfl
    rcases v6 with q | q
    · omega
    · rw [v2] at q; cases q
  obtain ⟨w1, w2, w3, w4, ⟨dp, hd⟩, w6, w7, w8, w9⟩ := id hW
  have hk : ∀ q c, c ∈ t_k (apA x p i T) q → (c = x ∧ q = p) ∨ (c ≠ x ∧ c ∈ t_k T q) := by
    intro q c hc
    change c ∈ u_1 (t_k T) p (insA (t_k T p) i x) q at hc
    by_cases e : q = p
    · rw [e, u1_s] at hc
      rcases mem_ins.mp hc with h | h
      · exact Or.inl ⟨h, e⟩
      · exact Or.inr ⟨fun w => v5 p (w ▸ h), e ▸ h⟩
    · rw [u1_n _ _ e] at hc
      exact Or.inr ⟨fun w => v5 q (w ▸ hc), hc⟩
  have hkr : ∀ q c, c ∈ t_k T q → c ∈ t_k (apA x p i T) q := by
    intro q c hc
    show c ∈ u_1 (t_k T) p (insA (t_k T p) i x) q
    by_cases e : q = p
    · rw [e, u1_s]
      exact mem_ins.mpr (Or.inr (e ▸ hc))
    · rw [u1_n _ _ e]
      exact hc
  have hh : ∀ z, z ≠ x → t_h (apA x p i T) z = t_h T z := fun z hz => u1_n _ _ hz
  have hhx : t_h (apA x p i T) x = true := u1_s _ _ _
  have hliv : ∀ q, q ≠ x → (liv (apA x p i T) q ↔ liv T q) := by
    intro q hq
    unfold liv
    rw [hh q hq]
  refine ⟨w1, fun q c hc => ?_, fun q => ?_, fun q r c h1 h2 => ?_, ⟨u_1 dp x (dp p + 1), fun q c hc => ?_⟩, fun z hz => ?_, fun q hq c hc => ?_, fun z y e => ?_, w9⟩
  · rcases hk q c hc with ⟨h1, h2⟩ | ⟨h1, h2⟩
    · exact ⟨by omega, by rw [h2]; exact hW.liv_n v6⟩
    · exact w2 q c h2
  · show (u_1 (t_k T) p (insA (t_k T p) i x) q).Nodup
    by_cases e : q = p
    · rw [e, u1_s]
      exact ins_nd (w3 p) (v5 p)
    · rw [u1_n _ _ e]
      exact w3 q
  · rcases hk q c h1 with ⟨a1, a2⟩ | ⟨a1, a2⟩
    · rcases hk r c h2 with ⟨b1, b2⟩ | ⟨b1, b2⟩
      · rw [a2, b2]
      · exact absurd a1 b1
    · rcases hk r c h2 with ⟨b1, b2⟩ | ⟨b1, b2⟩
      · exact absurd b1 a1
      · exact w4 q r c a2 b2
  · rcases hk q c hc with ⟨a1, a2⟩ | ⟨a1, a2⟩
    · rw [a1, a2, u1_s, u1_n _ _ hpx]
    · have : q ≠ x := fun e => by rw [e, v3] at a2; cases a2
      rw [u1_n _ _ a1, u1_n _ _ this]
      exact hd q c a2
  · by_cases e : z = x
    · exact ⟨by omega, p, (hliv p hpx).mpr v6, by rw [e]; show x ∈ u_1 (t_k T) p (insA (t_k T p) i x) p; rw [u1_s]; exact mem_ins.mpr (Or.inl rfl)⟩
    · rw [hh z e] at hz
      obtain ⟨a, q, b, c⟩ := w6 z hz
      have : q ≠ x := fun e => by rw [e, v3] at c; cases c
      exact ⟨a, q, (hliv q this).mpr b, hkr q z c⟩
  · rcases hk q c hc with ⟨a1, a2⟩ | ⟨a1, a2⟩
    · rw [a1]; exact hhx
    · have : q ≠ x := fun e => by rw [e, v3] at a2; cases a2
      rw [hh c a1]
      exact w7 q ((hliv q this).mp hq) c a2
  · have h1 : t_i T z = some y := e
    have h2 := w8 z y h1
    have : z ≠ x := fun e => by rw [e, v4] at h1; cases h1
    exact ⟨by rw [hh z this]; exact h2.1, h2.2⟩
theorem apM_k (x p i : Nat) (T : Tr) (q c : Nat) : c ∈ t_k (apM x p i T) q ↔ (c = x ∧ q = p) ∨ (c ≠ x ∧ c ∈ t_k T q) := by
  show c ∈ u_1 (fun q => rmv (t_k T q) x) p (insA (rmv (t_k T p) x) i x) q ↔ _
  by_cases e : q = p
  · rw [e, u1_s, mem_ins, mem_rmv]
    constructor
    · rintro (h | ⟨h, h'⟩)
      · exact Or.inl ⟨h, rfl⟩
      · exact Or.inr ⟨h', h⟩
    · rintro (⟨h, -⟩ | ⟨h, h'⟩)
      · exact Or.inl h
      · exact Or.inr ⟨h', h⟩
  · rw [u1_n _ _ e, mem_rmv]
    constructor
    · rintro ⟨h, h'⟩
      exact Or.inr ⟨h', h⟩
    · rintro (⟨-, h⟩ | ⟨h, h'⟩)
      · exact absurd h e
      · exact ⟨h', h⟩
theorem Wf_M {x p i : Nat} (hW : Wf n kd T) (hv : VM T x p i) : Wf n kd (apM x p i T) := by
  obtain ⟨v1, v2, v3, v4⟩ := hv
  have hn := hW.1
  have hxn := hW.h_lt v1
  obtain ⟨w1, w2, w3, w4, ⟨dp, hd⟩, w6, w7, w8, w9⟩ := id hW
  refine ⟨w1, fun q c hc => ?_, fun q => ?_, fun q r c h1 h2 => ?_, ⟨fun z => if bel T x z = true then dp z + (dp p + 1) - dp x else dp z, fun q c hc => ?_⟩, fun z hz => ?_, fun q hq c hc => ?_, w8, w9⟩
  · rcases (apM_k x p i T q c).mp hc with ⟨a1, a2⟩ | ⟨a1, a2⟩
    · exact ⟨by omega, by rw [a2]; exact hW.liv_n v2⟩
    · exact w2 q c a2
  · show (u_1 (fun q => rmv (t_k T q) x) p (insA (rmv (t_k T p) x) i x) q).Nodup
    by_cases e : q = p
    · rw [e, u1_s]
      exact ins_nd (rmv_nd (w3 p)) (fun h => (mem_rmv.mp h).2 rfl)
    · rw [u1_n _ _ e]
      exact rmv_nd (w3 q)
  · rcases (apM_k x p i T q c).mp h1 with ⟨a1, a2⟩ | ⟨a1, a2⟩
    · rcases (apM_k x p i T r c).mp h2 with ⟨b1, b2⟩ | ⟨b1, b2⟩
      · rw [a2, b2]
      · exact absurd a1 b1
    · rcases (apM_k x p i T r c).mp h2 with ⟨b1, b2⟩ | ⟨b1, b2⟩
      · exact absurd b1 a1
      · exact w4 q r c a2 b2
  · show (if bel T x c = true then dp c + (dp p + 1) - dp x else dp c) = (if bel T x q = true then dp q + (dp p + 1) - dp x else dp q) + 1
    rcases (apM_k x p i T q c).mp hc with ⟨a1, a2⟩ | ⟨a1, a2⟩
    · rw [a1, a2, v3, if_pos bel_self, if_neg (by decide)]
      omega
    · rw [bel_kid hW a2 a1]
      have h1 := hd q c a2
      cases e : bel T x q with
      | false => rw [if_neg (by decide), if_neg (by decide)]; exact h1
      | true =>
        have := bel_dp hd e
        rw [if_pos rfl, if_pos rfl]
        omega
  · by_cases e : z = x
    · exact ⟨by omega, p, v2, (apM_k x p i T p z).mpr (Or.inl ⟨e, rfl⟩)⟩
    · obtain ⟨a, q, b, c⟩ := w6 z hz
      exact ⟨a, q, b, (apM_k x p i T q z).mpr (Or.inr ⟨e, c⟩)⟩
  · rcases (apM_k x p i T q c).mp hc with ⟨a1, a2⟩ | ⟨a1, a2⟩
    · rw [a1]; exact v1
    · exact w7 q hq c a2
theorem Wf_C {x : Nat} (hW : Wf n kd T) (hv : t_h T x = true) : Wf n kd (apC x T) := by
  have hn := hW.1
  have hxn := hW.h_lt hv
  obtain ⟨w1, w2, w3, w4, ⟨dp, hd⟩, w6, w7, w8, w9⟩ := id hW
  have hh : ∀ z, t_h (apC x T) z = true ↔ t_h T z = true ∧ bel T x z = false := by
    intro z
    show (t_h T z && !bel T x z) = true ↔ _
    simp
  have hk : ∀ q c, c ∈ t_k (apC x T) q ↔ c ∈ t_k T q ∧ c ≠ x := fun q c => mem_rmv
  refine ⟨w1, fun q c hc => w2 q c ((hk q c).mp hc).1, fun q => rmv_nd (w3 q), fun q r c h1 h2 => w4 q r c ((hk q c).mp h1).1 ((hk r c).mp h2).1, ⟨dp, fun q c hc => hd q c ((hk q c).mp hc).1⟩, fun z hz => ?_, fun q hq c hc => ?_, fun z y e => ?_, w9⟩
  · obtain ⟨z1, z2⟩ := (hh z).mp hz
    have hzx : z ≠ x := fun e => by rw [e, bel_self] at z2; cases z2
    obtain ⟨a, q, b, c⟩ := w6 z z1
    refine ⟨a, q, ?_, (hk q z).mpr ⟨c, hzx⟩⟩
    rcases b with b | b
    · exact Or.inl b
    · exact Or.inr ((hh q).mpr ⟨b, by rw [← bel_kid hW c hzx]; exact z2⟩)
  · obtain ⟨c1, c2⟩ := (hk q c).mp hc
    refine (hh c).mpr ?_
    rcases hq with rfl | hq
    · exact ⟨w7 120 (Or.inl rfl) c c1, by rw [bel_kid hW c1 c2]; exact bel_120 hW hxn⟩
    · obtain ⟨q1, q2⟩ := (hh q).mp hq
      exact ⟨w7 q (Or.inr q1) c c1, by rw [bel_kid hW c1 c2]; exact q2⟩
  · have h2 := w8 z y e
    refine ⟨?_, h2.2⟩
    show (t_h T z && !bel T x z) = false
    rw [h2.1]; rfl
theorem apJ_k (hW : Wf n kd T) {x y p : Nat} (hxy : x ≠ y) (hy : y ∈ t_k T p) (hpx : p ≠ x) (hpy : p ≠ y) (q c : Nat) : c ∈ t_k (apJ x y T) q ↔ c ≠ y ∧ ((q = x ∧ c ∈ t_k T y) ∨ (q ≠ y ∧ c ∈ t_k T q)) := by
  have u := hW.2.2.2.1
  show c ∈ (if q = x then t_k T x ++ t_k T y else if q = y then [] else rmv (t_k T q) y) ↔ _
  by_cases e : q = x
  · rw [if_pos e, List.mem_append, e]
    constructor
    · rintro (h | h)
      · exact ⟨fun w => hpx (u p x y hy (w ▸ h)), Or.inr ⟨hxy, h⟩⟩
      · exact ⟨fun w => hpy (u p y y hy (w ▸ h)), Or.inl ⟨rfl, h⟩⟩
    · rintro ⟨-, ⟨-, h⟩ | ⟨-, h⟩⟩
      · exact Or.inr h
      · exact Or.inl h
  · rw [if_neg e]
    by_cases e2 : q = y
    · rw [if_pos e2]
      constructor
      · intro h; cases h
      · rintro ⟨-, ⟨h, -⟩ | ⟨h, -⟩⟩
        · exact absurd h e
        · exact absurd e2 h
    · rw [if_neg e2, mem_rmv]
      constructor
      · rintro ⟨h1, h2⟩
        exact ⟨h2, Or.inr ⟨e2, h1⟩⟩
      · rintro ⟨h1, ⟨h, -⟩ | ⟨-, h⟩⟩
        · exact absurd h e
        · exact ⟨h, h1⟩
theorem VJ.ne (hW : Wf n kd T) {x y : Nat} (hv : VJ kd T x y) : x ≠ y ∧ ∃ p i, liv T p ∧ (t_k T p)[i]? = some x ∧ (t_k T p)[i + 1]? = some y ∧ x ∈ t_k T p ∧ y ∈ t_k T p ∧ p ≠ x ∧ p ≠ y := by
  obtain ⟨v1, v2, v3, p, i, v4, v5, v6⟩ := hv
  have hx := List.mem_of_getElem? v5
  have hy := List.mem_of_getElem? v6
  obtain ⟨dp, hd⟩ := hW.2.2.2.2.1
  have d1 := hd _ _ hx
  have d2 := hd _ _ hy
  refine ⟨?_, p, i, v4, v5, v6, hx, hy, fun e => by rw [e] at d1; omega, fun e => by rw [e] at d2; omega⟩
  rintro rfl
  have hi : i < (t_k T p).length := by
    by_cases a : i < (t_k T p).length
    · exact a
    · rw [List.getElem?_eq_none (by omega)] at v5; cases v5
  have := (List.getElem?_inj hi (hW.2.2.1 p)).mp (v5.trans v6.symm)
  omega
theorem Wf_J {x y : Nat} (hW : Wf n kd T) (hv : VJ kd T x y) : Wf n kd (apJ x y T) := by
  obtain ⟨hxy, p, i, p1, p2, p3, hx, hy, hpx, hpy⟩ := VJ.ne hW hv
  obtain ⟨v1, v2, v3, -⟩ := hv
  have hn := hW.1
  have hxn := hW.h_lt v1
  have hyn := hW.h_lt v2
  have hk := apJ_k hW hxy hy hpx hpy
  obtain ⟨w1, w2, w3, w4, ⟨dp, hd⟩, w6, w7, w8, ⟨rk, hr⟩⟩ := id hW
  have hh : ∀ z, z ≠ y → t_h (apJ x y T) z = t_h T z := fun z hz => u1_n _ _ hz
  have hhy : t_h (apJ x y T) y = false := u1_s _ _ _
  have hix : t_i T x = none := by
    cases e : t_i T x with
    | none => rfl
    | some w => rw [(w8 x w e).1] at v1; cases v1
  have d1 := hd _ _ hx
  have d2 := hd _ _ hy
  have hyy : y ∉ t_k T y := fun h => hpy (w4 p y y hy h)
  refine ⟨w1, fun q c hc => ?_, fun q => ?_, fun q r c h1 h2 => ?_, ⟨dp, fun q c hc => ?_⟩, fun z hz => ?_, fun q hq c hc => ?_, fun z w e => ?_, ⟨fun z => if z = x then 0 else rk z + 1, fun z w e => ?_⟩⟩
  · rcases (hk q c).mp hc with ⟨-, ⟨a1, a2⟩ | ⟨a1, a2⟩⟩
    · exact ⟨(w2 y c a2).1, by omega⟩
    · exact w2 q c a2
  · show (if q = x then t_k T x ++ t_k T y else if q = y then [] else rmv (t_k T q) y).Nodup
    by_cases e : q = x
    · rw [if_pos e]
      refine List.nodup_append.mpr ⟨w3 x, w3 y, fun a ha b hb e2 => ?_⟩
      subst e2
      exact hxy (w4 x y a ha hb)
    · rw [if_neg e]
      by_cases e2 : q = y
      · rw [if_pos e2]; exact List.nodup_nil
      · rw [if_neg e2]; exact rmv_nd (w3 q)
  · rcases (hk q c).mp h1 with ⟨-, ⟨a1, a2⟩ | ⟨a1, a2⟩⟩
    · rcases (hk r c).mp h2 with ⟨-, ⟨b1, b2⟩ | ⟨b1, b2⟩⟩
      · rw [a1, b1]
      · exact absurd (w4 r y c b2 a2) b1
    · rcases (hk r c).mp h2 with ⟨-, ⟨b1, b2⟩ | ⟨b1, b2⟩⟩
      · exact absurd (w4 q y c a2 b2) a1
      · exact w4 q r c a2 b2
  · rcases (hk q c).mp hc with ⟨-, ⟨a1, a2⟩ | ⟨a1, a2⟩⟩
    · have := hd _ _ a2
      rw [a1]; omega
    · exact hd q c a2
  · by_cases e : z = y
    · rw [e, hhy] at hz; cases hz
    · rw [hh z e] at hz
      obtain ⟨a, q, b, c⟩ := w6 z hz
      refine ⟨a, ?_⟩
      by_cases e2 : q = y
      · exact ⟨x, Or.inr (by rw [hh x hxy]; exact v1), (hk x z).mpr ⟨e, Or.inl ⟨rfl, e2 ▸ c⟩⟩⟩
      · refine ⟨q, ?_, (hk q z).mpr ⟨e, Or.inr ⟨e2, c⟩⟩⟩
        rcases b with b | b
        · exact Or.inl b
        · exact Or.inr (by rw [hh q e2]; exact b)
  · obtain ⟨c1, c2⟩ := (hk q c).mp hc
    rw [hh c c1]
    rcases c2 with ⟨a1, a2⟩ | ⟨a1, a2⟩
    · exact w7 y (Or.inr v2) c a2
    · rcases hq with hq | hq
      · exact w7 q (Or.inl hq) c a2
      · rw [hh q a1] at hq
        exact w7 q (Or.inr hq) c a2
  · by_cases e2 : z = y
    · change u_1 (t_i T) y (some x) z = some w at e
      rw [e2, u1_s] at e
      have := Option.some.inj e
      subst this
      rw [e2]
      exact ⟨hhy, hyn, hxn, v3.symm⟩
    · change u_1 (t_i T) y (some x) z = some w at e
      rw [u1_n _ _ e2] at e
      have := w8 z w e
      exact ⟨by rw [hh z e2]; exact this.1, this.2⟩
  · change u_1 (t_i T) y (some x) z = some w at e
    show (if w = x then 0 else rk w + 1) < (if z = x then 0 else rk z + 1)
    by_cases e2 : z = y
    · rw [e2, u1_s] at e
      have := Option.some.inj e
      subst this
      rw [if_pos rfl, e2, if_neg hxy.symm]
      omega
    · rw [u1_n _ _ e2] at e
      have h1 := hr z w e
      have h2 : z ≠ x := fun q => by rw [q, hix] at e; cases e
      rw [if_neg h2]
      by_cases e3 : w = x
      · rw [if_pos e3]; omega
      · rw [if_neg e3]; omega
end TR
