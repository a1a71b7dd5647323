/-! ===== reading: what the class looks for ===== -/
theorem sgn_isR : ∀ s, s < 5 → ∀ c, c < 121 → (sgn s c).all (fun v => isR (v &&& 255)) = true := by decide +kernel
section RD
variable {S : Sp}
theorem mkS_isR {j s n : Nat} (hs : s < 5) (hn : n ≤ 120) : ∀ v ∈ mkS j s n, isR (v &&& 255) = true := by
  intro v hv
  unfold mkS at hv
  rcases List.mem_append.mp hv with h | h
  · rcases List.mem_append.mp h with h | h
    · by_cases e : j = 2
      · rw [if_pos e] at h
        rw [List.mem_singleton.mp h]
        decide
      · rw [if_neg e] at h; cases h
    · exact List.all_eq_true.mp (sgn_isR s hs n (by omega)) v h
  · by_cases e : j = 2
    · rw [if_pos e] at h
      rw [List.mem_singleton.mp h]
      decide
    · rw [if_neg e] at h; cases h
theorem nn_isR (hS : SOk S) : ∀ (m i x : Nat), i < m → (ordT (s_T S))[i]? = some x → ∀ v ∈ n_n S x, isR (v &&& 255) = true := by
  intro m
  induction m with
  | zero => intro i x hi; omega
  | succ m ih =>
    intro i x hi hx v hv
    obtain ⟨-, -, -, hxn, hl⟩ := ord_at hS hx
    have hlt := getE_lt hx
    have hk6 := hS.2.1 x hxn
    have hfb := hS.2.2.2.2.2.1 _ hk6
    rw [(mk_S hS hx).2.1] at hv
    rcases List.mem_append.mp hv with h | h
    · cases hnb : nbC S x with
      | none => rw [hnb, pfS_none] at h; cases h
      | some b =>
        rw [hnb] at h
        have h : v ∈ pfS (f_j (s_f S) (s_k S x)) (some b) (n_n S b) := h
        by_cases hj : 0 < f_j (s_f S) (s_k S x)
        · rw [pfS_some _ _ hj] at h
          rcases List.mem_append.mp h with h | h
          · obtain ⟨q, q1, q2⟩ := nbC_before hS hx hnb
            exact ih q b (by omega) q2 v h
          · by_cases e : f_j (s_f S) (s_k S x) = 1
            · rw [if_pos e] at h
              rw [List.mem_singleton.mp h]
              decide
            · rw [if_neg e] at h; cases h
        · rw [pfS_0 _ _ hj] at h; cases h
    · have : n_c S i ≤ i + 1 := (ctO_le i).2
      exact mkS_isR hfb.2.1 (by omega) v h
/-- of a thing that is there: its mark ends its number, is not empty, and both are of such bytes -/
theorem mk_facts (hS : SOk S) {i x : Nat} (hx : (ordT (s_T S))[i]? = some x) : 0 < (mkX S x).length ∧ (mkX S x).length ≤ (n_n S x).length ∧ (mkX S x).length ≤ 10 ∧ (∀ v ∈ n_n S x, isR (v &&& 255) = true) ∧ ∀ v ∈ mkX S x, isR (v &&& 255) = true := by
  obtain ⟨-, -, -, hxn, hl⟩ := ord_at hS hx
  have hlt := getE_lt hx
  have hk6 := hS.2.1 x hxn
  have hfb := hS.2.2.2.2.2.1 _ hk6
  obtain ⟨-, m2, m3⟩ := mk_S hS hx
  have hc : 1 ≤ n_c S i ∧ n_c S i ≤ i + 1 := ctO_le i
  have hs1 := sgn_len1 _ hfb.2.1 (n_c S i) (by omega) (by omega)
  have h10 := mkS_len (j := f_j (s_f S) (s_k S x)) hfb.2.1 (show n_c S i ≤ 120 by omega)
  refine ⟨?_, ?_, by rw [m3]; omega, nn_isR hS _ _ x (Nat.lt_succ_self _) hx, by rw [m3]; exact mkS_isR hfb.2.1 (by omega)⟩
  · rw [m3]
    unfold mkS
    rw [List.length_append, List.length_append]
    omega
  · rw [m2, ← m3, List.length_append]
    omega
/-- how much of the tape, from st on, means x at i -/
def pLn (S : Sp) (i : Nat) (xs : List Int32) (st x : Nat) : Nat := if (n_n S x).isPrefixOf (xs.drop st) = true then (n_n S x).length else if (near S i x && (mkX S x).isPrefixOf (xs.drop st)) = true then (mkX S x).length else 0
def fLn (S : Sp) (i k : Nat) (xs : List Int32) (st x : Nat) : Nat := if s_k S x = k then pLn S i xs st x else 0
def mxF (f : Nat → Nat) (M : List Nat) : Nat := M.foldl (fun a x => max a (f x)) 0
theorem mxF_app (f : Nat → Nat) (M : List Nat) (x : Nat) : mxF f (M ++ [x]) = max (mxF f M) (f x) := by
  unfold mxF
  rw [List.foldl_append]
  rfl
theorem fold_ge (f : Nat → Nat) : ∀ (M : List Nat) (a : Nat), a ≤ M.foldl (fun a x => max a (f x)) a ∧ ∀ x ∈ M, f x ≤ M.foldl (fun a x => max a (f x)) a
  | [], a => ⟨Nat.le_refl _, fun x hx => by cases hx⟩
  | y :: M, a => by
    obtain ⟨h1, h2⟩ := fold_ge f M (max a (f y))
    refine ⟨by show a ≤ M.foldl _ (max a (f y)); omega, fun x hx => ?_⟩
    show f x ≤ M.foldl _ (max a (f y))
    rcases List.mem_cons.mp hx with e | e
    · rw [e]; omega
    · exact h2 x e
theorem fold_at (f : Nat → Nat) : ∀ (M : List Nat) (a : Nat), M.foldl (fun a x => max a (f x)) a = a ∨ ∃ x ∈ M, f x = M.foldl (fun a x => max a (f x)) a
  | [], a => Or.inl rfl
  | y :: M, a => by
    show M.foldl _ (max a (f y)) = a ∨ ∃ x ∈ y :: M, f x = M.foldl _ (max a (f y))
    rcases fold_at f M (max a (f y)) with h | ⟨x, x1, x2⟩
    · by_cases e : a < f y
      · exact Or.inr ⟨y, List.mem_cons_self, by rw [h]; omega⟩
      · exact Or.inl (by rw [h]; omega)
    · exact Or.inr ⟨x, List.mem_cons_of_mem _ x1, x2⟩
theorem mxF_ge (f : Nat → Nat) (M : List Nat) (x : Nat) (hx : x ∈ M) : f x ≤ mxF f M := (fold_ge f M 0).2 x hx
theorem mxF_at (f : Nat → Nat) (M : List Nat) (h : 0 < mxF f M) : ∃ x ∈ M, f x = mxF f M := by
  rcases fold_at f M 0 with w | w
  · exact absurd (show mxF f M = 0 from w) (by omega)
  · exact w
/-- those that are meant by the longest part -/
def wnF (f : Nat → Nat) (M : List Nat) : List Nat := M.filter (fun x => decide (0 < f x) && decide (f x = mxF f M))
theorem wnF_ne (f : Nat → Nat) (M : List Nat) (h : 0 < mxF f M) : wnF f M ≠ [] := by
  obtain ⟨x, x1, x2⟩ := mxF_at f M h
  intro e
  have : x ∈ wnF f M := List.mem_filter.mpr ⟨x1, by rw [decide_eq_true (show 0 < f x by omega), decide_eq_true x2]; rfl⟩
  rw [e] at this
  cases this
theorem wnF_app (f : Nat → Nat) (M : List Nat) (x : Nat) : wnF f (M ++ [x]) = if mxF f M < f x then [x] else if 0 < f x ∧ f x = mxF f M then wnF f M ++ [x] else wnF f M := by
  unfold wnF
  rw [List.filter_append, mxF_app, List.filter_cons]
  by_cases h1 : mxF f M < f x
  · rw [if_pos h1, show max (mxF f M) (f x) = f x by omega, decide_eq_true (show 0 < f x by omega), decide_eq_true rfl]
    have : M.filter (fun y => decide (0 < f y) && decide (f y = f x)) = [] := by
      rw [List.filter_eq_nil_iff]
      intro y hy
      have := mxF_ge f M y hy
      rw [decide_eq_false (show ¬ f y = f x by omega), Bool.and_false]
      decide
    rw [this]
    rfl
  · rw [if_neg h1, show max (mxF f M) (f x) = mxF f M by omega]
    by_cases h2 : 0 < f x ∧ f x = mxF f M
    · rw [if_pos h2, decide_eq_true h2.1, decide_eq_true h2.2]; rfl
    · rw [if_neg h2]
      have : (decide (0 < f x) && decide (f x = mxF f M)) = false := by
        by_cases h3 : 0 < f x
        · rw [decide_eq_false (fun w => h2 ⟨h3, w⟩), Bool.and_false]
        · rw [decide_eq_false h3, Bool.false_and]
      rw [this]
      exact List.append_nil _
theorem pre_take {ws ys : List Int32} : ws.isPrefixOf ys = true ↔ ws.length ≤ ys.length ∧ ws = ys.take ws.length := by
  rw [List.isPrefixOf_iff_prefix]
  constructor
  · intro h
    exact ⟨h.length_le, (List.prefix_iff_eq_take.mp h)⟩
  · intro h
    exact List.prefix_iff_eq_take.mpr h.2
theorem pre_rn {xs ws : List Int32} {p : Nat} (h : ws.isPrefixOf (xs.drop p) = true) (hr : ∀ v ∈ ws, isR (v &&& 255) = true) : ws.length ≤ rnL xs p := by
  rcases Nat.lt_or_ge (rnL xs p) ws.length with hlt | hge
  · exfalso
    obtain ⟨h1, h2⟩ := pre_at.mp h
    rw [List.length_drop] at h1
    have h3 := (rn_spec xs p).2
    rw [see_drop (by omega), h2 _ hlt, getD_at hlt, hr _ (List.getElem_mem hlt)] at h3
    cases h3
  · exact hge
theorem fd_eq (hS : SOk S) {i k : Nat} {xs : List Int32} {st : Nat} : fdE S i k (xs.drop st) (rnL xs st) = (mxF (fLn S i k xs st) (ordT (s_T S)), wnF (fLn S i k xs st) (ordT (s_T S))) := by
  have hW := hS.wf
  have at_ : ∀ x, x ∈ ordT (s_T S) → ∃ q, (ordT (s_T S))[q]? = some x := fun x hx => List.getElem?_of_mem hx
  -- what means at m is at least that long
  have up : ∀ m x, x ∈ ordT (s_T S) → m ≤ (xs.drop st).length → mnB S i k ((xs.drop st).take m) x = true → m ≤ fLn S i k xs st x := by
    intro m x hx hm h
    obtain ⟨q, hq⟩ := at_ x hx
    obtain ⟨k1, k2, -, -, -⟩ := mk_facts hS hq
    unfold mnB at h
    rw [Bool.and_eq_true, Bool.or_eq_true, Bool.and_eq_true] at h
    unfold fLn
    rw [if_pos (of_decide_eq_true h.1)]
    unfold pLn
    rcases h.2 with h | ⟨h, h'⟩
    · have e := of_decide_eq_true h
      have el : (n_n S x).length = m := by rw [e, List.length_take]; omega
      rw [if_pos (pre_take.mpr ⟨by omega, by rw [el]; exact e⟩)]
      omega
    · have e := of_decide_eq_true h'
      have el : (mkX S x).length = m := by rw [e, List.length_take]; omega
      by_cases hp : (n_n S x).isPrefixOf (xs.drop st) = true
      · rw [if_pos hp]; omega
      · rw [if_neg hp, if_pos (by rw [h, pre_take.mpr ⟨by omega, by rw [el]; exact e⟩]; rfl)]
        omega
  -- and what is so long means so much
  have dn : ∀ x, x ∈ ordT (s_T S) → 0 < fLn S i k xs st x → fLn S i k xs st x ≤ rnL xs st ∧ mnB S i k ((xs.drop st).take (fLn S i k xs st x)) x = true := by
    intro x hx h
    obtain ⟨q, hq⟩ := at_ x hx
    obtain ⟨k1, k2, -, k4, k5⟩ := mk_facts hS hq
    unfold fLn at h ⊢
    by_cases hk : s_k S x = k
    · rw [if_pos hk] at h ⊢
      unfold pLn at h ⊢
      unfold mnB
      by_cases hp : (n_n S x).isPrefixOf (xs.drop st) = true
      · rw [if_pos hp]
        refine ⟨pre_rn hp k4, ?_⟩
        rw [decide_eq_true hk, decide_eq_true (pre_take.mp hp).2]
        rfl
      · rw [if_neg hp] at h ⊢
        by_cases hp2 : (near S i x && (mkX S x).isPrefixOf (xs.drop st)) = true
        · rw [if_pos hp2]
          rw [Bool.and_eq_true] at hp2
          refine ⟨pre_rn hp2.2 k5, ?_⟩
          rw [decide_eq_true hk, hp2.1, decide_eq_true (pre_take.mp hp2.2).2]
          simp
        · rw [if_neg hp2] at h; omega
    · rw [if_neg hk] at h; omega
  have hrl : rnL xs st ≤ (xs.drop st).length := by
    unfold rnL
    exact (List.takeWhile_sublist _).length_le
  generalize hb : mxF (fLn S i k xs st) (ordT (s_T S)) = b
  have gen : ∀ n, n ≤ rnL xs st → (b ≤ n → fdE S i k (xs.drop st) n = (b, wnF (fLn S i k xs st) (ordT (s_T S)))) := by
    intro n
    induction n with
    | zero =>
      intro _ hbn
      have hb0 : b = 0 := by omega
      have : wnF (fLn S i k xs st) (ordT (s_T S)) = [] := by
        unfold wnF
        rw [List.filter_eq_nil_iff]
        intro x hx
        have := mxF_ge (fLn S i k xs st) _ x hx
        rw [decide_eq_false (show ¬ 0 < fLn S i k xs st x by omega), Bool.false_and]
        decide
      rw [this, hb0]
      rfl
    | succ n ih =>
      intro hn hbn
      rw [fdE]
      by_cases e : b = n + 1
      · have em : mnL S i k ((xs.drop st).take (n + 1)) = wnF (fLn S i k xs st) (ordT (s_T S)) := by
          unfold mnL wnF
          refine List.filter_congr (fun x hx => ?_)
          have hge := mxF_ge (fLn S i k xs st) _ x hx
          cases hm : mnB S i k ((xs.drop st).take (n + 1)) x with
          | true =>
            have := up (n + 1) x hx (by omega) hm
            rw [decide_eq_true (show 0 < fLn S i k xs st x by omega), decide_eq_true (show fLn S i k xs st x = mxF (fLn S i k xs st) (ordT (s_T S)) by omega)]
            rfl
          | false =>
            by_cases h0 : 0 < fLn S i k xs st x ∧ fLn S i k xs st x = mxF (fLn S i k xs st) (ordT (s_T S))
            · have := (dn x hx h0.1).2
              rw [h0.2, hb, e] at this
              rw [this] at hm
              cases hm
            · by_cases h1 : 0 < fLn S i k xs st x
              · rw [decide_eq_false (fun w => h0 ⟨h1, w⟩), Bool.and_false]
              · rw [decide_eq_false h1, Bool.false_and]
        rw [em, if_neg (wnF_ne _ _ (by omega)), e]
      · have em : mnL S i k ((xs.drop st).take (n + 1)) = [] := by
          unfold mnL
          rw [List.filter_eq_nil_iff]
          intro x hx hm
          have := up (n + 1) x hx (by omega) hm
          have := mxF_ge (fLn S i k xs st) _ x hx
          omega
        rw [em, if_pos rfl]
        exact ih (by omega) (by omega)
  refine gen _ (Nat.le_refl _) ?_
  rcases Nat.eq_zero_or_pos b with w | w
  · omega
  · obtain ⟨x, x1, x2⟩ := mxF_at (fLn S i k xs st) (ordT (s_T S)) (by omega)
    have := (dn x x1 (by omega)).1
    omega
end RD
