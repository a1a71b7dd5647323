/-! ===== the class: twins ===== -/
/-- pairs of a list, the earlier one first -/
def prL (R : Nat → Nat → Bool) : List Nat → Nat
  | [] => 0
  | y :: L => (L.filter (R y)).length + prL R L
theorem prL_perm {R : Nat → Nat → Bool} (hs : ∀ x y, R x y = R y x) {L M : List Nat} (h : L.Perm M) : prL R L = prL R M := by
  induction h with
  | nil => rfl
  | cons x h ih =>
    show _ + _ = _ + _
    rw [ih, (h.filter (R x)).length_eq]
  | swap x y L =>
    show ((x :: L).filter (R y)).length + ((L.filter (R x)).length + prL R L) = ((y :: L).filter (R x)).length + ((L.filter (R y)).length + prL R L)
    rw [List.filter_cons, List.filter_cons, hs y x]
    cases R x y with
    | true => rw [if_pos rfl, if_pos rfl, List.length_cons, List.length_cons]; omega
    | false => rw [if_neg (by decide), if_neg (by decide)]; omega
  | trans _ _ h1 h2 => rw [h1, h2]
theorem prL_app {R : Nat → Nat → Bool} (y : Nat) : ∀ (L : List Nat), prL R (L ++ [y]) = prL R L + (L.filter (fun x => R x y)).length
  | [] => rfl
  | x :: L => by
    show ((L ++ [y]).filter (R x)).length + prL R (L ++ [y]) = (L.filter (R x)).length + prL R L + ((x :: L).filter (fun x => R x y)).length
    rw [prL_app y L, List.filter_append, List.length_append, List.filter_cons, List.filter_cons]
    cases R x y with
    | true => rw [if_pos rfl, if_pos rfl]; simp only [List.length_cons, List.length_nil, List.filter_nil]; omega
    | false => rw [if_neg (by decide), if_neg (by decide)]; show _ + 0 + _ = _; omega
theorem sumN_cg {f g : Nat → Nat} : ∀ n, (∀ x, x < n → f x = g x) → sumN f n = sumN g n
  | 0, _ => rfl
  | n + 1, h => by
    show sumN f n + f n = sumN g n + g n
    rw [sumN_cg n (fun x hx => h x (by omega)), h n (by omega)]
theorem sumN_add {f g : Nat → Nat} : ∀ n, sumN (fun x => f x + g x) n = sumN f n + sumN g n
  | 0 => rfl
  | n + 1 => by
    show sumN (fun x => f x + g x) n + (f n + g n) = sumN f n + f n + (sumN g n + g n)
    rw [sumN_add n]
    omega
theorem sumN_cnt {p : Nat → Bool} : ∀ n, sumN (fun x => (p x).toNat) n = cntB p n
  | 0 => rfl
  | n + 1 => by
    show sumN (fun x => (p x).toNat) n + (p n).toNat = cntB p n + (p n).toNat
    rw [sumN_cnt n]
theorem cnt_range {p : Nat → Bool} : ∀ n, cntB p n = ((List.range n).filter p).length
  | 0 => rfl
  | n + 1 => by
    rw [List.range_succ, List.filter_append, List.length_append, ← cnt_range n, List.filter_cons]
    show cntB p n + (p n).toNat = _
    cases p n with
    | true => rfl
    | false => rfl
/-- the pairs of things, counted by their numbers -/
theorem pr_range {R : Nat → Nat → Bool} : ∀ n, prL R (List.range n) = sumN (fun x => cntB (fun y => decide (x < y) && R x y) n) n
  | 0 => rfl
  | n + 1 => by
    rw [List.range_succ, prL_app, pr_range n, ← cnt_range]
    show _ = sumN (fun x => cntB (fun y => decide (x < y) && R x y) (n + 1)) n + cntB (fun y => decide (n < y) && R n y) (n + 1)
    rw [cntB_no (p := fun y => decide (n < y) && R n y) (fun y hy => by rw [decide_eq_false (by omega), Bool.false_and]), Nat.add_zero, ← sumN_cnt, ← sumN_add]
    refine sumN_cg n (fun x hx => ?_)
    show _ = cntB _ n + (decide (x < n) && R x n).toNat
    rw [decide_eq_true hx, Bool.true_and]
theorem pr_filter {R : Nat → Nat → Bool} {p : Nat → Bool} (h : ∀ x y, R x y = true → p x = true ∧ p y = true) : ∀ (L : List Nat), prL R (L.filter p) = prL R L
  | [] => rfl
  | x :: L => by
    rw [List.filter_cons]
    have ef : ∀ M : List Nat, p x = false → (M.filter (R x)).length = 0 := fun M hp => by
      rw [List.length_eq_zero_iff, List.filter_eq_nil_iff]
      intro z _ hz
      have := (h x z hz).1
      rw [hp] at this
      cases this
    cases hp : p x with
    | false =>
      rw [if_neg (by decide), pr_filter h L]
      show _ = (L.filter (R x)).length + prL R L
      rw [ef L hp, Nat.zero_add]
    | true =>
      rw [if_pos rfl]
      show ((L.filter p).filter (R x)).length + prL R (L.filter p) = (L.filter (R x)).length + prL R L
      rw [pr_filter h L, List.filter_filter]
      congr 2
      refine List.filter_congr (fun z _ => ?_)
      cases hz : R x z with
      | false => rfl
      | true => rw [(h x z hz).2]; rfl
section NK
variable {l : Launch} {D : DD} {σ : Hp} {c B : Nat} {ow ad : Nat → Nat} {S : Sp}
def twC (S : Sp) (x y : Nat) : Bool := decide (s_k S x = s_k S y) && decide (n_n S x = n_n S y)
theorem tw_eq (hS : SOk S) : prL (twC S) (ordT (s_T S)) = sumN (fun x => cntB (fun y => decide (x < y) && twB S x y) (s_n S)) (s_n S) := by
  have hW := hS.wf
  have e1 : prL (twC S) (ordT (s_T S)) = prL (twB S) (ordT (s_T S)) := by
    have hL : ∀ z ∈ ordT (s_T S), t_h (s_T S) z = true := fun z hz => (ord_mem hW).mp hz
    generalize ordT (s_T S) = L at hL
    induction L with
    | nil => rfl
    | cons x L ih =>
      show (L.filter (twC S x)).length + _ = (L.filter (twB S x)).length + _
      rw [ih (fun z hz => hL z (List.mem_cons_of_mem _ hz))]
      congr 2
      refine List.filter_congr (fun z hz => ?_)
      unfold twB twC
      rw [hL x List.mem_cons_self, hL z (List.mem_cons_of_mem _ hz)]
      simp
  have hs : ∀ x y, twB S x y = twB S y x := by
    intro x y
    unfold twB
    rw [Bool.and_comm (t_h (s_T S) x), show decide (s_k S x = s_k S y) = decide (s_k S y = s_k S x) from decide_eq_decide.mpr ⟨Eq.symm, Eq.symm⟩, show decide (n_n S x = n_n S y) = decide (n_n S y = n_n S x) from decide_eq_decide.mpr ⟨Eq.symm, Eq.symm⟩]
  have hp : (ordT (s_T S)).Perm ((List.range (s_n S)).filter (fun z => t_h (s_T S) z)) := by
    refine (List.perm_ext_iff_of_nodup (ord_nd hW) (List.Nodup.sublist List.filter_sublist List.nodup_range)).mpr (fun z => ?_)
    rw [ord_mem hW, List.mem_filter, List.mem_range]
    exact ⟨fun h => ⟨hW.h_lt h, h⟩, fun h => h.2⟩
  rw [e1, prL_perm hs hp, pr_filter (fun x y h => ?_), pr_range]
  unfold twB at h
  simp only [Bool.and_eq_true] at h
  exact ⟨h.1.1.1, h.1.1.2⟩
theorem prL_drop {R : Nat → Nat → Bool} {L : List Nat} {m x : Nat} (h : L[m]? = some x) : prL R (L.drop m) = ((L.drop (m + 1)).filter (R x)).length + prL R (L.drop (m + 1)) := by
  have hl := getE_lt h
  have e : L[m] = x := by rw [List.getElem?_eq_getElem hl] at h; exact Option.some.inj h
  rw [List.drop_eq_getElem_cons hl, e]
  rfl
set_option maxHeartbeats 1000000 in
theorem c_NK_twins (g0 : RC ow σ c ad B S) : Cn l D m_NK_twins 0 0 [va_rf (some c)] σ (fun r τ => r = some (.int (a_twins S)) ∧ ∃ ow' ad', RC ow' τ c ad' (B + 200) S ∧ CFm ow ow' σ τ) := by
  have hS := g0.1
  have hW := hS.wf
  have hn := hS.1
  have hll := ord_len hW
  have k0 : h_K σ c = 11 := g0.2.1.2.1 (0, 11) (by decide)
  have k35 : h_K σ (c + 35) = 6 := g0.2.1.2.1 (35, 6) (by decide)
  have p642 : h_P σ 642 c = some (c + 35) := g0.2.1.2.2.1 (642, 0, 35) (by decide)
  generalize hQ : (fun (r : Option Value) (τ : Hp) => r = some (.int (a_twins S)) ∧ ∃ ow' ad', RC ow' τ c ad' (B + 200) S ∧ CFm ow ow' σ τ) = Q
  refine Cn.of (by decide) (by repeat (first | exact ca_0 | refine ca_i ?_ | refine ca_r ?_)) (Nat.le_of_ble_eq_true rfl) ?_
  refine r_aload_n rfl rfl ?_
  (first | refine r_getPv rfl (by first | assumption | rfl) rfl (by assumption) ?_ | refine r_getP rfl (by first | assumption | rfl) rfl ?_)
  refine r_callV (As := []) rfl (by decide) rfl k35 rfl rfl (Nat.le_of_ble_eq_true rfl) ⟨Nat.le_of_ble_eq_true rfl, Nat.le_of_ble_eq_true rfl⟩ (c_renew g0) (kc' := 0) (ks' := 0) (by omega) (by omega) (by decide) ?_
  rintro r σ1 ⟨rfl, g, f1, -⟩
  have k01 : h_K σ1 c = 11 := g.1.2.1.2.1 (0, 11) (by decide)
  have k31 : h_K σ1 (c + 3) = 10 := g.1.2.1.2.1 (3, 10) (by decide)
  have k41 : h_K σ1 (c + 4) = 9 := g.1.2.1.2.1 (4, 9) (by decide)
  have p6411 : h_P σ1 641 c = some (c + 3) := g.1.2.1.2.2.1 (641, 0, 3) (by decide)
  have p5761 : h_P σ1 576 (c + 3) = some (c + 4) := g.1.2.1.2.2.1 (576, 3, 4) (by decide)
  have p520 := g.nx.1
  have kk := fun (q x : Nat) (hx : (ordT (s_T S))[q]? = some x) => g.1.2.2.2.1.1 x (Or.inl (ord_at hS hx).2.2.2.1)
  have inner : ∀ (d m q x a : Nat), (ordT (s_T S))[m]? = some x → q + d = (ordT (s_T S)).length → Gm l D m_NK_twins 0 0 Q 69 [some (va_rf (some c)), some (.int (nI (a + (((ordT (s_T S)).drop q).filter (twC S x)).length))), some (va_rf (some (ad x))), some (va_rf none)] [] σ1 0 0 → Gm l D m_NK_twins 0 0 Q 29 [some (va_rf (some c)), some (.int (nI a)), some (va_rf (some (ad x))), some (va_rf (((ordT (s_T S))[q]?).map ad))] [] σ1 0 0 := by
    intro d
    induction d with
    | zero =>
      intro m q x a hx hq hend
      rw [List.getElem?_eq_none (by omega)]
      rw [List.drop_eq_nil_of_le (by omega)] at hend
      refine r_aload_n rfl rfl ?_
      refine r_ifnull rfl (fun _ => ?_) (fun _ hq => by cases hq)
      exact hend
    | succ d ih =>
      intro m q x a hx hq hend
      obtain ⟨y, hy⟩ : ∃ y, (ordT (s_T S))[q]? = some y := ⟨_, List.getElem?_eq_getElem (by omega)⟩
      obtain ⟨hql, -, -, hyn, -⟩ := ord_at hS hy
      obtain ⟨-, -, -, hxn, -⟩ := ord_at hS hx
      have kx := kk m x hx
      have ky := kk q y hy
      have hx6 := hS.2.1 x hxn
      have hy6 := hS.2.1 y hyn
      have ix := (g.1.2.2.1.2.2.2 x hxn).2.2.2.2.1
      have iy := (g.1.2.2.1.2.2.2 y hyn).2.2.2.2.1
      have px := (g.1.2.2.1.2.2.2 x hxn).2.2.2.2.2.2.2.2.2.1
      have py := (g.1.2.2.1.2.2.2 y hyn).2.2.2.2.2.2.2.2.2.1
      have lx := (g.2.2.2 m x hx).2.2.2.2
      have ly := (g.2.2.2 q y hy).2.2.2.2
      have ny := g.nx.2 q y hy
      have ed : (ordT (s_T S)).drop q = y :: (ordT (s_T S)).drop (q + 1) := by
        have e : (ordT (s_T S))[q] = y := by rw [List.getElem?_eq_getElem hql] at hy; exact Option.some.inj hy
        rw [List.drop_eq_getElem_cons hql, e]
      rw [ed, List.filter_cons] at hend
      rw [hy]
      refine r_aload_n rfl rfl ?_
      refine r_ifnull rfl (fun hq => by cases hq) (fun _ _ => ?_)
      show Gm l D m_NK_twins 0 0 Q 33 [some (va_rf (some c)), some (.int (nI a)), some (va_rf (some (ad x))), some (va_rf (some (ad y)))] [] σ1 0 0
      refine r_aload_n rfl rfl ?_
      (first | refine r_getIv rfl (by first | assumption | rfl) rfl (by assumption) ?_ | refine r_getI rfl (by first | assumption | rfl) rfl ?_)
      refine r_aload_n rfl rfl ?_
      (first | refine r_getIv rfl (by first | assumption | rfl) rfl (by assumption) ?_ | refine r_getI rfl (by first | assumption | rfl) rfl ?_)
      have skip : twC S x y = false → Gm l D m_NK_twins 0 0 Q 61 [some (va_rf (some c)), some (.int (nI a)), some (va_rf (some (ad x))), some (va_rf (some (ad y)))] [] σ1 0 0 := by
        intro e
        rw [e, if_neg (by decide)] at hend
        refine r_aload_n rfl rfl ?_
        (first | refine r_getPv rfl (by first | assumption | rfl) rfl (by assumption) ?_ | refine r_getP rfl (by first | assumption | rfl) rfl ?_)
        refine r_astore_n rfl (by decide) ?_
        refine r_goto rfl ?_
        exact ih m (q + 1) x a hx (by omega) hend
      refine r_neN rfl (by omega) (by omega) (fun w => skip (by unfold twC; rw [decide_eq_false w, Bool.false_and])) (fun w => ?_)
      refine r_aload_n rfl rfl ?_
      (first | refine r_getPv rfl (by first | assumption | rfl) rfl (by assumption) ?_ | refine r_getP rfl (by first | assumption | rfl) rfl ?_)
      refine r_aload_n rfl rfl ?_
      (first | refine r_getPv rfl (by first | assumption | rfl) rfl (by assumption) ?_ | refine r_getP rfl (by first | assumption | rfl) rfl ?_)
      refine r_callV (As := [_]) rfl (by decide) rfl lx.1 rfl rfl (Nat.le_of_ble_eq_true rfl) ⟨Nat.le_of_ble_eq_true rfl, Nat.le_of_ble_eq_true rfl⟩ (c_isSame lx ly) (kc' := 0) (ks' := 0) (by omega) (by omega) (by decide) ?_
      rintro r σ1 ⟨rfl, rfl⟩
      by_cases e : n_n S x = n_n S y
      · rw [decide_eq_true e]
        refine r_if_eq rfl (fun q => absurd q (by decide)) (fun _ => ?_)
        have et : twC S x y = true := by unfold twC; rw [decide_eq_true w, decide_eq_true e]; rfl
        rw [et, if_pos rfl, List.length_cons, show a + ((((ordT (s_T S)).drop (q + 1)).filter (twC S x)).length + 1) = a + 1 + (((ordT (s_T S)).drop (q + 1)).filter (twC S x)).length by omega] at hend
        refine r_iinc rfl rfl (nI_inc _) ?_
        refine r_aload_n rfl rfl ?_
        (first | refine r_getPv rfl (by first | assumption | rfl) rfl (by assumption) ?_ | refine r_getP rfl (by first | assumption | rfl) rfl ?_)
        refine r_astore_n rfl (by decide) ?_
        refine r_goto rfl ?_
        exact ih m (q + 1) x (a + 1) hx (by omega) hend
      · rw [decide_eq_false e]
        refine r_if_eq rfl (fun _ => skip (by unfold twC; rw [decide_eq_false e, Bool.and_false])) (fun q => absurd rfl q)
  have outer : ∀ (d m a : Nat) (w3 : Option Value), m + d = (ordT (s_T S)).length → a + prL (twC S) ((ordT (s_T S)).drop m) = prL (twC S) (ordT (s_T S)) → Gm l D m_NK_twins 0 0 Q 20 [some (va_rf (some c)), some (.int (nI a)), some (va_rf (((ordT (s_T S))[m]?).map ad)), w3] [] σ1 0 0 := by
    intro d
    induction d with
    | zero =>
      intro m a w3 hm ha
      rw [List.getElem?_eq_none (by omega)]
      rw [List.drop_eq_nil_of_le (by omega)] at ha
      refine r_aload_n rfl rfl ?_
      refine r_ifnull rfl (fun _ => ?_) (fun _ hq => by cases hq)
      refine r_iload_n rfl rfl ?_
      refine r_iret rfl rfl ?_
      rw [← hQ]
      refine ⟨?_, g.1.fin f1⟩
      have ha : a + 0 = _ := ha
      unfold a_twins
      rw [← tw_eq hS, ← ha, Nat.add_zero]
    | succ d ih =>
      intro m a w3 hm ha
      obtain ⟨x, hx⟩ : ∃ x, (ordT (s_T S))[m]? = some x := ⟨_, List.getElem?_eq_getElem (by omega)⟩
      have kx := kk m x hx
      have nx := g.nx.2 m x hx
      rw [prL_drop hx] at ha
      rw [hx]
      refine r_aload_n rfl rfl ?_
      refine r_ifnull rfl (fun hq => by cases hq) (fun _ _ => ?_)
      show Gm l D m_NK_twins 0 0 Q 24 [some (va_rf (some c)), some (.int (nI a)), some (va_rf (some (ad x))), w3] [] σ1 0 0
      refine r_aload_n rfl rfl ?_
      (first | refine r_getPv rfl (by first | assumption | rfl) rfl (by assumption) ?_ | refine r_getP rfl (by first | assumption | rfl) rfl ?_)
      refine r_astore_n rfl (by decide) ?_
      refine inner ((ordT (s_T S)).length - (m + 1)) m (m + 1) x a hx (by omega) ?_
      refine r_aload_n rfl rfl ?_
      (first | refine r_getPv rfl (by first | assumption | rfl) rfl (by assumption) ?_ | refine r_getP rfl (by first | assumption | rfl) rfl ?_)
      refine r_astore_n rfl (by decide) ?_
      refine r_goto rfl ?_
      exact ih (m + 1) _ _ (by omega) (by omega)
  refine r_iconst (v := nI 0) rfl (by decide) ?_
  refine r_istore_n rfl (by decide) ?_
  refine r_aload_n rfl rfl ?_
  (first | refine r_getPv rfl (by first | assumption | rfl) rfl (by assumption) ?_ | refine r_getP rfl (by first | assumption | rfl) rfl ?_)
  (first | refine r_getPv rfl (by first | assumption | rfl) rfl (by assumption) ?_ | refine r_getP rfl (by first | assumption | rfl) rfl ?_)
  (first | refine r_getPv rfl (by first | assumption | rfl) rfl (by assumption) ?_ | refine r_getP rfl (by first | assumption | rfl) rfl ?_)
  refine r_astore_n rfl (by decide) ?_
  exact outer (ordT (s_T S)).length 0 0 none (by omega) (by rw [List.drop_zero, Nat.zero_add])
end NK
