/-! ===== the reference: lineRuns, makeLine ===== -/
def ctX (S : Sp) (x : Nat) : Nat := n_c S ((ordT (s_T S)).idxOf x)
def adj (S : Sp) (a x : Nat) : Bool := decide (n_b S x = n_b S a) && decide (ctX S x = ctX S a + 1)
def rnG (S : Sp) : Nat → Nat → List Nat → List (Nat × Nat)
  | f, a, [] => [(f, a)]
  | f, a, x :: r => if adj S a x = true then rnG S f x r else (f, a) :: rnG S x x r
def rns (S : Sp) : List Nat → List (Nat × Nat)
  | [] => []
  | x :: r => rnG S x x r
def rnC (S : Sp) : Option (Nat × Nat) → List Nat → List (Nat × Nat)
  | none, r => rns S r
  | some q, r => rnG S q.1 q.2 r
def txR (S : Sp) : Nat → List (Nat × Nat) → List Int32
  | _, [] => []
  | r, q :: t => runT r (decide (q.1 = q.2)) (n_n S q.1) (n_n S q.2) ++ txR S (r + 1) t
def wpL (ws : List Int32) : List Int32 := if ws.length = 0 then [] else ws ++ [nI 32]
def edT (S : Sp) (e f : Nat) : List Int32 := match (s_e S)[e]? with
  | none => []
  | some d => match d f with
    | none => []
    | some t => t.1
def lnM (S : Sp) (q : Mn) : List Int32 × Nat := if ldo (s_T S) q.1 = none then ([], 0) else if q.2.1 = 4 then (edT S q.2.2.2.1 q.2.2.1, 1) else match ledM S q with
  | none => ([], 0)
  | some y => if q.2.1 = 1 then (wpL (s_w S q.2.2.1) ++ txR S 0 (rns S (mtL S q.2.2.2.2)), (rns S (mtL S q.2.2.2.2)).length) else (tdT S y, 1)
theorem txR_app (S : Sp) : ∀ (A : List (Nat × Nat)) (r : Nat) (q : Nat × Nat), txR S r (A ++ [q]) = txR S r A ++ runT (r + A.length) (decide (q.1 = q.2)) (n_n S q.1) (n_n S q.2)
  | [], r, q => by
    show runT r _ _ _ ++ [] = [] ++ runT (r + 0) _ _ _
    rw [List.append_nil, List.nil_append, Nat.add_zero]
  | a :: A, r, q => by
    show runT r _ _ _ ++ txR S (r + 1) (A ++ [q]) = (runT r _ _ _ ++ txR S (r + 1) A) ++ _
    rw [txR_app S A (r + 1) q, List.append_assoc, show r + 1 + A.length = r + (a :: A).length by rw [List.length_cons]; omega]
theorem rnG_len (S : Sp) : ∀ (r : List Nat) (f a : Nat), (rnG S f a r).length ≤ r.length + 1 ∧ 1 ≤ (rnG S f a r).length
  | [], f, a => ⟨Nat.le_refl _, Nat.le_refl _⟩
  | x :: r, f, a => by
    rw [rnG]
    by_cases e : adj S a x = true
    · rw [if_pos e]
      have := rnG_len S r f x
      rw [List.length_cons]
      omega
    · rw [if_neg e, List.length_cons, List.length_cons]
      have := rnG_len S r x x
      omega
theorem rns_len (S : Sp) : ∀ (r : List Nat), (rns S r).length ≤ r.length
  | [] => Nat.le_refl _
  | x :: r => (rnG_len S r x x).1
theorem mtL_len {S : Sp} (hS : SOk S) {m : List Nat} : (mtL S m).length ≤ m.length := by
  have h1 : (mtL S m).Nodup := List.Nodup.sublist List.filter_sublist (ord_nd hS.wf)
  have h2 := List.Nodup.length_le_of_subset h1 (l₂ := m.filterMap (ldo (s_T S))) (fun z hz => by
    have := (List.mem_filter.mp hz).2
    exact of_decide_eq_true this)
  exact Nat.le_trans h2 (List.length_filterMap_le _ _)
theorem runT_len {r : Nat} {b : Bool} {x y : List Int32} (hx : x.length ≤ 60) (hy : y.length ≤ 60) : (runT r b x y).length ≤ 126 := by
  unfold runT
  simp only [List.length_append]
  have a1 : (if 0 < r then [b8 (nI 44), b8 (nI 32)] else []).length ≤ 2 := by split <;> simp
  have a2 : (if b = true then [] else [b8 (nI 32), b8 (nI 116), b8 (nI 111), b8 (nI 32)] ++ y).length ≤ 64 := by
    split
    · simp
    · simp; omega
  omega
theorem txR_len (S : Sp) (h : ∀ x, (n_n S x).length ≤ 60) : ∀ (A : List (Nat × Nat)) (r : Nat), (txR S r A).length ≤ 126 * A.length
  | [], r => by simp [txR]
  | q :: A, r => by
    rw [txR, List.length_append, List.length_cons]
    have := txR_len S h A (r + 1)
    have := runT_len (r := r) (b := decide (q.1 = q.2)) (h q.1) (h q.2)
    omega
section MC
variable {l : Launch} {D : DD} {σ : Hp} {o : Nat}
theorem RMd.kp {S : Sp} {τ : Hp} {R F : List Nat} (h : MFr R F σ τ o) (hR : ∀ j ∈ R, j ∈ [22, 23, 30, 31]) (hF : ∀ f ∈ F, f ∈ [741, 742, 749, 755, 756]) (g : RMd σ o S) : RMd τ o S := by
  have nr : ∀ j, j ∉ [22, 23, 30, 31] → j ∉ R := fun j hj q => hj (hR j q)
  have nf : ∀ f, f ∉ [741, 742, 749, 755, 756] → f ∉ F := fun f hf q => hf (hF f q)
  refine ⟨RM.kp h hR hF g.1, by rw [h.fld (nf _ (by decide))]; exact g.2.1, ?_⟩
  have := g.2.2
  unfold mkD Tx at this ⊢
  rw [h.row (j := 14) (nr _ (by decide)), h.row (j := 15) (nr _ (by decide)), h.row (j := 16) (nr _ (by decide)), h.row (j := 17) (nr _ (by decide)), h.row (j := 18) (nr _ (by decide)), h.row (j := 19) (nr _ (by decide)), h.row (j := 20) (nr _ (by decide)), h.row (j := 21) (nr _ (by decide)), h.fld (f := 724) (nf _ (by decide))]
  exact this
theorem mkO_out {on kI : Nat → Int32} {sc sy jo : Nat → Nat} {L : List Nat} {x : Nat} (hx : x ∉ L) : ∀ i, i ≤ L.length → (mkO on kI sc sy jo L i).1 x = -1 ∧ (mkO on kI sc sy jo L i).2 x = []
  | 0, _ => ⟨rfl, rfl⟩
  | i + 1, h => by
    have ih := mkO_out (on := on) (kI := kI) (sc := sc) (sy := sy) (jo := jo) hx i (by omega)
    have hne : x ≠ L.getD i 0 := fun e => hx (e ▸ getD_mem (by omega))
    rw [mkO]
    exact ⟨by show upd _ _ _ x = -1; rw [upd_n _ _ hne]; exact ih.1, by show u_1 _ _ _ x = []; rw [u1_n _ _ hne]; exact ih.2⟩
theorem n_out {S : Sp} {x : Nat} (hS : SOk S) (hx : t_h (s_T S) x = false) : n_b S x = -1 ∧ n_n S x = [] :=
  mkO_out (fun q => by rw [(ord_mem hS.wf).mp q] at hx; cases hx) _ (Nat.le_refl _)
theorem RMd.n60 {S : Sp} (h : RMd σ o S) (x : Nat) : (n_n S x).length ≤ 60 := by
  cases e : t_h (s_T S) x with
  | false => rw [(n_out h.1.2.1 e).2]; exact Nat.zero_le _
  | true => exact (h.tx (h.1.2.1.wf.h_lt e)).2.1
set_option maxRecDepth 10000 in
set_option maxHeartbeats 1000000 in
theorem c_M_lineRunsS {S : Sp} {q i f e : Nat} {m : List Nat} (h : RMd σ o S) (hq : (s_m S)[q]? = some (i, 1, f, e, m)) (hmt : Mt σ o S m) (hLb : Lb σ o []) (h742 : h_I σ 742 o = nI 0) : Cn l D m_M_lineRuns 0 0 [va_rf (some o), .int (nI q)] σ (fun r τ => r = none ∧ Lb τ o (wpL (s_w S f) ++ txR S 0 (rns S (mtL S m))) ∧ h_I τ 742 o = nI (rns S (mtL S m)).length ∧ MFr [30] [741, 742] σ τ o) := by
  have hM := h.1.1
  have hS := h.1.2.1
  have hW := hS.wf
  have hn9 := hS.1
  have hol := ord_len hW
  have hmv := hS.2.2.2.2.2.2.2.2.2.1 i 1 f e m (List.mem_of_getElem? hq)
  have hf6 : f < 6 := hmv.2.2.2.1 rfl
  obtain ⟨q1, -, -, m26, -, -, -, -, -, m3⟩ := h.1.mn hq
  have hwd := h.1.2.2.2.1 f hf6
  have hml := mtL_len hS (m := m)
  have hrl := rns_len S (mtL S m)
  have hwl := hwd.2.1
  generalize hws : s_w S f = ws at hwd hwl
  obtain ⟨w1, w2, w3⟩ := hwd
  generalize hQ : (fun (r : Option Value) (τ : Hp) => r = none ∧ Lb τ o (wpL ws ++ txR S 0 (rns S (mtL S m))) ∧ h_I τ 742 o = nI (rns S (mtL S m)).length ∧ MFr [30] [741, 742] σ τ o) = Q
  have hwpl : (wpL ws).length ≤ 11 := by
    unfold wpL
    split
    · simp
    · simp; omega
  refine Cn.of (by decide) (by repeat (first | exact ca_0 | refine ca_i ?_ | refine ca_r ?_)) (Nat.le_of_ble_eq_true rfl) ?_
  refine g_fits (fun hfit _ _ => ?_)
  refine r_aload_n rfl rfl ?_
  refine r_mg (j := 26) hM rfl rfl (by decide) ?_
  refine r_iload_n rfl rfl ?_
  refine r_mi (j := 26) hM rfl rfl (by decide) (by first | rfl | assumption) (show _ < 100 by omega) ?_
  rw [m26]
  refine r_istore_n rfl (by decide) ?_
  refine r_iconst (v := nI 0) rfl (by decide) ?_
  refine r_istore_n rfl (by decide) ?_
  -- the runs
  have main : ∀ (d p : Nat) (π : Hp) (don : List (Nat × Nat)) (cur : Option (Nat × Nat)) (z6 : Option Value), p + d = (ordT (s_T S)).length → MFr [30] [741, 742] σ π o → Lb π o (wpL ws ++ txR S 0 don) → h_I π 742 o = nI don.length → rns S (mtL S m) = don ++ rnC S cur (((ordT (s_T S)).drop p).filter (mtS S m)) → (∀ a b, cur = some (a, b) → a < s_n S ∧ b < s_n S ∧ t_h (s_T S) b = true) →
      Gm l D m_M_lineRuns 0 0 Q 63 [some (va_rf (some o)), some (.int (nI q)), some (.int (nI f)), some (.int (oI (cur.map Prod.fst))), some (.int (oI (cur.map Prod.snd))), some (.int (nI p)), z6] [] π 0 0 := by
    intro d
    induction d with
    | zero =>
      intro p π don cur z6 hp hf hb h2 hr hc
      have hM : ML π o := hf.mL hM
      have hdp : RMd π o S := RMd.kp hf (by decide) (by decide) h
      have d1 := hdp.2.2.1
      rw [List.drop_eq_nil_of_le (by omega)] at hr
      refine r_iload rfl rfl ?_
      refine r_aload_n rfl rfl ?_
      (first | refine r_getIv rfl hM.1 rfl (by assumption) ?_ | refine r_getI rfl hM.1 rfl ?_)
      refine r_gtN rfl (by omega) (by omega) (fun w => by omega) (fun _ => ?_)
      refine r_iload rfl rfl ?_
      refine r_aload_n rfl rfl ?_
      (first | refine r_getIv rfl hM.1 rfl (by assumption) ?_ | refine r_getI rfl hM.1 rfl ?_)
      refine r_geN rfl (by omega) (by omega) (fun _ => ?_) (fun w => by omega)
      refine r_iconst (v := -1) rfl (by decide) ?_
      refine r_istore rfl (by decide) ?_
      refine r_iload rfl rfl ?_
      refine r_aload_n rfl rfl ?_
      (first | refine r_getIv rfl hM.1 rfl (by assumption) ?_ | refine r_getI rfl hM.1 rfl ?_)
      refine r_geN rfl (by omega) (by omega) (fun _ => ?_) (fun w => by omega)
      refine r_iload rfl rfl ?_
      refine r_iconst (v := -1) rfl (by decide) ?_
      refine r_icmp_eq rfl (fun _ => ?_) (fun w => absurd rfl w)
      refine r_iload rfl rfl ?_
      refine r_iconst (v := -1) rfl (by decide) ?_
      have fin : ∀ (ρ : Hp), MFr [30] [741, 742] σ ρ o → Lb ρ o (wpL ws ++ txR S 0 (rns S (mtL S m))) → h_I ρ 742 o = nI (rns S (mtL S m)).length → ∀ z3 z4, Gm l D m_M_lineRuns 0 0 Q 195 [some (va_rf (some o)), some (.int (nI q)), some (.int (nI f)), z3, z4, some (.int (nI p)), some (.int (-1))] [] ρ 0 0 := by
        intro ρ k1 k2 k3 z3 z4
        have hM : ML ρ o := k1.mL h.1.1
        have d1 : h_I ρ 724 o = nI (ordT (s_T S)).length := (RMd.kp k1 (by decide) (by decide) h).2.2.1
        refine r_iload rfl rfl ?_
        refine r_istore_n rfl (by decide) ?_
        refine r_iload rfl rfl ?_
        refine r_istore rfl (by decide) ?_
        refine r_iinc rfl rfl (nI_inc _) ?_
        refine r_goto rfl ?_
        refine r_iload rfl rfl ?_
        refine r_aload_n rfl rfl ?_
        (first | refine r_getIv rfl hM.1 rfl (by assumption) ?_ | refine r_getI rfl hM.1 rfl ?_)
        refine r_gtN rfl (by omega) (by omega) (fun _ => ?_) (fun w => by omega)
        refine r_vret rfl rfl ?_
        rw [← hQ]
        exact ⟨rfl, k2, k3, k1⟩
      cases cur with
      | none =>
        refine r_icmp_eq rfl (fun _ => ?_) (fun w => absurd rfl w)
        have hr : rns S (mtL S m) = don ++ [] := hr
        rw [List.append_nil] at hr
        exact fin π hf (by rw [hr]; exact hb) (by rw [hr]; exact h2) _ _
      | some ab =>
        obtain ⟨a, b⟩ := ab
        obtain ⟨c1, c2, -⟩ := hc a b rfl
        have hr : rns S (mtL S m) = don ++ [(a, b)] := hr
        have hl := hrl
        rw [hr, List.length_append, List.length_singleton] at hl
        refine r_icmp_eq rfl (fun w => absurd w (nI_m1 b (by omega))) (fun _ => ?_)
        show Gm l D m_M_lineRuns 0 0 Q 188 [some (va_rf (some o)), some (.int (nI q)), some (.int (nI f)), some (.int (nI a)), some (.int (nI b)), some (.int (nI p)), some (.int (-1))] [] π 0 0
        refine r_aload_n rfl rfl ?_
        refine r_iload_n rfl rfl ?_
        refine r_iload rfl rfl ?_
        have htl := txR_len S hdp.n60 don 0
        refine r_callV (As := [_, _]) rfl (by decide) rfl (by first | exact hM.1 | assumption) rfl rfl (Nat.le_of_ble_eq_true rfl) ⟨Nat.le_of_ble_eq_true rfl, Nat.le_of_ble_eq_true rfl⟩ (c_M_endRun hM (by omega) (by omega) h2 (by omega) (hdp.tx c1) (hdp.tx c2) hb (by rw [List.length_append]; omega)) (kc' := 0) (ks' := 0) (by omega) (by omega) (by decide) ?_
        rintro r ρ ⟨rfl, k1, k2, k3⟩
        refine fin ρ (hf.tr k3) ?_ ?_ _ _
        · rw [hr, txR_app, Nat.zero_add, ← List.append_assoc]
          exact k1
        · rw [hr, List.length_append]
          exact k2
    | succ d ih =>
      intro p π don cur z6 hp hf hb h2 hr hc
      have hM : ML π o := hf.mL hM
      have hdp : RMd π o S := RMd.kp hf (by decide) (by decide) h
      obtain ⟨-, -, d1, d2, d3, d4, d5, d6, d7, d8, d9⟩ := id hdp
      have hpl : p < (ordT (s_T S)).length := by omega
      have w14 := d2 p hpl
      have hym := (ord_mem hW).mp (getD_mem hpl)
      have hlt : (ordT (s_T S)).getD p 0 < s_n S := hW.h_lt hym
      rw [drop_c hpl, List.filter_cons] at hr
      have cnt : ∀ z, t_h (s_T S) z = true → h_X π (o + 1 + 16) z = nI (ctX S z) := by
        intro z hz
        obtain ⟨i1, i2, -⟩ := idx_at ((ord_mem hW).mpr hz)
        have := d5 _ i1
        rw [i2] at this
        exact this
      have cbd : ∀ z, t_h (s_T S) z = true → ctX S z ≤ 200 := by
        intro z hz
        obtain ⟨i1, -, -⟩ := idx_at ((ord_mem hW).mpr hz)
        have := cntB_le (fun q => decide ((fun x => nI (s_k S x)) ((ordT (s_T S)).getD q 0) = (fun x => nI (s_k S x)) ((ordT (s_T S)).getD ((ordT (s_T S)).idxOf z) 0)) && ssB (onT (s_n S) (s_T S)) (fun x => nI (s_k S x)) (f_c (s_f S) ((fun x => nI (s_k S x)) ((ordT (s_T S)).getD ((ordT (s_T S)).idxOf z) 0)).toNatClampNeg) ((ordT (s_T S)).getD ((ordT (s_T S)).idxOf z) 0) ((ordT (s_T S)).getD q 0)) ((ordT (s_T S)).idxOf z)
        unfold ctX n_c ctO
        omega
      generalize (ordT (s_T S)).getD p 0 = y at w14 hlt hr hym
      have hmy : h_X π (o + 1 + 31) y = nI (mtS S m y).toNat := by
        rw [hf.row (j := 31) (by decide)]
        exact hmt y hlt
      refine r_iload rfl rfl ?_
      refine r_aload_n rfl rfl ?_
      (first | refine r_getIv rfl hM.1 rfl (by assumption) ?_ | refine r_getI rfl hM.1 rfl ?_)
      refine r_gtN rfl (by omega) (by omega) (fun w => by omega) (fun _ => ?_)
      refine r_iload rfl rfl ?_
      refine r_aload_n rfl rfl ?_
      (first | refine r_getIv rfl hM.1 rfl (by assumption) ?_ | refine r_getI rfl hM.1 rfl ?_)
      refine r_geN rfl (by omega) (by omega) (fun w => by omega) (fun _ => ?_)
      refine r_aload_n rfl rfl ?_
      refine r_mg (j := 31) hM rfl rfl (by decide) ?_
      refine r_aload_n rfl rfl ?_
      refine r_mg (j := 14) hM rfl rfl (by decide) ?_
      refine r_iload rfl rfl ?_
      refine r_mi (j := 14) hM rfl rfl (by decide) (by first | rfl | assumption) (show _ < 120 by omega) ?_
      rw [w14]
      refine r_mz (j := 31) hM rfl rfl (by decide) rfl (show _ < 120 by omega) ?_
      rw [hmy]
      refine r_ifeqB rfl (fun v => ?_) (fun v => ?_)
      · rw [if_neg (by rw [v]; decide)] at hr
        refine r_iconst (v := -1) rfl (by decide) ?_
        refine r_istore rfl (by decide) ?_
        refine r_iload rfl rfl ?_
        refine r_aload_n rfl rfl ?_
        (first | refine r_getIv rfl hM.1 rfl (by assumption) ?_ | refine r_getI rfl hM.1 rfl ?_)
        refine r_geN rfl (by omega) (by omega) (fun w => by omega) (fun _ => ?_)
        refine r_iload rfl rfl ?_
        refine r_iconst (v := -1) rfl (by decide) ?_
        refine r_icmp_ne rfl (fun w => absurd rfl w) (fun _ => ?_)
        refine r_goto rfl ?_
        refine r_iinc rfl rfl (nI_inc _) ?_
        refine r_goto rfl ?_
        exact ih (p + 1) π don cur _ (by omega) hf hb h2 hr hc
      · rw [if_pos v] at hr
        refine r_aload_n rfl rfl ?_
        refine r_mg (j := 14) hM rfl rfl (by decide) ?_
        refine r_iload rfl rfl ?_
        refine r_mi (j := 14) hM rfl rfl (by decide) (by first | rfl | assumption) (show _ < 120 by omega) ?_
        refine r_goto rfl ?_
        rw [w14]
        refine r_istore rfl (by decide) ?_
        refine r_iload rfl rfl ?_
        refine r_aload_n rfl rfl ?_
        (first | refine r_getIv rfl hM.1 rfl (by assumption) ?_ | refine r_getI rfl hM.1 rfl ?_)
        refine r_geN rfl (by omega) (by omega) (fun w => by omega) (fun _ => ?_)
        refine r_iload rfl rfl ?_
        refine r_iconst (v := -1) rfl (by decide) ?_
        refine r_icmp_ne rfl (fun _ => ?_) (fun w => absurd w (nI_m1 y (by omega)))
        refine r_iload rfl rfl ?_
        refine r_iconst (v := -1) rfl (by decide) ?_
        refine r_icmp_eq rfl (fun w => absurd w (nI_m1 y (by omega))) (fun _ => ?_)
        refine r_iload rfl rfl ?_
        refine r_iconst (v := -1) rfl (by decide) ?_
        have go : ∀ (ρ : Hp) (don' : List (Nat × Nat)) (z3 z4 : Option Value), MFr [30] [741, 742] σ ρ o → Lb ρ o (wpL ws ++ txR S 0 don') → h_I ρ 742 o = nI don'.length → rns S (mtL S m) = don' ++ rnG S y y (((ordT (s_T S)).drop (p + 1)).filter (mtS S m)) → Gm l D m_M_lineRuns 0 0 Q 195 [some (va_rf (some o)), some (.int (nI q)), some (.int (nI f)), z3, z4, some (.int (nI p)), some (.int (nI y))] [] ρ 0 0 := by
          intro ρ don' z3 z4 k1 k2 k3 k4
          refine r_iload rfl rfl ?_
          refine r_istore_n rfl (by decide) ?_
          refine r_iload rfl rfl ?_
          refine r_istore rfl (by decide) ?_
          refine r_iinc rfl rfl (nI_inc _) ?_
          refine r_goto rfl ?_
          refine ih (p + 1) ρ don' (some (y, y)) _ (by omega) k1 k2 k3 k4 (fun a b e => ?_)
          have e := Option.some.inj e
          injection e with e1 e2
          subst e1 e2
          exact ⟨hlt, hlt, hym⟩
        cases cur with
        | none =>
          refine r_icmp_eq rfl (fun _ => ?_) (fun w => absurd rfl w)
          refine r_iload rfl rfl ?_
          refine r_iconst (v := -1) rfl (by decide) ?_
          refine r_icmp_eq rfl (fun _ => ?_) (fun w => absurd rfl w)
          exact go π don _ _ hf hb h2 hr
        | some ab =>
          obtain ⟨a, b⟩ := ab
          obtain ⟨c1, c2, c3⟩ := hc a b rfl
          refine r_icmp_eq rfl (fun w => absurd w (nI_m1 b (by omega))) (fun _ => ?_)
          show Gm l D m_M_lineRuns 0 0 Q 139 [some (va_rf (some o)), some (.int (nI q)), some (.int (nI f)), some (.int (nI a)), some (.int (nI b)), some (.int (nI p)), some (.int (nI y))] [] π 0 0
          have hr : rns S (mtL S m) = don ++ (if adj S b y = true then rnG S a y (((ordT (s_T S)).drop (p + 1)).filter (mtS S m)) else (a, b) :: rnG S y y (((ordT (s_T S)).drop (p + 1)).filter (mtS S m))) := hr
          have sep : adj S b y = false → Gm l D m_M_lineRuns 0 0 Q 182 [some (va_rf (some o)), some (.int (nI q)), some (.int (nI f)), some (.int (nI a)), some (.int (nI b)), some (.int (nI p)), some (.int (nI y))] [] π 0 0 := by
            intro ha
            rw [if_neg (by rw [ha]; decide)] at hr
            have hl := hrl
            rw [hr, List.length_append, List.length_cons] at hl
            refine r_iload rfl rfl ?_
            refine r_iconst (v := -1) rfl (by decide) ?_
            refine r_icmp_eq rfl (fun w => absurd w (nI_m1 b (by omega))) (fun _ => ?_)
            refine r_aload_n rfl rfl ?_
            refine r_iload_n rfl rfl ?_
            refine r_iload rfl rfl ?_
            have htl := txR_len S hdp.n60 don 0
            refine r_callV (As := [_, _]) rfl (by decide) rfl (by first | exact hM.1 | assumption) rfl rfl (Nat.le_of_ble_eq_true rfl) ⟨Nat.le_of_ble_eq_true rfl, Nat.le_of_ble_eq_true rfl⟩ (c_M_endRun hM (by omega) (by omega) h2 (by omega) (hdp.tx c1) (hdp.tx c2) hb (by rw [List.length_append]; omega)) (kc' := 0) (ks' := 0) (by omega) (by omega) (by decide) ?_
            rintro r ρ ⟨rfl, k1, k2, k3⟩
            refine go ρ (don ++ [(a, b)]) _ _ (hf.tr k3) ?_ ?_ ?_
            · rw [txR_app, Nat.zero_add, ← List.append_assoc]
              exact k1
            · rw [List.length_append]
              exact k2
            · rw [List.append_assoc]
              exact hr
          refine r_aload_n rfl rfl ?_
          refine r_mg (j := 17) hM rfl rfl (by decide) ?_
          refine r_iload rfl rfl ?_
          refine r_mi (j := 17) hM rfl rfl (by decide) (by first | rfl | assumption) (show _ < 120 by omega) ?_
          refine r_aload_n rfl rfl ?_
          refine r_mg (j := 17) hM rfl rfl (by decide) ?_
          refine r_iload rfl rfl ?_
          refine r_mi (j := 17) hM rfl rfl (by decide) (by first | rfl | assumption) (show _ < 120 by omega) ?_
          rw [d7 y hlt, d7 b c2]
          refine r_icmp_ne rfl (fun w => sep ?_) (fun w4 => ?_)
          · unfold adj
            rw [decide_eq_false (show ¬ n_b S y = n_b S b from w)]
            rfl
          refine r_aload_n rfl rfl ?_
          refine r_mg (j := 16) hM rfl rfl (by decide) ?_
          refine r_iload rfl rfl ?_
          refine r_mi (j := 16) hM rfl rfl (by decide) (by first | rfl | assumption) (show _ < 120 by omega) ?_
          refine r_aload_n rfl rfl ?_
          refine r_mg (j := 16) hM rfl rfl (by decide) ?_
          refine r_iload rfl rfl ?_
          refine r_mi (j := 16) hM rfl rfl (by decide) (by first | rfl | assumption) (show _ < 120 by omega) ?_
          refine r_iconst (v := nI 1) rfl (by decide) ?_
          rw [cnt y hym, cnt b c3]
          have q1 := cbd y hym
          have q2 := cbd b c3
          (first | refine r_iaddN rfl ?_ | refine r_iadd rfl ?_)
          refine r_neN rfl (by omega) (by omega) (fun w => sep ?_) (fun w5 => ?_)
          · unfold adj
            rw [decide_eq_false w, Bool.and_false]
          · have ha : adj S b y = true := by
              unfold adj
              rw [decide_eq_true (show n_b S y = n_b S b from w4), decide_eq_true w5]
              rfl
            rw [if_pos ha] at hr
            refine r_iload rfl rfl ?_
            refine r_istore rfl (by decide) ?_
            refine r_goto rfl ?_
            refine r_iinc rfl rfl (nI_inc _) ?_
            refine r_goto rfl ?_
            refine ih (p + 1) π don (some (a, y)) _ (by omega) hf hb h2 hr (fun a' b' e => ?_)
            have e := Option.some.inj e
            injection e with e1 e2
            subst e1 e2
            exact ⟨c1, hlt, hym⟩
  -- the word
  have lp : ∀ (d j : Nat) (π : Hp), j + d = ws.length → MFr [30] [741, 742] σ π o → Lb π o (ws.take j) → h_I π 742 o = nI 0 → Gm l D m_M_lineRuns 0 0 Q 9 [some (va_rf (some o)), some (.int (nI q)), some (.int (nI f)), some (.int (nI j)), none, none, none] [] π 0 0 := by
    intro d
    induction d with
    | zero =>
      intro j π hj hf hb h2
      have hM : ML π o := hf.mL hM
      have v1 : h_X π (o + 1 + 2) f = nI ws.length := by rw [hf.row (j := 2) (by decide)]; exact w1
      rw [List.take_of_length_le (by omega)] at hb
      refine r_iload_n rfl rfl ?_
      refine r_aload_n rfl rfl ?_
      refine r_mg (j := 2) hM rfl rfl (by decide) ?_
      refine r_iload_n rfl rfl ?_
      refine r_mi (j := 2) hM rfl rfl (by decide) (by first | rfl | assumption) (show _ < 6 by omega) ?_
      rw [v1]
      refine r_geN rfl (by omega) (by omega) (fun _ => ?_) (fun w => by omega)
      refine r_aload_n rfl rfl ?_
      refine r_mg (j := 2) hM rfl rfl (by decide) ?_
      refine r_iload_n rfl rfl ?_
      refine r_mi (j := 2) hM rfl rfl (by decide) (by first | rfl | assumption) (show _ < 6 by omega) ?_
      rw [v1]
      have fin : ∀ (ρ : Hp) (z3 : Option Value), MFr [30] [741, 742] σ ρ o → Lb ρ o (wpL ws) → h_I ρ 742 o = nI 0 → Gm l D m_M_lineRuns 0 0 Q 55 [some (va_rf (some o)), some (.int (nI q)), some (.int (nI f)), z3, none, none, none] [] ρ 0 0 := by
        intro ρ z3 k1 k2 k3
        refine r_iconst (v := -1) rfl (by decide) ?_
        refine r_istore_n rfl (by decide) ?_
        refine r_iconst (v := -1) rfl (by decide) ?_
        refine r_istore rfl (by decide) ?_
        refine r_iconst (v := nI 0) rfl (by decide) ?_
        refine r_istore rfl (by decide) ?_
        exact main (ordT (s_T S)).length 0 ρ [] none none (by omega) k1 (by rw [show txR S 0 [] = [] from rfl, List.append_nil]; exact k2) k3 rfl (fun a b e => by cases e)
      by_cases e0 : ws.length = 0
      · rw [e0]
        refine r_if_le rfl (fun _ => ?_) (fun w => absurd (by decide) w)
        refine fin π _ hf ?_ h2
        unfold wpL
        rw [if_pos e0]
        have : ws = [] := List.length_eq_zero_iff.mp e0
        rw [this] at hb
        exact hb
      · refine r_if_le rfl (fun w => absurd w (nI_nle (by omega) (by omega))) (fun _ => ?_)
        refine r_aload_n rfl rfl ?_
        refine r_bipush (v := nI 32) rfl (by decide) ?_
        refine r_callV (As := [_]) rfl (by decide) rfl (by first | exact hM.1 | assumption) rfl rfl (Nat.le_of_ble_eq_true rfl) ⟨Nat.le_of_ble_eq_true rfl, Nat.le_of_ble_eq_true rfl⟩ (c_M_lineByte hM hb (by omega)) (kc' := 0) (ks' := 0) (by omega) (by omega) (by decide) ?_
        rintro r ρ ⟨rfl, k1, k2⟩
        refine fin ρ _ (hf.tr (k2.fr (by decide) (by decide))) ?_ ?_
        · unfold wpL
          rw [if_neg e0]
          exact k1
        · obtain ⟨g, v, rfl⟩ := k2
          exact (hI_n _ _ (by decide)).trans h2
    | succ d ih =>
      intro j π hj hf hb h2
      have hM : ML π o := hf.mL hM
      have v1 : h_X π (o + 1 + 2) f = nI ws.length := by rw [hf.row (j := 2) (by decide)]; exact w1
      have v3 : h_X π (o + 1 + 1) (10 * f + j) = ws.getD j 0 := by rw [hf.row (j := 1) (by decide)]; exact w3 j (by omega)
      have hb8 : b8 (ws.getD j 0) = ws.getD j 0 := by
        refine fit_b8 ?_
        rw [← w3 j (by omega)]
        exact hfit _ (h.1.1.2 1 (by decide)).2.1 _
      refine r_iload_n rfl rfl ?_
      refine r_aload_n rfl rfl ?_
      refine r_mg (j := 2) hM rfl rfl (by decide) ?_
      refine r_iload_n rfl rfl ?_
      refine r_mi (j := 2) hM rfl rfl (by decide) (by first | rfl | assumption) (show _ < 6 by omega) ?_
      rw [v1]
      refine r_geN rfl (by omega) (by omega) (fun w => by omega) (fun _ => ?_)
      refine r_aload_n rfl rfl ?_
      refine r_aload_n rfl rfl ?_
      refine r_mg (j := 1) hM rfl rfl (by decide) ?_
      refine r_bipush (v := nI 10) rfl (by decide) ?_
      refine r_iload_n rfl rfl ?_
      (first | refine r_imulN rfl ?_ | refine r_imul rfl ?_)
      refine r_iload_n rfl rfl ?_
      (first | refine r_iaddN rfl ?_ | refine r_iadd rfl ?_)
      refine r_mb (j := 1) hM rfl rfl (by decide) (by first | rfl | assumption) (show _ < 60 by omega) ?_
      rw [v3]
      refine r_callV (As := [_]) rfl (by decide) rfl (by first | exact hM.1 | assumption) rfl rfl (Nat.le_of_ble_eq_true rfl) ⟨Nat.le_of_ble_eq_true rfl, Nat.le_of_ble_eq_true rfl⟩ (c_M_lineByte hM hb (by rw [List.length_take]; omega)) (kc' := 0) (ks' := 0) (by omega) (by omega) (by decide) ?_
      rintro r ρ ⟨rfl, k1, k2⟩
      refine r_iinc rfl rfl (nI_inc _) ?_
      refine r_goto rfl ?_
      refine ih (j + 1) ρ (by omega) (hf.tr (k2.fr (by decide) (by decide))) ?_ ?_
      · rw [hb8, take_app (by omega)] at k1
        exact k1
      · obtain ⟨g, v, rfl⟩ := k2
        exact (hI_n _ _ (by decide)).trans h2
  exact lp ws.length 0 σ (by omega) (MFr.rf _ _ _ _) hLb h742
end MC
