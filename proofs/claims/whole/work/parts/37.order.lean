/-! ===== the reference: the ORDER ===== -/
/-- climbing from x: the next one behind it or behind what it hangs on -/
def clb (n : Nat) (on pl : Nat → Int32) : Nat → Nat → Option Nat
  | 0, _ => none
  | f + 1, x => match chAt n on pl (on x) (pl x + nI 1) with
    | some z => some z
    | none => if on x = -1 then none else clb n on pl f (on x).toNatClampNeg
def nxt (n : Nat) (on pl : Nat → Int32) (x : Nat) : Option Nat := match chAt n on pl (nI x) (nI 0) with
  | some z => some z
  | none => clb n on pl 200 x
/-- the list is the walk that begins at c -/
def isW (n : Nat) (on pl : Nat → Int32) : List Nat → Option Nat → Prop
  | [], c => c = none
  | y :: L, c => c = some y ∧ isW n on pl L (nxt n on pl y)
def clS (on : Nat → Int32) : Nat → Nat → Prop
  | 0, _ => False
  | f + 1, x => x < 120 ∧ (on x = -1 ∨ ∃ p, on x = nI p ∧ clS on f p)
theorem clS_lt {on : Nat → Int32} : ∀ {f x : Nat}, clS on f x → x < 120
  | 0, _, h => h.elim
  | _ + 1, _, h => h.1
theorem nI_m1 (z : Nat) (hz : z < 2 ^ 31) : ¬ nI z = -1 := fun q => nI_pos hz (by rw [q]; decide)
section MC
variable {l : Launch} {D : DD} {σ : Hp} {o : Nat}
set_option maxHeartbeats 1000000 in
theorem c_M_order {n : Nat} {L : List Nat} (hM : ML σ o) (hn : h_I σ 711 o = nI n) (hn2 : n ≤ 120) (hW : isW n (h_X σ (o + 1 + 7)) (h_X σ (o + 1 + 8)) L (chAt n (h_X σ (o + 1 + 7)) (h_X σ (o + 1 + 8)) (-1) (nI 0))) (hL : ∀ x ∈ L, x < n ∧ clS (h_X σ (o + 1 + 7)) 200 x) (hl : L.length ≤ 120) (hnd : L.Nodup) :
    Cn l D m_M_order 0 0 [va_rf (some o)] σ (fun r τ => r = none ∧ ∃ O A, τ = w_I (w_X (w_X σ (o + 1 + 14) O) (o + 1 + 15) A) 724 o (nI L.length) ∧ (∀ i, i < L.length → O i = nI (L.getD i 0)) ∧ (∀ i, i < L.length → A (L.getD i 0) = nI i) ∧ ∀ x, x < n → x ∉ L → A x = -1) := by
  generalize hQ : (fun (r : Option Value) (τ : Hp) => r = none ∧ ∃ O A, τ = w_I (w_X (w_X σ (o + 1 + 14) O) (o + 1 + 15) A) 724 o (nI L.length) ∧ (∀ i, i < L.length → O i = nI (L.getD i 0)) ∧ (∀ i, i < L.length → A (L.getD i 0) = nI i) ∧ ∀ x, x < n → x ∉ L → A x = -1) = Q
  generalize hon : h_X σ (o + 1 + 7) = on at hW hL
  generalize hpl : h_X σ (o + 1 + 8) = pl at hW
  refine Cn.of (by decide) (by repeat (first | exact ca_0 | refine ca_i ?_ | refine ca_r ?_)) (Nat.le_of_ble_eq_true rfl) ?_
  refine r_aload_n rfl rfl ?_
  refine r_iconst (v := nI 0) rfl (by decide) ?_
  refine r_putI rfl hM.1 rfl (Or.inl rfl) (by first | rfl | decide) (by first | rfl | decide) ?_
  refine r_iconst (v := nI 0) rfl (by decide) ?_
  refine r_istore_n rfl (by decide) ?_
  -- the state: rows O and A, t things so far
  have st7 : ∀ O A t, h_X (w_I (w_X (w_X σ (o + 1 + 14) O) (o + 1 + 15) A) 724 o t) (o + 1 + 7) = on := by
    intro O A t
    rw [hX_wI, hX_n _ _ (by omega), hX_n _ _ (by omega)]
    exact hon
  have st8 : ∀ O A t, h_X (w_I (w_X (w_X σ (o + 1 + 14) O) (o + 1 + 15) A) 724 o t) (o + 1 + 8) = pl := by
    intro O A t
    rw [hX_wI, hX_n _ _ (by omega), hX_n _ _ (by omega)]
    exact hpl
  have st14 : ∀ O A t, h_X (w_I (w_X (w_X σ (o + 1 + 14) O) (o + 1 + 15) A) 724 o t) (o + 1 + 14) = O := by
    intro O A t
    rw [hX_wI, hX_n _ _ (by omega), hX_w]
  have st15 : ∀ O A t, h_X (w_I (w_X (w_X σ (o + 1 + 14) O) (o + 1 + 15) A) 724 o t) (o + 1 + 15) = A := by
    intro O A t
    rw [hX_wI, hX_w]
  have stn : ∀ O A t, h_I (w_I (w_X (w_X σ (o + 1 + 14) O) (o + 1 + 15) A) 724 o t) 711 o = nI n := by
    intro O A t
    rw [hI_n _ _ (by decide)]
    exact hn
  have stt : ∀ O A t, h_I (w_I (w_X (w_X σ (o + 1 + 14) O) (o + 1 + 15) A) 724 o t) 724 o = t := by
    intro O A t
    rw [hI_w]
  have stM : ∀ O A t, ML (w_I (w_X (w_X σ (o + 1 + 14) O) (o + 1 + 15) A) 724 o t) o := fun _ _ _ => hM
  have sw15 : ∀ O A t B, w_X (w_I (w_X (w_X σ (o + 1 + 14) O) (o + 1 + 15) A) 724 o t) (o + 1 + 15) B = w_I (w_X (w_X σ (o + 1 + 14) O) (o + 1 + 15) B) 724 o t := by
    intro O A t B
    rw [← wI_wX, wX_same]
  have sw14 : ∀ O A t B, w_X (w_I (w_X (w_X σ (o + 1 + 14) O) (o + 1 + 15) A) 724 o t) (o + 1 + 14) B = w_I (w_X (w_X σ (o + 1 + 14) B) (o + 1 + 15) A) 724 o t := by
    intro O A t B
    rw [← wI_wX, wX_comm (w_X σ (o + 1 + 14) O) _ _ (show o + 1 + 15 ≠ o + 1 + 14 by omega), wX_same]
  have swI : ∀ O A t t', w_I (w_I (w_X (w_X σ (o + 1 + 14) O) (o + 1 + 15) A) 724 o t) 724 o t' = w_I (w_X (w_X σ (o + 1 + 14) O) (o + 1 + 15) A) 724 o t' := by
    intro O A t t'
    rw [wI_same]
  have s0 : w_I σ 724 o (nI 0) = w_I (w_X (w_X σ (o + 1 + 14) (h_X σ (o + 1 + 14))) (o + 1 + 15) (h_X σ (o + 1 + 15))) 724 o (nI 0) := by
    rw [wX_self, wX_self]
  rw [s0]
  -- the walk
  have walk : ∀ (R P : List Nat) (O A : Nat → Int32) (z : Option Value), P ++ R = L → (∀ i, i < P.length → O i = nI (L.getD i 0)) → (∀ i, i < P.length → A (L.getD i 0) = nI i) → (∀ x, x < n → x ∉ P → A x = -1) → ∀ c, isW n on pl R c →
      Gm l D m_M_order 0 0 Q 35 [some (va_rf (some o)), some (.int (oI c)), z] [] (w_I (w_X (w_X σ (o + 1 + 14) O) (o + 1 + 15) A) 724 o (nI P.length)) 0 0 := by
    intro R
    induction R with
    | nil =>
      intro P O A z hP h1 h2 h3 c hc
      have hc : c = none := hc
      subst hc
      have hPL : P = L := by simpa using hP
      subst hPL
      refine r_iload_n rfl rfl ?_
      refine r_iconst (v := -1) rfl (by decide) ?_
      refine r_icmp_eq rfl (fun _ => ?_) (fun q => absurd rfl q)
      refine r_vret rfl rfl ?_
      rw [← hQ]
      exact ⟨rfl, O, A, rfl, h1, h2, h3⟩
    | cons y R ih =>
      intro P O A z hP h1 h2 h3 c hc
      obtain ⟨rfl, hc⟩ := hc
      have hyL : y ∈ L := by rw [← hP]; simp
      obtain ⟨hyn, hyc⟩ := hL y hyL
      have hlen : P.length + (R.length + 1) = L.length := by rw [← hP]; simp
      have hyP : L.getD P.length 0 = y := by
        rw [← hP]
        simp [List.getD_eq_getElem?_getD]
      have hynP : y ∉ P := by
        rw [← hP] at hnd
        intro w
        exact (List.nodup_append.mp hnd).2.2 y w y (by simp) rfl
      have hM := stM O A (nI P.length)
      show Gm l D m_M_order 0 0 Q 35 [some (va_rf (some o)), some (.int (nI y)), z] [] _ 0 0
      refine r_iload_n rfl rfl ?_
      refine r_iconst (v := -1) rfl (by decide) ?_
      refine r_icmp_eq rfl (fun q => absurd q (nI_m1 y (by omega))) (fun _ => ?_)
      refine r_aload_n rfl rfl ?_
      refine r_mg (j := 14) hM rfl rfl (by decide) ?_
      refine r_aload_n rfl rfl ?_
      refine r_getIv rfl hM.1 rfl (stt _ _ _) ?_
      refine r_iload_n rfl rfl ?_
      refine r_mis (j := 14) hM rfl rfl (by decide) rfl (show _ < 120 by omega) ?_
      rw [st14, sw14]
      have hM := stM (upd O P.length (nI y)) A (nI P.length)
      refine r_aload_n rfl rfl ?_
      refine r_mg (j := 15) hM rfl rfl (by decide) ?_
      refine r_iload_n rfl rfl ?_
      refine r_aload_n rfl rfl ?_
      refine r_getIv rfl hM.1 rfl (stt _ _ _) ?_
      refine r_mis (j := 15) hM rfl rfl (by decide) rfl (show _ < 120 by omega) ?_
      rw [st15, sw15]
      have hM := stM (upd O P.length (nI y)) (upd A y (nI P.length)) (nI P.length)
      refine r_aload_n rfl rfl ?_
      refine r_dup rfl (rf_cat _) ?_
      refine r_getIv rfl hM.1 rfl (stt _ _ _) ?_
      refine r_iconst (v := nI 1) rfl (by decide) ?_
      refine r_iaddN rfl ?_
      refine r_putI rfl hM.1 rfl (Or.inl rfl) rfl rfl ?_
      rw [swI]
      have hM := stM (upd O P.length (nI y)) (upd A y (nI P.length)) (nI (P.length + 1))
      -- what comes behind
      have go : ∀ (c : Option Nat) (w : Option Value), isW n on pl R c → Gm l D m_M_order 0 0 Q 121 [some (va_rf (some o)), w, some (.int (oI c))] [] (w_I (w_X (w_X σ (o + 1 + 14) (upd O P.length (nI y))) (o + 1 + 15) (upd A y (nI P.length))) 724 o (nI (P.length + 1))) 0 0 := by
        intro c w hc2
        refine r_iload_n rfl rfl ?_
        refine r_istore_n rfl (by decide) ?_
        refine r_goto rfl ?_
        have e := ih (P ++ [y]) (upd O P.length (nI y)) (upd A y (nI P.length)) (some (.int (oI c))) (by rw [← hP]; simp) (fun i hi => ?_) (fun i hi => ?_) (fun x hx hxP => ?_) c hc2
        · rw [List.length_append] at e
          exact e
        · rw [List.length_append, List.length_singleton] at hi
          by_cases e : i = P.length
          · rw [e, upd_s, hyP]
          · rw [upd_n _ _ e]
            exact h1 i (by omega)
        · rw [List.length_append, List.length_singleton] at hi
          by_cases e : i = P.length
          · rw [e, hyP, upd_s]
          · have hne : L.getD i 0 ≠ y := by
              intro w2
              apply hynP
              rw [← w2, ← hP, List.getD_eq_getElem?_getD, List.getElem?_append_left (by omega), List.getElem?_eq_getElem (by omega)]
              exact List.getElem_mem _
            rw [upd_n _ _ hne]
            exact h2 i (by omega)
        · have hne : x ≠ y := fun w2 => hxP (by rw [w2]; simp)
          rw [upd_n _ _ hne]
          exact h3 x hx (fun w2 => hxP (by simp [w2]))
      have climb : ∀ (f x : Nat), clS on f x → isW n on pl R (clb n on pl f x) → Gm l D m_M_order 0 0 Q 77 [some (va_rf (some o)), some (.int (nI x)), some (.int (oI none))] [] (w_I (w_X (w_X σ (o + 1 + 14) (upd O P.length (nI y))) (o + 1 + 15) (upd A y (nI P.length))) 724 o (nI (P.length + 1))) 0 0 := by
        intro f
        induction f with
        | zero => intro x h; exact h.elim
        | succ f ihf =>
          intro x hx hc2
          have hx1 := hx.1
          rw [clb] at hc2
          refine r_iload_n rfl rfl ?_
          refine r_iconst (v := -1) rfl (by decide) ?_
          refine r_icmp_ne rfl (fun q => absurd rfl q) (fun _ => ?_)
          refine r_iload_n rfl rfl ?_
          refine r_iconst (v := -1) rfl (by decide) ?_
          refine r_icmp_eq rfl (fun q => absurd q (nI_m1 x (by omega))) (fun _ => ?_)
          refine r_aload_n rfl rfl ?_
          refine r_aload_n rfl rfl ?_
          refine r_mg (j := 7) hM rfl rfl (by decide) ?_
          refine r_iload_n rfl rfl ?_
          refine r_mi (j := 7) hM rfl rfl (by decide) (by first | rfl | assumption) (show _ < 120 by omega) ?_
          refine r_aload_n rfl rfl ?_
          refine r_mg (j := 8) hM rfl rfl (by decide) ?_
          refine r_iload_n rfl rfl ?_
          refine r_mi (j := 8) hM rfl rfl (by decide) (by first | rfl | assumption) (show _ < 120 by omega) ?_
          refine r_iconst (v := nI 1) rfl (by decide) ?_
          (first | refine r_iaddN rfl ?_ | refine r_iadd rfl ?_)
          rw [st7, st8]
          refine r_callV (As := [_, _]) rfl (by decide) rfl hM.1 rfl rfl (Nat.le_of_ble_eq_true rfl) ⟨Nat.le_of_ble_eq_true rfl, Nat.le_of_ble_eq_true rfl⟩ (c_M_childAt hM (stn _ _ _) hn2) (kc' := 0) (ks' := 0) (by omega) (by omega) (by decide) ?_
          rintro r τ ⟨rfl, rfl⟩
          rw [st7, st8]
          cases hch : chAt n on pl (on x) (pl x + nI 1) with
          | some w =>
            rw [hch] at hc2
            have hw : w < n := by
              unfold chAt at hch
              exact List.mem_range.mp (List.mem_of_find?_eq_some hch)
            refine r_istore_n rfl (by decide) ?_
            refine r_iload_n rfl rfl ?_
            refine r_iconst (v := -1) rfl (by decide) ?_
            refine r_icmp_ne rfl (fun _ => ?_) (fun q => absurd q (nI_m1 w (by omega)))
            refine r_iload_n rfl rfl ?_
            refine r_iconst (v := -1) rfl (by decide) ?_
            refine r_icmp_ne rfl (fun _ => ?_) (fun q => absurd q (nI_m1 w (by omega)))
            exact go (some w) _ hc2
          | none =>
            rw [hch] at hc2
            have hc3 : isW n on pl R (if on x = -1 then none else clb n on pl f (on x).toNatClampNeg) := hc2
            refine r_istore_n rfl (by decide) ?_
            refine r_iload_n rfl rfl ?_
            refine r_iconst (v := -1) rfl (by decide) ?_
            refine r_icmp_ne rfl (fun q => absurd rfl q) (fun _ => ?_)
            refine r_aload_n rfl rfl ?_
            refine r_mg (j := 7) hM rfl rfl (by decide) ?_
            refine r_iload_n rfl rfl ?_
            refine r_mi (j := 7) hM rfl rfl (by decide) (by first | rfl | assumption) (show _ < 120 by omega) ?_
            refine r_istore_n rfl (by decide) ?_
            refine r_goto rfl ?_
            rw [st7]
            rcases hx.2 with w | ⟨p, w1, w2⟩
            · rw [if_pos w] at hc3
              rw [w]
              refine r_iload_n rfl rfl ?_
              refine r_iconst (v := -1) rfl (by decide) ?_
              refine r_icmp_ne rfl (fun q => absurd rfl q) (fun _ => ?_)
              refine r_iload_n rfl rfl ?_
              refine r_iconst (v := -1) rfl (by decide) ?_
              refine r_icmp_eq rfl (fun _ => ?_) (fun q => absurd rfl q)
              exact go none _ hc3
            · have hp := clS_lt w2
              rw [w1, if_neg (nI_m1 p (by omega)), nI_clamp (by omega)] at hc3
              rw [w1]
              exact ihf p w2 hc3
      refine r_aload_n rfl rfl ?_
      refine r_iload_n rfl rfl ?_
      refine r_iconst (v := nI 0) rfl (by decide) ?_
      refine r_callV (As := [_, _]) rfl (by decide) rfl hM.1 rfl rfl (Nat.le_of_ble_eq_true rfl) ⟨Nat.le_of_ble_eq_true rfl, Nat.le_of_ble_eq_true rfl⟩ (c_M_childAt hM (stn _ _ _) hn2) (kc' := 0) (ks' := 0) (by omega) (by omega) (by decide) ?_
      rintro r τ ⟨rfl, rfl⟩
      rw [st7, st8]
      unfold nxt at hc
      cases hch : chAt n on pl (nI y) (nI 0) with
      | some w =>
        rw [hch] at hc
        have hw : w < n := by
          unfold chAt at hch
          exact List.mem_range.mp (List.mem_of_find?_eq_some hch)
        refine r_istore_n rfl (by decide) ?_
        refine r_iload_n rfl rfl ?_
        refine r_iconst (v := -1) rfl (by decide) ?_
        refine r_icmp_ne rfl (fun _ => ?_) (fun q => absurd q (nI_m1 w (by omega)))
        exact go (some w) _ hc
      | none =>
        rw [hch] at hc
        refine r_istore_n rfl (by decide) ?_
        exact climb 200 y hyc hc
  have fill : ∀ (d k : Nat) (A : Nat → Int32), k + d = n → (∀ x, x < k → A x = -1) → Gm l D m_M_order 0 0 Q 7 [some (va_rf (some o)), some (.int (nI k)), none] [] (w_I (w_X (w_X σ (o + 1 + 14) (h_X σ (o + 1 + 14))) (o + 1 + 15) A) 724 o (nI 0)) 0 0 := by
    intro d
    induction d with
    | zero =>
      intro k A hk hA
      have hM := stM (h_X σ (o + 1 + 14)) A (nI 0)
      refine r_iload_n rfl rfl ?_
      refine r_aload_n rfl rfl ?_
      refine r_getIv rfl hM.1 rfl (stn _ _ _) ?_
      refine r_geN rfl (by omega) (by omega) (fun _ => ?_) (fun q => by omega)
      refine r_aload_n rfl rfl ?_
      refine r_iconst (v := -1) rfl (by decide) ?_
      refine r_iconst (v := nI 0) rfl (by decide) ?_
      refine r_callV (As := [_, _]) rfl (by decide) rfl hM.1 rfl rfl (Nat.le_of_ble_eq_true rfl) ⟨Nat.le_of_ble_eq_true rfl, Nat.le_of_ble_eq_true rfl⟩ (c_M_childAt hM (stn _ _ _) hn2) (kc' := 0) (ks' := 0) (by omega) (by omega) (by decide) ?_
      rintro r τ ⟨rfl, rfl⟩
      rw [st7, st8]
      refine r_istore_n rfl (by decide) ?_
      exact walk L [] _ A none rfl (fun i hi => by simp at hi) (fun i hi => by simp at hi) (fun x hx _ => hA x (by omega)) _ hW
    | succ d ih =>
      intro k A hk hA
      have hM := stM (h_X σ (o + 1 + 14)) A (nI 0)
      refine r_iload_n rfl rfl ?_
      refine r_aload_n rfl rfl ?_
      refine r_getIv rfl hM.1 rfl (stn _ _ _) ?_
      refine r_geN rfl (by omega) (by omega) (fun q => by omega) (fun _ => ?_)
      refine r_aload_n rfl rfl ?_
      refine r_mg (j := 15) hM rfl rfl (by decide) ?_
      refine r_iload_n rfl rfl ?_
      refine r_iconst (v := -1) rfl (by decide) ?_
      refine r_mis (j := 15) hM rfl rfl (by decide) (by first | rfl | assumption) (show _ < 120 by omega) ?_
      rw [st15, sw15]
      refine r_iinc rfl rfl (nI_inc _) ?_
      refine r_goto rfl ?_
      refine ih (k + 1) _ (by omega) (fun x hx => ?_)
      by_cases e : x = k
      · rw [e, upd_s]
      · rw [upd_n _ _ e]
        exact hA x (by omega)
  exact fill n 0 _ (by omega) (fun x hx => by omega)
end MC
