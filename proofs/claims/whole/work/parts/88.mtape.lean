/-! ===== the reference: end, feed, word, form, finding; old, changed ===== -/
def sT (S : Sp) (t : List Int32) : Sp := (t, s_w S, s_f S, s_g S, s_m S, s_e S, s_d S)
def sW (S : Sp) (w : Nat → List Int32) : Sp := (s_t S, w, s_f S, s_g S, s_m S, s_e S, s_d S)
def sF (S : Sp) (f : Nat → Nat × Nat × Nat) : Sp := (s_t S, s_w S, f, s_g S, s_m S, s_e S, s_d S)
def sD (S : Sp) (d : List Fi) : Sp := (s_t S, s_w S, s_f S, s_g S, s_m S, s_e S, d)
def a_end (S : Sp) (n : Int32) : Int32 × Sp := if n < 0 ∨ nI (s_t S).length < n then (-1, S) else (n, sT S ((s_t S).take n.toNatClampNeg))
def a_feed (S : Sp) (a b c d e : Int32) : Int32 × Sp := if 600 < (s_t S).length + 20 then (-3, S) else (nI ((s_t S).length + 20), sT S (s_t S ++ (bt4 a ++ bt4 b ++ bt4 c ++ bt4 d ++ bt4 e)))
def a_word (S : Sp) (k : Int32) : Int32 × Sp := if (inB k 0 5 && decide ((s_t S).length ≤ 10) && (s_t S).all isL) = true then (nI (s_t S).length, sT (sW S (u_1 (s_w S) k.toNatClampNeg (s_t S))) []) else (-2, sT S [])
def a_form (S : Sp) (k s y j : Int32) : Int32 × Sp := if (inB k 0 5 && inB s 0 7 && inB y 0 4 && inB j 0 2) = true then (1, sF S (u_1 (s_f S) k.toNatClampNeg (s.toNatClampNeg, y.toNatClampNeg, j.toNatClampNeg))) else (-2, S)
def fiV (q : Fi) : Nat → Int32
  | 0 => nI q.1
  | 1 => nI q.2.1
  | 2 => nI q.2.2.1
  | 3 => nI q.2.2.2.1
  | 4 => oI q.2.2.2.2
  | _ => -10
def a_find (S : Sp) (i w : Int32) : Int32 := if i < 0 ∨ nI 40 ≤ i then -10 else match (s_d S)[i.toNatClampNeg]? with
  | none => -10
  | some q => if w < 0 then -10 else fiV q w.toNatClampNeg
theorem SOk.t {S : Sp} (h : SOk S) {t : List Int32} (h1 : t.length ≤ 600) : SOk (sT S t) := by
  obtain ⟨a1, a2, a3, a4, a5, a6, a7, a8, a9, a10, a11⟩ := h
  exact ⟨a1, a2, a3, a4, a5, a6, h1, a8, a9, a10, a11⟩
theorem SOk.w {S : Sp} (h : SOk S) {w : Nat → List Int32} (h1 : ∀ k, k < 6 → (w k).length ≤ 10 ∧ (w k).all isL = true) : SOk (sW S w) := by
  obtain ⟨a1, a2, a3, a4, a5, a6, a7, a8, a9, a10, a11⟩ := h
  exact ⟨a1, a2, a3, a4, h1, a6, a7, a8, a9, a10, a11⟩
theorem SOk.f {S : Sp} (h : SOk S) {f : Nat → Nat × Nat × Nat} (h1 : ∀ k, k < 6 → f_c f k < 8 ∧ f_y f k < 5 ∧ f_j f k < 3) : SOk (sF S f) := by
  obtain ⟨a1, a2, a3, a4, a5, a6, a7, a8, a9, a10, a11⟩ := h
  exact ⟨a1, a2, a3, a4, a5, h1, a7, a8, a9, a10, a11⟩
theorem SOk.d {S : Sp} (h : SOk S) {d : List Fi} : SOk (sD S d) := h
section MC
variable {l : Launch} {D : DD} {σ : Hp} {o : Nat}
theorem RM.t {S : Sp} {τ : Hp} {t : List Int32} (h : RM σ o S) (hf : MFr [0] [705] σ τ o) (h1 : Tp τ o t) : RM τ o (sT S t) := by
  obtain ⟨g1, g2, g3, g4, g5, g6, g7, g8, g9, g10⟩ := h
  refine ⟨hf.mL g1, g2.t h1.2.1, h1, fun k hk => (g4 k hk).kp hf (by decide) (by decide), g5.kp hf (by decide) (by decide) (by decide), g6.kp hf (fun j a b => ?_) (by decide) (by decide), g7.kp hf (fun j a b => ?_) (by decide) (by decide), g8.kp hf (fun j a b => ?_) (by decide), g9.kp hf (fun j a b => ?_) (by decide), g10.kp hf (fun j a b => ?_) (by decide)⟩
  all_goals simp only [List.mem_cons, List.not_mem_nil, or_false]; omega
theorem Tp.nil (h : h_I σ 705 o = nI 0) : Tp σ o [] := ⟨h, by simp, fun i hi => by cases hi⟩
theorem c_M_endS {S : Sp} {n : Int32} (h : RM σ o S) : Cn l D m_M_end 0 0 [va_rf (some o), .int n] σ (fun r τ => r = some (.int (a_end S n).1) ∧ RM τ o (a_end S n).2 ∧ MFr mAR mAI σ τ o) := by
  obtain ⟨t1, t2, t3⟩ := h.2.2.1
  refine Cn.mono (c_M_end h.1 t1) ?_
  rintro r τ (⟨a, rfl, rfl⟩ | ⟨a, rfl, rfl⟩)
  · unfold a_end
    rw [if_pos a]
    exact ⟨rfl, h, MFr.rf _ _ _ _⟩
  · unfold a_end
    rw [if_neg (fun q => q.elim a.1 (fun w => absurd a.2 (Int32.not_le.mpr w)))]
    obtain ⟨j, hj, rfl⟩ := nI_of a.1
    have hjl := (nI_leI hj (by omega)).mp a.2
    rw [nI_clamp hj]
    have hf : MFr [0] [705] σ (w_I σ 705 o (nI j)) o := MFr.I _ _ (by decide)
    have hlen : ((s_t S).take j).length = j := by rw [List.length_take]; omega
    refine ⟨rfl, h.t hf ⟨?_, by omega, fun i hi => ?_⟩, hf.wide (by decide) (by decide)⟩
    · rw [hlen, hI_w]
    · rw [hlen] at hi
      rw [hX_wI, t3 i (by omega), List.getD_eq_getElem?_getD, List.getD_eq_getElem?_getD, List.getElem?_take, if_pos hi]
theorem c_M_feedS {S : Sp} {a b c d e : Int32} (h : RM σ o S) : Cn l D m_M_feed 0 0 [va_rf (some o), .int a, .int b, .int c, .int d, .int e] σ (fun r τ => r = some (.int (a_feed S a b c d e).1) ∧ RM τ o (a_feed S a b c d e).2 ∧ MFr mAR mAI σ τ o) := by
  refine Cn.mono (c_M_feed h.1 h.2.2.1) ?_
  rintro r τ (⟨q, rfl, rfl⟩ | ⟨q, rfl, t1, t2⟩)
  · unfold a_feed
    rw [if_pos q]
    exact ⟨rfl, h, MFr.rf _ _ _ _⟩
  · unfold a_feed
    rw [if_neg (by omega)]
    exact ⟨rfl, h.t t2 t1, t2.wide (by decide) (by decide)⟩
theorem c_M_wordS {S : Sp} {k : Int32} (h : RM σ o S) : Cn l D m_M_word 0 0 [va_rf (some o), .int k] σ (fun r τ => r = some (.int (a_word S k).1) ∧ RM τ o (a_word S k).2 ∧ MFr mAR mAI σ τ o) := by
  refine Cn.mono (c_M_word h.1 h.2.2.1) ?_
  rintro r τ (⟨q, rfl, rfl⟩ | ⟨q, rfl, k', hk, rfl, t1, t2, t3, t4, t5⟩)
  · unfold a_word
    rw [if_neg (by rw [q]; decide)]
    have hf : MFr [0] [705] σ (w_I σ 705 o (nI 0)) o := MFr.I _ _ (by decide)
    exact ⟨rfl, h.t hf (Tp.nil (hI_w _ _ _ _)), hf.wide (by decide) (by decide)⟩
  · unfold a_word
    rw [if_pos q, nI_clamp (by omega)]
    simp only [Bool.and_eq_true, decide_eq_true_eq] at q
    obtain ⟨g1, g2, g3, g4, g5, g6, g7, g8, g9, g10⟩ := h
    refine ⟨rfl, ⟨t4.mL g1, (g2.w (fun z hz => ?_)).t (by simp), Tp.nil t2, fun z hz => ?_, g5.kp t4 (by decide) (by decide) (by decide), g6.kp t4 (fun j a b => ?_) (by decide) (by decide), Or.inr t3, g8.kp t4 (fun j a b => ?_) (by decide), g9.kp t4 (fun j a b => ?_) (by decide), g10.kp t4 (fun j a b => ?_) (by decide)⟩, t4.wide (by decide) (by decide)⟩
    · by_cases e : z = k'
      · rw [e, u1_s]; exact ⟨q.1.2, q.2⟩
      · rw [u1_n _ _ e]; exact g2.2.2.2.2.1 z hz
    · show Wd τ o z (u_1 (s_w S) k' (s_t S) z)
      by_cases e : z = k'
      · rw [e, u1_s]; exact t1
      · rw [u1_n _ _ e]; exact t5 z _ e (g4 z hz)
    all_goals simp only [List.mem_cons, List.not_mem_nil, or_false]; omega
theorem c_M_formS {S : Sp} {k s y j : Int32} (h : RM σ o S) : Cn l D m_M_form 0 0 [va_rf (some o), .int k, .int s, .int y, .int j] σ (fun r τ => r = some (.int (a_form S k s y j).1) ∧ RM τ o (a_form S k s y j).2 ∧ MFr mAR mAI σ τ o) := by
  refine Cn.mono (c_M_form h.1) ?_
  rintro r τ (⟨q, rfl, rfl⟩ | ⟨q, rfl, k', hk, rfl, rfl⟩)
  · unfold a_form
    rw [if_neg (by rw [q]; decide)]
    exact ⟨rfl, h, MFr.rf _ _ _ _⟩
  · unfold a_form
    rw [if_pos q]
    simp only [Bool.and_eq_true] at q
    obtain ⟨⟨⟨q1, q2⟩, q3⟩, q4⟩ := q
    obtain ⟨s', hs, rfl⟩ := inB_nI (m := 7) (by omega) q2
    obtain ⟨y', hy, rfl⟩ := inB_nI (m := 4) (by omega) q3
    obtain ⟨j', hj, rfl⟩ := inB_nI (m := 2) (by omega) q4
    rw [nI_clamp (by omega), nI_clamp (by omega), nI_clamp (by omega), nI_clamp (by omega)]
    obtain ⟨g1, g2, g3, g4, g5, g6, g7, g8, g9, g10⟩ := h
    have t4 : MFr [3, 4, 5] [721] σ (w_I (w_X (w_X (w_X σ (o + 1 + 3) (upd (h_X σ (o + 1 + 3)) k' (nI s'))) (o + 1 + 4) (upd (h_X σ (o + 1 + 4)) k' (nI y'))) (o + 1 + 5) (upd (h_X σ (o + 1 + 5)) k' (nI j'))) 721 o (nI 0)) o := (((MFr.X _ _ (by decide)).tr (MFr.X _ _ (by decide))).tr (MFr.X _ _ (by decide))).tr (MFr.I _ _ (by decide))
    refine ⟨rfl, ⟨t4.mL g1, g2.f (fun z hz => ?_), g3.kp t4 (by decide) (by decide), fun z hz => (g4 z hz).kp t4 (by decide) (by decide), fun z hz => ?_, g6.kp t4 (fun j a b => ?_) (by decide) (by decide), Or.inr (hI_w _ _ _ _), g8.kp t4 (fun j a b => ?_) (by decide), g9.kp t4 (fun j a b => ?_) (by decide), g10.kp t4 (fun j a b => ?_) (by decide)⟩, t4.wide (by decide) (by decide)⟩
    · unfold f_c f_y f_j
      by_cases e : z = k'
      · rw [e, u1_s]
        show s' < 8 ∧ y' < 5 ∧ j' < 3
        omega
      · rw [u1_n _ _ e]; exact g2.2.2.2.2.2.1 z hz
    · show _ = nI (f_c (u_1 (s_f S) k' (s', y', j')) z) ∧ _ = nI (f_y (u_1 (s_f S) k' (s', y', j')) z) ∧ _ = nI (f_j (u_1 (s_f S) k' (s', y', j')) z)
      unfold f_c f_y f_j
      rw [hX_wI, hX_n _ _ (show o + 1 + 3 ≠ o + 1 + 5 by omega), hX_n _ _ (show o + 1 + 3 ≠ o + 1 + 4 by omega), hX_w, hX_n _ _ (show o + 1 + 4 ≠ o + 1 + 5 by omega), hX_w, hX_w]
      by_cases e : z = k'
      · rw [e, u1_s, upd_s, upd_s, upd_s]
        exact ⟨rfl, rfl, rfl⟩
      · rw [u1_n _ _ e, upd_n _ _ e, upd_n _ _ e, upd_n _ _ e]
        exact g5 z hz
    all_goals simp only [List.mem_cons, List.not_mem_nil, or_false]; omega
theorem c_M_findS {S : Sp} {i w : Int32} (h : RM σ o S) : Cn l D m_M_finding 0 0 [va_rf (some o), .int i, .int w] σ (fun r τ => r = some (.int (a_find S i w)) ∧ RM τ o S ∧ MFr mAR mAI σ τ o) := by
  have hM := h.1
  obtain ⟨h748, hfi⟩ := h.2.2.2.2.2.2.2.2.2
  have hmin : min 40 (s_d S).length ≤ 40 := Nat.min_le_left _ _
  generalize hQ : (fun (r : Option Value) (τ : Hp) => r = some (.int (a_find S i w)) ∧ RM τ o S ∧ MFr mAR mAI σ τ o) = Q
  refine Cn.of (by decide) (by repeat (first | exact ca_0 | refine ca_i ?_ | refine ca_r ?_)) (Nat.le_of_ble_eq_true rfl) ?_
  refine r_iload_n rfl rfl ?_
  refine r_iconst (v := nI 0) rfl (by decide) ?_
  refine r_aload_n rfl rfl ?_
  (first | refine r_getIv rfl hM.1 rfl (by assumption) ?_ | refine r_getI rfl hM.1 rfl ?_)
  refine r_iconst (v := nI 1) rfl (by decide) ?_
  refine r_isub rfl ?_
  refine r_callS (As := [_, _, _]) rfl (by decide) rfl rfl rfl (Nat.le_of_ble_eq_true rfl) ⟨Nat.le_of_ble_eq_true rfl, Nat.le_of_ble_eq_true rfl⟩ (c_M_in) (kc' := 0) (ks' := 0) (by omega) (by omega) ?_
  rintro r σ ⟨rfl, rfl⟩
  rw [inB_m (by omega)]
  refine r_ifneB rfl (fun q => ?_) (fun q => ?_)
  · simp only [Bool.and_eq_true, decide_eq_true_eq] at q
    obtain ⟨j, hj, rfl⟩ := nI_of (Int32.not_lt.mpr q.1)
    have hjm := (nI_ltI hj (by omega)).mp q.2
    have hj4 : j < 40 := by omega
    have hjl : j < (s_d S).length := by omega
    obtain ⟨⟨f, t, k, m, p⟩, hq⟩ : ∃ q, (s_d S)[j]? = some q := ⟨_, List.getElem?_eq_getElem hjl⟩
    obtain ⟨v1, v2, v3, v4, v5⟩ := hfi j f t k m p hj4 hq
    have ea : a_find S (nI j) w = if w < 0 then -10 else fiV (f, t, k, m, p) w.toNatClampNeg := by
      unfold a_find
      rw [if_neg (fun z => z.elim (nI_pos hj) (nI_ge hj4 (by omega))), nI_clamp hj, hq]
    have fin : ∀ (u : Int32), u = a_find S (nI j) w → Gm l D m_M_finding 0 0 Q 88 [some (va_rf (some o)), some (.int (nI j)), some (.int w)] [.int u] σ 0 0 := by
      rintro u rfl
      refine r_iret rfl rfl ?_
      rw [← hQ]
      exact ⟨rfl, h, MFr.rf _ _ _ _⟩
    refine r_iload_n rfl rfl ?_
    refine r_if_ne rfl (fun w0 => ?_) (fun w0 => ?_)
    · refine r_iload_n rfl rfl ?_
      refine r_iconst (v := nI 1) rfl (by decide) ?_
      refine r_icmp_ne rfl (fun w1 => ?_) (fun w1 => ?_)
      · refine r_iload_n rfl rfl ?_
        refine r_iconst (v := nI 2) rfl (by decide) ?_
        refine r_icmp_ne rfl (fun w2 => ?_) (fun w2 => ?_)
        · refine r_iload_n rfl rfl ?_
          refine r_iconst (v := nI 3) rfl (by decide) ?_
          refine r_icmp_ne rfl (fun w3 => ?_) (fun w3 => ?_)
          · refine r_iload_n rfl rfl ?_
            refine r_iconst (v := nI 4) rfl (by decide) ?_
            refine r_icmp_ne rfl (fun w4 => ?_) (fun w4 => ?_)
            · refine r_bipush (v := -10) rfl (by decide) ?_
              refine fin _ ?_
              rw [ea]
              by_cases a : w < 0
              · rw [if_pos a]
              · rw [if_neg a]
                obtain ⟨z, hz, rfl⟩ := nI_of a
                rw [nI_clamp hz]
                match z with
                | 0 => exact absurd rfl w0
                | 1 => exact absurd rfl w1
                | 2 => exact absurd rfl w2
                | 3 => exact absurd rfl w3
                | 4 => exact absurd rfl w4
                | z + 5 => rfl
            · subst w4
              refine r_aload_n rfl rfl ?_
              refine r_mg (j := 39) hM rfl rfl (by decide) ?_
              refine r_iload_n rfl rfl ?_
              refine r_mi (j := 39) hM rfl rfl (by decide) (by first | rfl | assumption) (show _ < 40 by omega) ?_
              refine r_goto rfl ?_
              rw [v5]
              exact fin _ (by rw [ea]; rfl)
          · subst w3
            refine r_aload_n rfl rfl ?_
            refine r_mg (j := 38) hM rfl rfl (by decide) ?_
            refine r_iload_n rfl rfl ?_
            refine r_mi (j := 38) hM rfl rfl (by decide) (by first | rfl | assumption) (show _ < 40 by omega) ?_
            refine r_goto rfl ?_
            rw [v4]
            exact fin _ (by rw [ea]; rfl)
        · subst w2
          refine r_aload_n rfl rfl ?_
          refine r_mg (j := 37) hM rfl rfl (by decide) ?_
          refine r_iload_n rfl rfl ?_
          refine r_mi (j := 37) hM rfl rfl (by decide) (by first | rfl | assumption) (show _ < 40 by omega) ?_
          refine r_goto rfl ?_
          rw [v3]
          exact fin _ (by rw [ea]; rfl)
      · subst w1
        refine r_aload_n rfl rfl ?_
        refine r_mg (j := 36) hM rfl rfl (by decide) ?_
        refine r_iload_n rfl rfl ?_
        refine r_mi (j := 36) hM rfl rfl (by decide) (by first | rfl | assumption) (show _ < 40 by omega) ?_
        refine r_goto rfl ?_
        rw [v2]
        exact fin _ (by rw [ea]; rfl)
    · subst w0
      refine r_aload_n rfl rfl ?_
      refine r_mg (j := 35) hM rfl rfl (by decide) ?_
      refine r_iload_n rfl rfl ?_
      refine r_mi (j := 35) hM rfl rfl (by decide) (by first | rfl | assumption) (show _ < 40 by omega) ?_
      refine r_goto rfl ?_
      rw [v1]
      exact fin _ (by rw [ea]; rfl)
  · refine r_bipush (v := -10) rfl (by decide) ?_
    refine r_iret rfl rfl ?_
    rw [← hQ]
    refine ⟨?_, h, MFr.rf _ _ _ _⟩
    unfold a_find
    by_cases a : i < 0 ∨ nI 40 ≤ i
    · rw [if_pos a]
    · rw [if_neg a]
      obtain ⟨j, hj, rfl⟩ := nI_of (fun z => a (Or.inl z))
      have hj4 : j < 40 := by
        rcases Nat.lt_or_ge j 40 with z | z
        · exact z
        · exact absurd (nI_le z hj) (fun v => a (Or.inr v))
      rw [decide_eq_true (nI_pos' hj), Bool.true_and, decide_eq_false_iff_not, nI_ltI hj (by omega)] at q
      rw [nI_clamp hj, List.getElem?_eq_none (by omega)]
end MC
