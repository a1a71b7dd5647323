/-! ===== the reference: make(), its contract ===== -/
abbrev mkR : List Nat := [14, 15, 16, 17, 18, 19, 20, 21]
abbrev mkI : List Nat := [721, 724]
/-- what make() asks of the rows that it reads -/
def mkP (σ : Hp) (o n : Nat) (sc sy jo : Nat → Nat) (L : List Nat) : Prop :=
  n ≤ 120 ∧ h_I σ 711 o = nI n ∧ isW n (h_X σ (o + 1 + 7)) (h_X σ (o + 1 + 8)) L (chAt n (h_X σ (o + 1 + 7)) (h_X σ (o + 1 + 8)) (-1) (nI 0)) ∧ L.length ≤ 120 ∧ L.Nodup ∧
  (∀ x, x < n → ∃ k, k < 6 ∧ h_X σ (o + 1 + 6) x = nI k) ∧ (∀ k, k < 6 → h_X σ (o + 1 + 3) k = nI (sc k) ∧ sc k < 8 ∧ h_X σ (o + 1 + 4) k = nI (sy k) ∧ sy k < 5 ∧ h_X σ (o + 1 + 5) k = nI (jo k) ∧ jo k < 3) ∧
  ∀ x ∈ L, x < n ∧ clS (h_X σ (o + 1 + 7)) 200 x ∧ (∀ c, abS (h_X σ (o + 1 + 7)) (h_X σ (o + 1 + 6)) c 200 (h_X σ (o + 1 + 7) x)) ∧ (∀ t, upS (h_X σ (o + 1 + 7)) t 200 (nI x)) ∧ (b0O (h_X σ (o + 1 + 7)) (h_X σ (o + 1 + 6)) sc x < 0 ∨ ∃ p, p < n ∧ p ≠ x ∧ b0O (h_X σ (o + 1 + 7)) (h_X σ (o + 1 + 6)) sc x = nI p)
/-- what the rows hold behind make() -/
def mkD (σ : Hp) (o n : Nat) (on kd : Nat → Int32) (sc sy jo : Nat → Nat) (L : List Nat) : Prop :=
  h_I σ 724 o = nI L.length ∧ (∀ i, i < L.length → h_X σ (o + 1 + 14) i = nI (L.getD i 0)) ∧ (∀ i, i < L.length → h_X σ (o + 1 + 15) (L.getD i 0) = nI i) ∧ (∀ x, x < n → x ∉ L → h_X σ (o + 1 + 15) x = -1) ∧
  (∀ i, i < L.length → h_X σ (o + 1 + 16) (L.getD i 0) = nI (ctO on kd sc L i)) ∧ (∀ x, x < n → x ∉ L → h_X σ (o + 1 + 16) x = 0) ∧ (∀ x, x < n → h_X σ (o + 1 + 17) x = (mkO on kd sc sy jo L L.length).1 x) ∧
  (∀ x, x < n → Tx σ o 18 19 x ((mkO on kd sc sy jo L L.length).2 x)) ∧ ∀ i, i < L.length → Tx σ o 20 21 (L.getD i 0) (sgn (sy (kd (L.getD i 0)).toNatClampNeg) (ctO on kd sc L i))
theorem getD_mem {L : List Nat} {i : Nat} (h : i < L.length) : L.getD i 0 ∈ L := by
  rw [List.getD_eq_getElem?_getD, List.getElem?_eq_getElem h]
  exact List.getElem_mem h
theorem getD_inj {L : List Nat} {i j : Nat} (hn : L.Nodup) (hi : i < L.length) (hj : j < L.length) (h : L.getD i 0 = L.getD j 0) : i = j := by
  rw [List.getD_eq_getElem?_getD, List.getD_eq_getElem?_getD, List.getElem?_eq_getElem hi, List.getElem?_eq_getElem hj] at h
  have h : L[i] = L[j] := h
  rcases Nat.lt_trichotomy i j with w | w | w
  · exact absurd h (List.pairwise_iff_getElem.mp hn i j hi hj w)
  · exact w
  · exact absurd h.symm (List.pairwise_iff_getElem.mp hn j i hj hi w)
theorem nmV_len {j : Nat} {b : Int32} {nm sg : List Int32} (h : nm.length ≤ 30 ∨ b < 0) (hs : sg.length ≤ 15) : (nmV j b nm sg).length ≤ 60 := by
  unfold nmV
  simp only [List.length_append]
  have a1 : (if 0 < j ∧ ¬ b < 0 then nm ++ (if j = 1 then [b8 (nI 46)] else []) else []).length ≤ 31 := by
    by_cases e : 0 < j ∧ ¬ b < 0
    · rw [if_pos e, List.length_append]
      have : (if j = 1 then [b8 (nI 46)] else []).length ≤ 1 := by split <;> simp
      rcases h with h | h
      · omega
      · exact absurd h e.2
    · rw [if_neg e]; simp
  have a2 : (if j = 2 then [b8 (nI 40)] else []).length ≤ 1 := by split <;> simp
  have a3 : (if j = 2 then [b8 (nI 41)] else []).length ≤ 1 := by split <;> simp
  omega
theorem bsV_len {b : Int32} {nm : List Int32} : nm.length ≤ 30 ∨ bsV b nm < 0 := by
  unfold bsV
  by_cases e : ¬ b < 0 ∧ 30 < nm.length
  · rw [if_pos e]
    exact Or.inr (by decide)
  · rw [if_neg e]
    by_cases h : b < 0
    · exact Or.inr h
    · exact Or.inl (Nat.le_of_not_lt (fun q => e ⟨h, q⟩))
section MC
variable {l : Launch} {D : DD} {σ : Hp} {o : Nat}
set_option maxHeartbeats 2000000 in
/-- one thing of the ORDER: its count, its sign, its number -/
theorem mk_count {n i : Nat} {sc sy jo : Nat → Nat} {L : List Nat} {Q : Option Value → Hp → Prop} {τ : Hp} (hM : ML τ o) (hP : mkP τ o n sc sy jo L) (hi : i < L.length) (hord : ∀ q, q < L.length → h_X τ (o + 1 + 14) q = nI (L.getD q 0))
    (go : ∀ z, Gm l D m_M_make 0 0 Q 139 [some (va_rf (some o)), some (.int (nI i)), some (.int (nI (L.getD i 0))), z] [] (w_X τ (o + 1 + 16) (upd (h_X τ (o + 1 + 16)) (L.getD i 0) (nI (ctO (h_X τ (o + 1 + 7)) (h_X τ (o + 1 + 6)) sc L i)))) 0 0) (z : Option Value) :
    Gm l D m_M_make 0 0 Q 71 [some (va_rf (some o)), some (.int (nI i)), some (.int (nI (L.getD i 0))), z] [] τ 0 0 := by
  obtain ⟨p1, p2, p3, p4, p5, p6, p7, p8⟩ := hP
  obtain ⟨x1, x2, x3, x4, x5⟩ := p8 _ (getD_mem hi)
  generalize hx : L.getD i 0 = x at *
  obtain ⟨k, k1, k2⟩ := p6 x x1
  have kc : (h_X τ (o + 1 + 6) x).toNatClampNeg = k := by rw [k2]; exact nI_clamp (by omega)
  obtain ⟨s1, s2, -⟩ := p7 k k1
  refine r_aload_n rfl rfl ?_
  refine r_mg (j := 16) hM rfl rfl (by decide) ?_
  refine r_iload_n rfl rfl ?_
  refine r_iconst (v := nI 1) rfl (by decide) ?_
  refine r_mis (j := 16) hM rfl rfl (by decide) (by first | rfl | assumption) (show _ < 120 by omega) ?_
  refine r_iconst (v := nI 0) rfl (by decide) ?_
  refine r_istore_n rfl (by decide) ?_
  have c0 : upd (h_X τ (o + 1 + 16)) x (nI 1) = upd (h_X τ (o + 1 + 16)) x (nI (1 + cntB (fun q => decide (h_X τ (o + 1 + 6) (L.getD q 0) = h_X τ (o + 1 + 6) x) && ssB (h_X τ (o + 1 + 7)) (h_X τ (o + 1 + 6)) (sc k) x (L.getD q 0)) 0)) := rfl
  rw [c0]
  have loop : ∀ (d q : Nat), q + d = i → Gm l D m_M_make 0 0 Q 80 [some (va_rf (some o)), some (.int (nI i)), some (.int (nI x)), some (.int (nI q))] [] (w_X τ (o + 1 + 16) (upd (h_X τ (o + 1 + 16)) x (nI (1 + cntB (fun q => decide (h_X τ (o + 1 + 6) (L.getD q 0) = h_X τ (o + 1 + 6) x) && ssB (h_X τ (o + 1 + 7)) (h_X τ (o + 1 + 6)) (sc k) x (L.getD q 0)) q)))) 0 0 := by
    intro d
    induction d with
    | zero =>
      intro q hq
      refine r_iload_n rfl rfl ?_
      refine r_iload_n rfl rfl ?_
      refine r_geN rfl (by omega) (by omega) (fun _ => ?_) (fun w => by omega)
      have e := go (some (.int (nI q)))
      unfold ctO at e
      rw [hx, kc] at e
      rw [show q = i by omega] at e ⊢
      exact e
    | succ d ih =>
      intro q hq
      obtain ⟨y1, y2, y3, y4, y5⟩ := p8 _ (getD_mem (show q < L.length by omega))
      have hy := hord q (by omega)
      generalize hcq : cntB (fun q => decide (h_X τ (o + 1 + 6) (L.getD q 0) = h_X τ (o + 1 + 6) x) && ssB (h_X τ (o + 1 + 7)) (h_X τ (o + 1 + 6)) (sc k) x (L.getD q 0)) q = cq at *
      have hM2 : ML (w_X τ (o + 1 + 16) (upd (h_X τ (o + 1 + 16)) x (nI (1 + cq)))) o := hM
      have fin : ∀ b : Bool, (decide (h_X τ (o + 1 + 6) (L.getD q 0) = h_X τ (o + 1 + 6) x) && ssB (h_X τ (o + 1 + 7)) (h_X τ (o + 1 + 6)) (sc k) x (L.getD q 0)) = b → Gm l D m_M_make 0 0 Q 131 [some (va_rf (some o)), some (.int (nI i)), some (.int (nI x)), some (.int (nI q))] [.int (nI b.toNat), .int (nI (1 + cq)), .int (nI x), va_rf (some (o + 1 + 16))] (w_X τ (o + 1 + 16) (upd (h_X τ (o + 1 + 16)) x (nI (1 + cq)))) 0 0 := by
        intro b hb
        refine r_iaddN rfl ?_
        refine r_mis (j := 16) hM rfl rfl (by decide) rfl (show _ < 120 by omega) ?_
        refine r_iinc rfl rfl (nI_inc _) ?_
        refine r_goto rfl ?_
        have e := ih (q + 1) (by omega)
        rw [cntB, hb, hcq] at e
        rw [wX_same, hX_w]
        have : upd (upd (h_X τ (o + 1 + 16)) x (nI (1 + cq))) x (nI (1 + cq + b.toNat)) = upd (h_X τ (o + 1 + 16)) x (nI (1 + (cq + b.toNat))) := by
          funext w
          unfold upd
          by_cases e2 : w = x
          · rw [if_pos e2, if_pos e2, Nat.add_assoc]
          · rw [if_neg e2, if_neg e2, if_neg e2]
        rw [this]
        exact e
      refine r_iload_n rfl rfl ?_
      refine r_iload_n rfl rfl ?_
      refine r_geN rfl (by omega) (by omega) (fun w => by omega) (fun _ => ?_)
      refine r_aload_n rfl rfl ?_
      refine r_mg (j := 16) hM rfl rfl (by decide) ?_
      refine r_iload_n rfl rfl ?_
      refine r_dup2 rfl (by first | rfl | exact rf_cat _) (by first | rfl | exact rf_cat _) ?_
      refine r_mi (j := 16) hM rfl rfl (by decide) (by first | rfl | assumption) (show _ < 120 by omega) ?_
      refine r_aload_n rfl rfl ?_
      refine r_mg (j := 6) hM rfl rfl (by decide) ?_
      rw [hX_w, upd_s]
      refine r_aload_n rfl rfl ?_
      refine r_mg (j := 14) hM rfl rfl (by decide) ?_
      refine r_iload_n rfl rfl ?_
      refine r_mi (j := 14) hM rfl rfl (by decide) rfl (show _ < 120 by omega) ?_
      rw [hX_n _ _ (show o + 1 + 14 ≠ o + 1 + 16 by omega), hy]
      refine r_mi (j := 6) hM rfl rfl (by decide) rfl (show _ < 120 by omega) ?_
      refine r_aload_n rfl rfl ?_
      refine r_mg (j := 6) hM rfl rfl (by decide) ?_
      refine r_iload_n rfl rfl ?_
      refine r_mi (j := 6) hM rfl rfl (by decide) (by first | rfl | assumption) (show _ < 120 by omega) ?_
      rw [hX_n _ _ (show o + 1 + 6 ≠ o + 1 + 16 by omega)]
      refine r_icmp_ne rfl (fun w => ?_) (fun w => ?_)
      · refine r_iconst (v := nI 0) rfl (by decide) ?_
        exact fin false (by rw [decide_eq_false w]; rfl)
      · refine r_aload_n rfl rfl ?_
        refine r_iload_n rfl rfl ?_
        refine r_aload_n rfl rfl ?_
        refine r_mg (j := 14) hM rfl rfl (by decide) ?_
        refine r_iload_n rfl rfl ?_
        refine r_mi (j := 14) hM rfl rfl (by decide) rfl (show _ < 120 by omega) ?_
        rw [hX_n _ _ (show o + 1 + 14 ≠ o + 1 + 16 by omega), hy]
        have e7 : h_X (w_X τ (o + 1 + 16) (upd (h_X τ (o + 1 + 16)) x (nI (1 + cq)))) (o + 1 + 7) = h_X τ (o + 1 + 7) := hX_n _ _ (by omega)
        have e6 : h_X (w_X τ (o + 1 + 16) (upd (h_X τ (o + 1 + 16)) x (nI (1 + cq)))) (o + 1 + 6) = h_X τ (o + 1 + 6) := hX_n _ _ (by omega)
        have e3 : h_X (w_X τ (o + 1 + 16) (upd (h_X τ (o + 1 + 16)) x (nI (1 + cq)))) (o + 1 + 3) = h_X τ (o + 1 + 3) := hX_n _ _ (by omega)
        refine r_callV (As := [_, _]) rfl (by decide) rfl hM2.1 rfl rfl (Nat.le_of_ble_eq_true rfl) ⟨Nat.le_of_ble_eq_true rfl, Nat.le_of_ble_eq_true rfl⟩ (c_M_sameScope (k := k) (s := sc k) hM2 (by omega) (by omega) (by rw [e6]; exact k2) k1 (by rw [e3]; exact s1) s2 (by rw [e6, e7]; exact x3) (by rw [e7]; exact y4)) (kc' := 0) (ks' := 0) (by omega) (by omega) (by decide) ?_
        rintro r τ2 ⟨rfl, rfl⟩
        rw [e6, e7]
        refine r_ifeqB rfl (fun w2 => ?_) (fun w2 => ?_)
        · refine r_iconst (v := nI 0) rfl (by decide) ?_
          exact fin false (by rw [w2, Bool.and_false])
        · refine r_iconst (v := nI 1) rfl (by decide) ?_
          refine r_goto rfl ?_
          exact fin true (by rw [w2, decide_eq_true w]; rfl)
  exact loop i 0 (by omega)
end MC
