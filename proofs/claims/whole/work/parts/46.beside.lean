/-! ===== the reference: the next one, the latest one ===== -/
def nxK (kd : Nat → Int32) (L : List Nat) (i : Nat) (k : Int32) : Option Nat := (L.drop (i + 1)).find? (fun y => decide (kd y = k))
def ltK (kd : Nat → Int32) (L : List Nat) (k : Int32) : Nat → Option Nat
  | 0 => none
  | i + 1 => if kd (L.getD i 0) = k then some (L.getD i 0) else ltK kd L k i
theorem drop_c {L : List Nat} {i : Nat} (h : i < L.length) : L.drop i = L.getD i 0 :: L.drop (i + 1) := by
  rw [List.drop_eq_getElem_cons h, List.getD_eq_getElem?_getD, List.getElem?_eq_getElem h]
  rfl
section MC
variable {l : Launch} {D : DD} {σ : Hp} {o : Nat}
theorem c_M_beside2 {x i : Nat} {k : Int32} {L : List Nat} (hM : ML σ o) (hx : x < 120) (ht : h_I σ 724 o = nI L.length) (hl : L.length ≤ 120) (ho : ∀ q, q < L.length → h_X σ (o + 1 + 14) q = nI (L.getD q 0) ∧ L.getD q 0 < 120) (ha : h_X σ (o + 1 + 15) x = nI i) (hi : i < L.length) : Cn l D m_M_beside 0 0 [va_rf (some o), .int (nI x), .int k, .int (nI 2)] σ (fun r τ => r = some (.int (oI (nxK (h_X σ (o + 1 + 6)) L i k))) ∧ τ = σ) := by
  refine Cn.of (by decide) (by repeat (first | exact ca_0 | refine ca_i ?_ | refine ca_r ?_)) (Nat.le_of_ble_eq_true rfl) ?_
  refine r_iload_n rfl rfl ?_
  refine r_iconst (v := nI 2) rfl (by decide) ?_
  refine r_icmp_ne rfl (fun q => absurd rfl q) (fun _ => ?_)
  refine r_aload_n rfl rfl ?_
  refine r_mg (j := 15) hM rfl rfl (by decide) ?_
  refine r_iload_n rfl rfl ?_
  refine r_mi (j := 15) hM rfl rfl (by decide) (by first | rfl | assumption) (show _ < 120 by omega) ?_
  rw [ha]
  refine r_iconst (v := nI 1) rfl (by decide) ?_
  (first | refine r_iaddN rfl ?_ | refine r_iadd rfl ?_)
  refine r_istore rfl (by decide) ?_
  have loop : ∀ (d p : Nat), p + d = L.length → (L.drop p).find? (fun y => decide (h_X σ (o + 1 + 6) y = k)) = nxK (h_X σ (o + 1 + 6)) L i k → Gm l D m_M_beside 0 0 (fun r τ => r = some (.int (oI (nxK (h_X σ (o + 1 + 6)) L i k))) ∧ τ = σ) 15 [some (va_rf (some o)), some (.int (nI x)), some (.int k), some (.int (nI 2)), some (.int (nI p))] [] σ 0 0 := by
    intro d
    induction d with
    | zero =>
      intro p hp he
      refine r_iload rfl rfl ?_
      refine r_aload_n rfl rfl ?_
      (first | refine r_getIv rfl hM.1 rfl (by assumption) ?_ | refine r_getI rfl hM.1 rfl ?_)
      refine r_geN rfl (by omega) (by omega) (fun _ => ?_) (fun w => by omega)
      refine r_goto rfl ?_
      refine r_iconst (v := -1) rfl (by decide) ?_
      refine r_iret rfl rfl ⟨?_, rfl⟩
      rw [← he, List.drop_eq_nil_of_le (by omega)]
      rfl
    | succ d ih =>
      intro p hp he
      obtain ⟨o1, o2⟩ := ho p (by omega)
      rw [drop_c (show p < L.length by omega), List.find?_cons] at he
      refine r_iload rfl rfl ?_
      refine r_aload_n rfl rfl ?_
      (first | refine r_getIv rfl hM.1 rfl (by assumption) ?_ | refine r_getI rfl hM.1 rfl ?_)
      refine r_geN rfl (by omega) (by omega) (fun w => by omega) (fun _ => ?_)
      refine r_aload_n rfl rfl ?_
      refine r_mg (j := 6) hM rfl rfl (by decide) ?_
      refine r_aload_n rfl rfl ?_
      refine r_mg (j := 14) hM rfl rfl (by decide) ?_
      refine r_iload rfl rfl ?_
      refine r_mi (j := 14) hM rfl rfl (by decide) (by first | rfl | assumption) (show _ < 120 by omega) ?_
      rw [o1]
      refine r_mi (j := 6) hM rfl rfl (by decide) rfl (show _ < 120 by omega) ?_
      refine r_iload_n rfl rfl ?_
      refine r_icmp_ne rfl (fun w => ?_) (fun w => ?_)
      · rw [decide_eq_false w] at he
        refine r_iinc rfl rfl (nI_inc _) ?_
        refine r_goto rfl ?_
        exact ih (p + 1) (by omega) he
      · rw [decide_eq_true w] at he
        refine r_aload_n rfl rfl ?_
        refine r_mg (j := 14) hM rfl rfl (by decide) ?_
        refine r_iload rfl rfl ?_
        refine r_mi (j := 14) hM rfl rfl (by decide) (by first | rfl | assumption) (show _ < 120 by omega) ?_
        rw [o1]
        refine r_iret rfl rfl ⟨?_, rfl⟩
        rw [← he]
        rfl
  exact loop (L.length - (i + 1)) (i + 1) (by omega) rfl
theorem c_M_beside3 {x i : Nat} {k : Int32} {L : List Nat} (hM : ML σ o) (hx : x < 120) (hl : L.length ≤ 120) (ho : ∀ q, q < L.length → h_X σ (o + 1 + 14) q = nI (L.getD q 0) ∧ L.getD q 0 < 120) (ha : h_X σ (o + 1 + 15) x = nI i) (hi : i < L.length) : Cn l D m_M_beside 0 0 [va_rf (some o), .int (nI x), .int k, .int (nI 3)] σ (fun r τ => r = some (.int (oI (ltK (h_X σ (o + 1 + 6)) L k i))) ∧ τ = σ) := by
  refine Cn.of (by decide) (by repeat (first | exact ca_0 | refine ca_i ?_ | refine ca_r ?_)) (Nat.le_of_ble_eq_true rfl) ?_
  refine r_iload_n rfl rfl ?_
  refine r_iconst (v := nI 2) rfl (by decide) ?_
  refine r_icmp_ne rfl (fun _ => ?_) (fun q => absurd q (by decide))
  refine r_aload_n rfl rfl ?_
  refine r_mg (j := 15) hM rfl rfl (by decide) ?_
  refine r_iload_n rfl rfl ?_
  refine r_mi (j := 15) hM rfl rfl (by decide) (by first | rfl | assumption) (show _ < 120 by omega) ?_
  rw [ha]
  refine r_iconst (v := nI 1) rfl (by decide) ?_
  refine r_isub rfl ?_
  refine r_istore rfl (by decide) ?_
  have loop : ∀ (p : Nat), p < L.length → ltK (h_X σ (o + 1 + 6)) L k p = ltK (h_X σ (o + 1 + 6)) L k i → Gm l D m_M_beside 0 0 (fun r τ => r = some (.int (oI (ltK (h_X σ (o + 1 + 6)) L k i))) ∧ τ = σ) 67 [some (va_rf (some o)), some (.int (nI x)), some (.int k), some (.int (nI 3)), some (.int (nI p - nI 1))] [] σ 0 0 := by
    intro p
    induction p with
    | zero =>
      intro hp he
      refine r_iload rfl rfl ?_
      refine r_if_lt rfl (fun _ => ?_) (fun w => absurd (by decide) w)
      refine r_iconst (v := -1) rfl (by decide) ?_
      refine r_iret rfl rfl ⟨?_, rfl⟩
      rw [← he]
      rfl
    | succ p ih =>
      intro hp he
      obtain ⟨o1, o2⟩ := ho p (by omega)
      rw [ltK] at he
      have e1 : nI (p + 1) - nI 1 = nI p := pk_sub (by omega)
      rw [e1]
      refine r_iload rfl rfl ?_
      refine r_if_lt rfl (fun w => absurd w (nI_pos (by omega))) (fun _ => ?_)
      refine r_aload_n rfl rfl ?_
      refine r_mg (j := 6) hM rfl rfl (by decide) ?_
      refine r_aload_n rfl rfl ?_
      refine r_mg (j := 14) hM rfl rfl (by decide) ?_
      refine r_iload rfl rfl ?_
      refine r_mi (j := 14) hM rfl rfl (by decide) (by first | rfl | assumption) (show _ < 120 by omega) ?_
      rw [o1]
      refine r_mi (j := 6) hM rfl rfl (by decide) rfl (show _ < 120 by omega) ?_
      refine r_iload_n rfl rfl ?_
      refine r_icmp_ne rfl (fun w => ?_) (fun w => ?_)
      · rw [if_neg w] at he
        refine r_iinc (v := nI p - nI 1) rfl rfl ?_ ?_
        · show nI p + Int32.ofInt (-1) = nI p - nI 1
          rw [show Int32.ofInt (-1) = -nI 1 by decide, Int32.sub_eq_add_neg]
        · refine r_goto rfl ?_
          exact ih (by omega) he
      · rw [if_pos w] at he
        refine r_aload_n rfl rfl ?_
        refine r_mg (j := 14) hM rfl rfl (by decide) ?_
        refine r_iload rfl rfl ?_
        refine r_mi (j := 14) hM rfl rfl (by decide) (by first | rfl | assumption) (show _ < 120 by omega) ?_
        rw [o1]
        refine r_iret rfl rfl ⟨?_, rfl⟩
        rw [← he]
        rfl
  exact loop i hi rfl
end MC
