/-! ===== the reference: feed ===== -/
/-- the tape holds xs -/
def Tp (σ : Hp) (o : Nat) (xs : List Int32) : Prop := h_I σ 705 o = nI xs.length ∧ xs.length ≤ 600 ∧ ∀ i, i < xs.length → h_X σ (o + 1 + 0) i = xs.getD i 0
def bt4 (v : Int32) : List Int32 := [b8 (v >>> (nI 24 &&& 31)), b8 (v >>> (nI 16 &&& 31)), b8 (v >>> (nI 8 &&& 31)), b8 (v >>> (nI 0 &&& 31))]
section MC
variable {l : Launch} {D : DD} {σ : Hp} {o : Nat}
set_option maxHeartbeats 1000000 in
theorem c_M_feed {a b c d e : Int32} {xs : List Int32} (hM : ML σ o) (h : Tp σ o xs) : Cn l D m_M_feed 0 0 [va_rf (some o), .int a, .int b, .int c, .int d, .int e] σ (fun r τ => 600 < xs.length + 20 ∧ r = some (.int (-3)) ∧ τ = σ ∨ xs.length + 20 ≤ 600 ∧ r = some (.int (nI (xs.length + 20))) ∧ Tp τ o (xs ++ (bt4 a ++ bt4 b ++ bt4 c ++ bt4 d ++ bt4 e)) ∧ MFr [0] [705] σ τ o) := by
  generalize hQ : (fun (r : Option Value) (τ : Hp) => 600 < xs.length + 20 ∧ r = some (.int (-3)) ∧ τ = σ ∨ xs.length + 20 ≤ 600 ∧ r = some (.int (nI (xs.length + 20))) ∧ Tp τ o (xs ++ (bt4 a ++ bt4 b ++ bt4 c ++ bt4 d ++ bt4 e)) ∧ MFr [0] [705] σ τ o) = Q
  have hx1 := h.1
  have hx2 := h.2.1
  refine Cn.of (by decide) (by repeat (first | exact ca_0 | refine ca_i ?_ | refine ca_r ?_)) (Nat.le_of_ble_eq_true rfl) ?_
  refine r_aload_n rfl rfl ?_
  (first | refine r_getIv rfl hM.1 rfl (by assumption) ?_ | refine r_getI rfl hM.1 rfl ?_)
  refine r_bipush (v := nI 20) rfl (by decide) ?_
  (first | refine r_iaddN rfl ?_ | refine r_iadd rfl ?_)
  refine r_sipush (v := nI 600) rfl (by decide) ?_
  refine r_leN rfl (by omega) (by omega) (fun q => ?_) (fun q => ?_)
  · have one : ∀ (τ : Hp) (ys : List Int32) (k s v : Int32), Tp τ o ys → MFr [0] [705] σ τ o → ys.length < 600 → ¬ s < 0 → (∀ ρ, Tp ρ o (ys ++ [b8 (v >>> (s &&& 31))]) → MFr [0] [705] σ ρ o → Gm l D m_M_feed 0 0 Q 73 [some (va_rf (some o)), some (.int a), some (.int b), some (.int c), some (.int d), some (.int e), some (.int k), some (.int v), some (.int (s + Int32.ofInt (-8)))] [] ρ 0 0) →
        Gm l D m_M_feed 0 0 Q 73 [some (va_rf (some o)), some (.int a), some (.int b), some (.int c), some (.int d), some (.int e), some (.int k), some (.int v), some (.int s)] [] τ 0 0 := by
      intro τ ys k s v t1 f1 hl hs kk
      have hM := f1.mL hM
      obtain ⟨u1, u2, u3⟩ := t1
      refine r_iload rfl rfl ?_
      refine r_if_lt rfl (fun w => absurd w hs) (fun _ => ?_)
      refine r_aload_n rfl rfl ?_
      refine r_mg (j := 0) hM rfl rfl (by decide) ?_
      refine r_aload_n rfl rfl ?_
      (first | refine r_getIv rfl hM.1 rfl (by assumption) ?_ | refine r_getI rfl hM.1 rfl ?_)
      refine r_iload rfl rfl ?_
      refine r_iload rfl rfl ?_
      refine r_ishr rfl ?_
      refine r_i2b (v := b8 (v >>> (s &&& 31))) rfl rfl ?_
      refine r_mbs (j := 0) hM rfl rfl (by decide) rfl (show _ < 600 by omega) (b8_nar _) (b8_fit _) ?_
      refine r_aload_n rfl rfl ?_
      refine r_dup rfl (by first | rfl | exact rf_cat _) ?_
      (first | refine r_getIv rfl hM.1 rfl (by assumption) ?_ | refine r_getI rfl hM.1 rfl ?_)
      refine r_iconst (v := nI 1) rfl (by decide) ?_
      (first | refine r_iaddN rfl ?_ | refine r_iadd rfl ?_)
      refine r_putI rfl hM.1 rfl (Or.inl rfl) (by first | rfl | decide) (by first | rfl | decide) ?_
      refine r_iinc rfl rfl rfl ?_
      refine r_goto rfl ?_
      refine kk _ ⟨?_, by simp; omega, fun i hi => ?_⟩ ((f1.tr (MFr.X _ _ (by decide))).tr (MFr.I _ _ (by decide)))
      · rw [hI_w, List.length_append]
        rfl
      · rw [hX_wI, hX_w]
        simp only [List.length_append, List.length_cons, List.length_nil] at hi
        by_cases w : i = ys.length
        · rw [w, upd_s]
          simp [List.getD_eq_getElem?_getD]
        · rw [upd_n _ _ w, u3 i (by omega), getD_app (by omega)]
    have four : ∀ (τ : Hp) (ys : List Int32) (k v : Int32), Tp τ o ys → MFr [0] [705] σ τ o → ys.length + 4 ≤ 600 → (∀ ρ z, Tp ρ o (ys ++ bt4 v) → MFr [0] [705] σ ρ o → Gm l D m_M_feed 0 0 Q 109 [some (va_rf (some o)), some (.int a), some (.int b), some (.int c), some (.int d), some (.int e), some (.int k), some (.int v), z] [] ρ 0 0) → ∀ z1 z2,
        Gm l D m_M_feed 0 0 Q 67 [some (va_rf (some o)), some (.int a), some (.int b), some (.int c), some (.int d), some (.int e), some (.int k), z1, z2] [.int v] τ 0 0 := by
      intro τ ys k v t1 f1 hl kk z1 z2
      refine r_istore rfl (by decide) ?_
      refine r_bipush (v := nI 24) rfl (by decide) ?_
      refine r_istore rfl (by decide) ?_
      refine one τ ys k (nI 24) v t1 f1 (by omega) (by decide) (fun ρ1 t2 f2 => ?_)
      refine one ρ1 _ k (nI 16) v t2 f2 (by simp; omega) (by decide) (fun ρ2 t3 f3 => ?_)
      refine one ρ2 _ k (nI 8) v t3 f3 (by simp; omega) (by decide) (fun ρ3 t4 f4 => ?_)
      refine one ρ3 _ k (nI 0) v t4 f4 (by simp; omega) (by decide) (fun ρ4 t5 f5 => ?_)
      have hM := f5.mL hM
      refine r_iload rfl rfl ?_
      refine r_if_lt rfl (fun _ => ?_) (fun w => absurd (by decide) w)
      refine kk ρ4 _ ?_ f5
      unfold bt4
      simpa using t5
    refine r_iconst (v := nI 0) rfl (by decide) ?_
    refine r_istore rfl (by decide) ?_
    -- a
    refine r_iload rfl rfl ?_
    refine r_iconst (v := nI 5) rfl (by decide) ?_
    refine r_geN rfl (by omega) (by omega) (fun w => by omega) (fun _ => ?_)
    refine r_iload rfl rfl ?_
    refine r_if_ne rfl (fun w => absurd rfl w) (fun _ => ?_)
    refine r_iload_n rfl rfl ?_
    refine r_goto rfl ?_
    refine four σ xs (nI 0) a h (MFr.rf _ _ _ _) (by omega) (fun ρ1 z t1 f1 => ?_) _ _
    refine r_iinc rfl rfl (nI_inc _) ?_
    refine r_goto rfl ?_
    -- b
    refine r_iload rfl rfl ?_
    refine r_iconst (v := nI 5) rfl (by decide) ?_
    refine r_geN rfl (by omega) (by omega) (fun w => by omega) (fun _ => ?_)
    refine r_iload rfl rfl ?_
    refine r_if_ne rfl (fun _ => ?_) (fun w => absurd w (by decide))
    refine r_iload rfl rfl ?_
    refine r_iconst (v := nI 1) rfl (by decide) ?_
    refine r_neN rfl (by omega) (by omega) (fun w => by omega) (fun _ => ?_)
    refine r_iload_n rfl rfl ?_
    refine r_goto rfl ?_
    refine four ρ1 _ (nI 1) b t1 f1 (by simp [bt4]; omega) (fun ρ2 z t2 f2 => ?_) _ _
    refine r_iinc rfl rfl (nI_inc _) ?_
    refine r_goto rfl ?_
    -- c
    refine r_iload rfl rfl ?_
    refine r_iconst (v := nI 5) rfl (by decide) ?_
    refine r_geN rfl (by omega) (by omega) (fun w => by omega) (fun _ => ?_)
    refine r_iload rfl rfl ?_
    refine r_if_ne rfl (fun _ => ?_) (fun w => absurd w (by decide))
    refine r_iload rfl rfl ?_
    refine r_iconst (v := nI 1) rfl (by decide) ?_
    refine r_neN rfl (by omega) (by omega) (fun _ => ?_) (fun w => by omega)
    refine r_iload rfl rfl ?_
    refine r_iconst (v := nI 2) rfl (by decide) ?_
    refine r_neN rfl (by omega) (by omega) (fun w => by omega) (fun _ => ?_)
    refine r_iload_n rfl rfl ?_
    refine r_goto rfl ?_
    refine four ρ2 _ (nI 2) c t2 f2 (by simp [bt4]; omega) (fun ρ3 z t3 f3 => ?_) _ _
    refine r_iinc rfl rfl (nI_inc _) ?_
    refine r_goto rfl ?_
    -- d
    refine r_iload rfl rfl ?_
    refine r_iconst (v := nI 5) rfl (by decide) ?_
    refine r_geN rfl (by omega) (by omega) (fun w => by omega) (fun _ => ?_)
    refine r_iload rfl rfl ?_
    refine r_if_ne rfl (fun _ => ?_) (fun w => absurd w (by decide))
    refine r_iload rfl rfl ?_
    refine r_iconst (v := nI 1) rfl (by decide) ?_
    refine r_neN rfl (by omega) (by omega) (fun _ => ?_) (fun w => by omega)
    refine r_iload rfl rfl ?_
    refine r_iconst (v := nI 2) rfl (by decide) ?_
    refine r_neN rfl (by omega) (by omega) (fun _ => ?_) (fun w => by omega)
    refine r_iload rfl rfl ?_
    refine r_iconst (v := nI 3) rfl (by decide) ?_
    refine r_neN rfl (by omega) (by omega) (fun w => by omega) (fun _ => ?_)
    refine r_iload rfl rfl ?_
    refine r_goto rfl ?_
    refine four ρ3 _ (nI 3) d t3 f3 (by simp [bt4]; omega) (fun ρ4 z t4 f4 => ?_) _ _
    refine r_iinc rfl rfl (nI_inc _) ?_
    refine r_goto rfl ?_
    -- e
    refine r_iload rfl rfl ?_
    refine r_iconst (v := nI 5) rfl (by decide) ?_
    refine r_geN rfl (by omega) (by omega) (fun w => by omega) (fun _ => ?_)
    refine r_iload rfl rfl ?_
    refine r_if_ne rfl (fun _ => ?_) (fun w => absurd w (by decide))
    refine r_iload rfl rfl ?_
    refine r_iconst (v := nI 1) rfl (by decide) ?_
    refine r_neN rfl (by omega) (by omega) (fun _ => ?_) (fun w => by omega)
    refine r_iload rfl rfl ?_
    refine r_iconst (v := nI 2) rfl (by decide) ?_
    refine r_neN rfl (by omega) (by omega) (fun _ => ?_) (fun w => by omega)
    refine r_iload rfl rfl ?_
    refine r_iconst (v := nI 3) rfl (by decide) ?_
    refine r_neN rfl (by omega) (by omega) (fun _ => ?_) (fun w => by omega)
    refine r_iload rfl rfl ?_
    refine four ρ4 _ (nI 4) e t4 f4 (by simp [bt4]; omega) (fun ρ5 z t5 f5 => ?_) _ _
    refine r_iinc rfl rfl (nI_inc _) ?_
    refine r_goto rfl ?_
    refine r_iload rfl rfl ?_
    refine r_iconst (v := nI 5) rfl (by decide) ?_
    refine r_geN rfl (by omega) (by omega) (fun _ => ?_) (fun w => by omega)
    have hM := f5.mL hM
    have hlen := t5.1
    refine r_aload_n rfl rfl ?_
    refine r_getIv rfl hM.1 rfl hlen ?_
    refine r_iret rfl rfl ?_
    rw [← hQ]
    refine Or.inr ⟨q, ?_, by simpa using t5, f5⟩
    simp [bt4, Nat.add_assoc]
  · refine r_bipush (v := -3) rfl (by decide) ?_
    refine r_iret rfl rfl ?_
    rw [← hQ]
    exact Or.inl ⟨q, rfl, rfl⟩
end MC
