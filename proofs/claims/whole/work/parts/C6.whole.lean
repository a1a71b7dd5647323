/-! ===== the world at the law's entry ===== -/
section WS
variable {args : Array Value} {s : State}
theorem row_p {ty : FieldType} (h : (Cond.arrayClass ty).before args s = true) : ∃ cA : ClassId, ArrOfT s cA ty ∧ s.vm.findClass ("[" ++ ty.toString) = some cA := by
  obtain ⟨cA, kA, comp, h1, h2, h3⟩ := Cond.arrayClass_spec h
  exact ⟨cA, fun n z => ⟨fun k h => (by cases h), kA, h2, comp, h3⟩, h1⟩
theorem row_q {C : String} (h : (Cond.arrayOver (.object C)).before args s = true) : ∃ cA : ClassId, ArrOfT s cA (.object C) ∧ va_RA s cA (.object C) := by
  obtain ⟨comp, cA, kA, f4, -, f2, f3, f1⟩ := Cond.arrayOver_spec h
  exact ⟨cA, fun N z => ⟨(fun k h => by cases h), kA, f2, comp, f3⟩, kA, comp, f2, f3, f4, f1⟩
theorem rows_at (hts : ∀ w ∈ lw_tbl, w.before args s = true) (t : Nat) : ∃ cA : ClassId, ∀ ty, aTy t = some ty → ArrOfT s cA ty ∧ va_RA s cA ty := by
  unfold aTy
  split
  · obtain ⟨cA, a, b⟩ := row_p (hts (.arrayClass .byte) (by decide +kernel))
    exact ⟨cA, fun ty e => by cases e; exact ⟨a, b⟩⟩
  · obtain ⟨cA, a, b⟩ := row_p (hts (.arrayClass .int) (by decide +kernel))
    exact ⟨cA, fun ty e => by cases e; exact ⟨a, b⟩⟩
  · obtain ⟨cA, a, b⟩ := row_p (hts (.arrayClass .boolean) (by decide +kernel))
    exact ⟨cA, fun ty e => by cases e; exact ⟨a, b⟩⟩
  · obtain ⟨cA, a, b⟩ := row_q (hts (.arrayOver (.object RX0)) (by decide +kernel))
    exact ⟨cA, fun ty e => by cases e; exact ⟨a, b⟩⟩
  · obtain ⟨cA, a, b⟩ := row_q (hts (.arrayOver (.object RX1)) (by decide +kernel))
    exact ⟨cA, fun ty e => by cases e; exact ⟨a, b⟩⟩
  · obtain ⟨cA, a, b⟩ := row_q (hts (.arrayOver (.object RX2)) (by decide +kernel))
    exact ⟨cA, fun ty e => by cases e; exact ⟨a, b⟩⟩
  · obtain ⟨cA, a, b⟩ := row_q (hts (.arrayOver (.object RX3)) (by decide +kernel))
    exact ⟨cA, fun ty e => by cases e; exact ⟨a, b⟩⟩
  · obtain ⟨cA, a, b⟩ := row_q (hts (.arrayOver (.object RX4)) (by decide +kernel))
    exact ⟨cA, fun ty e => by cases e; exact ⟨a, b⟩⟩
  · obtain ⟨cA, a, b⟩ := row_q (hts (.arrayOver (.object RX8)) (by decide +kernel))
    exact ⟨cA, fun ty e => by cases e; exact ⟨a, b⟩⟩
  · exact ⟨0, fun ty e => by cases e⟩
theorem TB_in {w : Cond} (h : w ∈ TB) : w ∈ lw_tbl := (List.mem_filter.mp h).1
theorem inst_at : ∀ ci, ci < 12 → Cond.instantiable (cnm ci) (fN ci) ∈ lw_tbl := by decide +kernel
theorem cls_at (hts : ∀ w ∈ lw_tbl, w.before args s = true) (ci : Nat) : ∃ q : ClassId × (Nat → Nat), ci < 12 → u_Kn s (cnm ci) (fT ci) (fN ci) q.1 q.2 := by
  by_cases h : ci < 12
  · obtain ⟨cC, iS, hk⟩ := u_known (C := cnm ci) (T := fT ci) (N := fN ci) (n := fN ci) hts (fun w hw => TB_in (vw_in h w hw)) (hts _ (inst_at ci h))
    exact ⟨(cC, iS), fun _ => hk⟩
  · exact ⟨(0, fun _ => 0), fun w => absurd w h⟩
theorem texts_at (hgv : (Jvm.Cond.and given_1 narrow_1).before args s = true) (hts : ∀ w ∈ lw_tbl, w.before args s = true) : ∃ adK adV : Nat → Nat, vk_S 3 [3, 3, 3] txB adK adV (fun q => s.heap.size ≤ q) s s.heap ∧ ∀ i q, txI[i]? = some q → vk_R RX5 q.1 q.2 (adK i) s := by
  have hs := flat_of_before _ hgv
  obtain ⟨adK, adV, h1, h2⟩ := vk_Sof (args := args) (s := s) (N := 3) (tm := fun i => Term.string RX5 (txI.getD i (0, "")).1) (len := [3, 3, 3]) (byt := txB) (A := fun q => s.heap.size ≤ q)
    (fun i hi => by
      match i, hi with
      | 0, _ => decide
      | 1, _ => decide
      | 2, _ => decide)
    (fun i hi => by
      match i, hi with
      | 0, _ => exact hs _ (by decide +kernel)
      | 1, _ => exact hs _ (by decide +kernel)
      | 2, _ => exact hs _ (by decide +kernel))
    (fun i hi => by
      match i, hi with
      | 0, _ => exact hs _ (by decide +kernel)
      | 1, _ => exact hs _ (by decide +kernel)
      | 2, _ => exact hs _ (by decide +kernel))
    (fun i hi => by
      match i, hi with
      | 0, _ => exact hs _ (by decide +kernel)
      | 1, _ => exact hs _ (by decide +kernel)
      | 2, _ => exact hs _ (by decide +kernel))
    (fun i hi => by
      match i, hi with
      | 0, _ => exact hs _ (by decide +kernel)
      | 1, _ => exact hs _ (by decide +kernel)
      | 2, _ => exact hs _ (by decide +kernel))
    (fun i hi j hj => by
      match i, hi with
      | 0, _ =>
        match j, hj with
        | 0, _ => exact hs _ (by decide +kernel)
        | 1, _ => exact hs _ (by decide +kernel)
        | 2, _ => exact hs _ (by decide +kernel)
      | 1, _ =>
        match j, hj with
        | 0, _ => exact hs _ (by decide +kernel)
        | 1, _ => exact hs _ (by decide +kernel)
        | 2, _ => exact hs _ (by decide +kernel)
      | 2, _ =>
        match j, hj with
        | 0, _ => exact hs _ (by decide +kernel)
        | 1, _ => exact hs _ (by decide +kernel)
        | 2, _ => exact hs _ (by decide +kernel))
    (fun i j hi hj hne => by
      match i, hi with
      | 0, _ =>
        match j, hj with
        | 0, _ => exact absurd rfl hne
        | 1, _ => exact Or.inl (hs _ (by decide +kernel))
        | 2, _ => exact Or.inl (hs _ (by decide +kernel))
      | 1, _ =>
        match j, hj with
        | 0, _ => exact Or.inr (hs _ (by decide +kernel))
        | 1, _ => exact absurd rfl hne
        | 2, _ => exact Or.inl (hs _ (by decide +kernel))
      | 2, _ =>
        match j, hj with
        | 0, _ => exact Or.inr (hs _ (by decide +kernel))
        | 1, _ => exact Or.inr (hs _ (by decide +kernel))
        | 2, _ => exact absurd rfl hne)
    (fun a ha => Nat.not_le.mpr ha)
  refine ⟨adK, adV, h1, fun i q hq => ?_⟩
  match i, hq with
  | 0, hq => cases hq; exact vk_R.of (hts _ (by decide +kernel)) (h2 0 (by decide))
  | 1, hq => cases hq; exact vk_R.of (hts _ (by decide +kernel)) (h2 1 (by decide))
  | 2, hq => cases hq; exact vk_R.of (hts _ (by decide +kernel)) (h2 2 (by decide))
  | i + 3, hq => simp [txI] at hq
end WS
