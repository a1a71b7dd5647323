/-! ===== constants, the script, System.arraycopy ===== -/
theorem cst_in : Cond.constant RX11 108 57600 ∈ TB := by decide +kernel
section SP
variable {l : Launch} {D : DD} {R : Room} {Z : List Frame → Array Value → State → State → Prop} {y pc n x kc ks : Nat} {ls : List (Option Value)} {st stk : List Value} {σ : Hp}
theorem r_ldc (hf : ft y pc = some (.ldc 108, n, 57600)) (hy : mCls y = 11) (kk : G l D R Z y n ls (.int 57600 :: st) σ kc ks) : G l D R Z y pc ls st σ kc ks := by
  intro p e s m args below meth c H locs cells slots la hC h2 h3 h4 h5 h6 h7
  obtain ⟨hd, hn⟩ := ft_ok hf
  have hn : (n == pc + 2 && _) = true := hn
  have hn : n = pc + 2 := by simpa using (okn hn).1
  subst hn
  rw [Nat.add_sub_cancel_left] at hd
  have hown : s.vm.findClass RX11 = some m.cls := by have := hC.2.2.2.1; rw [hy] at this; exact this
  exact lv_ldc hC.1 hC.2.1 hown (hC.2.2.2.2.1 _ cst_in) hd (kk p e s m args below meth c H locs cells slots la hC h2 h3 h4 h5 h6 h7)
theorem r_ldcS {k i : Nat} {t : String} (hf : ft y pc = some (.ldc k, n, i)) (hy : mCls y = 5) (ht : txI[i]? = some (k, t)) (kk : G l D R Z y n ls (va_rf (some (d_t D i)) :: st) σ kc ks) : G l D R Z y pc ls st σ kc ks := by
  intro p e s m args below meth c H locs cells slots la hC h2 h3 h4 h5 h6 h7
  obtain ⟨hd, hn⟩ := ft_ok hf
  have hn : (n == pc + 2 && _) = true := hn
  have hn : n = pc + 2 := by simpa using (okn hn).1
  subst hn
  rw [Nat.add_sub_cancel_left] at hd
  have hown : s.vm.findClass RX5 = some m.cls := by have := hC.2.2.2.1; rw [hy] at this; exact this
  exact va_ldcS hC.1 hC.2.1 hown (h2.2.2.2.2.2.1 i _ ht) hd (kk p e s m args below meth c H locs cells slots la hC h2 h3 h4 h5 h6 h7)
theorem Rp.S {H : Heap} {locs : List Loc} (h : Rp D σ H) (h4 : ∀ q ∈ locs, d_n D ≤ q.base) : va_S (fun q => d_n D ≤ q) (d_H D) H locs := ⟨by rw [h.1]; exact h.2.1, fun q h1 _ => h.2.2.1 q h1, h4⟩
theorem r_sld {j : Nat} {i : Int32} (hf : ft y pc = some (.iaload, n, x)) (hi : i = nI j) (hj : j < d_L D) (hL : d_L D < 2 ^ 31) (kk : G l D R Z y n ls (.int (d_x D j) :: st) σ kc ks) : G l D R Z y pc ls (.int i :: va_rf (some (d_b D)) :: st) σ kc ks := by
  intro p e s m args below meth c H locs cells slots la hC h2 h3 h4 h5 h6 h7
  obtain ⟨hn, hd⟩ := f_1 hf rfl
  subst hn
  obtain ⟨q1, q2⟩ := ix_in hi hj hL
  refine va_sld (A := fun q => d_n D ≤ q) hC.1 hC.2.1 h2.2.2.1 h2.2.2.2.1 (Nat.not_le.mpr h2.2.2.2.1) (h3.S h4) q1 hd ?_
  rw [q2]
  exact kk p e s m args below meth c H locs cells slots la hC h2 h3 h4 h5 h6 h7
theorem r_slen (hf : ft y pc = some (.arraylength, n, x)) (kk : G l D R Z y n ls (.int (nI (d_L D)) :: st) σ kc ks) : G l D R Z y pc ls (va_rf (some (d_b D)) :: st) σ kc ks := by
  intro p e s m args below meth c H locs cells slots la hC h2 h3 h4 h5 h6 h7
  obtain ⟨hn, hd⟩ := f_1 hf rfl
  subst hn
  exact va_slen (A := fun q => d_n D ≤ q) hC.1 hC.2.1 h2.2.2.1 h2.2.2.2.1 (Nat.not_le.mpr h2.2.2.2.1) (h3.S h4) hd (kk p e s m args below meth c H locs cells slots la hC h2 h3 h4 h5 h6 h7)
set_option maxHeartbeats 1000000 in
theorem r_copy {k a d js jd cnt t : Nat} {sp dp nn : Int32} (hf : ft y pc = some (.invokestatic k, n, 901)) (ht : t < 2) (hka : h_K σ a = 20 + t) (hkd : h_K σ d = 20 + t) (hsp : sp = nI js) (hdp : dp = nI jd) (hnn : nn = nI cnt) (h1 : js + cnt ≤ h_L σ a) (h2' : jd + cnt ≤ h_L σ d) (hb1 : h_L σ a < 2 ^ 31) (hb2 : h_L σ d < 2 ^ 31) (hl : st.length ≤ 4) (hR : 1 ≤ R.frames ∧ 68 ≤ R.locals)
    (kk : G l D R Z y n ls st (w_X σ d (va_cpy (h_X σ a) (h_X σ d) js jd cnt)) kc ks) : G l D R Z y pc ls (.int nn :: .int dp :: va_rf (some d) :: .int sp :: va_rf (some a) :: st) σ kc ks := by
  intro p e s m args below meth c H locs cells slots la hC h2 h3 h4 h5 h6 h7
  obtain ⟨hn3, hd, hk1, hb⟩ := f_key (k := k) hf rfl
  subst hn3
  have hb3 : mLk.contains (mCls y * 1024 + k, 901) = true := by
    rcases Bool.or_eq_true _ _ ▸ hb with g | g
    · exact g
    · simp [nLk] at g
  have hlink : (Cond.methodLink (cnm (mCls y)) k arraycopyName).before args s = true := w_link hC hk1 hb3
  obtain ⟨w1, w2, w3⟩ := cpy_in
  subst hsp; subst hdp; subst hnn
  have ca := h3.2.2.2.2.2.1 a t (by omega) hka
  have cd := h3.2.2.2.2.2.1 d t (by omega) hkd
  obtain ⟨ty, hty, hpr, hfit⟩ : ∃ ty, aTy (20 + t) = some ty ∧ refKind ty = false ∧ ∀ j, fits ty (.int (h_X σ a j)) = true := by
    match t, ht, ca with
    | 0, _, ca => exact ⟨.byte, rfl, rfl, fun j => ca.2 rfl j⟩
    | 1, _, ca => exact ⟨.int, rfl, rfl, fun j => rfl⟩
  obtain ⟨-, k0, hk0, cm0, hkk0⟩ := (h2.2.1 (20 + t) ty hty).1 (h_L σ a) (fun j => .int (h_X σ a j))
  have e1 : (nI js).toNatClampNeg = js := nI_clamp (by omega)
  have e2 : (nI jd).toNatClampNeg = jd := nI_clamp (by omega)
  have e3 : (nI cnt).toNatClampNeg = cnt := nI_clamp (by omega)
  have i1 : (nI js).toInt = (js : Int) := nI_toInt (by omega)
  have i2 : (nI jd).toInt = (jd : Int) := nI_toInt (by omega)
  have i3 : (nI cnt).toInt = (cnt : Int) := nI_toInt (by omega)
  intro T hT X
  obtain ⟨vm', X', step⟩ := X.arraycopy hC.1 hC.2.2.2.1 hlink (hC.2.2.2.2.1 _ w1) (hC.2.2.2.2.1 _ w2) (hC.2.2.2.2.1 _ w3) (src := a) (dst := d) (cs := arrV (d_A D (20 + t)) (h_L σ a) (fun j => .int (h_X σ a j))) (cd := arrV (d_A D (20 + t)) (h_L σ d) (fun j => .int (h_X σ d j))) (srcPos := nI js) (destPos := nI jd) (n := nI cnt) (by rw [hT]; exact ca.1) (by rw [hT]; exact cd.1)
    (fun _ h => by cases h) (fun _ h => by cases h) (fun h => by cases h) (fun h => by cases h) hk0 hk0 hkk0 hkk0 (by simp [hpr]) (nI_pos (by omega)) (nI_pos (by omega)) (nI_pos (by omega))
    (by rw [i1, i3, arrV_size]; omega)
    (by rw [i2, i3, arrV_size]; omega)
    (fun vm₁ _ i hi => by
      have e : (arrV (d_A D (20 + t)) (h_L σ a) (fun j => .int (h_X σ a j))).slots.getD ((nI js).toNatClampNeg + i) .null = .int (h_X σ a ((nI js).toNatClampNeg + i)) := by
        rw [Array.getD_eq_getD_getElem?, arrV_read _ _ (by omega)]
        rfl
      refine ⟨?_, ?_⟩
      · rw [e]
        exact hfit _
      · rw [e]
        exact trivial)
    (g := F0 m pc la (.int (nI cnt) :: .int (nI jd) :: .ref d :: .int (nI js) :: .ref a :: st)) rfl (h7.1.trans hC.2.2.1.symm) (rest := st) rfl (by rw [hC.2.1]; exact hd) hR.1 (by
      have h8 := st_sum hl
      have h9 : nativeFrameWords "java/lang/System" "arraycopy" 5 + 11 ≤ 60 := by decide +kernel
      show 2 * 0 + _ + _ ≤ _
      omega)
  have ec : copied (arrV (d_A D (20 + t)) (h_L σ a) (fun j => .int (h_X σ a j))) (arrV (d_A D (20 + t)) (h_L σ d) (fun j => .int (h_X σ d j))) (nI js) (nI jd) (nI cnt) = arrV (d_A D (20 + t)) (h_L σ d) (fun j => .int (va_cpy (h_X σ a) (h_X σ d) js jd cnt j)) := by
    have := va_copied (fun z => Value.int z) (d_A D (20 + t)) (d_A D (20 + t)) (n0 := h_L σ a) (n1 := h_L σ d) (sp := js) (dp := jd) (n := cnt) (h_X σ a) (h_X σ d) h1
    unfold copied
    rw [e1, e2, e3]
    exact this
  rw [ec] at X' step
  have hdl : d < H.size := (Array.getElem?_eq_some_iff.mp cd.1).1
  have hheap : ((T.setVm vm').setCell d (arrV (d_A D (20 + t)) (h_L σ d) (fun j => .int (va_cpy (h_X σ a) (h_X σ d) js jd cnt j)))).heap = H.setIfInBounds d (arrV (d_A D (20 + t)) (h_L σ d) (fun j => .int (va_cpy (h_X σ a) (h_X σ d) js jd cnt j))) := by rw [← hT]; rfl
  obtain ⟨t2, a1, b1⟩ := kk p e s m args below meth c _ _ cells slots la hC h2 (h3.rowX (H' := H.setIfInBounds d (arrV (d_A D (20 + t)) (h_L σ d) (fun j => .int (va_cpy (h_X σ a) (h_X σ d) js jd cnt j)))) hkd (by omega) (by simp) (fun q hq => by simp [Array.getElem?_setIfInBounds, Ne.symm hq]) (by simp [Array.getElem?_setIfInBounds, hdl]) (fun h0 j => by
      unfold va_cpy
      split
      · exact ca.2 h0 _
      · exact cd.2 h0 _)) (fun q hq => by
      rcases List.mem_append.mp hq with g | g
      · exact h4 q g
      · obtain ⟨z, -, hz⟩ := List.mem_map.mp g
        rw [← hz]
        exact (h3.2.2.2.1 d (by omega)).1) h5 h6 h7 _ hheap X'
  exact ⟨t2, step t2 a1, b1⟩
end SP
