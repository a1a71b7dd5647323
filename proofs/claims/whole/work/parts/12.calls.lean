/-! ===== new cells, calls, ends ===== -/
theorem fTy_ok {ci : Nat} (h : ci < 12) : ∀ {j : Nat}, j < fN ci → defaultValue (fTy ci j) = if fPrim (fTy ci j) = true then .int 0 else .null := by
  have : ∀ j, j < fN ci → defaultValue (fTy ci j) = if fPrim (fTy ci j) = true then .int 0 else .null := by
    match ci, h with
    | 0, _ => decide +kernel
    | 1, _ => decide +kernel
    | 2, _ => decide +kernel
    | 3, _ => decide +kernel
    | 4, _ => decide +kernel
    | 5, _ => decide +kernel
    | 6, _ => decide +kernel
    | 7, _ => decide +kernel
    | 8, _ => decide +kernel
    | 9, _ => decide +kernel
    | 10, _ => decide +kernel
    | 11, _ => decide +kernel
  exact fun {j} hj => this j hj
section CL
variable {l : Launch} {D : DD} {R : Room} {Z : List Frame → Array Value → State → State → Prop} {y pc n x kc ks : Nat} {ls : List (Option Value)} {st : List Value} {σ : Hp}
theorem f_key {i : Instr} {k : Nat} {b : Bool} (hf : ft y pc = some (i, n, x)) (h : okI (mCls y) pc i n x = (n == pc + 3 && decide (k < 1024) && b)) : n = pc + 3 ∧ decode (mCode y) pc = .ok (i, 3) ∧ k < 1024 ∧ b = true := by
  obtain ⟨hd, hn⟩ := ft_ok hf
  rw [h] at hn
  obtain ⟨hn, hb⟩ := okn hn
  obtain ⟨hn, hk⟩ := okn hn
  have hn : n = pc + 3 := by simpa using hn
  subst hn
  rw [Nat.add_sub_cancel_left] at hd
  exact ⟨rfl, hd, of_decide_eq_true hk, hb⟩
theorem w_link {p : Program} {s : State} {m : MethodId} {args : Array Value} {meth : Method} {c : Code} {k z : Nat} (hC : Cx y p s m args meth c) (hk : k < 1024) (h : mLk.contains (mCls y * 1024 + k, z) = true) : (Cond.methodLink (cnm (mCls y)) k (mnm z)).before args s = true := by
  have h2 := hC.2.2.2.2.1 _ (mLk_in h)
  unfold mLkW at h2
  simp only [(cnm_div (c := mCls y) hk).1, (cnm_div (c := mCls y) hk).2] at h2
  exact h2
theorem r_new {k ci : Nat} (hf : ft y pc = some (.new k, n, ci)) (kk : h_K σ (h_z σ) = 0 → G l D R Z y n ls (va_rf (some (h_z σ)) :: st) (n_O σ (ci + 1)) kc ks) : G l D R Z y pc ls st σ (kc + 1) (ks + fN ci) := by
  intro p e s m args below meth c H locs cells slots la hC h2 h3 h4 h5 h6 h7
  obtain ⟨hn, hd, hk, hb⟩ := f_key (k := k) hf rfl
  subst hn
  obtain ⟨hw, hci⟩ := cLk_in hb
  have hlink := hC.2.2.2.2.1 _ hw
  unfold cLkW at hlink
  simp only [(cnm_div (c := mCls y) hk).1, (cnm_div (c := mCls y) hk).2] at hlink
  have hci : ci < 12 := hci
  obtain ⟨w1, w2⟩ := inst_in hci
  have hKn := h2.1 ci hci
  refine W.newcK hC.1 hC.2.1 hC.2.2.2.1 hlink (hC.2.2.2.2.1 _ w1) (hC.2.2.2.2.1 _ w2) rfl hd (by omega) (by omega) hKn.2.1 h3.1 (fun H1 kC hkC e1 z1 o1 => ?_)
  have hb2 := u_born (o := h_z σ) (fTy ci) hC.2.2.2.2.1 (vw_in hci) hKn hkC e1 (vw_ty hci)
  rw [← h3.1] at z1 o1 hb2
  refine kk h3.z0 p e s m args below meth c H1 locs (cells + 1) (slots + fN ci) la hC h2 (h3.newO hci z1 o1 (hb2.to (fun j hj => fTy_ok hci hj))) h4 (by omega) (by omega) h7
theorem r_newa {t m' : Nat} {i : Int32} {at' : ArrayType} (hf : ft y pc = some (.newarray at', n, t)) (hi : i = nI m') (hm : m' < 2 ^ 20) (kk : h_K σ (h_z σ) = 0 → G l D R Z y n ls (va_rf (some (h_z σ)) :: st) (n_A σ t m') kc ks) : G l D R Z y pc ls (.int i :: st) σ (kc + 1) (ks + m') := by
  intro p e s m args below meth c H locs cells slots la hC h2 h3 h4 h5 h6 h7
  obtain ⟨hd, hn⟩ := ft_ok hf
  have hn : (n == pc + 2 && _) = true := hn
  obtain ⟨hn, hb⟩ := okn hn
  have hn : n = pc + 2 := by simpa using hn
  subst hn
  rw [Nat.add_sub_cancel_left] at hd
  subst hi
  have hneg : ¬ nI m' < 0 := nI_pos (by omega)
  have hcl : (nI m').toNatClampNeg = m' := nI_clamp (by omega)
  obtain ⟨a1, a2, a3⟩ := arr_in
  have key : ∀ (ty : FieldType), newarray.typeOf at' = ty → aTy t = some ty → Cond.arrayClass ty ∈ TB → (20 ≤ t ∧ t < 23) → defaultValue ty = .int 0 → componentBytes ty ≤ 8 → (∀ cA : ClassId, s.vm.findClass ("[" ++ ty.toString) = some cA → va_RA s (d_A D t) ty → cA = d_A D t) → W p l e R s m args below meth c H locs cells slots (Z below args s) (F0 m pc la (.int (nI m') :: st)) := by
    intro ty hty hat hin ht hdv hcb hun
    subst hty
    have hby : m' * componentBytes (newarray.typeOf at') ≤ 536870912 := Nat.le_trans (Nat.mul_le_mul (Nat.le_of_lt hm) hcb) (by omega)
    refine va_newaK hC.1 hC.2.1 (hC.2.2.2.2.1 _ hin) rfl hd rfl hneg hcl hby (by omega) (by omega) h3.1 (fun H1 cA e1 z1 o1 hAr hNm => ?_)
    have hcA := hun cA hNm (h2.2.1 t _ hat).2
    subst hcA
    rw [hdv] at e1
    rw [← h3.1] at z1 o1 e1
    exact kk h3.z0 p e s m args below meth c H1 locs (cells + 1) (slots + m') la hC h2 (h3.newA (Or.inl ht) z1 o1 (by rw [e1, if_pos ht.2])) h4 (by omega) (by omega) h7
  cases at' <;> first
    | (cases hb; done)
    | (have hb : t = 20 := by simpa using hb
       subst hb
       exact key .byte rfl rfl a1 (by omega) rfl (by decide) (fun cA h1 h2 => Option.some.inj (h1.symm.trans h2)))
    | (have hb : t = 21 := by simpa using hb
       subst hb
       exact key .int rfl rfl a2 (by omega) rfl (by decide) (fun cA h1 h2 => Option.some.inj (h1.symm.trans h2)))
    | (have hb : t = 22 := by simpa using hb
       subst hb
       exact key .boolean rfl rfl a3 (by omega) rfl (by decide) (fun cA h1 h2 => Option.some.inj (h1.symm.trans h2)))
theorem r_anew {t m' k : Nat} {i : Int32} (hf : ft y pc = some (.anewarray k, n, 30 + t)) (ht : t < 6) (hi : i = nI m') (hm : m' < 2 ^ 20) (kk : h_K σ (h_z σ) = 0 → G l D R Z y n ls (va_rf (some (h_z σ)) :: st) (n_A σ (30 + t) m') kc ks) : G l D R Z y pc ls (.int i :: st) σ (kc + 1) (ks + m') := by
  intro p e s m args below meth c H locs cells slots la hC h2 h3 h4 h5 h6 h7
  obtain ⟨hn, hd, hk, hb⟩ := f_key (k := k) hf rfl
  subst hn
  have hb2 : cLk.contains (mCls y * 1024 + k, aCl t) = true := by
    match t, ht with
    | 0, _ => simpa [aCl] using hb
    | 1, _ => simpa [aCl] using hb
    | 2, _ => simpa [aCl] using hb
    | 3, _ => simpa [aCl] using hb
    | 4, _ => simpa [aCl] using hb
    | 5, _ => simpa [aCl] using hb
  obtain ⟨hw, hci⟩ := cLk_in hb2
  have hlink := hC.2.2.2.2.1 _ hw
  unfold cLkW at hlink
  simp only [(cnm_div (c := mCls y) hk).1, (cnm_div (c := mCls y) hk).2] at hlink
  obtain ⟨hA, hA2⟩ := aCl_ty ht
  have hT := h2.2.1 (30 + t) _ hA
  have hover := h2.2.2.2.2.2.2.2.2 _ (over_in ht)
  subst hi
  have hneg : ¬ nI m' < 0 := nI_pos (by omega)
  have hcl : (nI m').toNatClampNeg = m' := nI_clamp (by omega)
  refine W.anew hC.1 hC.2.1 hC.2.2.2.1 hlink (va_AO.use hover) rfl hd rfl hneg (by omega) (by omega) (by omega) (fun cA kA comp f1 f2 f3 f4 => ?_)
  rw [hcl]
  obtain ⟨kA', comp', k1, k2, k3, k4⟩ := hT.2
  have hcA : cA = d_A D (30 + t) := Option.some.inj (f1.symm.trans k4)
  subst hcA
  generalize hH1 : H.push ({ cls := d_A D (30 + t), slots := Array.replicate m' .null, vm := .none } : Cell) = H1
  have z1 : H1.size = H.size + 1 := by rw [← hH1, Array.size_push]
  have e1 : H1[H.size]? = some (arrV (d_A D (30 + t)) m' (fun _ => .null)) := by rw [← hH1, Array.getElem?_push_size, ← arrV_new]
  have o1 : ∀ q, q < H.size → H1[q]? = H[q]? := fun q hq => by rw [← hH1, Array.getElem?_push, if_neg (Nat.ne_of_lt hq)]
  rw [h3.1]
  exact kk h3.z0 p e s m args below meth c H1 locs (cells + 1) (slots + m') la hC h2 (h3.newA (Or.inr ⟨by omega, by omega⟩) z1 o1 (by rw [e1, if_neg (by omega)])) h4 (by omega) (by omega) h7
theorem r_objInit {k a : Nat} (hf : ft y pc = some (.invokespecial k, n, 900)) (hl : st.length ≤ 4) (hR : 1 ≤ R.frames ∧ 20 ≤ R.locals) (kk : G l D R Z y n ls st σ kc ks) : G l D R Z y pc ls (va_rf (some a) :: st) σ kc ks := by
  intro p e s m args below meth c H locs cells slots la hC h2 h3 h4 h5 h6 h7
  obtain ⟨hn, hd, hk, hb⟩ := f_key (k := k) hf rfl
  subst hn
  have hb2 : mLk.contains (mCls y * 1024 + k, 900) = true := by
    rcases Bool.or_eq_true _ _ ▸ hb with g | g
    · exact g
    · simp [nLk] at g
  have hlink := w_link hC hk hb2
  obtain ⟨w1, w2⟩ := obj_in
  have hsum : (st.map fun v => v.category).sum ≤ 8 := by
    have : ∀ (L : List Value), (L.map fun v => v.category).sum ≤ 2 * L.length := by
      intro L
      induction L with
      | nil => simp
      | cons v L ih =>
        have := lv_cat v
        simp only [List.map_cons, List.sum_cons, List.length_cons]
        omega
    have := this st
    omega
  exact W.objInit hC.1 hC.2.1 hC.2.2.2.1 hlink (hC.2.2.2.2.1 _ w1) (hC.2.2.2.2.1 _ w2) rfl (h7.1.trans hC.2.2.1.symm) rfl hd hR.1 (by show 2 * 0 + _ + 12 ≤ _; omega) (kk p e s m args below meth c H locs cells slots la hC h2 h3 h4 h5 h6 h7)
end CL
