/-! ===== calls of methods with a contract ===== -/
theorem st_sum {st : List Value} (h : st.length ≤ 4) : (st.map fun v => v.category).sum ≤ 8 := by
  have : ∀ (L : List Value), (L.map fun v => v.category).sum ≤ 2 * L.length := by
    intro L
    induction L with
    | nil => simp
    | cons v L ih =>
      have := lv_cat v
      simp only [List.map_cons, List.sum_cons, List.length_cons]
      omega
  have := this st
  omega
theorem PcY_blind (D : DD) (as : List Value) (σ : Hp) : FrameBlind (PcY D as σ) := by
  intro a U g mk h
  exact ⟨h.1, h.2.1, KK.same (u := U) (U := U.calling g mk a) rfl h.2.2⟩
section CL
variable {l : Launch} {D : DD} {R : Room} {Z : List Frame → Array Value → State → State → Prop} {y pc n x kc ks : Nat} {ls : List (Option Value)} {st stk : List Value} {σ : Hp}
theorem wsY_good {z : Nat} (hz : z < 193) {args : Array Value} {s : State} (hts : ∀ w ∈ TB, w.before args s = true) : ∀ w ∈ wsY z, ∀ (a' : Array Value) (U : State), s.WarmedH U.vm → w.before a' U = true := by
  intro w hw a' U hW
  have hin : w ∈ TB := by
    rcases List.mem_cons.mp hw with h | h
    · rw [h]
      exact (mOK hz).1 _ (by unfold mWords; exact List.mem_cons_self)
    · exact h
  exact word_at hW (good_of_word (List.mem_filter.mp hin).2) (hts w hin)
theorem c_B {p : Program} {s : State} {m : MethodId} {args : Array Value} {meth : Method} {c : Code} {z k mc ms : Nat} (hC : Cx y p s m args meth c) (hz : z < 193) (hk : k < 1024) (hl : mLk.contains (mCls y * 1024 + k, z) = true) (hR : mFr z + 1 ≤ R.frames ∧ 8 + (mLoc z + 11) + mLw z ≤ R.locals) :
    CallB R s args (cnm (mCls y)) k (mName z) (mCode z) (mLoc z) (mRet z) (wsY z) (rmY z mc ms) mc ms (mNa z) := by
  obtain ⟨o1, o2, o3, o4, o5, o6⟩ := mOK hz
  have hcd : Cond.code (mName z) (mCode z) (mLoc z) (mRet z) ∈ TB := o1 _ (by unfold mWords; exact List.mem_cons_self)
  have hin : Cond.initialized (mName z).cls ∈ TB := o1 _ (by unfold mWords; exact List.mem_cons_of_mem _ List.mem_cons_self)
  refine ⟨rfl, rfl, hR.1, hR.2, wsY_good hz hC.2.2.2.2.1, List.mem_cons_self, hC.2.2.2.2.1 _ hcd, hC.2.2.2.2.1 _ hin, o3, fun sig h => ?_, ?_⟩
  · rw [h] at o4
    exact (Option.some.inj o4).symm
  · have h2 := w_link hC hk hl
    unfold mnm at h2
    rw [if_neg (by omega), if_neg (by omega), if_neg (by omega)] at h2
    exact h2
/-- behind a call's run -/
theorem c_go {p : Program} {e : Env} {s : State} {m : MethodId} {args : Array Value} {below : List Frame} {meth : Method} {c : Code} {H : Heap} {locs : List Loc} {cells slots mc ms kc' ks' : Nat} {la : Array Slot} {as : Array Value} {Q' : Option Value → Hp → Prop}
    (hC : Cx y p s m args meth c) (h2 : KK D s) (h4 : ∀ q ∈ locs, d_n D ≤ q.base) (h5 : cells + kc ≤ R.cells) (h6 : slots + ks ≤ R.slots) (h7 : Lv la ls (mLoc y)) (hkc : kc' + mc ≤ kc) (hks : ks' + ms ≤ ks)
    (run : va_Run p l e R s m args below meth c H locs cells slots mc ms (F0 m pc la stk) st (QcY D Q' as) (fun q => d_n D ≤ q)) (kk : ∀ r τ, Q' r τ → G l D R Z y (pc + 3) ls (r.toList ++ st) τ kc' ks') :
    W p l e R s m args below meth c H locs cells slots (Z below args s) (F0 m pc la stk) := by
  intro T hT X
  obtain ⟨v, st0, t, T', L, e0, X', hL, e1, e2, ⟨r, τ, ho, hQ, hRp⟩, go⟩ := run T hT X
  have hv : v = r := Outcome.returned.inj ho
  subst hv
  obtain ⟨t2, a1, b1⟩ := kk v τ hQ p e s m args below meth c t.heap (locs ++ L) (cells + mc) (slots + ms) la hC h2 hRp (fun q hq => by
    rcases List.mem_append.mp hq with g | g
    · exact h4 q g
    · exact hL q g) (by omega) (by omega) h7 T' e1 X'
  exact ⟨t2, go t2 a1, b1⟩
theorem r_callV {k z mc ms a kc' ks' : Nat} {As : List Value} {Q' : Option Value → Hp → Prop} (hf : ft y pc = some (.invokevirtual k, n, z)) (hz : z < 193) (hkd : mKd z = 0) (hk : h_K σ a = mCls z + 1) (hn : As.length = mNa z) (hst : stk = As.reverse ++ va_rf (some a) :: st) (hl : st.length ≤ 4) (hR : mFr z + 1 ≤ R.frames ∧ 8 + (mLoc z + 11) + mLw z ≤ R.locals)
    (hM : Cn l D z mc ms (va_rf (some a) :: As) σ Q') (hkc : kc' + mc ≤ kc) (hks : ks' + ms ≤ ks) (hci : mCls z < 12) (kk : ∀ r τ, Q' r τ → G l D R Z y n ls (r.toList ++ st) τ kc' ks') : G l D R Z y pc ls stk σ kc ks := by
  intro p e s m args below meth c H locs cells slots la hC h2 h3 h4 h5 h6 h7
  obtain ⟨hn3, hd, hk1, hb⟩ := f_key (k := k) hf rfl
  subst hn3
  obtain ⟨o1, o2, o3, o4, o5, o6⟩ := mOK hz
  have w1 : Cond.instanceMethod (mName z) ∈ TB := o1 _ (by unfold mWords; rw [hkd]; simp)
  have w2 : Cond.selects (mName z).cls (mName z) (mName z) ∈ TB := o1 _ (by unfold mWords; rw [hkd]; simp)
  have hcB : ∃ cellB : Cell, H[a]? = some cellB ∧ cellB.vm.isStatics = false ∧ s.vm.findClass (mName z).cls = some cellB.cls := by
    obtain ⟨cell, g1, g2, g3, -⟩ := h3.2.2.2.2.1 a (mCls z) hci hk
    refine ⟨cell, g1, by rw [g3]; rfl, ?_⟩
    rw [g2, ← o5]
    exact (h2.1 (mCls z) hci).2.1
  refine c_go hC h2 h4 h5 h6 h7 hkc hks (va_runV (Ts := TB) (C := (mName z).cls) (b := a) (As := As) ⟨hC.1, hC.2.1, hC.2.2.1, hC.2.2.2.1, hC.2.2.2.2.1⟩ hM ⟨c_B hC hz hk1 hb hR, hC.2.2.2.2.1 _ w1, hC.2.2.2.2.1 _ w2⟩ ⟨PcY_blind _ _ _, hcB, fun U hU hW => ⟨rfl, by rw [hU]; exact h3, KK.warm hW h2⟩⟩ rfl hn h7.1 hst (by show 2 * 0 + _ ≤ 8; have := st_sum hl; omega) hd ⟨by omega, by omega⟩) kk
theorem r_callS {k z mc ms kc' ks' : Nat} {As : List Value} {Q' : Option Value → Hp → Prop} (hf : ft y pc = some (.invokestatic k, n, z)) (hz : z < 193) (hkd : mKd z = 1) (hn : As.length = mNa z) (hst : stk = As.reverse ++ st) (hl : st.length ≤ 4) (hR : mFr z + 1 ≤ R.frames ∧ 8 + (mLoc z + 11) + mLw z ≤ R.locals)
    (hM : Cn l D z mc ms As σ Q') (hkc : kc' + mc ≤ kc) (hks : ks' + ms ≤ ks) (kk : ∀ r τ, Q' r τ → G l D R Z y n ls (r.toList ++ st) τ kc' ks') : G l D R Z y pc ls stk σ kc ks := by
  intro p e s m args below meth c H locs cells slots la hC h2 h3 h4 h5 h6 h7
  obtain ⟨hn3, hd, hk1, hb⟩ := f_key (k := k) hf rfl
  subst hn3
  have hb2 : mLk.contains (mCls y * 1024 + k, z) = true := by
    rcases Bool.or_eq_true _ _ ▸ hb with g | g
    · exact g
    · simp [nLk] at g; omega
  obtain ⟨o1, o2, o3, o4, o5, o6⟩ := mOK hz
  have w1 : Cond.static (mName z) ∈ TB := o1 _ (by unfold mWords; rw [hkd]; simp)
  refine c_go hC h2 h4 h5 h6 h7 hkc hks (va_runS (Ts := TB) (As := As) ⟨hC.1, hC.2.1, hC.2.2.1, hC.2.2.2.1, hC.2.2.2.2.1⟩ hM ⟨c_B hC hz hk1 hb2 hR, hC.2.2.2.2.1 _ w1⟩ ⟨PcY_blind _ _ _, fun U hU hW => ⟨rfl, by rw [hU]; exact h3, KK.warm hW h2⟩⟩ rfl hn h7.1 hst (by show 2 * 0 + _ ≤ 8; have := st_sum hl; omega) hd ⟨by omega, by omega⟩) kk
theorem r_callI {k z mc ms a kc' ks' : Nat} {As : List Value} {Q' : Option Value → Hp → Prop} (hf : ft y pc = some (.invokespecial k, n, z)) (hz : z < 193) (hkd : mKd z = 2) (hn : As.length = mNa z) (hst : stk = As.reverse ++ va_rf (some a) :: st) (hl : st.length ≤ 4) (hR : mFr z + 1 ≤ R.frames ∧ 8 + (mLoc z + 11) + mLw z ≤ R.locals)
    (hM : Cn l D z mc ms (va_rf (some a) :: As) σ Q') (hkc : kc' + mc ≤ kc) (hks : ks' + ms ≤ ks) (kk : ∀ r τ, Q' r τ → G l D R Z y n ls (r.toList ++ st) τ kc' ks') : G l D R Z y pc ls stk σ kc ks := by
  intro p e s m args below meth c H locs cells slots la hC h2 h3 h4 h5 h6 h7
  obtain ⟨hn3, hd, hk1, hb⟩ := f_key (k := k) hf rfl
  subst hn3
  have hb2 : mLk.contains (mCls y * 1024 + k, z) = true := by
    rcases Bool.or_eq_true _ _ ▸ hb with g | g
    · exact g
    · simp [nLk] at g; omega
  obtain ⟨o1, o2, o3, o4, o5, o6⟩ := mOK hz
  have w1 : Cond.instanceMethod (mName z) ∈ TB := o1 _ (by unfold mWords; rw [hkd]; simp)
  have cb := c_B (R := R) (mc := mc) (ms := ms) hC hz hk1 hb2 hR
  rw [(o6 hkd).2] at cb
  refine c_go hC h2 h4 h5 h6 h7 hkc hks (va_runI (Ts := TB) (b := a) (As := As) ⟨hC.1, hC.2.1, hC.2.2.1, hC.2.2.2.1, hC.2.2.2.2.1⟩ hM ⟨cb, (o6 hkd).1, hC.2.2.2.2.1 _ w1⟩ ⟨PcY_blind _ _ _, fun U hU hW => ⟨rfl, by rw [hU]; exact h3, KK.warm hW h2⟩⟩ rfl hn h7.1 hst (by show 2 * 0 + _ ≤ 8; have := st_sum hl; omega) hd ⟨by omega, by omega⟩) kk
theorem c_N {p : Program} {s : State} {m : MethodId} {args : Array Value} {meth : Method} {c : Code} {z k mc ms : Nat} (hC : Cx y p s m args meth c) (h2 : KK D s) (hz : z < 193) (hl : Cond.methodLinkNest (cnm (mCls y)) k (mName z) RX10 ∈ nstW) (hR : mFr z + 1 ≤ R.frames ∧ 8 + (mLoc z + 11) + mLw z ≤ R.locals) :
    va_CN R s args (cnm (mCls y)) k (mName z) RX10 (mCode z) (mLoc z) (mRet z) (wsY z) (rmY z mc ms) mc ms (mNa z) := by
  obtain ⟨o1, o2, o3, o4, o5, o6⟩ := mOK hz
  have hcd : Cond.code (mName z) (mCode z) (mLoc z) (mRet z) ∈ TB := o1 _ (by unfold mWords; exact List.mem_cons_self)
  have hin : Cond.initialized (mName z).cls ∈ TB := o1 _ (by unfold mWords; exact List.mem_cons_of_mem _ List.mem_cons_self)
  refine ⟨⟨rfl, rfl, hR.1, hR.2, wsY_good hz hC.2.2.2.2.1, List.mem_cons_self⟩, hC.2.2.2.2.1 _ hcd, hC.2.2.2.2.1 _ hin, o3, fun sig h => ?_, ?_⟩
  · rw [h] at o4
    exact (Option.some.inj o4).symm
  · exact va_Nw.use rfl (h2.2.2.2.2.2.2.2.1 _ hl)
theorem r_callSN {k z mc ms kc' ks' : Nat} {As : List Value} {Q' : Option Value → Hp → Prop} (hf : ft y pc = some (.invokestatic k, n, z + 1000)) (hz : z < 193) (hkd : mKd z = 1) (hnw : Cond.methodLinkNest (cnm (mCls y)) k (mName z) RX10 ∈ nstW) (hn : As.length = mNa z) (hst : stk = As.reverse ++ st) (hl : st.length ≤ 4) (hR : mFr z + 1 ≤ R.frames ∧ 8 + (mLoc z + 11) + mLw z ≤ R.locals)
    (hM : Cn l D z mc ms As σ Q') (hkc : kc' + mc ≤ kc) (hks : ks' + ms ≤ ks) (kk : ∀ r τ, Q' r τ → G l D R Z y n ls (r.toList ++ st) τ kc' ks') : G l D R Z y pc ls stk σ kc ks := by
  intro p e s m args below meth c H locs cells slots la hC h2 h3 h4 h5 h6 h7
  obtain ⟨hn3, hd, hk1, hb⟩ := f_key (k := k) hf rfl
  subst hn3
  obtain ⟨o1, o2, o3, o4, o5, o6⟩ := mOK hz
  have w1 : Cond.static (mName z) ∈ TB := o1 _ (by unfold mWords; rw [hkd]; simp)
  refine c_go hC h2 h4 h5 h6 h7 hkc hks (va_runSN (Ts := TB) (As := As) ⟨hC.1, hC.2.1, hC.2.2.1, hC.2.2.2.1, hC.2.2.2.2.1⟩ hM ⟨c_N hC h2 hz hnw hR, hC.2.2.2.2.1 _ w1, trivial⟩ ⟨PcY_blind _ _ _, fun U hU hW => ⟨rfl, by rw [hU]; exact h3, KK.warm hW h2⟩⟩ rfl hn h7.1 hst (by show 2 * 0 + _ ≤ 8; have := st_sum hl; omega) hd ⟨by omega, by omega⟩) kk
theorem r_callIN {k z mc ms a kc' ks' : Nat} {As : List Value} {Q' : Option Value → Hp → Prop} (hf : ft y pc = some (.invokespecial k, n, z + 1000)) (hz : z < 193) (hkd : mKd z = 2) (hnw : Cond.methodLinkNest (cnm (mCls y)) k (mName z) RX10 ∈ nstW) (hn : As.length = mNa z) (hst : stk = As.reverse ++ va_rf (some a) :: st) (hl : st.length ≤ 4) (hR : mFr z + 1 ≤ R.frames ∧ 8 + (mLoc z + 11) + mLw z ≤ R.locals)
    (hM : Cn l D z mc ms (va_rf (some a) :: As) σ Q') (hkc : kc' + mc ≤ kc) (hks : ks' + ms ≤ ks) (kk : ∀ r τ, Q' r τ → G l D R Z y n ls (r.toList ++ st) τ kc' ks') : G l D R Z y pc ls stk σ kc ks := by
  intro p e s m args below meth c H locs cells slots la hC h2 h3 h4 h5 h6 h7
  obtain ⟨hn3, hd, hk1, hb⟩ := f_key (k := k) hf rfl
  subst hn3
  obtain ⟨o1, o2, o3, o4, o5, o6⟩ := mOK hz
  have w1 : Cond.instanceMethod (mName z) ∈ TB := o1 _ (by unfold mWords; rw [hkd]; simp)
  have cb := c_N (R := R) (mc := mc) (ms := ms) hC h2 hz hnw hR
  rw [(o6 hkd).2] at cb
  refine c_go hC h2 h4 h5 h6 h7 hkc hks (va_runIN (Ts := TB) (b := a) (As := As) ⟨hC.1, hC.2.1, hC.2.2.1, hC.2.2.2.1, hC.2.2.2.2.1⟩ hM ⟨cb, (o6 hkd).1, hC.2.2.2.2.1 _ w1⟩ ⟨PcY_blind _ _ _, fun U hU hW => ⟨rfl, by rw [hU]; exact h3, KK.warm hW h2⟩⟩ rfl hn h7.1 hst (by show 2 * 0 + _ ≤ 8; have := st_sum hl; omega) hd ⟨by omega, by omega⟩) kk
end CL
