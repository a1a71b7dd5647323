/-! ===== the class: a new one. What is built at c looks like a heap of its own, shifted by c ===== -/
def Bd (σ0 σ : Hp) (c : Nat) (β : Hp) : Prop := h_z σ = c + h_z β ∧
  (∀ j, j < h_z β → h_K σ (c + j) = h_K β j ∧ (h_K β j < 20 → (∀ f, h_I σ f (c + j) = h_I β f j) ∧ ∀ f, h_P σ f (c + j) = (h_P β f j).map (fun i => c + i)) ∧ (20 ≤ h_K β j → h_L σ (c + j) = h_L β j ∧ h_X σ (c + j) = h_X β j ∧ ∀ i, h_Y σ (c + j) i = (h_Y β j i).map (fun i => c + i))) ∧
  ∀ a, a < c → h_K σ a = h_K σ0 a ∧ (∀ f, h_I σ f a = h_I σ0 f a) ∧ (∀ f, h_P σ f a = h_P σ0 f a) ∧ h_L σ a = h_L σ0 a ∧ h_X σ a = h_X σ0 a ∧ h_Y σ a = h_Y σ0 a
def hp0 : Hp := (0, fun _ => 0, fun _ _ => 0, fun _ _ => none, fun _ => 0, fun _ _ => 0, fun _ _ => none)
section BD
variable {σ0 σ β : Hp} {c : Nat}
theorem Bd.start (σ : Hp) : Bd σ σ (h_z σ) hp0 := ⟨rfl, fun j hj => absurd hj (Nat.not_lt_zero j), fun _ _ => ⟨rfl, fun _ => rfl, fun _ => rfl, rfl, rfl, rfl⟩⟩
theorem Bd.O (h : Bd σ0 σ c β) {t : Nat} (ht : t < 20) : Bd σ0 (n_O σ t) c (n_O β t) := by
  obtain ⟨hz, h1, h2⟩ := h
  refine ⟨?_, fun j hj => ?_, fun a ha => ?_⟩
  · show h_z σ + 1 = c + (h_z β + 1)
    omega
  · have hj : j < h_z β + 1 := hj
    by_cases e : j = h_z β
    · subst e
      refine ⟨?_, fun _ => ⟨fun f => ?_, fun f => ?_⟩, fun q => ?_⟩
      · show u_1 (h_K σ) (h_z σ) t (c + h_z β) = u_1 (h_K β) (h_z β) t (h_z β)
        rw [hz, u1_s, u1_s]
      · show (if c + h_z β = h_z σ then 0 else h_I σ f (c + h_z β)) = (if h_z β = h_z β then 0 else h_I β f (h_z β))
        rw [if_pos hz.symm, if_pos rfl]
      · show (if c + h_z β = h_z σ then none else h_P σ f (c + h_z β)) = (if h_z β = h_z β then none else h_P β f (h_z β)).map _
        rw [if_pos hz.symm, if_pos rfl]
        rfl
      · have q : 20 ≤ u_1 (h_K β) (h_z β) t (h_z β) := q
        rw [u1_s] at q
        omega
    · obtain ⟨a1, a2, a3⟩ := h1 j (by omega)
      have ek : h_K (n_O β t) j = h_K β j := u1_n _ _ e
      have ek' : h_K (n_O σ t) (c + j) = h_K σ (c + j) := u1_n _ _ (by omega)
      rw [ek, ek']
      refine ⟨a1, fun q => ⟨fun f => ?_, fun f => ?_⟩, a3⟩
      · show (if c + j = h_z σ then 0 else h_I σ f (c + j)) = (if j = h_z β then 0 else h_I β f j)
        rw [if_neg (by omega), if_neg e]
        exact (a2 q).1 f
      · show (if c + j = h_z σ then none else h_P σ f (c + j)) = (if j = h_z β then none else h_P β f j).map _
        rw [if_neg (by omega), if_neg e]
        exact (a2 q).2 f
  · obtain ⟨a1, a2, a3, a4, a5, a6⟩ := h2 a ha
    refine ⟨(u1_n _ _ (by omega)).trans a1, fun f => ?_, fun f => ?_, a4, a5, a6⟩
    · show (if a = h_z σ then 0 else h_I σ f a) = _
      rw [if_neg (by omega)]
      exact a2 f
    · show (if a = h_z σ then none else h_P σ f a) = _
      rw [if_neg (by omega)]
      exact a3 f
theorem Bd.A (h : Bd σ0 σ c β) {t m : Nat} (ht : 20 ≤ t) : Bd σ0 (n_A σ t m) c (n_A β t m) := by
  obtain ⟨hz, h1, h2⟩ := h
  refine ⟨?_, fun j hj => ?_, fun a ha => ?_⟩
  · show h_z σ + 1 = c + (h_z β + 1)
    omega
  · have hj : j < h_z β + 1 := hj
    by_cases e : j = h_z β
    · subst e
      refine ⟨?_, fun q => ?_, fun _ => ⟨?_, ?_, fun i => ?_⟩⟩
      · show u_1 (h_K σ) (h_z σ) t (c + h_z β) = u_1 (h_K β) (h_z β) t (h_z β)
        rw [hz, u1_s, u1_s]
      · have q : u_1 (h_K β) (h_z β) t (h_z β) < 20 := q
        rw [u1_s] at q
        omega
      · show u_1 (h_L σ) (h_z σ) m (c + h_z β) = u_1 (h_L β) (h_z β) m (h_z β)
        rw [hz, u1_s, u1_s]
      · show u_1 (h_X σ) (h_z σ) (fun _ => 0) (c + h_z β) = u_1 (h_X β) (h_z β) (fun _ => 0) (h_z β)
        rw [hz, u1_s, u1_s]
      · show u_1 (h_Y σ) (h_z σ) (fun _ => none) (c + h_z β) i = (u_1 (h_Y β) (h_z β) (fun _ => none) (h_z β) i).map _
        rw [hz, u1_s, u1_s]
        rfl
    · obtain ⟨a1, a2, a3⟩ := h1 j (by omega)
      have ek : h_K (n_A β t m) j = h_K β j := u1_n _ _ e
      have ek' : h_K (n_A σ t m) (c + j) = h_K σ (c + j) := u1_n _ _ (by omega)
      rw [ek, ek']
      refine ⟨a1, a2, fun q => ⟨?_, ?_, fun i => ?_⟩⟩
      · show u_1 (h_L σ) (h_z σ) m (c + j) = u_1 (h_L β) (h_z β) m j
        rw [u1_n _ _ (by omega), u1_n _ _ e]
        exact (a3 q).1
      · show u_1 (h_X σ) (h_z σ) _ (c + j) = u_1 (h_X β) (h_z β) _ j
        rw [u1_n _ _ (by omega), u1_n _ _ e]
        exact (a3 q).2.1
      · show u_1 (h_Y σ) (h_z σ) _ (c + j) i = (u_1 (h_Y β) (h_z β) _ j i).map _
        rw [u1_n _ _ (by omega), u1_n _ _ e]
        exact (a3 q).2.2 i
  · obtain ⟨a1, a2, a3, a4, a5, a6⟩ := h2 a ha
    exact ⟨(u1_n _ _ (by omega)).trans a1, a2, a3, (u1_n _ _ (by omega)).trans a4, (u1_n _ _ (by omega)).trans a5, (u1_n _ _ (by omega)).trans a6⟩
theorem u2_sh {α : Type} (f g : Nat → Nat → α) (a c j i x : Nat) (v : α) (h : f x (c + i) = g x i) : u_2 f a (c + j) v x (c + i) = u_2 g a j v x i := by
  unfold u_2
  by_cases e : x = a ∧ i = j
  · rw [if_pos ⟨e.1, by rw [e.2]⟩, if_pos e]
  · rw [if_neg (fun q => e ⟨q.1, by omega⟩), if_neg e, h]
theorem Bd.P (h : Bd σ0 σ c β) (f j : Nat) (v : Nat) : Bd σ0 (w_P σ f (c + j) (some (c + v))) c (w_P β f j (some v)) := by
  obtain ⟨hz, h1, h2⟩ := h
  refine ⟨hz, fun i hi => ?_, fun a ha => ?_⟩
  · obtain ⟨a1, a2, a3⟩ := h1 i hi
    refine ⟨a1, fun q => ⟨(a2 q).1, fun g => ?_⟩, a3⟩
    show u_2 (h_P σ) f (c + j) (some (c + v)) g (c + i) = (u_2 (h_P β) f j (some v) g i).map _
    unfold u_2
    by_cases e : g = f ∧ i = j
    · rw [if_pos ⟨e.1, by rw [e.2]⟩, if_pos e]; rfl
    · rw [if_neg (fun q => e ⟨q.1, by omega⟩), if_neg e]
      exact (a2 q).2 g
  · obtain ⟨a1, a2, a3, a4, a5, a6⟩ := h2 a ha
    exact ⟨a1, a2, fun g => (u2_n2 _ _ (by omega)).trans (a3 g), a4, a5, a6⟩
theorem Bd.I (h : Bd σ0 σ c β) (f j : Nat) (v : Int32) : Bd σ0 (w_I σ f (c + j) v) c (w_I β f j v) := by
  obtain ⟨hz, h1, h2⟩ := h
  refine ⟨hz, fun i hi => ?_, fun a ha => ?_⟩
  · obtain ⟨a1, a2, a3⟩ := h1 i hi
    exact ⟨a1, fun q => ⟨fun g => u2_sh _ _ _ _ _ _ _ _ ((a2 q).1 g), (a2 q).2⟩, a3⟩
  · obtain ⟨a1, a2, a3, a4, a5, a6⟩ := h2 a ha
    exact ⟨a1, fun g => (u2_n2 _ _ (by omega)).trans (a2 g), a3, a4, a5, a6⟩
theorem Bd.Y (h : Bd σ0 σ c β) {j : Nat} (hj : j < h_z β) (hk : 20 ≤ h_K β j) (k v : Nat) : Bd σ0 (w_Y σ (c + j) (u_1 (h_Y σ (c + j)) k (some (c + v)))) c (w_Y β j (u_1 (h_Y β j) k (some v))) := by
  obtain ⟨hz, h1, h2⟩ := h
  refine ⟨hz, fun i hi => ?_, fun a ha => ?_⟩
  · obtain ⟨a1, a2, a3⟩ := h1 i hi
    refine ⟨a1, a2, fun q => ⟨(a3 q).1, (a3 q).2.1, fun x => ?_⟩⟩
    show u_1 (h_Y σ) (c + j) _ (c + i) x = (u_1 (h_Y β) j _ i x).map _
    by_cases e : i = j
    · subst e
      rw [u1_s, u1_s]
      by_cases e2 : x = k
      · rw [e2, u1_s, u1_s]; rfl
      · rw [u1_n _ _ e2, u1_n _ _ e2]
        exact (a3 q).2.2 x
    · rw [u1_n _ _ (by omega), u1_n _ _ e]
      exact (a3 q).2.2 x
  · obtain ⟨a1, a2, a3, a4, a5, a6⟩ := h2 a ha
    exact ⟨a1, a2, a3, a4, a5, (u1_n _ _ (by omega)).trans a6⟩
end BD
section BR
variable {l : Launch} {D : DD} {R : Room} {Z : List Frame → Array Value → State → State → Prop} {y pc n x kc ks : Nat} {ls : List (Option Value)} {st stk : List Value} {σ0 σ β : Hp} {c : Nat}
theorem r_newB {k ci i kc' ks' : Nat} (h : Bd σ0 σ c β) (hf : ft y pc = some (.new k, n, ci)) (hz : h_z β = i) (hci : ci < 12) (hc : kc' + 1 ≤ kc) (hs : ks' + fN ci ≤ ks) (kk : ∀ τ, Bd σ0 τ c (n_O β (ci + 1)) → G l D R Z y n ls (va_rf (some (c + i)) :: st) τ kc' ks') : G l D R Z y pc ls st σ kc ks := by
  refine G.less hc hs (r_new hf (fun _ => ?_))
  rw [h.1, hz]
  exact kk _ (h.O (by omega))
theorem r_newaB {t m' i kc' ks' : Nat} {v : Int32} {at' : ArrayType} (h : Bd σ0 σ c β) (hf : ft y pc = some (.newarray at', n, t)) (hi : v = nI m') (hm : m' < 2 ^ 20) (hz : h_z β = i) (ht : 20 ≤ t) (hc : kc' + 1 ≤ kc) (hs : ks' + m' ≤ ks) (kk : ∀ τ, Bd σ0 τ c (n_A β t m') → G l D R Z y n ls (va_rf (some (c + i)) :: st) τ kc' ks') : G l D R Z y pc ls (.int v :: st) σ kc ks := by
  refine G.less hc hs (r_newa hf hi hm (fun _ => ?_))
  rw [h.1, hz]
  exact kk _ (h.A ht)
theorem r_anewB {t m' k i kc' ks' : Nat} {v : Int32} (h : Bd σ0 σ c β) (hf : ft y pc = some (.anewarray k, n, 30 + t)) (ht : t < 6) (hi : v = nI m') (hm : m' < 2 ^ 20) (hz : h_z β = i) (hc : kc' + 1 ≤ kc) (hs : ks' + m' ≤ ks) (kk : ∀ τ, Bd σ0 τ c (n_A β (30 + t) m') → G l D R Z y n ls (va_rf (some (c + i)) :: st) τ kc' ks') : G l D R Z y pc ls (.int v :: st) σ kc ks := by
  refine G.less hc hs (r_anew hf ht hi hm (fun _ => ?_))
  rw [h.1, hz]
  exact kk _ (h.A (by omega))
theorem r_putPB {k f j v : Nat} (h : Bd σ0 σ c β) (hf : ft y pc = some (.putfield k, n, f)) (hj : j < h_z β) (hk : h_K β j = f / 64 + 1) (hp : fPrim (fTy (f / 64) (f % 64)) = false) (hfin : (fT (f / 64) (f % 64)).2.2.2 = false ∨ ((mName y).name = "<init>" ∧ (fT (f / 64) (f % 64)).1 = cnm (mCls y))) (kk : ∀ τ, Bd σ0 τ c (w_P β f j (some v)) → G l D R Z y n ls st τ kc ks) : G l D R Z y pc ls (va_rf (some (c + v)) :: va_rf (some (c + j)) :: st) σ kc ks :=
  r_putP hf ((h.2.1 j hj).1.trans hk) hp hfin (kk _ (h.P f j v))
theorem r_putIB {k f j : Nat} {v : Int32} (h : Bd σ0 σ c β) (hf : ft y pc = some (.putfield k, n, f)) (hj : j < h_z β) (hk : h_K β j = f / 64 + 1) (hp : fPrim (fTy (f / 64) (f % 64)) = true) (hfin : (fT (f / 64) (f % 64)).2.2.2 = false ∨ ((mName y).name = "<init>" ∧ (fT (f / 64) (f % 64)).1 = cnm (mCls y))) (hn : narrow (fTy (f / 64) (f % 64)) (.int v) = .int v) (hfit : fits (fTy (f / 64) (f % 64)) (.int v) = true) (kk : ∀ τ, Bd σ0 τ c (w_I β f j v) → G l D R Z y n ls st τ kc ks) : G l D R Z y pc ls (.int v :: va_rf (some (c + j)) :: st) σ kc ks :=
  r_putI hf ((h.2.1 j hj).1.trans hk) hp hfin hn hfit (kk _ (h.I f j v))
theorem r_getPB {k f j i : Nat} (h : Bd σ0 σ c β) (hf : ft y pc = some (.getfield k, n, f)) (hj : j < h_z β) (hk : h_K β j = f / 64 + 1) (hk2 : f / 64 + 1 < 20) (hp : fPrim (fTy (f / 64) (f % 64)) = false) (hv : h_P β f j = some i) (kk : G l D R Z y n ls (va_rf (some (c + i)) :: st) σ kc ks) : G l D R Z y pc ls (va_rf (some (c + j)) :: st) σ kc ks := by
  obtain ⟨a1, a2, -⟩ := h.2.1 j hj
  refine r_getPv hf (a1.trans hk) hp (v := some (c + i)) ?_ kk
  rw [(a2 (by omega)).2 f, hv]
  rfl
theorem r_callIN8 {k z mc ms a kc' ks' : Nat} {As : List Value} {Q' : Option Value → Hp → Prop} (hf : ft y pc = some (.invokespecial k, n, z + 1000)) (hz : z < 193) (hkd : mKd z = 2) (hnw : Cond.methodLinkNest (cnm (mCls y)) k (mName z) RX10 ∈ nstW) (hn : As.length = mNa z) (hst : stk = As.reverse ++ va_rf (some a) :: st) (hl : (st.map fun v => v.category).sum ≤ 8) (hR : mFr z + 1 ≤ R.frames ∧ 8 + (mLoc z + 11) + mLw z ≤ R.locals)
    (hM : Cn l D z mc ms (va_rf (some a) :: As) σ Q') (hkc : kc' + mc ≤ kc) (hks : ks' + ms ≤ ks) (kk : ∀ r τ, Q' r τ → G l D R Z y n ls (r.toList ++ st) τ kc' ks') : G l D R Z y pc ls stk σ kc ks := by
  intro p e s m args below meth c H locs cells slots la hC h2 h3 h4 h5 h6 h7
  obtain ⟨hn3, hd, hk1, hb⟩ := f_key (k := k) hf rfl
  subst hn3
  obtain ⟨o1, o2, o3, o4, o5, o6⟩ := mOK hz
  have w1 : Cond.instanceMethod (mName z) ∈ TB := o1 _ (by unfold mWords; rw [hkd]; simp)
  have cb := c_N (R := R) (mc := mc) (ms := ms) hC h2 hz hnw hR
  rw [(o6 hkd).2] at cb
  refine c_go hC h2 h4 h5 h6 h7 hkc hks (va_runIN (Ts := TB) (b := a) (As := As) ⟨hC.1, hC.2.1, hC.2.2.1, hC.2.2.2.1, hC.2.2.2.2.1⟩ hM ⟨cb, (o6 hkd).1, hC.2.2.2.2.1 _ w1⟩ ⟨PcY_blind _ _ _, fun U hU hW => ⟨rfl, by rw [hU]; exact h3, KK.warm hW h2⟩⟩ rfl hn h7.1 hst (by show 2 * 0 + _ ≤ 8; omega) hd ⟨by omega, by omega⟩) kk
end BR
/-! the heap that is built -/
def bL (β : Hp) (f j i m : Nat) : Hp := w_P (w_P (n_A (n_O β 4) 20 m) 192 i (some (i + 1))) f j (some i)
def b1 : Hp := bL (n_O hp0 11) 640 0 1 600
def b2 : Hp := bL (n_O (n_O (n_O b1 10) 9) 3) 128 5 6 10
def b3 : Hp := w_P (w_I (w_I (bL (bL (bL (w_P (n_A (w_I b2 521 4 (-1)) 21 6) 525 4 (some 8)) 526 4 9 10) 527 4 11 40) 528 4 13 40) 512 4 (-1)) 513 4 (-1)) 514 4 (some 5)
def b4 : Hp := w_P (n_A (w_P (n_A (w_P b3 576 3 (some 4)) 35 120) 577 3 (some 15)) 32 6) 578 3 (some 16)
def bF (β : Hp) (k : Nat) : Hp := bL (n_O β 3) 128 (17 + 3 * k) (18 + 3 * k) 10
def bS (β : Hp) (k : Nat) : Hp := w_Y (bF β k) 16 (u_1 (h_Y (bF β k) 16) k (some (17 + 3 * k)))
def bs : Nat → Hp
  | 0 => b4
  | k + 1 => bS (bs k) k
def b5 : Hp := w_P (bs 6) 641 0 (some 3)
def b6 : Hp := w_P (w_P (w_P (n_A (n_O b5 6) 21 6) 322 35 (some 36)) 321 35 (some 4)) 642 0 (some 35)
def b7 : Hp := w_P (n_A (w_P (n_A b6 30 200) 643 0 (some 37)) 34 100) 645 0 (some 38)
def b8' : Hp := w_P (n_A (w_P (w_P (n_O b7 8) 448 39 (some 4)) 647 0 (some 39)) 31 8) 648 0 (some 40)
def b9 : Hp := w_P (w_P (w_P (w_P (n_A (n_O b8' 7) 21 200) 386 41 (some 42)) 384 41 (some 1)) 385 41 (some 3)) 650 0 (some 41)
def bNK : Hp := bL b9 651 0 43 539
section BC
variable {l : Launch} {D : DD} {σ0 σ β : Hp} {c : Nat}
theorem c_bLine {j i m : Nat} (h : Bd σ0 σ c β) (hz : h_z β = i) (hj : j < i) (hk : h_K β j = 4) (hm : m < 2 ^ 20) : Cn l D m_Line_init 1 m [va_rf (some (c + j)), .int (nI m)] σ (fun r τ => r = none ∧ Bd σ0 τ c (w_P (n_A β 20 m) 192 j (some i))) := by
  refine Cn.mono (c_Line_init (a := c + j) ((h.2.1 j (by omega)).1.trans hk) hm) ?_
  rintro r τ ⟨rfl, rfl, -⟩
  refine ⟨rfl, ?_⟩
  rw [h.1, hz]
  exact (h.A (by omega)).P 192 j i
theorem c_bForm {j i : Nat} (h : Bd σ0 σ c β) (hz : h_z β = i) (hj : j < i) (hk : h_K β j = 3) : Cn l D m_Form_init 2 12 [va_rf (some (c + j))] σ (fun r τ => r = none ∧ Bd σ0 τ c (bL β 128 j i 10)) := by
  generalize hQ : (fun (r : Option Value) (τ : Hp) => r = none ∧ Bd σ0 τ c (bL β 128 j i 10)) = Q
  refine Cn.of (by decide) (by repeat (first | exact ca_0 | refine ca_i ?_ | refine ca_r ?_)) (Nat.le_of_ble_eq_true rfl) ?_
  refine r_aload_n rfl rfl ?_
  refine r_objInit rfl (Nat.le_of_ble_eq_true rfl) ⟨Nat.le_of_ble_eq_true rfl, Nat.le_of_ble_eq_true rfl⟩ ?_
  refine r_aload_n rfl rfl ?_
  refine r_newB (kc' := 1) (ks' := 10) h rfl hz (by decide) (by decide) (by decide) (fun σ1 h1 => ?_)
  have hz1 : h_z (n_O β (3 + 1)) = i + 1 := by
    show h_z β + 1 = i + 1
    rw [hz]
  have k1 : h_K (n_O β (3 + 1)) i = 4 := by
    show u_1 (h_K β) (h_z β) 4 i = 4
    rw [hz, u1_s]
  have k2 : h_K (n_O β (3 + 1)) j = 3 := by
    show u_1 (h_K β) (h_z β) 4 j = 3
    rw [hz, u1_n _ _ (by omega)]
    exact hk
  refine r_dup rfl (by first | rfl | exact rf_cat _) ?_
  refine r_bipush (v := nI 10) rfl (by decide) ?_
  refine r_callI (As := [_]) rfl (by decide) rfl rfl rfl (Nat.le_of_ble_eq_true rfl) ⟨Nat.le_of_ble_eq_true rfl, Nat.le_of_ble_eq_true rfl⟩ (c_bLine h1 hz1 (Nat.lt_succ_self i) k1 (by decide)) (kc' := 0) (ks' := 0) (by omega) (by omega) ?_
  rintro r σ2 ⟨rfl, h2⟩
  refine r_putPB h2 rfl (by show j < h_z (n_O β (3 + 1)) + 1; omega) ?_ rfl (Or.inr ⟨rfl, rfl⟩) (fun σ3 h3 => ?_)
  · show u_1 (h_K (n_O β (3 + 1))) (h_z (n_O β (3 + 1))) 20 j = 3
    rw [hz1, u1_n _ _ (by omega)]
    exact k2
  · refine r_vret rfl rfl ?_
    rw [← hQ]
    exact ⟨rfl, h3⟩
set_option maxHeartbeats 1000000 in
theorem c_bThing (h : Bd σ0 σ c b2) : Cn l D m_Thing_init 7 102 [va_rf (some (c + 4)), .int (-1), .int (-1), va_rf (some (c + 5))] σ (fun r τ => r = none ∧ Bd σ0 τ c b3) := by
  generalize hQ : (fun (r : Option Value) (τ : Hp) => r = none ∧ Bd σ0 τ c b3) = Q
  refine Cn.of (by decide) (by repeat (first | exact ca_0 | refine ca_i ?_ | refine ca_r ?_)) (Nat.le_of_ble_eq_true rfl) ?_
  refine r_aload_n rfl rfl ?_
  refine r_objInit rfl (Nat.le_of_ble_eq_true rfl) ⟨Nat.le_of_ble_eq_true rfl, Nat.le_of_ble_eq_true rfl⟩ ?_
  refine r_aload_n rfl rfl ?_
  refine r_iconst (v := -1) rfl (by decide) ?_
  refine r_putIB h rfl (by decide +kernel) (by decide +kernel) rfl (Or.inr ⟨rfl, rfl⟩) rfl rfl (fun σ1 h1 => ?_)
  refine r_aload_n rfl rfl ?_
  refine r_bipush (v := nI 6) rfl (by decide) ?_
  refine r_newaB (kc' := 6) (ks' := 96) (m' := 6) (i := 8) h1 rfl rfl (by decide) (by decide +kernel) (by decide) (by decide) (by decide) (fun σ2 h2 => ?_)
  refine r_putPB h2 rfl (by decide +kernel) (by decide +kernel) rfl (Or.inr ⟨rfl, rfl⟩) (fun σ3 h3 => ?_)
  refine r_aload_n rfl rfl ?_
  refine r_newB (kc' := 5) (ks' := 94) (i := 9) h3 rfl (by decide +kernel) (by decide) (by decide) (by decide) (fun σ4 h4 => ?_)
  refine r_dup rfl (by first | rfl | exact rf_cat _) ?_
  refine r_bipush (v := nI 10) rfl (by decide) ?_
  refine r_callI (As := [_]) rfl (by decide) rfl rfl rfl (Nat.le_of_ble_eq_true rfl) ⟨Nat.le_of_ble_eq_true rfl, Nat.le_of_ble_eq_true rfl⟩ (c_bLine (i := 10) h4 (by decide +kernel) (by decide) (by decide +kernel) (by decide)) (kc' := 4) (ks' := 84) (by omega) (by omega) ?_
  rintro r σ5 ⟨rfl, h5⟩
  refine r_putPB h5 rfl (by decide +kernel) (by decide +kernel) rfl (Or.inr ⟨rfl, rfl⟩) (fun σ6 h6 => ?_)
  refine r_aload_n rfl rfl ?_
  refine r_newB (kc' := 3) (ks' := 82) (i := 11) h6 rfl (by decide +kernel) (by decide) (by decide) (by decide) (fun σ7 h7 => ?_)
  refine r_dup rfl (by first | rfl | exact rf_cat _) ?_
  refine r_bipush (v := nI 40) rfl (by decide) ?_
  refine r_callI (As := [_]) rfl (by decide) rfl rfl rfl (Nat.le_of_ble_eq_true rfl) ⟨Nat.le_of_ble_eq_true rfl, Nat.le_of_ble_eq_true rfl⟩ (c_bLine (i := 12) h7 (by decide +kernel) (by decide) (by decide +kernel) (by decide)) (kc' := 2) (ks' := 42) (by omega) (by omega) ?_
  rintro r σ8 ⟨rfl, h8⟩
  refine r_putPB h8 rfl (by decide +kernel) (by decide +kernel) rfl (Or.inr ⟨rfl, rfl⟩) (fun σ9 h9 => ?_)
  refine r_aload_n rfl rfl ?_
  refine r_newB (kc' := 1) (ks' := 40) (i := 13) h9 rfl (by decide +kernel) (by decide) (by decide) (by decide) (fun σ10 h10 => ?_)
  refine r_dup rfl (by first | rfl | exact rf_cat _) ?_
  refine r_bipush (v := nI 40) rfl (by decide) ?_
  refine r_callI (As := [_]) rfl (by decide) rfl rfl rfl (Nat.le_of_ble_eq_true rfl) ⟨Nat.le_of_ble_eq_true rfl, Nat.le_of_ble_eq_true rfl⟩ (c_bLine (i := 14) h10 (by decide +kernel) (by decide) (by decide +kernel) (by decide)) (kc' := 0) (ks' := 0) (by omega) (by omega) ?_
  rintro r σ11 ⟨rfl, h11⟩
  refine r_putPB h11 rfl (by decide +kernel) (by decide +kernel) rfl (Or.inr ⟨rfl, rfl⟩) (fun σ12 h12 => ?_)
  refine r_aload_n rfl rfl ?_
  refine r_iload_n rfl rfl ?_
  refine r_putIB h12 rfl (by decide +kernel) (by decide +kernel) rfl (Or.inr ⟨rfl, rfl⟩) rfl rfl (fun σ13 h13 => ?_)
  refine r_aload_n rfl rfl ?_
  refine r_iload_n rfl rfl ?_
  refine r_putIB h13 rfl (by decide +kernel) (by decide +kernel) rfl (Or.inr ⟨rfl, rfl⟩) rfl rfl (fun σ14 h14 => ?_)
  refine r_aload_n rfl rfl ?_
  refine r_aload_n rfl rfl ?_
  refine r_putPB h14 rfl (by decide +kernel) (by decide +kernel) rfl (Or.inr ⟨rfl, rfl⟩) (fun σ15 h15 => ?_)
  refine r_vret rfl rfl ?_
  rw [← hQ]
  exact ⟨rfl, h15⟩
end BC
