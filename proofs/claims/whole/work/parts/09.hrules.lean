/-! ===== the rules of the heap's instructions ===== -/
theorem cnm_div {c k : Nat} (h : k < 1024) : (c * 1024 + k) / 1024 = c ∧ (c * 1024 + k) % 1024 = k := by omega
section HR
variable {l : Launch} {D : DD} {R : Room} {Z : List Frame → Array Value → State → State → Prop} {y pc n x kc ks : Nat} {ls : List (Option Value)} {st : List Value} {σ : Hp}
/-- what a field's link says -/
theorem f_fld {i : Instr} {k f : Nat} {p : Program} {s : State} {m : MethodId} {args : Array Value} {meth : Method} {c : Code} (hC : Cx y p s m args meth c) (hf : ft y pc = some (i, n, f)) (h : okI (mCls y) pc i n f = (n == pc + 3 && decide (k < 1024) && fLk.contains (mCls y * 1024 + k, f))) :
    n = pc + 3 ∧ decode (mCode y) pc = .ok (i, 3) ∧ f / 64 < 12 ∧ f % 64 < fN (f / 64) ∧ (Cond.fieldLink (cnm (mCls y)) k (fT (f / 64) (f % 64)).1 (fT (f / 64) (f % 64)).2.1 (fT (f / 64) (f % 64)).2.2.1).before args s = true := by
  obtain ⟨hd, hn⟩ := ft_ok hf
  rw [h] at hn
  obtain ⟨hn, hb⟩ := okn hn
  obtain ⟨hn, hk⟩ := okn hn
  have hn : n = pc + 3 := by simpa using hn
  have hk := of_decide_eq_true hk
  subst hn
  rw [Nat.add_sub_cancel_left] at hd
  obtain ⟨h1, h2, h3⟩ := fLk_in hb
  have h4 := hC.2.2.2.2.1 _ h1
  unfold fLkW at h4
  simp only [(cnm_div (c := mCls y) hk).1, (cnm_div (c := mCls y) hk).2] at h4
  exact ⟨rfl, hd, h2, h3, h4⟩
theorem g_get {k f a : Nat} (hf : ft y pc = some (.getfield k, n, f)) (hk : h_K σ a = f / 64 + 1) (kk : G l D R Z y n ls (fV σ (f / 64) a (f % 64) :: st) σ kc ks) : G l D R Z y pc ls (va_rf (some a) :: st) σ kc ks := by
  intro p e s m args below meth c H locs cells slots la hC h2 h3 h4 h5 h6 h7
  obtain ⟨hn, hd, hci, hkn, hlink⟩ := f_fld (k := k) hC hf rfl
  subst hn
  obtain ⟨cell, q1, q2, q3, q4⟩ := h3.2.2.2.2.1 a (f / 64) hci hk
  obtain ⟨hS, hfc, kC, hkC, hkind⟩ := h2.1 (f / 64) hci
  obtain ⟨cf, kf, fi, fd, hi, hsl⟩ := hS (f % 64) hkn
  refine W.getf hC.1 hC.2.1 hC.2.2.2.1 hlink hi (u_facts hfc hkC (u_lays hC.2.2.2.2.1 (vw_in hci) hkn) hi).1 q1 (by rw [q3]; exact fun h => by cases h) (v := fV σ (f / 64) a (f % 64)) ?_ rfl rfl hd (kk p e s m args below meth c H locs cells slots la hC h2 h3 h4 h5 h6 h7)
  rw [hsl, q4 (f % 64) hkn]
theorem r_getI {k f a : Nat} (hf : ft y pc = some (.getfield k, n, f)) (hk : h_K σ a = f / 64 + 1) (hp : fPrim (fTy (f / 64) (f % 64)) = true) (kk : G l D R Z y n ls (.int (h_I σ f a) :: st) σ kc ks) : G l D R Z y pc ls (va_rf (some a) :: st) σ kc ks := by
  refine g_get hf hk ?_
  unfold fV
  rw [if_pos hp, Nat.div_add_mod]
  exact kk
theorem r_getP {k f a : Nat} (hf : ft y pc = some (.getfield k, n, f)) (hk : h_K σ a = f / 64 + 1) (hp : fPrim (fTy (f / 64) (f % 64)) = false) (kk : G l D R Z y n ls (va_rf (h_P σ f a) :: st) σ kc ks) : G l D R Z y pc ls (va_rf (some a) :: st) σ kc ks := by
  refine g_get hf hk ?_
  unfold fV
  rw [if_neg (by rw [hp]; decide), Nat.div_add_mod]
  exact kk
theorem g_put {k f a : Nat} {v : Value} {τ : Hp} (hf : ft y pc = some (.putfield k, n, f)) (hk : h_K σ a = f / 64 + 1) (hfin : (fT (f / 64) (f % 64)).2.2.2 = false ∨ ((mName y).name = "<init>" ∧ (fT (f / 64) (f % 64)).1 = cnm (mCls y))) (hn : narrow (fTy (f / 64) (f % 64)) v = v) (hfit : fits (fTy (f / 64) (f % 64)) v = true)
    (hz : h_z τ = h_z σ) (hK : h_K τ = h_K σ) (hL : h_L τ = h_L σ) (hX : h_X τ = h_X σ) (hY : h_Y τ = h_Y σ) (hv : ∀ b c j, b ≠ a → fV τ c b j = fV σ c b j) (hv2 : ∀ j, j < fN (f / 64) → updV (fV σ (f / 64) a) (f % 64) v j = fV τ (f / 64) a j)
    (kk : G l D R Z y n ls st τ kc ks) : G l D R Z y pc ls (v :: va_rf (some a) :: st) σ kc ks := by
  intro p e s m args below meth c H locs cells slots la hC h2 h3 h4 h5 h6 h7
  obtain ⟨hn3, hd, hci, hkn, hlink⟩ := f_fld (k := k) hC hf rfl
  subst hn3
  have h3' := h3
  obtain ⟨cell, q1, q2, q3, q4⟩ := h3.2.2.2.2.1 a (f / 64) hci hk
  obtain ⟨hS, hfc, kC, hkC, hkind⟩ := h2.1 (f / 64) hci
  obtain ⟨cf, kf, fi, fd, hi, hsl⟩ := hS (f % 64) hkn
  have hap : ∀ x y, x < fN (f / 64) → y < fN (f / 64) → x ≠ y → (D.1.2 (f / 64)) x ≠ (D.1.2 (f / 64)) y := by
    intro x y hx hy hne
    obtain ⟨_, _, _, fa, hia, ea⟩ := hS x hx
    obtain ⟨_, _, _, fb, hib, eb⟩ := hS y hy
    rw [← ea, ← eb]
    refine u_apart (u_lays hC.2.2.2.2.1 (vw_in hci) hx) (u_lays hC.2.2.2.2.1 (vw_in hci) hy) hia hib ?_
    rw [(State.fieldFound?_type hia (vw_ty hci x hx)).1, (State.fieldFound?_type hib (vw_ty hci y hy)).1]
    exact vw_nm hci x hx y hy hne
  have hst := (u_facts hfc hkC (u_lays hC.2.2.2.2.1 (vw_in hci) hkn) hi).1
  have hlay := hC.2.2.2.2.1 _ (vw_in hci _ (u_in_lay hkn))
  have fin : ∀ (H1 : Heap), H1[a]? = some (cell.setSlot fd.slot v) → H1.size = H.size → (∀ q, q ≠ a → H1[q]? = H[q]?) → W p l e R s m args below meth c H1 (locs ++ [⟨a, fd.slot⟩]) cells slots (Z below args s) (F0 m (pc + 3) la st) := by
    intro H1 e1 e2 e3
    refine kk p e s m args below meth c H1 _ cells slots la hC h2 ?_ ?_ h5 h6 h7
    · rw [hsl] at e1
      exact h3'.obj hz hK hL hX hY hk hci e2 e3 hv (t_OB.to ⟨_, e1, q2, q3, t_set q4 hap hkn v⟩ hv2)
    · intro q hq
      rcases List.mem_append.mp hq with g | g
      · exact h4 q g
      · rw [List.mem_singleton.mp g]
        exact (h3'.2.2.2.1 a (by omega)).1
  rcases hfin with hfin | ⟨hin, hdecl⟩
  · unfold u_lay at hlay
    rw [if_neg (by rw [hfin]; decide)] at hlay
    have h8 := u_store hfc hkC hkind hlay hi (vw_ty hci _ hkn) hn hfit
    exact W.putK hC.1 hC.2.1 (f := fd) ⟨hC.2.2.2.1, hlink, ⟨_, _, _, hi⟩, hst⟩ (by rw [q2]; exact h8) q1 q3 (by rw [hsl]; exact k2_hasslot (q4 _ hkn)) rfl rfl hd fin
  · by_cases hff : (fT (f / 64) (f % 64)).2.2.2 = true
    · unfold u_lay at hlay
      rw [if_pos hff] at hlay
      have hcf : m.cls = cf := by
        obtain ⟨_, _, c', _, _, _, -, -, hf', -, -, -, hown2, -⟩ := Cond.laysFinal_spec hlay
        have e1 : c' = cf := by have := hi.symm.trans hf'; simp at this; exact this.1.symm
        rw [hdecl] at hown2
        rw [← e1]; exact Option.some.inj (hC.2.2.2.1.symm.trans hown2)
      have h8 := u_fits hfc hkC hkind (Or.inr hlay) hi (vw_ty hci _ hkn) hn hfit
      exact W.putFinK hC.1 hC.2.1 hC.2.2.2.1 hlink hi hst hcf (hC.2.2.2.2.2.2.2.trans hin) (by rw [q2]; exact h8) q1 q3 (by rw [hsl]; exact k2_hasslot (q4 _ hkn)) rfl rfl hd fin
    · unfold u_lay at hlay
      rw [if_neg hff] at hlay
      have h8 := u_store hfc hkC hkind hlay hi (vw_ty hci _ hkn) hn hfit
      exact W.putK hC.1 hC.2.1 (f := fd) ⟨hC.2.2.2.1, hlink, ⟨_, _, _, hi⟩, hst⟩ (by rw [q2]; exact h8) q1 q3 (by rw [hsl]; exact k2_hasslot (q4 _ hkn)) rfl rfl hd fin
theorem r_putI {k f a : Nat} {v : Int32} (hf : ft y pc = some (.putfield k, n, f)) (hk : h_K σ a = f / 64 + 1) (hp : fPrim (fTy (f / 64) (f % 64)) = true) (hfin : (fT (f / 64) (f % 64)).2.2.2 = false ∨ ((mName y).name = "<init>" ∧ (fT (f / 64) (f % 64)).1 = cnm (mCls y))) (hn : narrow (fTy (f / 64) (f % 64)) (.int v) = .int v) (hfit : fits (fTy (f / 64) (f % 64)) (.int v) = true)
    (kk : G l D R Z y n ls st (w_I σ f a v) kc ks) : G l D R Z y pc ls (.int v :: va_rf (some a) :: st) σ kc ks := by
  have e := Nat.div_add_mod f 64
  refine g_put (τ := w_I σ f a v) hf hk hfin hn hfit rfl rfl rfl rfl rfl (fun b c j hb => ?_) (fun j hj => ?_) kk
  · rw [← e, fV_wI, if_neg (fun q => hb q.1.2)]
  · have h2 : fV (w_I σ f a v) (f / 64) a j = fV (w_I σ (64 * (f / 64) + f % 64) a v) (f / 64) a j := by rw [e]
    rw [h2, fV_wI]
    unfold updV
    by_cases q : j = f % 64
    · subst q
      rw [if_pos rfl, if_pos ⟨⟨rfl, rfl⟩, hp⟩]
    · rw [if_neg q, if_neg (fun z => q (by omega))]
theorem r_putP {k f a : Nat} {v : Option Nat} (hf : ft y pc = some (.putfield k, n, f)) (hk : h_K σ a = f / 64 + 1) (hp : fPrim (fTy (f / 64) (f % 64)) = false) (hfin : (fT (f / 64) (f % 64)).2.2.2 = false ∨ ((mName y).name = "<init>" ∧ (fT (f / 64) (f % 64)).1 = cnm (mCls y)))
    (kk : G l D R Z y n ls st (w_P σ f a v) kc ks) : G l D R Z y pc ls (va_rf v :: va_rf (some a) :: st) σ kc ks := by
  have e := Nat.div_add_mod f 64
  have hn : narrow (fTy (f / 64) (f % 64)) (va_rf v) = va_rf v ∧ fits (fTy (f / 64) (f % 64)) (va_rf v) = true := by
    cases h : fTy (f / 64) (f % 64) <;> (rw [h] at hp; first | (cases hp; done) | (cases v <;> exact ⟨rfl, rfl⟩))
  refine g_put (τ := w_P σ f a v) hf hk hfin hn.1 hn.2 rfl rfl rfl rfl rfl (fun b c j hb => ?_) (fun j hj => ?_) kk
  · rw [← e, fV_wP, if_neg (fun q => hb q.1.2)]
  · have h2 : fV (w_P σ f a v) (f / 64) a j = fV (w_P σ (64 * (f / 64) + f % 64) a v) (f / 64) a j := by rw [e]
    rw [h2, fV_wP]
    unfold updV
    by_cases q : j = f % 64
    · subst q
      rw [if_pos rfl, if_pos ⟨⟨rfl, rfl⟩, by rw [hp]; decide⟩]
    · rw [if_neg q, if_neg (fun z => q (by omega))]
end HR
