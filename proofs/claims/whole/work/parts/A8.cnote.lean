/-! ===== the class: a change is made and noted ===== -/
section CL
variable {l : Launch} {D : DD} {R : Room} {Z : List Frame → Array Value → State → State → Prop} {y pc n x kc ks : Nat} {ls : List (Option Value)} {st stk : List Value} {σ : Hp}
/-- a call over a stack of more than four, none of them wide -/
theorem r_callV8 {k z mc ms a kc' ks' : Nat} {As : List Value} {Q' : Option Value → Hp → Prop} (hf : ft y pc = some (.invokevirtual k, n, z)) (hz : z < 193) (hkd : mKd z = 0) (hk : h_K σ a = mCls z + 1) (hn : As.length = mNa z) (hst : stk = As.reverse ++ va_rf (some a) :: st) (hl : (st.map fun v => v.category).sum ≤ 8) (hR : mFr z + 1 ≤ R.frames ∧ 8 + (mLoc z + 11) + mLw z ≤ R.locals)
    (hM : Cn l D z mc ms (va_rf (some a) :: As) σ Q') (hkc : kc' + mc ≤ kc) (hks : ks' + ms ≤ ks) (hci : mCls z < 12) (kk : ∀ r τ, Q' r τ → G l D R Z y n ls (r.toList ++ st) τ kc' ks') : G l D R Z y pc ls stk σ kc ks := by
  intro p e s m args below meth c H locs cells slots la hC h2 h3 h4 h5 h6 h7
  obtain ⟨hn3, hd, hk1, hb⟩ := f_key (k := k) hf rfl
  subst hn3
  obtain ⟨o1, o2, o3, o4, o5, o6⟩ := mOK hz
  have w1 : Cond.instanceMethod (mName z) ∈ TB := o1 _ (by unfold mWords; rw [hkd]; simp)
  have w2 : Cond.selects (mName z).cls (mName z) (mName z) ∈ TB := o1 _ (by unfold mWords; rw [hkd]; simp)
  have hcB : ∃ cellB : Cell, H[a]? = some cellB ∧ cellB.vm.isStatics = false ∧ s.vm.findClass (mName z).cls = some cellB.cls := by
    obtain ⟨cell, g1, g2, g3, -⟩ := h3.2.2.2.2.1 a (mCls z) hci hk
    refine ⟨cell, g1, by rw [g3]; rfl, ?_⟩
    rw [g2, ← o5]
    exact (h2.1 (mCls z) hci).2.1
  refine c_go hC h2 h4 h5 h6 h7 hkc hks (va_runV (Ts := TB) (C := (mName z).cls) (b := a) (As := As) ⟨hC.1, hC.2.1, hC.2.2.1, hC.2.2.2.1, hC.2.2.2.2.1⟩ hM ⟨c_B hC hz hk1 hb hR, hC.2.2.2.2.1 _ w1, hC.2.2.2.2.1 _ w2⟩ ⟨PcY_blind _ _ _, hcB, fun U hU hW => ⟨rfl, by rw [hU]; exact h3, KK.warm hW h2⟩⟩ rfl hn h7.1 hst (by show 2 * 0 + _ ≤ 8; omega) hd ⟨by omega, by omega⟩) kk
end CL
section FM
variable {ow : Nat → Nat} {FI FP RS : List Nat} {σ τ : Hp}
theorem Fm.nwI (h : Fm ow FI FP RS σ τ) {a : Nat} (ha : h_z σ ≤ a) (f : Nat) (v : Int32) : Fm ow FI FP RS σ (w_I τ f a v) :=
  ⟨h.1, fun b hb => ⟨(h.2 b hb).1, (h.2 b hb).2.1, fun g q w => by
    show u_2 (h_I τ) f a v g b = _
    unfold u_2
    rw [if_neg (fun (e : g = f ∧ b = a) => by omega)]
    exact (h.2 b hb).2.2.1 g q w, (h.2 b hb).2.2.2.1, (h.2 b hb).2.2.2.2⟩⟩
theorem Fm.nwP (h : Fm ow FI FP RS σ τ) {a : Nat} (ha : h_z σ ≤ a) (f : Nat) (v : Option Nat) : Fm ow FI FP RS σ (w_P τ f a v) :=
  ⟨h.1, fun b hb => ⟨(h.2 b hb).1, (h.2 b hb).2.1, (h.2 b hb).2.2.1, fun g q => by
    show u_2 (h_P τ) f a v g b = _
    unfold u_2
    rw [if_neg (fun (e : g = f ∧ b = a) => by omega)]
    exact (h.2 b hb).2.2.2.1 g q, (h.2 b hb).2.2.2.2⟩⟩
theorem Fm.nwO (σ : Hp) (t : Nat) : Fm ow FI FP RS σ (n_O σ t) :=
  ⟨Nat.le_succ _, fun b hb => ⟨u1_n _ _ (by omega), rfl, fun f _ _ => if_neg (by omega), fun f _ => if_neg (by omega), fun _ => ⟨rfl, rfl⟩⟩⟩
end FM
section NK
variable {l : Launch} {D : DD} {σ : Hp} {c B : Nat} {ow ad : Nat → Nat} {S : Sp}
/-- a Change's fields -/
def chS (σ : Hp) (a : Nat) (d : Int32) (t u : Option Nat) (i : Int32) (f : Option Nat) : Hp := w_P (w_I (w_P (w_P (w_I σ 0 a d) 1 a t) 2 a u) 3 a i) 4 a f
theorem c_Change_init {a : Nat} {d i : Int32} {t u f : Option Nat} (hk : h_K σ a = 1) : Cn l D m_Change_init 0 0 [va_rf (some a), .int d, va_rf t, va_rf u, .int i, va_rf f] σ (fun r τ => r = none ∧ τ = chS σ a d t u i f) := by
  refine Cn.of (by decide) (by repeat (first | exact ca_0 | refine ca_i ?_ | refine ca_r ?_)) (Nat.le_of_ble_eq_true rfl) ?_
  refine r_aload_n rfl rfl ?_
  refine r_objInit rfl (Nat.le_of_ble_eq_true rfl) ⟨Nat.le_of_ble_eq_true rfl, Nat.le_of_ble_eq_true rfl⟩ ?_
  refine r_aload_n rfl rfl ?_
  refine r_iload_n rfl rfl ?_
  refine r_putI rfl (by first | assumption | rfl) rfl (by first | exact Or.inl rfl | exact Or.inr ⟨rfl, rfl⟩) (by first | rfl | decide | assumption) (by first | rfl | decide) ?_
  refine r_aload_n rfl rfl ?_
  refine r_aload_n rfl rfl ?_
  refine r_putP rfl (by first | assumption | rfl) rfl (by first | exact Or.inl rfl | exact Or.inr ⟨rfl, rfl⟩) ?_
  refine r_aload_n rfl rfl ?_
  refine r_aload_n rfl rfl ?_
  refine r_putP rfl (by first | assumption | rfl) rfl (by first | exact Or.inl rfl | exact Or.inr ⟨rfl, rfl⟩) ?_
  refine r_aload_n rfl rfl ?_
  refine r_iload rfl rfl ?_
  refine r_putI rfl (by first | assumption | rfl) rfl (by first | exact Or.inl rfl | exact Or.inr ⟨rfl, rfl⟩) (by first | rfl | decide | assumption) (by first | rfl | decide) ?_
  refine r_aload_n rfl rfl ?_
  refine r_aload rfl rfl ?_
  refine r_putP rfl (by first | assumption | rfl) rfl (by first | exact Or.inl rfl | exact Or.inr ⟨rfl, rfl⟩) ?_
  exact r_vret rfl rfl ⟨rfl, rfl⟩
theorem chS_f (σ : Hp) (a : Nat) (d : Int32) (t u : Option Nat) (i : Int32) (f : Option Nat) : h_K (chS σ a d t u i f) = h_K σ ∧ h_z (chS σ a d t u i f) = h_z σ ∧ h_I (chS σ a d t u i f) 0 a = d ∧ h_P (chS σ a d t u i f) 1 a = t ∧ h_P (chS σ a d t u i f) 2 a = u ∧ h_I (chS σ a d t u i f) 3 a = i ∧ h_P (chS σ a d t u i f) 4 a = f := by
  refine ⟨rfl, rfl, ?_, ?_, ?_, ?_, ?_⟩
  · exact (hI_n (f := 3) (a := a) (w_P (w_P (w_I σ 0 a d) 1 a t) 2 a u) i (by decide)).trans (hI_w σ 0 a d)
  · exact (hP_n (w_I (w_P (w_P (w_I σ 0 a d) 1 a t) 2 a u) 3 a i) f (by decide)).trans ((hP_n (w_P (w_I σ 0 a d) 1 a t) u (by decide)).trans (hP_w (w_I σ 0 a d) 1 a t))
  · exact (hP_n (w_I (w_P (w_P (w_I σ 0 a d) 1 a t) 2 a u) 3 a i) f (by decide)).trans (hP_w (w_P (w_I σ 0 a d) 1 a t) 2 a u)
  · exact hI_w (w_P (w_P (w_I σ 0 a d) 1 a t) 2 a u) 3 a i
  · exact hP_w (w_I (w_P (w_P (w_I σ 0 a d) 1 a t) 2 a u) 3 a i) 4 a f
theorem Fm.ch {FI FP RS : List Nat} {τ : Hp} (h : Fm ow FI FP RS σ τ) {a : Nat} (ha : h_z σ ≤ a) (d : Int32) (t u : Option Nat) (i : Int32) (f : Option Nat) : Fm ow FI FP RS σ (chS τ a d t u i f) :=
  ((((h.nwI ha 0 d).nwP ha 1 t).nwP ha 2 u).nwI ha 3 i).nwP ha 4 f
theorem CLg.ext {τ : Hp} : ∀ {t : List En}, (∀ k, k < t.length → h_Y τ (c + 37) k = h_Y σ (c + 37) k) → (∀ a e T, CO σ ad a e T → CO τ ad a e T) → CLg σ c ad t → CLg τ c ad t
  | [], _, _, _ => trivial
  | e :: t, hY, hC, g => by
    obtain ⟨a, a1, a2⟩ := g.2
    refine ⟨CLg.ext (fun k hk => hY k (by rw [List.length_cons]; omega)) hC g.1, a, ?_, hC _ _ _ a2⟩
    rw [hY _ (by rw [List.length_cons]; omega)]
    exact a1
/-- noted: the log has an entry more -/
theorem c_noteF {τ : Hp} {e : En} {a : Nat} (g : RC ow σ c ad B S) (h : Fm ow [320, 519] chP [] σ τ) (hl : (s_l S).length < 200) (hv : Va (s_n S) (s_k S) e (s_T S)) (hct : CT τ (s_n S) (rp (e :: s_l S)) ad) (hco : CO τ ad a e (rp (s_l S))) : Cn l D m_NK_noteChange 0 0 [va_rf (some c), va_rf (some a)] τ (fun r ρ => r = none ∧ (RC ow ρ c ad B (sG S (s_n S, s_k S, e :: s_l S)) ∧ CFm ow ow σ ρ) ∧ Fm ow [320, 519, 644] chP [9] σ ρ) := by
  have hS := g.1
  have z0 := g.2.1.1
  obtain ⟨i644, hcl⟩ := g.2.2.2.2.2.2.2.2.1
  have o37 : ow (c + 37) = 9 := g.2.1.tag (q := (37, 9)) (by decide)
  have hcf : CF ow τ c := g.2.1.kp h (by decide) (by decide) (by decide) (by decide) (fun _ _ => rfl)
  have k0 : h_K τ c = 11 := hcf.2.1 (0, 11) (by decide)
  have k37 : h_K τ (c + 37) = 30 := hcf.2.1 (37, 30) (by decide)
  have k35 : h_K τ (c + 35) = 6 := hcf.2.1 (35, 6) (by decide)
  have p643 : h_P τ 643 c = some (c + 37) := hcf.2.2.1 (643, 0, 37) (by decide)
  have p642 : h_P τ 642 c = some (c + 35) := hcf.2.2.1 (642, 0, 35) (by decide)
  have l37 : h_L τ (c + 37) = 200 := hcf.2.2.2.1 (37, 200) (by decide)
  have i644t : h_I τ 644 c = nI (s_l S).length := by rw [(h.2 c (by omega)).2.2.1 644 (by decide) (fun e => by cases e)]; exact i644
  have hclt : CLg τ c ad (s_l S) := hcl.kp h g.2.1 (by decide) (by decide) (by decide)
  refine Cn.of (by decide) (by repeat (first | exact ca_0 | refine ca_i ?_ | refine ca_r ?_)) (Nat.le_of_ble_eq_true rfl) ?_
  refine r_aload_n rfl rfl ?_
  (first | refine r_getIv rfl (by first | assumption | rfl) rfl (by assumption) ?_ | refine r_getI rfl (by first | assumption | rfl) rfl ?_)
  refine r_aload_n rfl rfl ?_
  (first | refine r_getPv rfl (by first | assumption | rfl) rfl (by assumption) ?_ | refine r_getP rfl (by first | assumption | rfl) rfl ?_)
  refine r_alen rfl (Or.inr (by rw [k37]; decide)) ?_
  rw [l37]
  refine r_geN rfl (by omega) (by omega) (fun q => by omega) (fun _ => ?_)
  refine r_aload_n rfl rfl ?_
  (first | refine r_getPv rfl (by first | assumption | rfl) rfl (by assumption) ?_ | refine r_getP rfl (by first | assumption | rfl) rfl ?_)
  refine r_aload_n rfl rfl ?_
  (first | refine r_getIv rfl (by first | assumption | rfl) rfl (by assumption) ?_ | refine r_getI rfl (by first | assumption | rfl) rfl ?_)
  refine r_aload_n rfl rfl ?_
  refine r_aast (t := 0) rfl k37 (by decide) rfl (by rw [l37]; exact hl) (by rw [l37]; decide) (fun b hb => by cases hb; exact hco.2.1) ?_
  generalize hρ1 : w_Y τ (c + 37) (u_1 (h_Y τ (c + 37)) (s_l S).length (some a)) = ρ1
  have k0' : h_K ρ1 c = 11 := by rw [← hρ1]; exact k0
  have k35' : h_K ρ1 (c + 35) = 6 := by rw [← hρ1]; exact k35
  have p642' : h_P ρ1 642 c = some (c + 35) := by rw [← hρ1]; exact p642
  have i644' : h_I ρ1 644 c = nI (s_l S).length := by rw [← hρ1]; exact i644t
  refine r_aload_n rfl rfl ?_
  refine r_dup rfl (by first | rfl | exact rf_cat _) ?_
  (first | refine r_getIv rfl (by first | assumption | rfl) rfl (by assumption) ?_ | refine r_getI rfl (by first | assumption | rfl) rfl ?_)
  refine r_iconst (v := nI 1) rfl (by decide) ?_
  (first | refine r_iaddN rfl ?_ | refine r_iadd rfl ?_)
  refine r_putI rfl (by first | assumption | rfl) rfl (by first | exact Or.inl rfl | exact Or.inr ⟨rfl, rfl⟩) (by first | rfl | decide | assumption) (by first | rfl | decide) ?_
  refine r_aload_n rfl rfl ?_
  (first | refine r_getPv rfl (by first | assumption | rfl) rfl (by assumption) ?_ | refine r_getP rfl (by first | assumption | rfl) rfl ?_)
  refine r_iconst (v := nI 1) rfl (by decide) ?_
  refine r_putI rfl (by first | assumption | rfl) rfl (by first | exact Or.inl rfl | exact Or.inr ⟨rfl, rfl⟩) (by first | rfl | decide | assumption) (by first | rfl | decide) ?_
  refine r_vret rfl rfl ?_
  generalize hρ : w_I (w_I ρ1 644 c (nI ((s_l S).length + 1))) 320 (c + 35) (nI 1) = ρ
  have hf1 : Fm ow [320, 519, 644] chP [9] τ ρ := by
    rw [← hρ, ← hρ1]
    exact (Fm.Y (RS := [9]) τ _ (by rw [o37]; decide)).tr ((Fm.I _ _ _ (by decide)).tr (Fm.I _ _ _ (by decide)))
  have eK : h_K ρ = h_K τ := by rw [← hρ, ← hρ1]; rfl
  have eP : h_P ρ = h_P τ := by rw [← hρ, ← hρ1]; rfl
  have eY : h_Y ρ (c + 37) = u_1 (h_Y τ (c + 37)) (s_l S).length (some a) := by
    rw [← hρ, ← hρ1]
    exact u1_s (h_Y τ) (c + 37) _
  have eI : ∀ f b, f ≠ 320 → f ≠ 644 → h_I ρ f b = h_I τ f b := by
    intro f b w1 w2
    rw [← hρ, ← hρ1]
    exact (hI_n _ _ w1).trans (hI_n _ _ w2)
  have i1 : h_I ρ 644 c = nI ((s_l S).length + 1) := by rw [← hρ]; exact (hI_n _ _ (by decide)).trans (hI_w _ _ _ _)
  have i2 : h_I ρ 320 (c + 35) = nI 1 := by rw [← hρ]; exact hI_w _ _ _ _
  have hC : ∀ a e T, CO τ ad a e T → CO ρ ad a e T := fun a e T q => q.kp hf1 (by decide) (by decide)
  have hcg : CLg ρ c ad (e :: s_l S) := by
    refine ⟨CLg.ext (fun k hk => ?_) hC hclt, a, ?_, hC _ _ _ hco⟩
    · rw [eY]
      exact u1_n _ _ (by omega)
    · rw [eY, u1_s]
  have hct2 : CT ρ (s_n S) (rp (e :: s_l S)) ad := hct.to rfl rfl eK eP (fun z hz => by rw [eI _ _ (by decide) (by decide)]; exact hct.2.2.2.2.2.2 z hz)
  have hf2 : Fm ow [320, 519, 644] chP [9] σ ρ := (h.wide (by decide) (by decide) (by decide)).tr hf1
  exact ⟨rfl, g.kpL hf2 (by decide) (by decide) (by decide) (hS.g (Nat.le_refl _) hS.1 (fun _ _ => rfl) hS.2.1 ⟨hS.2.2.1, hv⟩ (by rw [List.length_cons]; omega)) hct2 ⟨i1, hcg⟩ i2, hf2⟩
theorem c_noteG {τ : Hp} {e : En} {a : Nat} (g : RC ow σ c ad B S) (h : Fm ow [320, 519] chP [] σ τ) (hl : (s_l S).length < 200) (hv : Va (s_n S) (s_k S) e (s_T S)) (hct : CT τ (s_n S) (rp (e :: s_l S)) ad) (hco : CO τ ad a e (rp (s_l S))) : Cn l D m_NK_noteChange 0 0 [va_rf (some c), va_rf (some a)] τ (fun r ρ => r = none ∧ RC ow ρ c ad B (sG S (s_n S, s_k S, e :: s_l S)) ∧ CFm ow ow σ ρ) := Cn.mono (c_noteF g h hl hv hct hco) (fun _ _ q => ⟨q.1, q.2.1⟩)
theorem c_note {τ : Hp} {e : En} {a : Nat} (g : RC ow σ c ad B S) (h : Fm ow [519] chP [] σ τ) (hl : (s_l S).length < 200) (hv : Va (s_n S) (s_k S) e (s_T S)) (hct : CT τ (s_n S) (rp (e :: s_l S)) ad) (hco : CO τ ad a e (rp (s_l S))) : Cn l D m_NK_noteChange 0 0 [va_rf (some c), va_rf (some a)] τ (fun r ρ => r = none ∧ RC ow ρ c ad B (sG S (s_n S, s_k S, e :: s_l S)) ∧ CFm ow ow σ ρ) := c_noteG g (h.wide (by decide) (by decide) (by decide)) hl hv hct hco
end NK
