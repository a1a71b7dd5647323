/-! ===== the class: takeBack ===== -/
theorem W0.lv {n x : Nat} {T : Tr} (h : W0 n T) : W0 n (lvT x T) := ⟨h.1, fun q c hc => h.2.1 q c (mem_rmv.mp hc).1, fun q => rmv_nd (h.2.2.1 q), fun q r c h1 h2 => h.2.2.2 q r c (mem_rmv.mp h1).1 (mem_rmv.mp h2).1⟩
theorem W0.as {n : Nat} {T T' : Tr} (h : W0 n T) (e : t_k T' = t_k T) : W0 n T' := by
  unfold W0 at h ⊢
  rw [e]
  exact h
theorem lv_no {T T1 : Tr} {x : Nat} (e : t_k T1 = t_k (lvT x T)) (q : Nat) : x ∉ t_k T1 q := by
  rw [e]
  exact fun h => (mem_rmv.mp h).2 rfl
theorem lv_len {n : Nat} {kd : Nat → Nat} {T T1 : Tr} {x p k : Nat} (hW : Wf n kd T) (e : t_k T1 = t_k (lvT x T)) (hk : (t_k T p)[k]? = some x) : k ≤ (t_k T1 p).length := by
  rw [e]
  show k ≤ (rmv (t_k T p) x).length
  have := rmv_len (hW.2.2.1 p) hk
  have := getE_lt hk
  omega
section CK
variable {l : Launch} {D : DD} {σ : Hp} {n : Nat} {ad ow : Nat → Nat} {kd : Nat → Nat}
set_option maxHeartbeats 1000000 in
theorem c_takeBack {a : Nat} {e : En} {t : List En} (hn : n ≤ 120) (hL : LogOk n kd (e :: t)) (h : CT σ n (rp (e :: t)) ad) (ho : CO σ ad a e (rp t)) : Cn l D m_Change_takeBack 0 0 [va_rf (some a)] σ (fun r τ => r = none ∧ CT τ n (rp t) ad ∧ Fm ow [519] chP [] σ τ) := by
  have hW := LogOk.wf hn hL.1
  have hW1 := LogOk.wf hn hL
  have hv := hL.2
  obtain ⟨ha, hka, hco⟩ := ho
  have hrp : rp (e :: t) = ap e (rp t) := rfl
  generalize hT : rp t = T at hW hv hco hrp ⊢
  generalize hT1 : rp (e :: t) = T1 at hW1 h hrp
  generalize hQ : (fun (r : Option Value) (τ : Hp) => r = none ∧ CT τ n T ad ∧ Fm ow [519] chP [] σ τ) = Q
  obtain ⟨cc, x, p, i⟩ := e
  have old : ∀ {τ : Hp}, Fm ow [519] chP [] σ τ → h_K τ a = 1 ∧ (∀ f, f ∉ [519] → f ≠ 193 → h_I τ f a = h_I σ f a) ∧ ∀ f, f ∉ chP → h_P τ f a = h_P σ f a := fun hf => ⟨by rw [(hf.2 a ha).1]; exact hka, fun f q w => (hf.2 a ha).2.2.1 f q (fun e2 => absurd e2 w), fun f q => (hf.2 a ha).2.2.2.1 f q⟩
  have tnl : ∀ q, liv T q → TN n q := fun q hq => hq.elim Or.inr (fun w => Or.inl (hW.h_lt w))
  refine Cn.of (by decide) (by repeat (first | exact ca_0 | refine ca_i ?_ | refine ca_r ?_)) (Nat.le_of_ble_eq_true rfl) ?_
  rcases hco with ⟨c1, i0, p1⟩ | ⟨c1, i0, p1, pp, kk, lp, kp, p2, i3⟩ | ⟨c1, i0, p1, pp, kk, lp, kp, p2, i3⟩ | ⟨c1, i0, p1, p4, pp, kk, lp, kp, p2, i3⟩
  · -- added
    have c1 : cc = 1 := c1
    subst c1
    have hva : VA n T x p i := by
      rcases hv with ⟨_, v⟩ | ⟨v, _⟩ | ⟨v, _⟩ | ⟨v, _⟩
      · exact v
      · cases v
      · cases v
      · cases v
    have eT1 : T1 = apA x p i T := hrp
    subst eT1
    have p1 : h_P σ 1 a = some (ad x) := p1
    have hpos : (t_k (apA x p i T) p)[i]? = some x := by
      show (u_1 (t_k T) p (insA (t_k T p) i x) p)[i]? = some x
      rw [u1_s, ins_at hva.2.2.2.2.2.2, if_neg (Nat.lt_irrefl _), if_pos rfl]
    have hxn := hva.1
    have kx := h.1 x (Or.inl hxn)
    refine r_aload_n rfl rfl ?_
    (first | refine r_getIv rfl (by first | assumption | rfl) rfl (by assumption) ?_ | refine r_getI rfl (by first | assumption | rfl) rfl ?_)
    refine r_tswIn rfl (by decide) (by decide) (off := 28) (by decide) (tgt := 32) (by decide) ?_
    refine r_aload_n rfl rfl ?_
    (first | refine r_getPv rfl (by first | assumption | rfl) rfl (by assumption) ?_ | refine r_getP rfl (by first | assumption | rfl) rfl ?_)
    refine r_callV (As := []) rfl (by decide) rfl kx rfl rfl (Nat.le_of_ble_eq_true rfl) ⟨Nat.le_of_ble_eq_true rfl, Nat.le_of_ble_eq_true rfl⟩ (c_leaveC h hW1.w0 (tnl p hva.2.2.2.2.2.1) hpos) (kc' := 0) (ks' := 0) (by omega) (by omega) (by decide) ?_
    rintro r τ ⟨rfl, hct, hτ⟩
    have hf : Fm ow [519] chP [] σ τ := by rw [hτ]; exact Fm.lv _ _ _ _
    obtain ⟨o1, o2, o3⟩ := old hf
    have p1' : h_P τ 1 a = some (ad x) := by rw [o3 1 (by decide)]; exact p1
    have kx' := hct.1 x (Or.inl hxn)
    refine r_aload_n rfl rfl ?_
    (first | refine r_getPv rfl (by first | assumption | rfl) rfl (by assumption) ?_ | refine r_getP rfl (by first | assumption | rfl) rfl ?_)
    refine r_iconst (v := nI 0) rfl (by decide) ?_
    refine r_putI rfl (by first | assumption | rfl) rfl (by first | exact Or.inl rfl | exact Or.inr ⟨rfl, rfl⟩) (by first | rfl | decide | assumption) (by first | rfl | decide) ?_
    refine r_goto rfl ?_
    refine r_vret rfl rfl ?_
    rw [← hQ]
    refine ⟨rfl, hct.to (backA hva).symm rfl rfl rfl (fun z hz => ?_), hf.tr (Fm.I _ _ _ (by decide))⟩
    by_cases ez : z = x
    · rw [ez, hI_w, hva.2.1]; rfl
    · have hne : ad z ≠ ad x := fun e2 => ez (h.2.1 z x (Or.inl hz) (Or.inl hxn) e2)
      rw [show h_I (w_I τ 519 (ad x) (nI 0)) 519 (ad z) = h_I τ 519 (ad z) from u2_n2 _ _ hne, hct.2.2.2.2.2.2 z hz]
      show nI (u_1 (t_h T) x true z).toNat = _
      rw [u1_n _ _ ez]
  · -- moved
    have c1 : cc = 2 := c1
    subst c1
    have hva : VM T x p i := by
      rcases hv with ⟨v, _⟩ | ⟨_, v⟩ | ⟨v, _⟩ | ⟨v, _⟩
      · cases v
      · exact v
      · cases v
      · cases v
    have eT1 : T1 = apM x p i T := hrp
    subst eT1
    have p1 : h_P σ 1 a = some (ad x) := p1
    have kp : (t_k T pp)[kk]? = some x := kp
    have hpos : (t_k (apM x p i T) p)[i]? = some x := by
      show (u_1 (fun q => rmv (t_k T q) x) p (insA (rmv (t_k T p) x) i x) p)[i]? = some x
      rw [u1_s, ins_at hva.2.2.2, if_neg (Nat.lt_irrefl _), if_pos rfl]
    have hxn := hW.h_lt hva.1
    have kx := h.1 x (Or.inl hxn)
    have hxpp : x ≠ pp := by
      obtain ⟨dp, hd⟩ := hW.2.2.2.2.1
      intro e2
      have := hd pp x (List.mem_of_getElem? kp)
      rw [← e2] at this
      omega
    refine r_aload_n rfl rfl ?_
    (first | refine r_getIv rfl (by first | assumption | rfl) rfl (by assumption) ?_ | refine r_getI rfl (by first | assumption | rfl) rfl ?_)
    refine r_tswIn rfl (by decide) (by decide) (off := 46) (by decide) (tgt := 50) (by decide) ?_
    refine r_aload_n rfl rfl ?_
    (first | refine r_getPv rfl (by first | assumption | rfl) rfl (by assumption) ?_ | refine r_getP rfl (by first | assumption | rfl) rfl ?_)
    refine r_callV (As := []) rfl (by decide) rfl kx rfl rfl (Nat.le_of_ble_eq_true rfl) ⟨Nat.le_of_ble_eq_true rfl, Nat.le_of_ble_eq_true rfl⟩ (c_leaveC h hW1.w0 (tnl p hva.2.1) hpos) (kc' := 0) (ks' := 0) (by omega) (by omega) (by decide) ?_
    rintro r τ ⟨rfl, hct, hτ⟩
    have hf : Fm ow [519] chP [] σ τ := by rw [hτ]; exact Fm.lv _ _ _ _
    obtain ⟨o1, o2, o3⟩ := old hf
    have p1' : h_P τ 1 a = some (ad x) := by rw [o3 1 (by decide)]; exact p1
    have p2' : h_P τ 2 a = some (ad pp) := by rw [o3 2 (by decide)]; exact p2
    have i3' : h_I τ 3 a = nI kk := by rw [o2 3 (by decide) (by decide)]; exact i3
    have kx' := hct.1 x (Or.inl hxn)
    refine r_aload_n rfl rfl ?_
    (first | refine r_getPv rfl (by first | assumption | rfl) rfl (by assumption) ?_ | refine r_getP rfl (by first | assumption | rfl) rfl ?_)
    refine r_aload_n rfl rfl ?_
    (first | refine r_getPv rfl (by first | assumption | rfl) rfl (by assumption) ?_ | refine r_getP rfl (by first | assumption | rfl) rfl ?_)
    refine r_aload_n rfl rfl ?_
    (first | refine r_getIv rfl (by first | assumption | rfl) rfl (by assumption) ?_ | refine r_getI rfl (by first | assumption | rfl) rfl ?_)
    refine r_callV (As := [_, _]) rfl (by decide) rfl kx' rfl rfl (Nat.le_of_ble_eq_true rfl) ⟨Nat.le_of_ble_eq_true rfl, Nat.le_of_ble_eq_true rfl⟩ (c_hangC hct hW1.w0.lv hxn (tnl pp lp) hxpp (lv_no backM) (lv_len hW backM kp)) (kc' := 0) (ks' := 0) (by omega) (by omega) (by decide) ?_
    rintro r ρ ⟨rfl, hcr, hρ⟩
    refine r_goto rfl ?_
    refine r_vret rfl rfl ?_
    rw [← hQ]
    exact ⟨rfl, hcr.to (backH hW backM kp).symm rfl rfl rfl (fun z hz => hcr.2.2.2.2.2.2 z hz), hf.tr (by rw [hρ]; exact Fm.hg _ _ _ _)⟩
  · -- cut
    have c1 : cc = 3 := c1
    subst c1
    have hva : t_h T x = true := by
      rcases hv with ⟨v, _⟩ | ⟨v, _⟩ | ⟨_, v, _⟩ | ⟨v, _⟩
      · cases v
      · cases v
      · exact v
      · cases v
    have eT1 : T1 = apC x T := hrp
    subst eT1
    have p1 : h_P σ 1 a = some (ad x) := p1
    have kp : (t_k T pp)[kk]? = some x := kp
    have hxn := hW.h_lt hva
    have kx := h.1 x (Or.inl hxn)
    have hxpp : x ≠ pp := by
      obtain ⟨dp, hd⟩ := hW.2.2.2.2.1
      intro e2
      have := hd pp x (List.mem_of_getElem? kp)
      rw [← e2] at this
      omega
    refine r_aload_n rfl rfl ?_
    (first | refine r_getIv rfl (by first | assumption | rfl) rfl (by assumption) ?_ | refine r_getI rfl (by first | assumption | rfl) rfl ?_)
    refine r_tswIn rfl (by decide) (by decide) (off := 71) (by decide) (tgt := 75) (by decide) ?_
    refine r_aload_n rfl rfl ?_
    (first | refine r_getPv rfl (by first | assumption | rfl) rfl (by assumption) ?_ | refine r_getP rfl (by first | assumption | rfl) rfl ?_)
    refine r_iconst (v := nI 1) rfl (by decide) ?_
    refine r_callV (As := [_]) rfl (by decide) rfl kx rfl rfl (Nat.le_of_ble_eq_true rfl) ⟨Nat.le_of_ble_eq_true rfl, Nat.le_of_ble_eq_true rfl⟩ (c_setAll (b := true) h.cs hW1 hxn) (kc' := 0) (ks' := 0) (by omega) (by omega) (by decide) ?_
    rintro r τ ⟨rfl, hτ⟩
    have hf : Fm ow [519] chP [] σ τ := by rw [hτ]; exact Fm.th _ _
    obtain ⟨g1, g2, g3, g4, g5, g6, g7, g8⟩ := thS_f ((pre (apC x T) 121 x).map ad) σ (nI true.toNat)
    rw [← hτ] at g1 g2 g3 g4 g5 g6 g7 g8
    -- all that was below is there again
    have hct : CT τ n (t_k (apC x T), t_h T, t_i T) ad := by
      refine h.to rfl rfl g2 g3 (fun z hz => ?_)
      rw [g8, pre_cut hW]
      show _ = nI (t_h T z).toNat
      by_cases hm : z ∈ pre T 121 x
      · rw [if_pos (List.mem_map.mpr ⟨z, hm, rfl⟩)]
        have := ((sub_iff hW hva z).mp hm).2
        simp only [Bool.and_eq_true] at this
        rw [this.1]
      · rw [if_neg]
        · rw [h.2.2.2.2.2.2 z hz]
          show nI (t_h T z && !bel T x z).toNat = _
          cases hz2 : t_h T z with
          | false => rfl
          | true =>
            cases hb : bel T x z with
            | false => rfl
            | true => exact absurd ((sub_iff hW hva z).mpr ⟨hz, by rw [hz2, hb]; rfl⟩) hm
        · intro hmm
          obtain ⟨d, hd, e2⟩ := List.mem_map.mp hmm
          have hdn := ((sub_iff hW hva d).mp hd).1
          exact hm (by rw [← h.2.1 d z (Or.inl hdn) (Or.inl hz) e2]; exact hd)
    obtain ⟨o1, o2, o3⟩ := old hf
    have p1' : h_P τ 1 a = some (ad x) := by rw [o3 1 (by decide)]; exact p1
    have p2' : h_P τ 2 a = some (ad pp) := by rw [o3 2 (by decide)]; exact p2
    have i3' : h_I τ 3 a = nI kk := by rw [o2 3 (by decide) (by decide)]; exact i3
    have kx' := hct.1 x (Or.inl hxn)
    refine r_pop rfl (by first | rfl | exact rf_cat _) ?_
    refine r_aload_n rfl rfl ?_
    (first | refine r_getPv rfl (by first | assumption | rfl) rfl (by assumption) ?_ | refine r_getP rfl (by first | assumption | rfl) rfl ?_)
    refine r_aload_n rfl rfl ?_
    (first | refine r_getPv rfl (by first | assumption | rfl) rfl (by assumption) ?_ | refine r_getP rfl (by first | assumption | rfl) rfl ?_)
    refine r_aload_n rfl rfl ?_
    (first | refine r_getIv rfl (by first | assumption | rfl) rfl (by assumption) ?_ | refine r_getI rfl (by first | assumption | rfl) rfl ?_)
    have ebk : t_k ((t_k (apC x T), t_h T, t_i T) : Tr) = t_k (lvT x T) := rfl
    refine r_callV (As := [_, _]) rfl (by decide) rfl kx' rfl rfl (Nat.le_of_ble_eq_true rfl) ⟨Nat.le_of_ble_eq_true rfl, Nat.le_of_ble_eq_true rfl⟩ (c_hangC hct (hW.w0.lv.as ebk) hxn (tnl pp lp) hxpp (lv_no ebk) (lv_len hW ebk kp)) (kc' := 0) (ks' := 0) (by omega) (by omega) (by decide) ?_
    rintro r ρ ⟨rfl, hcr, hρ⟩
    refine r_goto rfl ?_
    refine r_vret rfl rfl ?_
    rw [← hQ]
    exact ⟨rfl, hcr.to (backH hW ebk kp).symm rfl rfl rfl (fun z hz => hcr.2.2.2.2.2.2 z hz), hf.tr (by rw [hρ]; exact Fm.hg _ _ _ _)⟩
  · -- joined
    have c1 : cc = 4 := c1
    subst c1
    have hva : VJ kd T x p := by
      rcases hv with ⟨v, _⟩ | ⟨v, _⟩ | ⟨v, _⟩ | ⟨_, v⟩
      · cases v
      · cases v
      · cases v
      · exact v
    have eT1 : T1 = apJ x p T := hrp
    subst eT1
    have p1 : h_P σ 1 a = some (ad p) := p1
    have p4 : h_P σ 4 a = (t_k T p).head?.map ad := p4
    have kp : (t_k T pp)[kk]? = some p := kp
    obtain ⟨hxy, p0, j0, l0, m1, m2, hx0, hy0, hpx, hpy⟩ := VJ.ne hW hva
    have hxn := hW.h_lt hva.1
    have hyn := hW.h_lt hva.2.1
    have kx := h.1 x (Or.inl hxn)
    have ky := h.1 p (Or.inl hyn)
    have hypp : p ≠ pp := by
      obtain ⟨dp, hd⟩ := hW.2.2.2.2.1
      intro e2
      have := hd pp p (List.mem_of_getElem? kp)
      rw [← e2] at this
      omega
    have into : h_P σ 518 (ad p) = some (ad x) := by
      rw [h.2.2.2.2.2.1 p hyn]
      show (u_1 (t_i T) p (some x) p).map ad = _
      rw [u1_s]
      rfl
    -- takeApart
    have apart : Cn l D m_Change_takeApart 0 0 [va_rf (some a)] σ (fun r τ => r = none ∧ CT τ n (t_k (gvT x p (t_k T x).length (apJ x p T)), t_h T, t_i T) ad ∧ Fm ow [519] chP [] σ τ) := by
      generalize hR : (fun (r : Option Value) (τ : Hp) => r = none ∧ CT τ n (t_k (gvT x p (t_k T x).length (apJ x p T)), t_h T, t_i T) ad ∧ Fm ow [519] chP [] σ τ) = R
      refine Cn.of (by decide) (by repeat (first | exact ca_0 | refine ca_i ?_ | refine ca_r ?_)) (Nat.le_of_ble_eq_true rfl) ?_
      have fin : ∀ (τ : Hp), CT τ n (gvT x p (t_k T x).length (apJ x p T)) ad → Fm ow [519] chP [] σ τ → Gm l D m_Change_takeApart 0 0 R 28 [some (va_rf (some a))] [] τ 0 0 := by
        intro τ hct hf
        obtain ⟨o1, o2, o3⟩ := old hf
        have p1' : h_P τ 1 a = some (ad p) := by rw [o3 1 (by decide)]; exact p1
        have ky' := hct.1 p (Or.inl hyn)
        refine r_aload_n rfl rfl ?_
        (first | refine r_getPv rfl (by first | assumption | rfl) rfl (by assumption) ?_ | refine r_getP rfl (by first | assumption | rfl) rfl ?_)
        refine r_null rfl ?_
        refine r_putP rfl (by first | assumption | rfl) rfl (by first | exact Or.inl rfl | exact Or.inr ⟨rfl, rfl⟩) ?_
        have p1'' : h_P (w_P τ 518 (ad p) none) 1 a = some (ad p) := (hP_n _ _ (by decide)).trans p1'
        have ky'' : h_K (w_P τ 518 (ad p) none) (ad p) = 9 := ky'
        have o1' : h_K (w_P τ 518 (ad p) none) a = 1 := o1
        refine r_aload_n rfl rfl ?_
        (first | refine r_getPv rfl (by first | assumption | rfl) rfl (by assumption) ?_ | refine r_getP rfl (by first | assumption | rfl) rfl ?_)
        refine r_iconst (v := nI 1) rfl (by decide) ?_
        refine r_putI rfl (by first | assumption | rfl) rfl (by first | exact Or.inl rfl | exact Or.inr ⟨rfl, rfl⟩) (by first | rfl | decide | assumption) (by first | rfl | decide) ?_
        refine r_vret rfl rfl ?_
        rw [← hR]
        refine ⟨rfl, ⟨hct.1, hct.2.1, fun z hz => ?_, fun z cz hz hcz => ?_, ?_, fun z hz => ?_, fun z hz => ?_⟩, (hf.tr (Fm.P _ _ _ (by decide))).tr (Fm.I _ _ _ (by decide))⟩
        · have hc2 := hct.2.2.1 z hz
          rw [show h_P (w_I (w_P τ 518 (ad p) none) 519 (ad p) (nI 1)) 516 (ad z) = h_P τ 516 (ad z) from hP_n _ _ (by decide)]
          exact Ch.ext (σ := τ) (fun b _ => ⟨rfl, hP_n _ _ (by decide)⟩) hc2
        · rw [show h_P (w_I (w_P τ 518 (ad p) none) 519 (ad p) (nI 1)) 515 (ad cz) = h_P τ 515 (ad cz) from hP_n _ _ (by decide)]
          exact hct.2.2.2.1 z cz hz hcz
        · rw [show h_P (w_I (w_P τ 518 (ad p) none) 519 (ad p) (nI 1)) 515 (ad 120) = h_P τ 515 (ad 120) from hP_n _ _ (by decide)]
          exact hct.2.2.2.2.1
        · show h_P (w_P τ 518 (ad p) none) 518 (ad z) = (t_i T z).map ad
          by_cases ez : z = p
          · rw [ez, hP_w]
            have : t_i T p = none := by
              cases hi : t_i T p with
              | none => rfl
              | some w =>
                have := (hW.2.2.2.2.2.2.2.1 p w hi).1
                rw [hva.2.1] at this
                cases this
            rw [this]
            rfl
          · rw [hP_m _ _ (fun e2 => ez (h.2.1 z p (Or.inl hz) (Or.inl hyn) e2)), hct.2.2.2.2.2.1 z hz]
            show (u_1 (t_i T) p (some x) z).map ad = _
            rw [u1_n _ _ ez]
        · show h_I (w_I (w_P τ 518 (ad p) none) 519 (ad p) (nI 1)) 519 (ad z) = nI (t_h T z).toNat
          by_cases ez : z = p
          · rw [ez, hI_w, hva.2.1]; rfl
          · have hne : ad z ≠ ad p := fun e2 => ez (h.2.1 z p (Or.inl hz) (Or.inl hyn) e2)
            rw [show h_I (w_I (w_P τ 518 (ad p) none) 519 (ad p) (nI 1)) 519 (ad z) = h_I τ 519 (ad z) from u2_n2 _ _ hne, hct.2.2.2.2.2.2 z hz]
            show nI (u_1 (t_h T) p false z).toNat = _
            rw [u1_n _ _ ez]
      have hkx1 : t_k (apJ x p T) x = t_k T x ++ t_k T p := by
        show (if x = x then _ else _) = _
        rw [if_pos rfl]
      have hky1 : t_k (apJ x p T) p = [] := by
        show (if p = x then _ else if p = p then [] else _) = _
        rw [if_neg hxy.symm, if_pos rfl]
      refine r_aload_n rfl rfl ?_
      (first | refine r_getPv rfl (by first | assumption | rfl) rfl (by assumption) ?_ | refine r_getP rfl (by first | assumption | rfl) rfl ?_)
      (first | refine r_getPv rfl (by first | assumption | rfl) rfl (by assumption) ?_ | refine r_getP rfl (by first | assumption | rfl) rfl ?_)
      refine r_ifnull rfl (fun hq => by cases hq) (fun _ _ => ?_)
      refine r_aload_n rfl rfl ?_
      (first | refine r_getPv rfl (by first | assumption | rfl) rfl (by assumption) ?_ | refine r_getP rfl (by first | assumption | rfl) rfl ?_)
      (first | refine r_getPv rfl (by first | assumption | rfl) rfl (by assumption) ?_ | refine r_getP rfl (by first | assumption | rfl) rfl ?_)
      refine r_aload_n rfl rfl ?_
      (first | refine r_getPv rfl (by first | assumption | rfl) rfl (by assumption) ?_ | refine r_getP rfl (by first | assumption | rfl) rfl ?_)
      refine r_aload_n rfl rfl ?_
      (first | refine r_getPv rfl (by first | assumption | rfl) rfl (by assumption) ?_ | refine r_getP rfl (by first | assumption | rfl) rfl ?_)
      try rw [into]
      try rw [p4]
      cases hkp : t_k T p with
      | nil =>
        have hgk : Cn l D m_Thing_giveKids 0 0 [va_rf (some (ad x)), va_rf none, va_rf (some (ad p))] σ (fun r τ => r = none ∧ τ = σ) := by
          refine Cn.of (by decide) (by repeat (first | exact ca_0 | refine ca_i ?_ | refine ca_r ?_)) (Nat.le_of_ble_eq_true rfl) ?_
          refine r_aload_n rfl rfl ?_
          refine r_ifnonnull rfl (fun _ hq => by cases hq) (fun _ => ?_)
          exact r_vret rfl rfl ⟨rfl, rfl⟩
        refine r_callV (As := [_, _]) rfl (by decide) rfl kx rfl rfl (Nat.le_of_ble_eq_true rfl) ⟨Nat.le_of_ble_eq_true rfl, Nat.le_of_ble_eq_true rfl⟩ (hgk) (kc' := 0) (ks' := 0) (by omega) (by omega) (by decide) ?_
        rintro r τ ⟨rfl, rfl⟩
        refine fin _ ?_ (Fm.rf _ _ _ _ _)
        have ekk : t_k (gvT x p (t_k T x).length (apJ x p T)) = t_k (apJ x p T) := by
          funext q
          show (if q = x then (t_k (apJ x p T) x).take (t_k T x).length else if q = p then (t_k (apJ x p T) x).drop (t_k T x).length else t_k (apJ x p T) q) = _
          rw [hkx1, hkp, List.append_nil, List.take_of_length_le (Nat.le_refl _), List.drop_eq_nil_of_le (Nat.le_refl _)]
          by_cases e1 : q = x
          · rw [if_pos e1, e1, hkx1, hkp, List.append_nil]
          · rw [if_neg e1]
            by_cases e2 : q = p
            · rw [if_pos e2, e2, hky1]
            · rw [if_neg e2]
        exact h.to ekk rfl rfl rfl (fun z hz => h.2.2.2.2.2.2 z hz)
      | cons k0 ks =>
        have hj : (t_k (apJ x p T) x)[(t_k T x).length]? = some k0 := by
          rw [hkx1, List.getElem?_append_right (Nat.le_refl _), Nat.sub_self, hkp]
          rfl
        obtain ⟨f1, f2, f3, f4⟩ := h.fst hW1.w0 hj
        have kk0 := h.1 k0 (Or.inl f4)
        have hu := h.2.2.2.1 x k0 (Or.inl hxn) (List.mem_of_getElem? hj)
        have hnd := hW1.2.2.1 x
        have hdd : ∀ cz, ((t_k (apJ x p T) x).map ad)[(t_k T x).length - 1]? = some cz → 0 < (t_k T x).length → cz ∉ ((t_k (apJ x p T) x).map ad).drop (t_k T x).length := by
          intro cz hcz h0 hin
          rw [← List.map_drop] at hin
          obtain ⟨d, hd, e2⟩ := List.mem_map.mp hin
          rw [List.getElem?_map] at hcz
          cases hg : (t_k (apJ x p T) x)[(t_k T x).length - 1]? with
          | none => rw [hg] at hcz; cases hcz
          | some w =>
            rw [hg] at hcz
            have hcw : ad w = cz := Option.some.inj hcz
            have hwn := hW1.k_lt (List.mem_of_getElem? hg)
            have hdn := hW1.k_lt (List.mem_of_mem_drop hd)
            have hdw : d = w := h.2.1 d w (Or.inl hdn) (Or.inl hwn) (by rw [e2, hcw])
            rw [← List.take_append_drop (t_k T x).length (t_k (apJ x p T) x)] at hnd
            refine (List.nodup_append.mp hnd).2.2 w ?_ d hd hdw.symm
            refine List.mem_of_getElem? (i := (t_k T x).length - 1) ?_
            rw [List.getElem?_take, if_pos (by omega)]
            exact hg
        refine r_callV (As := [_, _]) rfl (by decide) rfl kx rfl rfl (Nat.le_of_ble_eq_true rfl) ⟨Nat.le_of_ble_eq_true rfl, Nat.le_of_ble_eq_true rfl⟩ (c_giveKids (kid := ad k0) (j := (t_k T x).length) kx ky kk0 hu (h.2.2.1 x (Or.inl hxn)) f3 f1 f2 hdd) (kc' := 0) (ks' := 0) (by omega) (by omega) (by decide) ?_
        rintro r τ ⟨rfl, rfl⟩
        exact fin _ (h.give hW1.w0 hxn hyn hxy hky1 hj) (Fm.gv _ _ _ _ _)
    refine r_aload_n rfl rfl ?_
    (first | refine r_getIv rfl (by first | assumption | rfl) rfl (by assumption) ?_ | refine r_getI rfl (by first | assumption | rfl) rfl ?_)
    refine r_tswOut rfl (Or.inr (by decide)) (tgt := 102) (by decide) ?_
    refine r_aload_n rfl rfl ?_
    refine r_callV (As := []) rfl (by decide) rfl hka rfl rfl (Nat.le_of_ble_eq_true rfl) ⟨Nat.le_of_ble_eq_true rfl, Nat.le_of_ble_eq_true rfl⟩ (apart) (kc' := 0) (ks' := 0) (by omega) (by omega) (by decide) ?_
    rintro r τ ⟨rfl, hct, hf⟩
    obtain ⟨o1, o2, o3⟩ := old hf
    have p1' : h_P τ 1 a = some (ad p) := by rw [o3 1 (by decide)]; exact p1
    have p2' : h_P τ 2 a = some (ad pp) := by rw [o3 2 (by decide)]; exact p2
    have i3' : h_I τ 3 a = nI kk := by rw [o2 3 (by decide) (by decide)]; exact i3
    have ky' := hct.1 p (Or.inl hyn)
    have ebk : t_k ((t_k (gvT x p (t_k T x).length (apJ x p T)), t_h T, t_i T) : Tr) = t_k (lvT p T) := backJ hW hva kp
    refine r_aload_n rfl rfl ?_
    (first | refine r_getPv rfl (by first | assumption | rfl) rfl (by assumption) ?_ | refine r_getP rfl (by first | assumption | rfl) rfl ?_)
    refine r_aload_n rfl rfl ?_
    (first | refine r_getPv rfl (by first | assumption | rfl) rfl (by assumption) ?_ | refine r_getP rfl (by first | assumption | rfl) rfl ?_)
    refine r_aload_n rfl rfl ?_
    (first | refine r_getIv rfl (by first | assumption | rfl) rfl (by assumption) ?_ | refine r_getI rfl (by first | assumption | rfl) rfl ?_)
    refine r_callV (As := [_, _]) rfl (by decide) rfl ky' rfl rfl (Nat.le_of_ble_eq_true rfl) ⟨Nat.le_of_ble_eq_true rfl, Nat.le_of_ble_eq_true rfl⟩ (c_hangC hct (hW.w0.lv.as ebk) hyn (tnl pp lp) hypp (lv_no ebk) (lv_len hW ebk kp)) (kc' := 0) (ks' := 0) (by omega) (by omega) (by decide) ?_
    rintro r ρ ⟨rfl, hcr, hρ⟩
    refine r_vret rfl rfl ?_
    rw [← hQ]
    exact ⟨rfl, hcr.to (backH hW ebk kp).symm rfl rfl rfl (fun z hz => hcr.2.2.2.2.2.2 z hz), hf.tr (by rw [hρ]; exact Fm.hg _ _ _ _)⟩
end CK
