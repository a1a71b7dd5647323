/-! ===== the reference: edition ===== -/
def sE (S : Sp) (es : List Ed) : Sp := (s_t S, s_w S, s_f S, s_g S, s_m S, es, s_d S)
def edN (S : Sp) : Ed := fun x => if t_h (s_T S) x = true then some (tdT S x, n_n S x) else none
def a_edit (S : Sp) : Int32 × Sp := if (s_e S).length = 8 then (-3, S) else (nI (s_e S).length, sE S (s_e S ++ [edN S]))
theorem sgn_len8 : ∀ s, s < 5 → ∀ c, c < 121 → (sgn s c).length ≤ 8 := by decide +kernel
theorem sgn_len1 : ∀ s, s < 5 → ∀ c, c < 121 → 0 < c → 0 < (sgn s c).length := by decide +kernel
theorem b8_b8 (v : Int32) : b8 (b8 v) = b8 v := fit_b8 (b8_fit v)
theorem b8_L : ∀ j, j < 128 → b8 (nI j) = nI j := by decide +kernel
theorem isL_nI {v : Int32} (h : isL v = true) : ∃ j, 65 ≤ j ∧ j < 123 ∧ v = nI j := by
  unfold isL at h
  simp only [Bool.or_eq_true, Bool.and_eq_true, decide_eq_true_eq] at h
  have h97 : (97 : Int32) = nI 97 := rfl
  have h122 : (122 : Int32) = nI 122 := rfl
  have h65 : (65 : Int32) = nI 65 := rfl
  have h90 : (90 : Int32) = nI 90 := rfl
  rw [h97, h122, h65, h90] at h
  have hp : ∀ a, a < 2 ^ 31 → nI a ≤ v → ¬ v < 0 := fun a ha q w => nI_pos ha (Int32.lt_of_le_of_lt q w)
  rcases h with ⟨a, b⟩ | ⟨a, b⟩
  · obtain ⟨j, hj, rfl⟩ := nI_of (hp 97 (by decide) a)
    exact ⟨j, by have := (nI_leI (by decide) hj).mp a; omega, by have := (nI_leI hj (by decide)).mp b; omega, rfl⟩
  · obtain ⟨j, hj, rfl⟩ := nI_of (hp 65 (by decide) a)
    exact ⟨j, by have := (nI_leI (by decide) hj).mp a; omega, by have := (nI_leI hj (by decide)).mp b; omega, rfl⟩
theorem isL_b8 {v : Int32} (h : isL v = true) : b8 v = v := by
  obtain ⟨j, -, h2, rfl⟩ := isL_nI h
  exact b8_L j (by omega)
theorem romD_b8 (d : Nat) (a b c : Int32) : ∀ v ∈ romD d a b c, b8 v = v := by
  intro v hv
  unfold romD at hv
  split at hv
  · simp only [List.mem_cons, List.not_mem_nil, or_false] at hv
    rcases hv with rfl | rfl <;> exact b8_b8 _
  · split at hv
    · simp only [List.mem_cons, List.not_mem_nil, or_false] at hv
      rcases hv with rfl | rfl <;> exact b8_b8 _
    · rcases List.mem_append.mp hv with hv | hv
      · split at hv
        · rw [List.mem_singleton.mp hv]; exact b8_b8 _
        · cases hv
      · rw [(List.mem_replicate.mp hv).2]; exact b8_b8 _
theorem sgn_b8 (s c : Nat) : ∀ v ∈ sgn s c, b8 v = v := by
  have l : ∀ f, ∀ v ∈ lets f c, b8 v = v := by
    intro f v hv
    unfold lets at hv
    rcases List.mem_append.mp hv with hv | hv
    · split at hv
      · rw [List.mem_singleton.mp hv]; exact b8_b8 _
      · cases hv
    · rw [List.mem_singleton.mp hv]; exact b8_b8 _
  have r : ∀ low, ∀ v ∈ roms low c, b8 v = v := by
    intro low v hv
    unfold roms at hv
    rcases List.mem_append.mp hv with hv | hv
    · rcases List.mem_append.mp hv with hv | hv
      · exact romD_b8 _ _ _ _ v hv
      · exact romD_b8 _ _ _ _ v hv
    · exact romD_b8 _ _ _ _ v hv
  intro v hv
  unfold sgn at hv
  split at hv
  · unfold figs at hv
    rcases List.mem_append.mp hv with hv | hv
    · rcases List.mem_append.mp hv with hv | hv
      · split at hv
        · rw [List.mem_singleton.mp hv]; exact b8_b8 _
        · cases hv
      · split at hv
        · rw [List.mem_singleton.mp hv]; exact b8_b8 _
        · cases hv
    · rw [List.mem_singleton.mp hv]; exact b8_b8 _
  · split at hv
    · exact l _ v hv
    · split at hv
      · exact l _ v hv
      · split at hv
        · exact r _ v hv
        · exact r _ v hv
theorem nmV_b8 {j : Nat} {b : Int32} {nm sg : List Int32} (h1 : ∀ v ∈ nm, b8 v = v) (h2 : ∀ v ∈ sg, b8 v = v) : ∀ v ∈ nmV j b nm sg, b8 v = v := by
  intro v hv
  have one : ∀ (P : Prop) [Decidable P] (w : Int32), v ∈ (if P then [b8 w] else []) → b8 v = v := by
    intro P _ w hv
    split at hv
    · rw [List.mem_singleton.mp hv]; exact b8_b8 _
    · cases hv
  unfold nmV at hv
  rcases List.mem_append.mp hv with hv | hv
  · rcases List.mem_append.mp hv with hv | hv
    · rcases List.mem_append.mp hv with hv | hv
      · split at hv
        · rcases List.mem_append.mp hv with hv | hv
          · exact h1 v hv
          · exact one _ _ hv
        · cases hv
      · exact one _ _ hv
    · exact h2 v hv
  · exact one _ _ hv
theorem nmV_len40 {j : Nat} {b : Int32} {nm sg : List Int32} (h : nm.length ≤ 30 ∨ b < 0) (hs : sg.length ≤ 8) : (nmV j b nm sg).length ≤ 40 := by
  unfold nmV
  simp only [List.length_append]
  by_cases e1 : j = 1
  · have a1 : (if 0 < j ∧ ¬ b < 0 then nm ++ (if j = 1 then [b8 (nI 46)] else []) else []).length ≤ 31 := by
      by_cases e : 0 < j ∧ ¬ b < 0
      · rw [if_pos e, List.length_append, if_pos e1]
        rcases h with h | h
        · simp; omega
        · exact absurd h e.2
      · rw [if_neg e]; simp
    have b2 : (if j = 2 then [b8 (nI 40)] else []).length = 0 := by rw [if_neg (show ¬ j = 2 by omega)]; rfl
    have b3 : (if j = 2 then [b8 (nI 41)] else []).length = 0 := by rw [if_neg (show ¬ j = 2 by omega)]; rfl
    omega
  · have a1 : (if 0 < j ∧ ¬ b < 0 then nm ++ (if j = 1 then [b8 (nI 46)] else []) else []).length ≤ 30 := by
      by_cases e : 0 < j ∧ ¬ b < 0
      · rw [if_pos e, List.length_append, if_neg e1]
        rcases h with h | h
        · simp; omega
        · exact absurd h e.2
      · rw [if_neg e]; simp
    have a2 : (if j = 2 then [b8 (nI 40)] else []).length ≤ 1 := by split <;> simp
    have a3 : (if j = 2 then [b8 (nI 41)] else []).length ≤ 1 := by split <;> simp
    omega
theorem ctO_le {on kI : Nat → Int32} {sc : Nat → Nat} {L : List Nat} (i : Nat) : 1 ≤ ctO on kI sc L i ∧ ctO on kI sc L i ≤ i + 1 := by
  unfold ctO
  have := cntB_le (fun q => decide (kI (L.getD q 0) = kI (L.getD i 0)) && ssB on kI (sc (kI (L.getD i 0)).toNatClampNeg) (L.getD i 0) (L.getD q 0)) i
  omega
theorem bsV_or (b : Int32) (nm : List Int32) : nm.length ≤ 30 ∨ bsV b nm < 0 := by
  unfold bsV
  by_cases e : ¬ b < 0 ∧ 30 < nm.length
  · rw [if_pos e]; exact Or.inr (by decide)
  · rw [if_neg e]
    by_cases e2 : b < 0
    · exact Or.inr e2
    · rcases Nat.lt_or_ge 30 nm.length with h | h
      · exact absurd ⟨e2, h⟩ e
      · exact Or.inl h
theorem mkO_all {on : Nat → Int32} {kd : Nat → Nat} {sc sy jo : Nat → Nat} {L : List Nat} (hl : L.length ≤ 120) (hsy : ∀ x ∈ L, kd x < 6 ∧ sy (kd x) < 5) : ∀ i, i ≤ L.length → ∀ x, ((mkO on (fun x => nI (kd x)) sc sy jo L i).2 x).length ≤ 40 ∧ ∀ v ∈ (mkO on (fun x => nI (kd x)) sc sy jo L i).2 x, b8 v = v := by
  intro i
  induction i with
  | zero => intro _ x; exact ⟨Nat.zero_le _, fun v hv => by cases hv⟩
  | succ i ih =>
    intro hi x
    have ih := ih (by omega)
    have hm : L.getD i 0 ∈ L := getD_mem (by omega)
    rw [mkO]
    by_cases e : x = L.getD i 0
    · show (u_1 (α := List Int32) _ _ _ x).length ≤ 40 ∧ ∀ v ∈ u_1 (α := List Int32) _ _ _ x, b8 v = v
      rw [e, u1_s]
      have hs := hsy _ hm
      refine ⟨nmV_len40 (bsV_or _ _) (sgn_len8 _ ?_ _ ?_), nmV_b8 (ih _).2 (sgn_b8 _ _)⟩
      · show sy (nI (kd (L.getD i 0))).toNatClampNeg < 5
        rw [nI_clamp (by omega)]
        exact hs.2
      · have := (ctO_le (on := on) (kI := fun x => nI (kd x)) (sc := sc) (L := L) i).2
        omega
    · show (u_1 (α := List Int32) _ _ _ x).length ≤ 40 ∧ ∀ v ∈ u_1 (α := List Int32) _ _ _ x, b8 v = v
      rw [u1_n _ _ e]
      exact ih x
theorem n_ok {S : Sp} (hS : SOk S) (x : Nat) : (n_n S x).length ≤ 40 ∧ ∀ v ∈ n_n S x, b8 v = v := by
  have hW := hS.wf
  refine mkO_all (by have := ord_len hW; have := hS.1; omega) (fun y hy => ?_) _ (Nat.le_refl _) x
  have h1 := hS.2.1 y (hW.h_lt ((ord_mem hW).mp hy))
  exact ⟨h1, (hS.2.2.2.2.2.1 _ h1).2.1⟩
theorem td_ok {S : Sp} (hS : SOk S) {x : Nat} (hx : x < s_n S) : (tdT S x).length ≤ 51 ∧ (∀ v ∈ tdT S x, b8 v = v) ∧ (n_n S x).length ≤ (tdT S x).length ∧ n_n S x = (tdT S x).drop ((tdT S x).length - (n_n S x).length) := by
  have h1 := n_ok hS x
  have h2 := hS.2.2.2.2.1 (s_k S x) (hS.2.1 x hx)
  have e : tdT S x = wpL (s_w S (s_k S x)) ++ n_n S x := rfl
  have hw : (wpL (s_w S (s_k S x))).length ≤ 11 := by
    unfold wpL
    split
    · simp
    · simp; omega
  rw [e]
  refine ⟨by rw [List.length_append]; omega, fun v hv => ?_, by rw [List.length_append]; omega, ?_⟩
  · rcases List.mem_append.mp hv with hv | hv
    · unfold wpL at hv
      split at hv
      · cases hv
      · rcases List.mem_append.mp hv with hv | hv
        · exact isL_b8 (List.all_eq_true.mp h2.2 v hv)
        · rw [List.mem_singleton.mp hv]; decide
    · exact h1.2 v hv
  · rw [List.length_append, show (wpL (s_w S (s_k S x))).length + (n_n S x).length - (n_n S x).length = (wpL (s_w S (s_k S x))).length by omega, List.drop_left]
theorem SOk.e {S : Sp} (h : SOk S) (h0 : (s_e S).length < 8) : SOk (sE S (s_e S ++ [edN S])) := by
  have h' := h
  obtain ⟨a1, a2, a3, a4, a5, a6, a7, a8, a9, a10, a11⟩ := h
  refine ⟨a1, a2, a3, a4, a5, a6, a7, a8, ?_, fun i k f e m hm => ?_, fun d hd x td nm e => ?_⟩
  · show (s_e S ++ [edN S]).length ≤ 8
    rw [List.length_append, List.length_singleton]
    omega
  · obtain ⟨b1, b2, b3, b4, b5, b6, b7, b8, b9, b10⟩ := a10 i k f e m hm
    refine ⟨b1, b2, b3, b4, b5, b6, fun w => ⟨(b7 w).1, ?_⟩, b8, b9, b10⟩
    obtain ⟨d, d1, d2⟩ := (b7 w).2
    refine ⟨d, ?_, d2⟩
    show (s_e S ++ [edN S])[e]? = some d
    have he : e < (s_e S).length := by
      by_cases a : e < (s_e S).length
      · exact a
      · rw [List.getElem?_eq_none (by omega)] at d1; cases d1
    rw [List.getElem?_append_left he]
    exact d1
  · rcases List.mem_append.mp (show d ∈ s_e S ++ [edN S] from hd) with hd | hd
    · exact a11 d hd x td nm e
    · rw [List.mem_singleton.mp hd] at e
      unfold edN at e
      by_cases w : t_h (s_T S) x = true
      · rw [if_pos w] at e
        have e := Option.some.inj e
        injection e with e1 e2
        subst e1 e2
        have hx := h'.wf.h_lt w
        obtain ⟨t1, t2, t3, t4⟩ := td_ok h' hx
        exact ⟨hx, by omega, t3, t4, t2⟩
      · rw [if_neg w] at e; cases e
section MC
variable {l : Launch} {D : DD} {σ : Hp} {o : Nat}
theorem RM.e {S : Sp} {τ : Hp} {es : List Ed} (h : RM σ o S) (hf : MFr [32, 33, 34] [744] σ τ o) (h1 : RE τ o es) (h3 : SOk (sE S es)) : RM τ o (sE S es) := by
  obtain ⟨g1, g2, g3, g4, g5, g6, g7, g8, g9, g10⟩ := h
  refine ⟨hf.mL g1, h3, g3.kp hf (by decide) (by decide), fun k hk => (g4 k hk).kp hf (by decide) (by decide), g5.kp hf (by decide) (by decide) (by decide), g6.kp hf (fun j a b => ?_) (by decide) (by decide), g7.kp hf (fun j a b => ?_) (by decide) (by decide), g8.kp hf (fun j a b => ?_) (by decide), h1, g10.kp hf (fun j a b => ?_) (by decide)⟩
  all_goals simp only [List.mem_cons, List.not_mem_nil, or_false]; omega
/-- the rows of a thing of an edition -/
def E1 (σ : Hp) (o k : Nat) (q : Option (List Int32 × List Int32)) : Prop := (q = none → h_X σ (o + 1 + 34) k = -1) ∧ ∀ td nm, q = some (td, nm) → h_X σ (o + 1 + 33) k = nI td.length ∧ h_X σ (o + 1 + 34) k = nI (td.length - nm.length) ∧ ∀ i, i < td.length → h_X σ (o + 1 + 32) (60 * k + i) = td.getD i 0
def EF (σ τ : Hp) (o k : Nat) : Prop := MFr [32, 33, 34] [] σ τ o ∧ (∀ z, z < k → h_X τ (o + 1 + 33) z = h_X σ (o + 1 + 33) z ∧ h_X τ (o + 1 + 34) z = h_X σ (o + 1 + 34) z) ∧ ∀ z, z < 60 * k → h_X τ (o + 1 + 32) z = h_X σ (o + 1 + 32) z
theorem E1.kp {τ : Hp} {k z : Nat} {q : Option (List Int32 × List Int32)} (h : EF σ τ o k) (hz : z < k) (hl : ∀ td nm, q = some (td, nm) → td.length ≤ 60) (g : E1 σ o z q) : E1 τ o z q := by
  refine ⟨fun e => by rw [(h.2.1 z hz).2]; exact g.1 e, fun td nm e => ?_⟩
  obtain ⟨a, b, c⟩ := g.2 td nm e
  refine ⟨by rw [(h.2.1 z hz).1]; exact a, by rw [(h.2.1 z hz).2]; exact b, fun i hi => ?_⟩
  have := hl td nm e
  rw [h.2.2 _ (by omega)]
  exact c i hi
set_option maxRecDepth 10000 in
set_option maxHeartbeats 2000000 in
theorem c_M_editS {S : Sp} (h : RM σ o S) : Cn l D m_M_edition 0 0 [va_rf (some o)] σ (fun r τ => r = some (.int (a_edit S).1) ∧ RM τ o (a_edit S).2 ∧ MFr mAR mAI σ τ o) := by
  have hM := h.1
  have hS := h.2.1
  have hW := hS.wf
  have hn9 := hS.1
  have h744 := h.2.2.2.2.2.2.2.2.1.1
  have he8 := hS.2.2.2.2.2.2.2.2.1
  generalize hQ : (fun (r : Option Value) (τ : Hp) => r = some (.int (a_edit S).1) ∧ RM τ o (a_edit S).2 ∧ MFr mAR mAI σ τ o) = Q
  have ea : a_edit S = if (s_e S).length = 8 then (-3, S) else (nI (s_e S).length, sE S (s_e S ++ [edN S])) := rfl
  refine Cn.of (by decide) (by repeat (first | exact ca_0 | refine ca_i ?_ | refine ca_r ?_)) (Nat.le_of_ble_eq_true rfl) ?_
  refine r_aload_n rfl rfl ?_
  (first | refine r_getIv rfl hM.1 rfl (by assumption) ?_ | refine r_getI rfl hM.1 rfl ?_)
  refine r_bipush (v := nI 8) rfl (by decide) ?_
  refine r_neN rfl (by omega) (by omega) (fun w0 => ?_) (fun w0 => ?_)
  · rw [if_neg w0] at ea
    refine r_aload_n rfl rfl ?_
    refine r_callV (As := []) rfl (by decide) rfl (by first | exact hM.1 | assumption) rfl rfl (Nat.le_of_ble_eq_true rfl) ⟨Nat.le_of_ble_eq_true rfl, Nat.le_of_ble_eq_true rfl⟩ (c_M_makeS h) (kc' := 0) (ks' := 0) (by omega) (by omega) (by decide) ?_
    rintro r τ ⟨rfl, hd, hf⟩
    have hfw : MFr mAR mAI σ τ o := hf.wide (by decide) (by decide)
    have hE := hd.1.2.2.2.2.2.2.2.2.1
    have h744 : h_I τ 744 o = nI (s_e S).length := hE.1
    generalize hK : 120 * (s_e S).length = K
    refine r_iconst (v := nI 0) rfl (by decide) ?_
    refine r_istore_n rfl (by decide) ?_
    have lp : ∀ (d x : Nat) (π : Hp) (z2 z3 : Option Value), x + d = 120 → EF τ π o K → (∀ z, z < x → E1 π o (K + z) (edN S z)) → Gm l D m_M_edition 0 0 Q 18 [some (va_rf (some o)), some (.int (nI x)), z2, z3] [] π 0 0 := by
      intro d
      induction d with
      | zero =>
        intro x π z2 z3 hx hF hE1
        have hM : ML π o := hF.1.mL hd.1.1
        have h744 : h_I π 744 o = nI (s_e S).length := by rw [hF.1.fld (by decide)]; exact h744
        refine r_iload_n rfl rfl ?_
        refine r_bipush (v := nI 120) rfl (by decide) ?_
        refine r_geN rfl (by omega) (by omega) (fun _ => ?_) (fun w => by omega)
        refine r_aload_n rfl rfl ?_
        refine r_dup rfl (by first | rfl | exact rf_cat _) ?_
        (first | refine r_getIv rfl hM.1 rfl (by assumption) ?_ | refine r_getI rfl hM.1 rfl ?_)
        refine r_iconst (v := nI 1) rfl (by decide) ?_
        (first | refine r_iaddN rfl ?_ | refine r_iadd rfl ?_)
        refine r_putI rfl hM.1 rfl (Or.inl rfl) (by first | rfl | decide) (by first | rfl | decide) ?_
        have h744' : h_I (w_I π 744 o (nI ((s_e S).length + 1))) 744 o = nI ((s_e S).length + 1) := hI_w _ _ _ _
        refine r_aload_n rfl rfl ?_
        (first | refine r_getIv rfl hM.1 rfl (by assumption) ?_ | refine r_getI rfl hM.1 rfl ?_)
        refine r_iconst (v := nI 1) rfl (by decide) ?_
        refine r_isubN rfl (by omega) ?_
        rw [show (s_e S).length + 1 - 1 = (s_e S).length by omega]
        refine r_iret rfl rfl ?_
        rw [← hQ]
        show _ = some (Value.int (a_edit S).1) ∧ RM _ o (a_edit S).2 ∧ _
        rw [ea]
        have hf5 : MFr [32, 33, 34] [744] τ (w_I π 744 o (nI ((s_e S).length + 1))) o := (hF.1.wide (by decide) (by decide)).tr (MFr.I _ _ (by decide))
        refine ⟨rfl, hd.1.e hf5 ⟨?_, fun e d hde x hx => ?_⟩ (hS.e (by omega)), hfw.tr (hf5.wide (by decide) (by decide))⟩
        · rw [h744', List.length_append, List.length_singleton]
        · show E1 π o (120 * e + x) (d x)
          by_cases c : e < (s_e S).length
          · rw [List.getElem?_append_left c] at hde
            refine E1.kp hF (by omega) (fun td nm w => (hS.2.2.2.2.2.2.2.2.2.2 d (List.mem_of_getElem? hde) x td nm w).2.1) ?_
            exact hE.2 e d hde x hx
          · rw [List.getElem?_append_right (by omega)] at hde
            by_cases c2 : e = (s_e S).length
            · rw [c2, Nat.sub_self] at hde
              have : edN S = d := Option.some.inj hde
              rw [← this, c2, hK]
              exact hE1 x (by omega)
            · rw [show e - (s_e S).length = (e - (s_e S).length - 1) + 1 by omega] at hde
              cases hde
      | succ d ih =>
        intro x π z2 z3 hx hF hE1
        have hdp : RM π o (sE S (s_e S)) := hd.1.e (hF.1.wide (by decide) (by decide)) ⟨by rw [hF.1.fld (by decide)]; exact hE.1, fun e d hde x hx => by
          show E1 π o (120 * e + x) (d x)
          have hel : e < (s_e S).length := by
            by_cases a : e < (s_e S).length
            · exact a
            · rw [List.getElem?_eq_none (by omega)] at hde; cases hde
          exact E1.kp hF (by omega) (fun td nm w => (hS.2.2.2.2.2.2.2.2.2.2 d (List.mem_of_getElem? hde) x td nm w).2.1) (hE.2 e d hde x hx)⟩ hS
        have hM : ML π o := hdp.1
        have h744 : h_I π 744 o = nI (s_e S).length := by rw [hF.1.fld (by decide)]; exact h744
        refine r_iload_n rfl rfl ?_
        refine r_bipush (v := nI 120) rfl (by decide) ?_
        refine r_geN rfl (by omega) (by omega) (fun w => by omega) (fun _ => ?_)
        refine r_bipush (v := nI 120) rfl (by decide) ?_
        refine r_aload_n rfl rfl ?_
        (first | refine r_getIv rfl hM.1 rfl (by assumption) ?_ | refine r_getI rfl hM.1 rfl ?_)
        (first | refine r_imulN rfl ?_ | refine r_imul rfl ?_)
        refine r_iload_n rfl rfl ?_
        (first | refine r_iaddN rfl ?_ | refine r_iadd rfl ?_)
        refine r_istore_n rfl (by decide) ?_
        rw [hK]
        refine r_aload_n rfl rfl ?_
        refine r_mg (j := 34) hM rfl rfl (by decide) ?_
        refine r_iload_n rfl rfl ?_
        refine r_iconst (v := -1) rfl (by decide) ?_
        refine r_mis (j := 34) hM rfl rfl (by decide) (by first | rfl | assumption) (show _ < 960 by omega) ?_
        refine r_aload_n rfl rfl ?_
        refine r_mg (j := 33) hM rfl rfl (by decide) ?_
        refine r_iload_n rfl rfl ?_
        refine r_iconst (v := nI 0) rfl (by decide) ?_
        refine r_mis (j := 33) hM rfl rfl (by decide) (by first | rfl | assumption) (show _ < 960 by omega) ?_
        generalize hρ : w_X (w_X π (o + 1 + 34) (upd (h_X π (o + 1 + 34)) (K + x) (-1))) (o + 1 + 33) (upd (h_X (w_X π (o + 1 + 34) (upd (h_X π (o + 1 + 34)) (K + x) (-1))) (o + 1 + 33)) (K + x) (nI 0)) = ρ
        have hfρ : EF π ρ o (K + x) := by
          rw [← hρ]
          refine ⟨(MFr.X _ _ (by decide)).tr (MFr.X _ _ (by decide)), fun z hz => ⟨?_, ?_⟩, fun z hz => ?_⟩
          · rw [hX_w, upd_n _ _ (by omega), hX_n _ _ (by omega)]
          · rw [hX_n _ _ (by omega), hX_w, upd_n _ _ (by omega)]
          · rw [hX_n _ _ (by omega), hX_n _ _ (by omega)]
        have h34 : h_X ρ (o + 1 + 34) (K + x) = -1 := by rw [← hρ, hX_n _ _ (by omega), hX_w, upd_s]
        have EFt : ∀ {a b c : Hp} {k : Nat}, EF a b o k → EF b c o k → EF a c o k := fun h1 h2 => ⟨h1.1.tr h2.1, fun z hz => ⟨(h2.2.1 z hz).1.trans (h1.2.1 z hz).1, (h2.2.1 z hz).2.trans (h1.2.1 z hz).2⟩, fun z hz => (h2.2.2 z hz).trans (h1.2.2 z hz)⟩
        have EFl : ∀ {a b : Hp} {k k' : Nat}, k' ≤ k → EF a b o k → EF a b o k' := fun hk h1 => ⟨h1.1, fun z hz => h1.2.1 z (by omega), fun z hz => h1.2.2 z (by omega)⟩
        have td60 : ∀ z td nm, edN S z = some (td, nm) → td.length ≤ 60 := by
          intro z td nm w
          unfold edN at w
          by_cases c : t_h (s_T S) z = true
          · rw [if_pos c] at w
            have w := Option.some.inj w
            injection w with w1 w2
            have := (td_ok hS (hW.h_lt c)).1
            rw [← w1]
            omega
          · rw [if_neg c] at w; cases w
        have next : ∀ (ξ : Hp) (z3 : Option Value), EF π ξ o (K + x) → E1 ξ o (K + x) (edN S x) → Gm l D m_M_edition 0 0 Q 124 [some (va_rf (some o)), some (.int (nI x)), some (.int (nI (K + x))), z3] [] ξ 0 0 := by
          intro ξ z3 k1 k2
          refine r_iinc rfl rfl (nI_inc _) ?_
          refine r_goto rfl ?_
          refine ih (x + 1) ξ _ _ (by omega) (EFt hF (EFl (by omega) k1)) (fun z hz => ?_)
          by_cases c : z = x
          · rw [c]; exact k2
          · exact E1.kp k1 (by omega) (td60 z) (hE1 z (by omega))
        have hMρ : ML ρ o := hfρ.1.mL hM
        have n711 : h_I ρ 711 o = nI (s_n S) := by rw [hfρ.1.fld (by decide)]; exact hdp.rt.1
        have r5ρ : h_X ρ (o + 1 + 7) = onT (s_n S) (s_T S) := by rw [hfρ.1.row (j := 7) (by decide)]; exact hdp.rt.2.2.1
        clear hM
        have hM := hMρ
        refine r_aload_n rfl rfl ?_
        refine r_iload_n rfl rfl ?_
        refine r_callV (As := [_]) rfl (by decide) rfl (by first | exact hM.1 | assumption) rfl rfl (Nat.le_of_ble_eq_true rfl) ⟨Nat.le_of_ble_eq_true rfl, Nat.le_of_ble_eq_true rfl⟩ (c_M_isThere hM n711 hn9) (kc' := 0) (ks' := 0) (by omega) (by omega) (by decide) ?_
        rintro r ρ ⟨rfl, rfl⟩
        rw [r5ρ, isTh_T hW (by omega)]
        refine r_ifneB rfl (fun w1 => ?_) (fun w1 => ?_)
        · simp only [Bool.and_eq_true, decide_eq_true_eq] at w1
          obtain ⟨hxn, hxt⟩ := w1
          have hed : edN S x = some (tdT S x, n_n S x) := by unfold edN; rw [if_pos hxt]
          obtain ⟨g1, g2, g3, g4⟩ := td_ok hS hxn
          have hk := hS.2.1 x hxn
          have inv : ∀ {ξ : Hp}, MFr [32, 33, 34] [] π ξ o → ML ξ o ∧ h_X ξ (o + 1 + 6) x = nI (s_k S x) ∧ Wd ξ o (s_k S x) (s_w S (s_k S x)) ∧ Tx ξ o 18 19 x (n_n S x) := by
            intro ξ hf6
            have hf7 := hF.1.tr hf6
            refine ⟨hf7.mL hd.1.1, ?_, (hd.1.2.2.2.1 _ hk).kp hf7 (by decide) (by decide), ?_⟩
            · rw [hf7.row (j := 6) (by decide), hd.1.rt.2.1]
            · have := hd.tx hxn
              unfold Tx at this ⊢
              rw [hf7.row (j := 18) (by decide), hf7.row (j := 19) (by decide)]
              exact this
          obtain ⟨-, i2, i3, i4⟩ := inv hfρ.1
          have tl : toldL (s_w S (s_k S x)) (n_n S x) = tdT S x := rfl
          refine r_aload_n rfl rfl ?_
          refine r_mg (j := 33) hM rfl rfl (by decide) ?_
          refine r_iload_n rfl rfl ?_
          refine r_aload_n rfl rfl ?_
          refine r_iload_n rfl rfl ?_
          refine r_callV (As := [_]) rfl (by decide) rfl (by first | exact hM.1 | assumption) rfl rfl (Nat.le_of_ble_eq_true rfl) ⟨Nat.le_of_ble_eq_true rfl, Nat.le_of_ble_eq_true rfl⟩ (c_M_toldSize hM (by omega) i2 hk i3 i4) (kc' := 0) (ks' := 0) (by omega) (by omega) (by decide) ?_
          rintro r ρ ⟨rfl, rfl⟩
          rw [tl]
          refine r_mis (j := 33) hM rfl rfl (by decide) rfl (show _ < 960 by omega) ?_
          have hf8 : EF π (w_X ρ (o + 1 + 33) (upd (h_X ρ (o + 1 + 33)) (K + x) (nI (tdT S x).length))) o (K + x) := EFt hfρ ⟨MFr.X _ _ (by decide), fun z hz => ⟨by rw [hX_w, upd_n _ _ (by omega)], by rw [hX_n _ _ (by omega)]⟩, fun z hz => by rw [hX_n _ _ (by omega)]⟩
          obtain ⟨-, j2, j3, j4⟩ := inv hf8.1
          refine r_aload_n rfl rfl ?_
          refine r_mg (j := 34) hM rfl rfl (by decide) ?_
          refine r_iload_n rfl rfl ?_
          refine r_aload_n rfl rfl ?_
          refine r_iload_n rfl rfl ?_
          refine r_callV (As := [_]) rfl (by decide) rfl (by first | exact hM.1 | assumption) rfl rfl (Nat.le_of_ble_eq_true rfl) ⟨Nat.le_of_ble_eq_true rfl, Nat.le_of_ble_eq_true rfl⟩ (c_M_toldSize hM (by omega) j2 hk j3 j4) (kc' := 0) (ks' := 0) (by omega) (by omega) (by decide) ?_
          rintro r ρ2 ⟨rfl, hρ2⟩
          subst hρ2
          rw [tl]
          refine r_aload_n rfl rfl ?_
          refine r_mg (j := 19) hM rfl rfl (by decide) ?_
          refine r_iload_n rfl rfl ?_
          refine r_mi (j := 19) hM rfl rfl (by decide) (by first | rfl | assumption) (show _ < 120 by omega) ?_
          rw [j4.1]
          refine r_isubN rfl g3 ?_
          refine r_mis (j := 34) hM rfl rfl (by decide) rfl (show _ < 960 by omega) ?_
          generalize hξ : w_X (w_X ρ (o + 1 + 33) (upd (h_X ρ (o + 1 + 33)) (K + x) (nI (tdT S x).length))) (o + 1 + 34) (upd (h_X (w_X ρ (o + 1 + 33) (upd (h_X ρ (o + 1 + 33)) (K + x) (nI (tdT S x).length))) (o + 1 + 34)) (K + x) (nI ((tdT S x).length - (n_n S x).length))) = ξ
          have hfξ : EF π ξ o (K + x) := by
            rw [← hξ]
            exact EFt hf8 ⟨MFr.X _ _ (by decide), fun z hz => ⟨by rw [hX_n _ _ (by omega)], by rw [hX_w, upd_n _ _ (by omega)]⟩, fun z hz => by rw [hX_n _ _ (by omega)]⟩
          have x33 : h_X ξ (o + 1 + 33) (K + x) = nI (tdT S x).length := by rw [← hξ, hX_n _ _ (by omega), hX_w, upd_s]
          have x34 : h_X ξ (o + 1 + 34) (K + x) = nI ((tdT S x).length - (n_n S x).length) := by rw [← hξ, hX_w, upd_s]
          have hMξ : ML ξ o := (inv hfξ.1).1
          clear hM
          have hM := hMξ
          refine r_iconst (v := nI 0) rfl (by decide) ?_
          refine r_istore_n rfl (by decide) ?_
          have inn : ∀ (d j : Nat) (ζ : Hp), j + d = (tdT S x).length → EF π ζ o (K + x) → h_X ζ (o + 1 + 33) (K + x) = nI (tdT S x).length → h_X ζ (o + 1 + 34) (K + x) = nI ((tdT S x).length - (n_n S x).length) → (∀ i, i < j → h_X ζ (o + 1 + 32) (60 * (K + x) + i) = (tdT S x).getD i 0) → Gm l D m_M_edition 0 0 Q 90 [some (va_rf (some o)), some (.int (nI x)), some (.int (nI (K + x))), some (.int (nI j))] [] ζ 0 0 := by
            intro d
            induction d with
            | zero =>
              intro j ζ hj k1 k2 k3 k4
              have hM : ML ζ o := (inv k1.1).1
              refine r_iload_n rfl rfl ?_
              refine r_aload_n rfl rfl ?_
              refine r_mg (j := 33) hM rfl rfl (by decide) ?_
              refine r_iload_n rfl rfl ?_
              refine r_mi (j := 33) hM rfl rfl (by decide) (by first | rfl | assumption) (show _ < 960 by omega) ?_
              rw [k2]
              refine r_geN rfl (by omega) (by omega) (fun _ => ?_) (fun w => by omega)
              refine next ζ _ k1 ⟨fun w => (by rw [hed] at w; cases w), fun td nm w => ?_⟩
              rw [hed] at w
              have w := Option.some.inj w
              injection w with w1 w2
              subst w1 w2
              exact ⟨k2, k3, fun i hi => k4 i (by omega)⟩
            | succ d ih2 =>
              intro j ζ hj k1 k2 k3 k4
              obtain ⟨hM, l2, l3, l4⟩ := inv k1.1
              refine r_iload_n rfl rfl ?_
              refine r_aload_n rfl rfl ?_
              refine r_mg (j := 33) hM rfl rfl (by decide) ?_
              refine r_iload_n rfl rfl ?_
              refine r_mi (j := 33) hM rfl rfl (by decide) (by first | rfl | assumption) (show _ < 960 by omega) ?_
              rw [k2]
              refine r_geN rfl (by omega) (by omega) (fun w => by omega) (fun _ => ?_)
              refine r_aload_n rfl rfl ?_
              refine r_mg (j := 32) hM rfl rfl (by decide) ?_
              refine r_bipush (v := nI 60) rfl (by decide) ?_
              refine r_iload_n rfl rfl ?_
              (first | refine r_imulN rfl ?_ | refine r_imul rfl ?_)
              refine r_iload_n rfl rfl ?_
              (first | refine r_iaddN rfl ?_ | refine r_iadd rfl ?_)
              refine r_aload_n rfl rfl ?_
              refine r_iload_n rfl rfl ?_
              refine r_iload_n rfl rfl ?_
              refine r_callV (As := [_, _]) rfl (by decide) rfl (by first | exact hM.1 | assumption) rfl rfl (Nat.le_of_ble_eq_true rfl) ⟨Nat.le_of_ble_eq_true rfl, Nat.le_of_ble_eq_true rfl⟩ (c_M_toldByte hM (by omega) l2 hk l3 l4 (show j < (toldL (s_w S (s_k S x)) (n_n S x)).length by rw [tl]; omega)) (kc' := 0) (ks' := 0) (by omega) (by omega) (by decide) ?_
              rintro r ζ ⟨rfl, rfl⟩
              rw [tl]
              have hb8 : b8 ((tdT S x).getD j 0) = (tdT S x).getD j 0 := g2 _ (by rw [getD_at (by omega)]; exact List.getElem_mem _)
              refine r_i2b rfl hb8 ?_
              refine r_mbs (j := 32) hM rfl rfl (by decide) rfl (Nat.lt_of_lt_of_le (show 60 * (K + x) + j < 57600 by omega) (Nat.le_of_ble_eq_true rfl)) (by show Value.int (b8 _) = _; rw [hb8]) (by rw [← hb8]; exact b8_fit _) ?_
              refine r_iinc rfl rfl (nI_inc _) ?_
              refine r_goto rfl ?_
              refine ih2 (j + 1) _ (by omega) (EFt k1 ⟨MFr.X _ _ (by decide), fun z hz => ⟨by rw [hX_n _ _ (by omega)], by rw [hX_n _ _ (by omega)]⟩, fun z hz => by rw [hX_w, upd_n _ _ (by omega)]⟩) ?_ ?_ (fun i hi => ?_)
              · rw [hX_n _ _ (by omega)]; exact k2
              · rw [hX_n _ _ (by omega)]; exact k3
              · rw [hX_w]
                by_cases c : i = j
                · rw [c, upd_s]
                · rw [upd_n _ _ (by omega)]
                  exact k4 i (by omega)
          exact inn (tdT S x).length 0 ξ (by omega) hfξ x33 x34 (fun i hi => by omega)
        · have hno : edN S x = none := by
            unfold edN
            cases c : t_h (s_T S) x with
            | false => rfl
            | true =>
              rw [c, decide_eq_true (hW.h_lt c)] at w1
              cases w1
          refine r_goto rfl ?_
          exact next ρ _ hfρ ⟨fun _ => h34, fun td nm w => by rw [hno] at w; cases w⟩
    exact lp 120 0 τ none none (by omega) ⟨MFr.rf _ _ _ _, fun z hz => ⟨rfl, rfl⟩, fun z hz => rfl⟩ (fun z hz => by omega)
  · rw [if_pos w0] at ea
    refine r_bipush (v := -3) rfl (by decide) ?_
    refine r_iret rfl rfl ?_
    rw [← hQ]
    show _ = some (Value.int (a_edit S).1) ∧ RM σ o (a_edit S).2 ∧ _
    rw [ea]
    exact ⟨rfl, h, MFr.rf _ _ _ _⟩
end MC
