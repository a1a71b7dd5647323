/-! ===== the reference: what does() does to the tree ===== -/
abbrev En : Type := Nat × Nat × Nat × Nat
def ap (e : En) (T : Tr) : Tr := if e.1 = 1 then apA e.2.1 e.2.2.1 e.2.2.2 T else if e.1 = 2 then apM e.2.1 e.2.2.1 e.2.2.2 T else if e.1 = 3 then apC e.2.1 T else apJ e.2.1 e.2.2.1 T
def Va (n : Nat) (kd : Nat → Nat) (e : En) (T : Tr) : Prop :=
  (e.1 = 1 ∧ VA n T e.2.1 e.2.2.1 e.2.2.2) ∨ (e.1 = 2 ∧ VM T e.2.1 e.2.2.1 e.2.2.2) ∨ (e.1 = 3 ∧ t_h T e.2.1 = true ∧ e.2.2.1 = 0) ∨ (e.1 = 4 ∧ VJ kd T e.2.1 e.2.2.1)
def eB (e : En) : Int32 := if e.1 < 3 then cd e.2.2.1 else nI e.2.2.1
def dR (e : En) (T : Tr) : Nat := if e.1 = 1 then e.2.1 else if e.1 = 2 then 0 else if e.1 = 3 then (pre T 121 e.2.1).length else (t_k T e.2.1).length + (t_k T e.2.2.1).length
theorem Wf_ap {n : Nat} {kd : Nat → Nat} {T : Tr} {e : En} (hW : Wf n kd T) (hv : Va n kd e T) : Wf n kd (ap e T) := by
  unfold ap
  rcases hv with ⟨h, v⟩ | ⟨h, v⟩ | ⟨h, v, -⟩ | ⟨h, v⟩
  · rw [if_pos h]; exact Wf_A hW v
  · rw [if_neg (by omega), if_pos h]; exact Wf_M hW v
  · rw [if_neg (by omega), if_neg (by omega), if_pos h]; exact Wf_C hW v
  · rw [if_neg (by omega), if_neg (by omega), if_neg (by omega)]; exact Wf_J hW v
section TR
variable {n : Nat} {kd : Nat → Nat} {T : Tr}
theorem onT_eq {g : Nat → Int32} (hW : Wf n kd T) (h1 : ∀ z, z < n → t_h T z = false → g z = -9) (h2 : ∀ q z, liv T q → z ∈ t_k T q → g z = cd q) (h3 : ∀ z, n ≤ z → g z = 0) : g = onT n T := by
  funext z
  by_cases a : z < n
  · cases e : t_h T z with
    | false => rw [onT_off a e, h1 z a e]
    | true =>
      obtain ⟨q, l1, l2, -⟩ := hW.h_par e
      rw [onT_on hW l1 l2, h2 q z l1 l2]
  · rw [onT, if_neg a, h3 z (by omega)]
theorem getE_lt {l : List Nat} {j z : Nat} (h : l[j]? = some z) : j < l.length := by
  by_cases a : j < l.length
  · exact a
  · rw [List.getElem?_eq_none (by omega)] at h; cases h
/-- places behind a thing that is put in -/
theorem pl_U {L : Nat → Prop} {Kb : Nat → List Nat} {on1 pl1 : Nat → Int32} {x p i : Nat} (hP : ∀ q j z, L q → (Kb q)[j]? = some z → z ≠ x ∧ z < n ∧ on1 z = cd q ∧ pl1 z = nI j) (hl : ∀ q, L q → (Kb q).length ≤ 120 ∧ q ≤ 120) (hp : L p) (hi : i ≤ (Kb p).length) :
    ∀ q j z, L q → (u_1 Kb p (insA (Kb p) i x) q)[j]? = some z → upd (plUp on1 pl1 (cd p) (nI i) n) x (nI i) z = nI j := by
  intro q j z hq hz
  have l1 := hl p hp
  have l2 := hl q hq
  by_cases e : q = p
  · rw [e, u1_s, ins_at hi] at hz
    by_cases a : j < i
    · rw [if_pos a] at hz
      obtain ⟨z1, z2, z3, z4⟩ := hP p j z hp hz
      rw [upd_n _ _ z1, plUp, if_neg ?_]
      · exact z4
      · rintro ⟨-, -, w⟩
        rw [z4] at w
        exact nI_ge a (by omega) w
    · rw [if_neg a] at hz
      by_cases b : j = i
      · rw [if_pos b] at hz
        rw [← Option.some.inj hz, upd_s, b]
      · rw [if_neg b] at hz
        have hj := getE_lt hz
        obtain ⟨z1, z2, z3, z4⟩ := hP p (j - 1) z hp hz
        rw [upd_n _ _ z1, plUp, if_pos ⟨z2, z3, by rw [z4]; exact nI_le (by omega) (by omega)⟩, z4, nI_add]
        congr 1
        omega
  · rw [u1_n _ _ e] at hz
    obtain ⟨z1, z2, z3, z4⟩ := hP q j z hq hz
    rw [upd_n _ _ z1, plUp, if_neg ?_]
    · exact z4
    · rintro ⟨-, w, -⟩
      rw [z3] at w
      exact e (cd_inj l2.2 l1.2 w)
/-- places behind a thing that is taken out -/
theorem pl_D {L : Nat → Prop} {Kb : Nat → List Nat} {on1 pl1 : Nat → Int32} {x p k : Nat} (hP : ∀ q j z, L q → (Kb q)[j]? = some z → z < n ∧ on1 z = cd q ∧ pl1 z = nI j) (hl : ∀ q, L q → (Kb q).Nodup ∧ (Kb q).length ≤ 240 ∧ q ≤ 120) (hp : L p) (hk : (Kb p)[k]? = some x) :
    ∀ q j z, L q → (rmv (Kb q) x)[j]? = some z → plDn on1 pl1 x n z = nI j := by
  intro q j z hq hz
  have l1 := hl p hp
  have l2 := hl q hq
  obtain ⟨x1, x2, x3⟩ := hP p k x hp hk
  have hkl := getE_lt hk
  by_cases e : q = p
  · rw [e, rmv_at l1.1 hk] at hz
    by_cases a : j < k
    · rw [if_pos a] at hz
      obtain ⟨z2, z3, z4⟩ := hP p j z hp hz
      rw [plDn, if_neg ?_]
      · exact z4
      · rintro ⟨-, -, w⟩
        rw [z4, x3] at w
        exact nI_nlt (by omega) (by omega) w
    · rw [if_neg a] at hz
      have hj := getE_lt hz
      obtain ⟨z2, z3, z4⟩ := hP p (j + 1) z hp hz
      rw [plDn, if_pos ⟨z2, z3.trans x2.symm, by rw [z4, x3]; exact nI_lt (by omega) (by omega)⟩, z4]
      exact pk_sub (by omega)
  · have hx : x ∉ Kb q := by
      intro h
      obtain ⟨m, hm, e2⟩ := List.getElem_of_mem h
      have := (hP q m x hq (by rw [List.getElem?_eq_getElem hm, e2])).2.1
      rw [x2] at this
      exact e (cd_inj l1.2.2 l2.2.2 this).symm
    rw [rmv_no hx] at hz
    obtain ⟨z2, z3, z4⟩ := hP q j z hq hz
    rw [plDn, if_neg ?_]
    · exact z4
    · rintro ⟨-, w, -⟩
      rw [z3, x2] at w
      exact e (cd_inj l2.2.2 l1.2.2 w)
theorem up_liv2 (hW : Wf n kd T) {x : Nat} (hx : liv T x) : ∀ (f z : Nat), x ∈ upl T f z → liv T z := by
  intro f
  induction f with
  | zero => intro z hz; cases hz
  | succ f ih =>
    intro z hz
    rw [upl_s] at hz
    rcases List.mem_cons.mp hz with rfl | hz
    · exact hx
    · cases e : par T z with
      | none => rw [e] at hz; cases hz
      | some p =>
        rw [e] at hz
        exact Or.inr (hW.kid (ih p hz) (par_mem e).1)
theorem sub_iff (hW : Wf n kd T) {x : Nat} (hx : t_h T x = true) (z : Nat) : z ∈ pre T 121 x ↔ z < n ∧ (t_h T z && bel T x z) = true := by
  have hn := hW.1
  have hxn := hW.h_lt hx
  constructor
  · intro h
    obtain ⟨h1, h2⟩ := pre_up hW _ _ _ h (by omega)
    have h3 := up_liv2 hW (Or.inr hx) _ _ h2
    rcases h3 with h3 | h3
    · have := bel_120 hW hxn
      rw [h3] at h2
      unfold bel at this
      rw [decide_eq_true h2] at this
      cases this
    · refine ⟨hW.h_lt h3, ?_⟩
      unfold bel
      rw [h3, decide_eq_true h2]
      rfl
  · rintro ⟨h1, h2⟩
    simp only [Bool.and_eq_true] at h2
    exact (pre_iff hW (by omega) (by omega)).mpr (of_decide_eq_true h2.2)
end TR
section MC
variable {l : Launch} {D : DD} {σ : Hp} {o n : Nat} {kd : Nat → Nat} {T : Tr}
theorem RT.P (hW : Wf n kd T) (h : RT σ o n kd T) : ∀ q j z, liv T q → (t_k T q)[j]? = some z → z < n ∧ h_X σ (o + 1 + 7) z = cd q ∧ h_X σ (o + 1 + 8) z = nI j := by
  intro q j z hq hz
  have hm := List.mem_of_getElem? hz
  exact ⟨hW.k_lt hm, by rw [h.2.2.2.2.1]; exact onT_on hW hq hm, h.2.2.2.2.2.1 q hq j z hz⟩
theorem Wf.pos (hW : Wf n kd T) {x : Nat} (hx : t_h T x = true) : ∃ (p k : Nat), liv T p ∧ (t_k T p)[k]? = some x ∧ par T x = some p := by
  obtain ⟨p, h1, h2, h3⟩ := hW.h_par hx
  obtain ⟨k, hk, e⟩ := List.getElem_of_mem h2
  exact ⟨p, k, h1, by rw [List.getElem?_eq_getElem hk, e], h3⟩
set_option maxHeartbeats 1000000 in
theorem c_M_doesT {e : En} (hM : ML σ o) (hW : Wf n kd T) (hR : RT σ o n kd T) (hv : Va n kd e T) : Cn l D m_M_does 0 0 [va_rf (some o), .int (nI e.1), .int (nI e.2.1), .int (eB e), .int (nI e.2.2.2)] σ
    (fun r τ => r = some (.int (nI (dR e T))) ∧ RT τ o n kd (ap e T) ∧ h_I τ 721 o = nI 0 ∧ MFr [7, 8, 9] [721] σ τ o) := by
  have hW' := Wf_ap hW hv
  have hn := hW.1
  have hP := RT.P hW hR
  obtain ⟨r1, r2, r3, r4, r5, r6, r7⟩ := id hR
  obtain ⟨c, x, p, i⟩ := e
  have h0 : ∀ z, n ≤ z → onT n T z = 0 := fun z hz => by rw [onT, if_neg (by omega)]
  rcases hv with ⟨h, v⟩ | ⟨h, v⟩ | ⟨h, v, h3⟩ | ⟨h, v⟩
  · -- add
    have h : c = 1 := h
    subst h
    have hap : ap (1, x, p, i) T = apA x p i T := by rw [ap, if_pos rfl]
    rw [hap] at hW' ⊢
    have v : VA n T x p i := v
    obtain ⟨v1, v2, v3, v4, v5, v6, v7⟩ := id v
    have hpx : p ≠ x := by
      rintro rfl
      rcases v6 with q | q
      · omega
      · rw [v2] at q; cases q
    change Cn l D m_M_does 0 0 [va_rf (some o), .int (nI 1), .int (nI x), .int (cd p), .int (nI i)] σ (fun r τ => r = some (.int (nI x)) ∧ _)
    refine Cn.mono (c_M_does1 hM r1 hn (by omega)) ?_
    rintro r τ ⟨rfl, rfl⟩
    have hlv : ∀ q, q ≠ x → (liv (apA x p i T) q ↔ liv T q) := by
      intro q hq
      unfold liv
      rw [show t_h (apA x p i T) q = t_h T q from u1_n _ _ hq]
    have hkx : t_k (apA x p i T) x = [] := by
      show u_1 (t_k T) p (insA (t_k T p) i x) x = []
      rw [u1_n _ _ hpx.symm]
      exact v3
    refine ⟨rfl, ⟨?_, ?_, r3, r4, ?_, ?_, ?_⟩, ?_, ?_⟩
    · rw [hI_wX, hI_wX, hI_n _ _ (by decide)]
      exact r1
    · rw [hX_n _ _ (by omega), hX_n _ _ (by omega)]
      exact r2
    · rw [hX_n _ _ (by omega), hX_w]
      refine onT_eq hW' (fun z hz hh => ?_) (fun q z hq hz => ?_) (fun z hz => ?_)
      · have hzx : z ≠ x := fun e => by
          rw [e, show t_h (apA x p i T) x = true from u1_s _ _ _] at hh; cases hh
        rw [upd_n _ _ hzx, r5]
        exact onT_off hz (by rw [← hh]; exact (u1_n _ _ hzx).symm)
      · have hqx : q ≠ x := fun e => by rw [e, hkx] at hz; cases hz
        have hz : z ∈ u_1 (t_k T) p (insA (t_k T p) i x) q := hz
        by_cases e : q = p
        · rw [e, u1_s] at hz
          rcases mem_ins.mp hz with w | w
          · rw [w, upd_s, e]
          · rw [upd_n _ _ (show z ≠ x from fun e2 => v5 p (by rw [← e2]; exact w)), r5, e]
            exact onT_on hW v6 w
        · rw [u1_n _ _ e] at hz
          rw [upd_n _ _ (show z ≠ x from fun e2 => v5 q (by rw [← e2]; exact hz)), r5]
          exact onT_on hW ((hlv q hqx).mp hq) hz
      · rw [upd_n _ _ (by omega), r5]
        exact h0 z hz
    · intro q hq j z hz
      rw [hX_w]
      have hqx : q ≠ x := fun e => by rw [e, hkx] at hz; cases hz
      exact pl_U (L := liv T) (Kb := t_k T) (fun q j z hq hz => ⟨fun e => v5 q (by rw [← e]; exact List.mem_of_getElem? hz), hP q j z hq hz⟩) (fun q hq => ⟨by have := hW.len q; omega, hW.liv_le hq⟩) v6 v7 q j z ((hlv q hqx).mp hq) hz
    · intro z hz
      rw [hX_n _ _ (by omega), hX_n _ _ (by omega)]
      exact r7 z hz
    · rw [hI_wX, hI_wX, hI_w]
    · exact ((MFr.I _ _ (by decide)).tr (MFr.X _ _ (by decide))).tr (MFr.X _ _ (by decide))
  · -- move
    have h : c = 2 := h
    subst h
    have hap : ap (2, x, p, i) T = apM x p i T := rfl
    rw [hap] at hW' ⊢
    have v : VM T x p i := v
    obtain ⟨v1, v2, v3, v4⟩ := id v
    have hxn := hW.h_lt v1
    obtain ⟨p0, k0, l0, k1, k2⟩ := hW.pos v1
    change Cn l D m_M_does 0 0 [va_rf (some o), .int (nI 2), .int (nI x), .int (cd p), .int (nI i)] σ (fun r τ => r = some (.int (nI 0)) ∧ _)
    refine Cn.mono (c_M_does2 hM r1 hn (by omega)) ?_
    rintro r τ ⟨rfl, rfl⟩
    refine ⟨rfl, ⟨?_, ?_, r3, r4, ?_, ?_, ?_⟩, ?_, ?_⟩
    · rw [hI_wX, hI_wX, hI_n _ _ (by decide)]
      exact r1
    · rw [hX_n _ _ (by omega), hX_n _ _ (by omega)]
      exact r2
    · rw [hX_n _ _ (by omega), hX_w]
      refine onT_eq hW' (fun z hz hh => ?_) (fun q z hq hz => ?_) (fun z hz => ?_)
      · have hh : t_h T z = false := hh
        have hzx : z ≠ x := fun e => by rw [e, v1] at hh; cases hh
        rw [upd_n _ _ hzx, upd_n _ _ hzx, r5]
        exact onT_off hz hh
      · rcases (apM_k x p i T q z).mp hz with ⟨a1, a2⟩ | ⟨a1, a2⟩
        · rw [a1, upd_s, a2]
        · rw [upd_n _ _ a1, upd_n _ _ a1, r5]
          exact onT_on hW hq a2
      · rw [upd_n _ _ (by omega), upd_n _ _ (by omega), r5]
        exact h0 z hz
    · intro q hq j z hz
      rw [hX_w]
      refine pl_U (L := liv T) (Kb := fun q => rmv (t_k T q) x) (fun q j z hq hz => ?_) (fun q hq => ⟨?_, hW.liv_le hq⟩) v2 v4 q j z hq hz
      · have hm := mem_rmv.mp (List.mem_of_getElem? hz)
        refine ⟨hm.2, hW.k_lt hm.1, ?_, ?_⟩
        · rw [upd_n _ _ hm.2, r5]
          exact onT_on hW hq hm.1
        · exact pl_D (L := liv T) (Kb := t_k T) hP (fun q hq => ⟨hW.2.2.1 q, by have := hW.len q; omega, hW.liv_le hq⟩) l0 k1 q j z hq hz
      · have := nodup_len (rmv_nd (x := x) (hW.2.2.1 q)) (m := n) (fun z hz => hW.k_lt (mem_rmv.mp hz).1)
        show (rmv (t_k T q) x).length ≤ 120
        omega
    · intro z hz
      rw [hX_n _ _ (by omega), hX_n _ _ (by omega)]
      exact r7 z hz
    · rw [hI_wX, hI_wX, hI_w]
    · exact ((MFr.I _ _ (by decide)).tr (MFr.X _ _ (by decide))).tr (MFr.X _ _ (by decide))
  · -- cut
    have h : c = 3 := h
    subst h
    have h3 : p = 0 := h3
    subst h3
    have v : t_h T x = true := v
    have hap : ap (3, x, 0, i) T = apC x T := rfl
    rw [hap] at hW' ⊢
    have hxn := hW.h_lt v
    obtain ⟨p0, k0, l0, k1, k2⟩ := hW.pos v
    obtain ⟨dp, hd⟩ := hW.2.2.2.2.1
    have hcnt : cntB (fun z => t_h T z && bel T x z) n = (pre T 121 x).length := cntB_len (pre_nd hW _ _ (by omega)) (sub_iff hW v)
    change Cn l D m_M_does 0 0 [va_rf (some o), .int (nI 3), .int (nI x), .int (nI 0), .int (nI i)] σ (fun r τ => r = some (.int (nI (pre T 121 x).length)) ∧ _)
    refine Cn.mono (c_M_does3 (B := fun z => t_h T z && bel T x z) (rk := dp) hM r1 hn hxn (by rw [v, bel_self]; rfl) (fun y hy => ?_)) ?_
    · rw [r5]
      cases e : t_h T y with
      | false => exact Or.inl ⟨onT_off hy e, rfl⟩
      | true =>
        obtain ⟨q, l1, l2, -⟩ := hW.h_par e
        rw [onT_on hW l1 l2]
        rcases l1 with rfl | l1
        · refine Or.inr (Or.inl ⟨rfl, ?_⟩)
          by_cases a : y = x
          · exact Or.inl a
          · exact Or.inr (by rw [bel_kid hW l2 a, bel_120 hW hxn]; rfl)
        · have hqn := hW.h_lt l1
          refine Or.inr (Or.inr ⟨q, hqn, cd_n (by omega), fun w => ?_, by have := hd _ _ l2; omega, ?_⟩)
          · rw [(onT_9 hW hqn).mp w] at l1; cases l1
          · by_cases a : y = x
            · exact Or.inl a
            · exact Or.inr (by show (true && bel T x y) = (t_h T q && bel T x q); rw [bel_kid hW l2 a, l1])
    · rintro r τ ⟨rfl, rfl⟩
      refine ⟨by rw [hcnt], ⟨?_, ?_, r3, r4, ?_, ?_, ?_⟩, ?_, ?_⟩
      · rw [hI_wX, hI_wX, hI_n _ _ (by decide)]
        exact r1
      · rw [hX_n _ _ (by omega), hX_n _ _ (by omega)]
        exact r2
      · rw [hX_n _ _ (by omega), hX_w]
        refine onT_eq hW' (fun z hz hh => ?_) (fun q z hq hz => ?_) (fun z hz => ?_)
        · have hh : (t_h T z && !bel T x z) = false := hh
          rw [offB]
          by_cases e : z < n ∧ (t_h T z && bel T x z) = true
          · rw [if_pos e]
          · rw [if_neg e, r5]
            refine onT_off hz ?_
            cases e1 : t_h T z with
            | false => rfl
            | true =>
              rw [e1] at e hh
              cases e2 : bel T x z with
              | true => rw [e2] at e; exact absurd ⟨hz, rfl⟩ e
              | false => rw [e2] at hh; cases hh
        · obtain ⟨z1, z2⟩ := mem_rmv.mp (show z ∈ rmv (t_k T q) x from hz)
          have hq2 : liv T q ∧ bel T x q = false := by
            rcases hq with rfl | hq
            · exact ⟨Or.inl rfl, bel_120 hW hxn⟩
            · have hq : (t_h T q && !bel T x q) = true := hq
              simp only [Bool.and_eq_true, Bool.not_eq_true'] at hq
              exact ⟨Or.inr hq.1, hq.2⟩
          rw [offB, if_neg (fun w => by rw [bel_kid hW z1 z2, hq2.2, Bool.and_false] at w; cases w.2), r5]
          exact onT_on hW hq2.1 z1
        · rw [offB, if_neg (fun w => by omega), r5]
          exact h0 z hz
      · intro q hq j z hz
        rw [hX_w]
        have hq2 : liv T q := by
          rcases hq with rfl | hq
          · exact Or.inl rfl
          · have hq : (t_h T q && !bel T x q) = true := hq
            simp only [Bool.and_eq_true] at hq
            exact Or.inr hq.1
        exact pl_D (L := liv T) (Kb := t_k T) hP (fun q hq => ⟨hW.2.2.1 q, by have := hW.len q; omega, hW.liv_le hq⟩) l0 k1 q j z hq2 hz
      · intro z hz
        rw [hX_n _ _ (by omega), hX_n _ _ (by omega)]
        exact r7 z hz
      · rw [hI_wX, hI_wX, hI_w]
      · exact ((MFr.I _ _ (by decide)).tr (MFr.X _ _ (by decide))).tr (MFr.X _ _ (by decide))
  · -- join
    have h : c = 4 := h
    subst h
    have v : VJ kd T x p := v
    have hap : ap (4, x, p, i) T = apJ x p T := rfl
    rw [hap] at hW' ⊢
    obtain ⟨hxy, p0, k0, l0, k1, k2, hx0, hy0, hpx, hpy⟩ := VJ.ne hW v
    obtain ⟨v1, v2, v3, -⟩ := id v
    have hxn := hW.h_lt v1
    have hyn := hW.h_lt v2
    have hk := apJ_k hW hxy hy0 hpx hpy
    have hcx : cntB (fun z => decide (h_X σ (o + 1 + 7) z = nI x)) n = (t_k T x).length := by
      rw [r5, ← cd_n (show x ≠ 120 by omega)]
      exact hang_T hW (Or.inr v1)
    have hcy : cntB (fun z => decide (h_X σ (o + 1 + 7) z = nI p)) n = (t_k T p).length := by
      rw [r5, ← cd_n (show p ≠ 120 by omega)]
      exact hang_T hW (Or.inr v2)
    change Cn l D m_M_does 0 0 [va_rf (some o), .int (nI 4), .int (nI x), .int (nI p), .int (nI i)] σ (fun r τ => r = some (.int (nI ((t_k T x).length + (t_k T p).length))) ∧ _)
    refine Cn.mono (c_M_does4 hM r1 hn (by omega) (by omega)) ?_
    rintro r τ ⟨rfl, rfl⟩
    rw [hcx, hcy]
    have hj : ∀ q z, liv T q → z ∈ t_k T q → jnO (h_X σ (o + 1 + 7)) x p n z = if q = p then nI x else cd q := by
      intro q z hq hz
      rw [jnO, r5, onT_on hW hq hz]
      by_cases e : q = p
      · rw [if_pos ⟨hW.k_lt hz, by rw [e]; exact cd_n (by omega)⟩, if_pos e]
      · rw [if_neg (fun w => e (cd_inj (hW.liv_le hq) (by omega) (by rw [w.2, cd_n (show p ≠ 120 by omega)]))), if_neg e]
    have hlv : ∀ q, liv (apJ x p T) q → liv T q ∧ q ≠ p := by
      intro q hq
      rcases hq with rfl | hq
      · exact ⟨Or.inl rfl, by omega⟩
      · have hqp : q ≠ p := fun e => by rw [e, show t_h (apJ x p T) p = false from u1_s _ _ _] at hq; cases hq
        rw [show t_h (apJ x p T) q = t_h T q from u1_n _ _ hqp] at hq
        exact ⟨Or.inr hq, hqp⟩
    refine ⟨rfl, ⟨?_, ?_, r3, r4, ?_, ?_, ?_⟩, ?_, ?_⟩
    · rw [hI_wX, hI_wX, hI_wX, hI_n _ _ (by decide)]
      exact r1
    · rw [hX_n _ _ (by omega), hX_n _ _ (by omega), hX_n _ _ (by omega)]
      exact r2
    · rw [hX_n _ _ (by omega), hX_n _ _ (by omega), hX_w]
      refine onT_eq hW' (fun z hz hh => ?_) (fun q z hq hz => ?_) (fun z hz => ?_)
      · by_cases e : z = p
        · rw [e, upd_s]
        · rw [show t_h (apJ x p T) z = t_h T z from u1_n _ _ e] at hh
          rw [upd_n _ _ e, jnO, r5, onT_off hz hh, if_neg (fun w => nI_pos (show p < 2 ^ 31 by omega) (by rw [← w.2]; decide))]
      · obtain ⟨hq1, hq2⟩ := hlv q hq
        obtain ⟨z1, z2⟩ := (hk q z).mp hz
        rw [upd_n _ _ z1]
        rcases z2 with ⟨a1, a2⟩ | ⟨a1, a2⟩
        · rw [hj p z (Or.inr v2) a2, if_pos rfl, a1, cd_n (by omega)]
        · rw [hj q z hq1 a2, if_neg hq2]
      · rw [upd_n _ _ (by omega), jnO, if_neg (by omega), r5]
        exact h0 z hz
    · intro q hq j z hz
      rw [hX_n _ _ (by omega), hX_w]
      obtain ⟨hq1, hq2⟩ := hlv q hq
      have e1 : t_k (apJ x p T) q = rmv (if q = x then t_k T x ++ t_k T p else t_k T q) p := by
        show (if q = x then t_k T x ++ t_k T p else if q = p then [] else rmv (t_k T q) p) = _
        by_cases e : q = x
        · rw [if_pos e, if_pos e]
          refine (rmv_no (fun w => ?_)).symm
          rcases List.mem_append.mp w with w | w
          · exact hpx (hW.2.2.2.1 _ _ _ hy0 w)
          · exact hpy (hW.2.2.2.1 _ _ _ hy0 w)
        · rw [if_neg e, if_neg e, if_neg hq2]
      rw [e1] at hz
      refine pl_D (L := fun q => liv T q ∧ q ≠ p) (Kb := fun q => if q = x then t_k T x ++ t_k T p else t_k T q) (p := p0) (k := k0 + 1) (fun q j z hq hz => ?_) (fun q hq => ?_) ⟨l0, hpy⟩ (by show (if p0 = x then _ else t_k T p0)[k0 + 1]? = some p; rw [if_neg hpx]; exact k2) q j z ⟨hq1, hq2⟩ hz
      · have hz : (if q = x then t_k T x ++ t_k T p else t_k T q)[j]? = some z := hz
        by_cases e : q = x
        · rw [if_pos e] at hz
          by_cases a : j < (t_k T x).length
          · rw [List.getElem?_append_left a] at hz
            have hm := List.mem_of_getElem? hz
            refine ⟨hW.k_lt hm, ?_, ?_⟩
            · rw [hj x z (Or.inr v1) hm, if_neg hxy, e]
            · rw [jnP, r5, onT_on hW (Or.inr v1) hm, if_neg (fun w => hxy (cd_inj (by omega) (by omega) (by rw [w.2, cd_n (show p ≠ 120 by omega)])))]
              exact r6 x (Or.inr v1) j z hz
          · rw [List.getElem?_append_right (by omega)] at hz
            have hm := List.mem_of_getElem? hz
            refine ⟨hW.k_lt hm, ?_, ?_⟩
            · rw [hj p z (Or.inr v2) hm, if_pos rfl, e, cd_n (by omega)]
            · rw [jnP, r5, onT_on hW (Or.inr v2) hm, if_pos ⟨hW.k_lt hm, cd_n (by omega)⟩, r6 p (Or.inr v2) _ z hz, nI_add]
              congr 1
              omega
        · rw [if_neg e] at hz
          have hm := List.mem_of_getElem? hz
          refine ⟨hW.k_lt hm, ?_, ?_⟩
          · rw [hj q z hq.1 hm, if_neg hq.2]
          · rw [jnP, r5, onT_on hW hq.1 hm, if_neg (fun w => hq.2 (cd_inj (hW.liv_le hq.1) (by omega) (by rw [w.2, cd_n (show p ≠ 120 by omega)])))]
            exact r6 q hq.1 j z hz
      · show (if q = x then t_k T x ++ t_k T p else t_k T q).Nodup ∧ (if q = x then t_k T x ++ t_k T p else t_k T q).length ≤ 240 ∧ q ≤ 120
        have g1 := hW.len x
        have g2 := hW.len p
        have g3 := hW.len q
        by_cases e : q = x
        · rw [if_pos e]
          refine ⟨List.nodup_append.mpr ⟨hW.2.2.1 x, hW.2.2.1 p, fun a ha b hb e2 => ?_⟩, by rw [List.length_append]; omega, by omega⟩
          subst e2
          exact hxy (hW.2.2.2.1 x p a ha hb)
        · rw [if_neg e]
          exact ⟨hW.2.2.1 q, by omega, hW.liv_le hq.1⟩
    · intro z hz
      rw [hX_w]
      show upd (h_X σ (o + 1 + 9)) p (nI x) z = oI (u_1 (t_i T) p (some x) z)
      by_cases e : z = p
      · rw [e, upd_s, u1_s]; rfl
      · rw [upd_n _ _ e, u1_n _ _ e]
        exact r7 z hz
    · rw [hI_wX, hI_wX, hI_wX, hI_w]
    · exact (((MFr.I _ _ (by decide)).tr (MFr.X _ _ (by decide))).tr (MFr.X _ _ (by decide))).tr (MFr.X _ _ (by decide))
end MC
