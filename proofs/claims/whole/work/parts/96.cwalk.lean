/-! ===== the class: nextWithin, setAllThere ===== -/
/-- the part of CT that speaks of the chains alone -/
def CS (σ : Hp) (n : Nat) (T : Tr) (ad : Nat → Nat) : Prop :=
  (∀ x, TN n x → h_K σ (ad x) = 9) ∧ (∀ x y, TN n x → TN n y → ad x = ad y → x = y) ∧ (∀ x, TN n x → Ch σ 517 ((t_k T x).map ad) (h_P σ 516 (ad x))) ∧
  (∀ x c, TN n x → c ∈ t_k T x → h_P σ 515 (ad c) = some (ad x)) ∧ h_P σ 515 (ad 120) = none
theorem CT.cs {σ : Hp} {n : Nat} {T : Tr} {ad : Nat → Nat} (h : CT σ n T ad) : CS σ n T ad := ⟨h.1, h.2.1, h.2.2.1, h.2.2.2.1, h.2.2.2.2.1⟩
theorem CS.as {σ : Hp} {n : Nat} {T T2 : Tr} {ad : Nat → Nat} (h : CS σ n T ad) (e : t_k T2 = t_k T) : CS σ n T2 ad := by
  unfold CS at h ⊢
  rw [e]
  exact h
theorem CS.kp {σ τ : Hp} {n : Nat} {T : Tr} {ad : Nat → Nat} (h : CS σ n T ad) (hK : ∀ x, TN n x → h_K τ (ad x) = h_K σ (ad x)) (hP : ∀ f x, TN n x → (f = 515 ∨ f = 516 ∨ f = 517) → h_P τ f (ad x) = h_P σ f (ad x)) (hk : ∀ x c, TN n x → c ∈ t_k T x → c < n) : CS τ n T ad := by
  obtain ⟨h1, h2, h3, h4, h5⟩ := h
  refine ⟨fun x hx => by rw [hK x hx]; exact h1 x hx, h2, fun x hx => ?_, fun x c hx hc => ?_, ?_⟩
  · rw [hP 516 x hx (Or.inr (Or.inl rfl))]
    refine Ch.ext (σ := σ) (fun b hb => ?_) (h3 x hx)
    obtain ⟨d, hd, rfl⟩ := List.mem_map.mp hb
    have hdn : TN n d := Or.inl (hk x d hx hd)
    exact ⟨hK d hdn, hP 517 d hdn (Or.inr (Or.inr rfl))⟩
  · rw [hP 515 c (Or.inl (hk x c hx hc)) (Or.inl rfl)]
    exact h4 x c hx hc
  · rw [hP 515 120 (Or.inr rfl) (Or.inl rfl)]
    exact h5
theorem Ch.hd {σ : Hp} {f : Nat} : ∀ {L : List Nat} {p : Option Nat}, Ch σ f L p → p = L.head?
  | [], _, h => h
  | _ :: _, _, h => h.1
section CW
variable {l : Launch} {D : DD} {σ : Hp} {n : Nat} {kd : Nat → Nat} {T : Tr} {ad : Nat → Nat}
theorem CS.first (h : CS σ n T ad) {x : Nat} (hx : TN n x) : h_P σ 516 (ad x) = (t_k T x).head?.map ad := by
  rw [Ch.hd (h.2.2.1 x hx), List.head?_map]
theorem CS.next (h : CS σ n T ad) (hW : Wf n kd T) {x p : Nat} (hp : TN n p) (hx : x ∈ t_k T p) : h_P σ 517 (ad x) = (sib T x).map ad := by
  obtain ⟨A, B, hsp⟩ := List.append_of_mem hx
  rw [sib_at hW hsp]
  have hc := h.2.2.1 p hp
  rw [hsp, List.map_append, List.map_cons] at hc
  rw [Ch.hd (Ch.rest hc).2, List.head?_map]
theorem upl_TN (hW : Wf n kd T) : ∀ (f x z : Nat), TN n x → z ∈ upl T f x → TN n z := by
  intro f
  induction f with
  | zero => intro x z _ hz; cases hz
  | succ f ih =>
    intro x z hx hz
    rw [upl_s] at hz
    rcases List.mem_cons.mp hz with rfl | hz
    · exact hx
    · cases hpr : par T x with
      | none => rw [hpr] at hz; cases hz
      | some p =>
        rw [hpr] at hz
        have := (hW.2.1 p x (par_mem hpr).1).2
        exact ih p z (by unfold TN; omega) hz
theorem c_nextT {top x : Nat} (h : CS σ n T ad) (hW : Wf n kd T) (hx : TN n x) (ht : TN n top) (hup : top ∈ upl T 200 x) : Cn l D m_Thing_nextWithin 0 0 [va_rf (some (ad x)), va_rf (some (ad top))] σ (fun r τ => r = some (va_rf ((nxT T top x).map ad)) ∧ τ = σ) := by
  have hn := hW.1
  have hx1 : x ≤ 120 := by unfold TN at hx; omega
  have hk := h.1 x hx
  have hfi := h.first hx
  refine Cn.of (by decide) (by repeat (first | exact ca_0 | refine ca_i ?_ | refine ca_r ?_)) (Nat.le_of_ble_eq_true rfl) ?_
  cases hkx : t_k T x with
  | cons c0 ks =>
    have en : nxT T top x = some c0 := by unfold nxT; rw [hkx]
    rw [hkx] at hfi
    have hfi : h_P σ 516 (ad x) = some (ad c0) := hfi
    refine r_aload_n rfl rfl ?_
    (first | refine r_getPv rfl (by first | assumption | rfl) rfl (by assumption) ?_ | refine r_getP rfl (by first | assumption | rfl) rfl ?_)
    refine r_ifnull rfl (fun hq => by cases hq) (fun _ _ => ?_)
    refine r_aload_n rfl rfl ?_
    (first | refine r_getPv rfl (by first | assumption | rfl) rfl (by assumption) ?_ | refine r_getP rfl (by first | assumption | rfl) rfl ?_)
    refine r_aret rfl rfl ⟨?_, rfl⟩
    rw [en]
    rfl
  | nil =>
    have en : nxT T top x = clT T top 200 x := by unfold nxT; rw [hkx]
    rw [hkx] at hfi
    have hfi : h_P σ 516 (ad x) = none := hfi
    refine r_aload_n rfl rfl ?_
    (first | refine r_getPv rfl (by first | assumption | rfl) rfl (by assumption) ?_ | refine r_getP rfl (by first | assumption | rfl) rfl ?_)
    refine r_ifnull rfl (fun _ => ?_) (fun _ hq => by cases hq)
    refine r_aload_n rfl rfl ?_
    refine r_astore_n rfl (by decide) ?_
    rw [en]
    have climb : ∀ (ff w : Nat), TN n w → (upl T ff w).length < ff → top ∈ upl T ff w → Gm l D m_Thing_nextWithin 0 0 (fun r τ => r = some (va_rf ((clT T top ff w).map ad)) ∧ τ = σ) 14 [some (va_rf (some (ad x))), some (va_rf (some (ad top))), some (va_rf (some (ad w)))] [] σ 0 0 := by
      intro ff
      induction ff with
      | zero => intro w _ hlt; omega
      | succ ff ih =>
        intro w hw hlt hm
        have hkw := h.1 w hw
        refine r_aload_n rfl rfl ?_
        refine r_ifnull rfl (fun hq => by cases hq) (fun _ _ => ?_)
        refine r_aload_n rfl rfl ?_
        refine r_aload_n rfl rfl ?_
        refine r_acmp_eq rfl (fun hq => ?_) (fun hq => ?_)
        · have hwt : w = top := h.2.1 w top hw ht (Option.some.inj hq)
          refine r_null rfl ?_
          refine r_aret rfl rfl ⟨?_, rfl⟩
          rw [clT, if_pos hwt]
          rfl
        · have hwt : w ≠ top := fun e2 => hq (by rw [e2])
          rw [upl_s] at hm hlt
          have hm2 := (List.mem_cons.mp hm).resolve_left (fun e2 => hwt e2.symm)
          cases hpr : par T w with
          | none => rw [hpr] at hm2; cases hm2
          | some p =>
            rw [hpr] at hm2 hlt
            rw [List.length_cons] at hlt
            have hlt : (upl T ff p).length + 1 < ff + 1 := hlt
            have hwp := (par_mem hpr).1
            have hpt : TN n p := by
              have := (hW.2.1 p w hwp).2
              unfold TN; omega
            have hnx := h.next hW hpt hwp
            have hpu := h.2.2.2.1 p w hpt hwp
            refine r_aload_n rfl rfl ?_
            (first | refine r_getPv rfl (by first | assumption | rfl) rfl (by assumption) ?_ | refine r_getP rfl (by first | assumption | rfl) rfl ?_)
            cases hsb : sib T w with
            | some s0 =>
              rw [hsb] at hnx
              have hnx : h_P σ 517 (ad w) = some (ad s0) := hnx
              refine r_ifnull rfl (fun hq2 => by cases hq2) (fun _ _ => ?_)
              refine r_aload_n rfl rfl ?_
              (first | refine r_getPv rfl (by first | assumption | rfl) rfl (by assumption) ?_ | refine r_getP rfl (by first | assumption | rfl) rfl ?_)
              refine r_aret rfl rfl ⟨?_, rfl⟩
              rw [clT, if_neg hwt, hsb]
              rfl
            | none =>
              rw [hsb] at hnx
              have hnx : h_P σ 517 (ad w) = none := hnx
              refine r_ifnull rfl (fun _ => ?_) (fun _ hq2 => by cases hq2)
              refine r_aload_n rfl rfl ?_
              (first | refine r_getPv rfl (by first | assumption | rfl) rfl (by assumption) ?_ | refine r_getP rfl (by first | assumption | rfl) rfl ?_)
              refine r_astore_n rfl (by decide) ?_
              refine r_goto rfl ?_
              have hgo := ih p hpt (by omega) hm2
              have ecl : clT T top (ff + 1) w = clT T top ff p := by rw [clT, if_neg hwt, hsb, hpr]
              rw [ecl]
              exact hgo
    exact climb 200 x hx (fuel hW hx1) hup
/-- there or not, of these -/
def thS (σ : Hp) : List Nat → Int32 → Hp
  | [], _ => σ
  | a :: L, v => thS (w_I σ 519 a v) L v
theorem thS_f : ∀ (L : List Nat) (σ : Hp) (v : Int32), h_z (thS σ L v) = h_z σ ∧ h_K (thS σ L v) = h_K σ ∧ h_P (thS σ L v) = h_P σ ∧ h_L (thS σ L v) = h_L σ ∧ h_X (thS σ L v) = h_X σ ∧ h_Y (thS σ L v) = h_Y σ ∧ (∀ f a, f ≠ 519 → h_I (thS σ L v) f a = h_I σ f a) ∧ ∀ a, h_I (thS σ L v) 519 a = if a ∈ L then v else h_I σ 519 a
  | [], σ, v => ⟨rfl, rfl, rfl, rfl, rfl, rfl, fun _ _ _ => rfl, fun a => by rw [if_neg (fun q => by cases q)]; rfl⟩
  | b :: L, σ, v => by
    obtain ⟨g1, g2, g3, g4, g5, g6, g7, g8⟩ := thS_f L (w_I σ 519 b v) v
    refine ⟨g1, g2, g3, g4, g5, g6, fun f a hf => ?_, fun a => ?_⟩
    · rw [thS, g7 f a hf]
      exact hI_n _ _ hf
    · rw [thS, g8 a]
      by_cases e : a ∈ L
      · rw [if_pos e, if_pos (List.mem_cons_of_mem _ e)]
      · rw [if_neg e]
        by_cases e2 : a = b
        · rw [e2, hI_w, if_pos List.mem_cons_self]
        · rw [if_neg (fun q => (List.mem_cons.mp q).elim e2 e)]
          exact u2_n2 _ _ e2
theorem c_setAll {x : Nat} {b : Bool} (h : CS σ n T ad) (hW : Wf n kd T) (hx : x < n) : Cn l D m_Thing_setAllThere 0 0 [va_rf (some (ad x)), .int (nI b.toNat)] σ (fun r τ => r = some (.int (nI (pre T 121 x).length)) ∧ τ = thS σ ((pre T 121 x).map ad) (nI b.toNat)) := by
  have hn := hW.1
  have hbb : narrow .boolean (.int (nI b.toNat)) = .int (nI b.toNat) := nar_B b
  have hbf : fits .boolean (.int (nI b.toNat)) = true := by cases b <;> decide
  generalize hQ : (fun (r : Option Value) (τ : Hp) => r = some (.int (nI (pre T 121 x).length)) ∧ τ = thS σ ((pre T 121 x).map ad) (nI b.toNat)) = Q
  refine Cn.of (by decide) (by repeat (first | exact ca_0 | refine ca_i ?_ | refine ca_r ?_)) (Nat.le_of_ble_eq_true rfl) ?_
  refine r_iconst (v := nI 0) rfl (by decide) ?_
  refine r_istore_n rfl (by decide) ?_
  refine r_aload_n rfl rfl ?_
  refine r_astore_n rfl (by decide) ?_
  have walk : ∀ (L : List Nat) (cc : Nat) (cur : Option Nat) (π : Hp), Wk (nxT T x) L cur → (∀ z ∈ L, TN n z ∧ x ∈ upl T 200 z) → CS π n T ad → cc + L.length = (pre T 121 x).length → thS σ ((pre T 121 x).map ad) (nI b.toNat) = thS π (L.map ad) (nI b.toNat) → Gm l D m_Thing_setAllThere 0 0 Q 4 [some (va_rf (some (ad x))), some (.int (nI b.toNat)), some (.int (nI cc)), some (va_rf (cur.map ad))] [] π 0 0 := by
    intro L
    induction L with
    | nil =>
      intro cc cur π hwk _ _ hcc hth
      have hcu : cur = none := hwk
      subst hcu
      refine r_aload_n rfl rfl ?_
      refine r_ifnull rfl (fun _ => ?_) (fun _ hq => by cases hq)
      refine r_iload_n rfl rfl ?_
      refine r_iret rfl rfl ?_
      rw [← hQ]
      have hcc : cc + 0 = _ := hcc
      exact ⟨by rw [← hcc, Nat.add_zero], hth.symm⟩
    | cons z L ih =>
      intro cc cur π hwk hL hcs hcc hth
      obtain ⟨hcu, hwk2⟩ := hwk
      subst hcu
      obtain ⟨hzt, hzu⟩ := hL z List.mem_cons_self
      have hkz := hcs.1 z hzt
      have hcs2 : CS (w_I π 519 (ad z) (nI b.toNat)) n T ad := hcs.kp (fun _ _ => rfl) (fun _ _ _ _ => rfl) (fun _ _ _ hc => hW.k_lt hc)
      refine r_aload_n rfl rfl ?_
      refine r_ifnull rfl (fun hq => by cases hq) (fun _ _ => ?_)
      show Gm l D m_Thing_setAllThere 0 0 Q 8 [some (va_rf (some (ad x))), some (.int (nI b.toNat)), some (.int (nI cc)), some (va_rf (some (ad z)))] [] π 0 0
      refine r_aload_n rfl rfl ?_
      refine r_iload_n rfl rfl ?_
      refine r_putI rfl hkz rfl (Or.inl rfl) hbb hbf ?_
      refine r_iinc rfl rfl (nI_inc _) ?_
      refine r_aload_n rfl rfl ?_
      refine r_aload_n rfl rfl ?_
      refine r_callV (As := [_]) rfl (by decide) rfl hkz rfl rfl (Nat.le_of_ble_eq_true rfl) ⟨Nat.le_of_ble_eq_true rfl, Nat.le_of_ble_eq_true rfl⟩ (c_nextT hcs2 hW hzt (Or.inl hx) hzu) (kc' := 0) (ks' := 0) (by omega) (by omega) (by decide) ?_
      rintro r π2 ⟨rfl, rfl⟩
      refine r_astore_n rfl (by decide) ?_
      refine r_goto rfl ?_
      exact ih (cc + 1) _ _ hwk2 (fun w hw => hL w (List.mem_cons_of_mem _ hw)) hcs2 (by rw [List.length_cons] at hcc; omega) hth
  refine walk (pre T 121 x) 0 (some x) σ (wk_all hW (by omega)) (fun z hz => ?_) h (by omega) rfl
  obtain ⟨hz1, hz2⟩ := pre_up hW _ _ _ hz (by omega)
  refine ⟨?_, hz2⟩
  by_cases e : z = x
  · exact Or.inl (e ▸ hx)
  · cases hpr : par T z with
    | none =>
      rw [upl_root hpr] at hz2
      exact absurd (List.mem_singleton.mp hz2).symm e
    | some p => exact Or.inl (hW.k_lt (par_mem hpr).1)
end CW
