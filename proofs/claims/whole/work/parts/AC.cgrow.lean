/-! ===== the class: a thing is made ===== -/
section AC
variable {ow : Nat → Nat} {σ τ : Hp} {c B : Nat} {ad ad' : Nat → Nat} {S : Sp}
theorem Wf.tn {n : Nat} {kd : Nat → Nat} {T : Tr} (hW : Wf n kd T) {p : Nat} (lp : liv T p) : TN n p := lp.elim Or.inr (fun w => Or.inl (hW.h_lt w))
theorem CO.adr {a n : Nat} {kd : Nat → Nat} {e : En} {T : Tr} (hW : Wf n kd T) (hv : Va n kd e T) (he : ∀ x, TN n x → ad' x = ad x) (g : CO σ ad a e T) : CO σ ad' a e T := by
  obtain ⟨g0, g1, g2⟩ := g
  refine ⟨g0, g1, ?_⟩
  rcases g2 with ⟨a1, a2, a3⟩ | ⟨a1, a2, a3, p, k, a4, a5, a6, a7⟩ | ⟨a1, a2, a3, p, k, a4, a5, a6, a7⟩ | ⟨a1, a2, a3, a4, p, k, a5, a6, a7, a8⟩
  · have hx : e.2.1 < n := by
      rcases hv with ⟨v, w⟩ | ⟨v, w⟩ | ⟨v, w⟩ | ⟨v, w⟩
      · exact w.1
      · omega
      · omega
      · omega
    exact Or.inl ⟨a1, a2, by rw [he _ (Or.inl hx)]; exact a3⟩
  · have hx := hW.k_lt (List.mem_of_getElem? a5)
    exact Or.inr (Or.inl ⟨a1, a2, by rw [he _ (Or.inl hx)]; exact a3, p, k, a4, a5, by rw [he _ (hW.tn a4)]; exact a6, a7⟩)
  · have hx := hW.k_lt (List.mem_of_getElem? a5)
    exact Or.inr (Or.inr (Or.inl ⟨a1, a2, by rw [he _ (Or.inl hx)]; exact a3, p, k, a4, a5, by rw [he _ (hW.tn a4)]; exact a6, a7⟩))
  · have hx := hW.k_lt (List.mem_of_getElem? a6)
    refine Or.inr (Or.inr (Or.inr ⟨a1, a2, by rw [he _ (Or.inl hx)]; exact a3, ?_, p, k, a5, a6, by rw [he _ (hW.tn a5)]; exact a7, a8⟩))
    rw [a4]
    cases hq : t_k T e.2.2.1 with
    | nil => rfl
    | cons d L =>
      show some (ad d) = some (ad' d)
      rw [he d (Or.inl (hW.k_lt (p := e.2.2.1) (by rw [hq]; exact List.mem_cons_self)))]
theorem CLg.adr {n : Nat} {kd : Nat → Nat} (hn : n ≤ 120) (he : ∀ x, TN n x → ad' x = ad x) : ∀ {t : List En}, LogOk n kd t → CLg σ c ad t → CLg σ c ad' t
  | [], _, _ => trivial
  | e :: t, hl, g => by
    obtain ⟨a, a1, a2⟩ := g.2
    exact ⟨CLg.adr hn he hl.1 g.1, a, a1, a2.adr (LogOk.wf hn hl.1) hl.2 he⟩
theorem CM.adr (hS : SOk S) (he : ∀ x, TN (s_n S) x → ad' x = ad x) (g : CM ow σ c ad S) : CM ow σ c ad' S := by
  refine ⟨g.1, fun k q hq => ?_⟩
  obtain ⟨a, a1, g0, g1, g2, g3, g4, g5, g6, b, g7, g8, g9, g10, g11, g12⟩ := g.2 k q hq
  have hm := List.mem_of_getElem? hq
  obtain ⟨i, kk, f, e, m⟩ := q
  obtain ⟨b1, b2, b3, b4, b5, b6, b7, b8, b9, b10⟩ := hS.2.2.2.2.2.2.2.2.2.1 i kk f e m hm
  refine ⟨a, a1, g0, g1, g2, ?_, g4, g5, g6, b, g7, g8, g9, g10, g11, fun j hj => ?_⟩
  · show _ = some (ad' i)
    rw [he i (Or.inl b1)]
    exact g3
  · rw [g12 j hj]
    unfold mRow
    show (if kk = 0 ∨ kk = 4 then [ad f] else if kk = 1 then m.map ad else [])[j]? = (if kk = 0 ∨ kk = 4 then [ad' f] else if kk = 1 then m.map ad' else [])[j]?
    by_cases e1 : kk = 0 ∨ kk = 4
    · rw [if_pos e1, if_pos e1, he f (Or.inl (e1.elim b3 (fun w => (b7 w).1)))]
    · rw [if_neg e1, if_neg e1]
      by_cases e2 : kk = 1
      · rw [if_pos e2, if_pos e2, List.map_congr_left (fun x hx => (he x (Or.inl (b10 x hx).1)).symm)]
      · rw [if_neg e2, if_neg e2]
/-- the cells of a thing that was just made, number n, kind k -/
def NwT (σ τ : Hp) (c n k : Nat) : Prop :=
  h_z τ = h_z σ + 8 ∧ h_Y τ (c + 15) = u_1 (h_Y σ (c + 15)) n (some (h_z σ)) ∧ h_I τ 579 (c + 3) = nI (n + 1) ∧ h_K τ (h_z σ) = 9 ∧ h_I τ 512 (h_z σ) = nI n ∧ h_I τ 513 (h_z σ) = nI k ∧ h_P τ 514 (h_z σ) = some (c + 17 + 3 * k) ∧
  h_P τ 525 (h_z σ) = some (h_z σ + 1) ∧ h_P τ 526 (h_z σ) = some (h_z σ + 2) ∧ h_P τ 527 (h_z σ) = some (h_z σ + 4) ∧ h_P τ 528 (h_z σ) = some (h_z σ + 6) ∧ h_K τ (h_z σ + 1) = 21 ∧ h_L τ (h_z σ + 1) = 6 ∧ Ln τ (h_z σ + 2) 10 [] ∧ Ln τ (h_z σ + 4) 40 [] ∧ Ln τ (h_z σ + 6) 40 [] ∧
  (∀ f ∈ [515, 516, 517, 518], h_P τ f (h_z σ) = none) ∧ ∀ f ∈ [519, 529], h_I τ f (h_z σ) = nI 0
theorem CT.grow {n A : Nat} {kd : Nat → Nat} {T : Tr} (h : CT σ n T ad) (hW : Wf n kd T) (hn : n < 120) (hA : ∀ x, TN n x → ad x < A) (kA : h_K σ A = 9) (h516 : h_P σ 516 A = none) (h518 : h_P σ 518 A = none) (h519 : h_I σ 519 A = nI 0) : CT σ (n + 1) T (u_1 ad n A) := by
  obtain ⟨h1, h2, h3, h4, h5, h6, h7⟩ := h
  have e : ∀ x, TN n x → u_1 ad n A x = ad x := fun x hx => u1_n _ _ (by rcases hx with w | w <;> omega)
  have en : u_1 ad n A n = A := u1_s _ _ _
  have ts : ∀ x, TN (n + 1) x → TN n x ∨ x = n := fun x hx => by
    rcases hx with w | w
    · by_cases q : x = n
      · exact Or.inr q
      · exact Or.inl (Or.inl (by omega))
    · exact Or.inl (Or.inr w)
  have mp : ∀ x, (t_k T x).map (u_1 ad n A) = (t_k T x).map ad := fun x => List.map_congr_left (fun d hd => e d (Or.inl (hW.k_lt hd)))
  have kn : t_k T n = [] := by
    cases q : t_k T n with
    | nil => rfl
    | cons d L =>
      have := hW.2.1 n d (by rw [q]; exact List.mem_cons_self)
      omega
  have hin : t_i T n = none := by
    cases q : t_i T n with
    | none => rfl
    | some w => have := (hW.2.2.2.2.2.2.2.1 _ _ q).2.1; omega
  have hoff : t_h T n = false := by
    cases q : t_h T n with
    | false => rfl
    | true => have := hW.h_lt q; omega
  refine ⟨fun x hx => ?_, fun x y hx hy hxy => ?_, fun x hx => ?_, fun x d hx hd => ?_, ?_, fun x hx => ?_, fun x hx => ?_⟩
  · rcases ts x hx with w | rfl
    · rw [e x w]; exact h1 x w
    · rw [en]; exact kA
  · rcases ts x hx with w | rfl
    · rcases ts y hy with v | rfl
      · rw [e x w, e y v] at hxy; exact h2 x y w v hxy
      · rw [e x w, en] at hxy; have := hA x w; omega
    · rcases ts y hy with v | rfl
      · rw [e y v, en] at hxy; have := hA y v; omega
      · rfl
  · rw [mp]
    rcases ts x hx with w | rfl
    · rw [e x w]; exact h3 x w
    · rw [en, kn]; exact h516
  · have hd2 := hW.2.1 x d hd
    rw [e d (Or.inl hd2.1), e x (hd2.2.elim Or.inr Or.inl)]
    exact h4 x d (hd2.2.elim Or.inr Or.inl) hd
  · rw [e 120 (Or.inr rfl)]; exact h5
  · by_cases q : x = n
    · rw [q, en, hin]; exact h518
    · have w : x < n := by omega
      rw [e x (Or.inl w), h6 x w]
      cases q2 : t_i T x with
      | none => rfl
      | some y => show some (ad y) = some (u_1 ad n A y); rw [e y (Or.inl (hW.2.2.2.2.2.2.2.1 _ _ q2).2.2.1)]
  · by_cases q : x = n
    · rw [q, en, hoff]; exact h519
    · rw [e x (Or.inl (by omega))]; exact h7 x (by omega)
theorem SOk.grow {k : Nat} (hS : SOk S) (hk : k < 6) (hn : s_n S < 120) : SOk (sG S (s_n S + 1, u_1 (s_k S) (s_n S) k, s_l S)) := by
  refine hS.g (by omega) (by omega) (fun x hx => u1_n _ _ (by omega)) (fun x hx => ?_) (LogOk.more hS.1 (by omega) (fun x hx => u1_n _ _ (by omega)) hS.2.2.1) hS.2.2.2.1
  by_cases e : x = s_n S
  · rw [e, u1_s]; exact hk
  · rw [u1_n _ _ e]
    exact hS.2.1 x (by omega)
def owG (ow : Nat → Nat) (A : Nat) : Nat → Nat := fun a => if A ≤ a ∧ a < A + 8 then 4 else ow a
theorem owG_lt {A a : Nat} (h : a < A) : owG ow A a = ow a := if_neg (by omega)
/-- one thing more, which hangs nowhere; said of the heap where the numbers are marked stale -/
theorem RC.grow {k : Nat} (g : RC ow σ c ad B S) (h : Fm ow [579] [] [7] σ τ) (hN : NwT σ τ c (s_n S) k) (hk : k < 6) (hn : s_n S < 120) : RC (owG ow (h_z σ)) (w_I τ 320 (c + 35) (nI 1)) c (u_1 ad (s_n S) (h_z σ)) B (sG S (s_n S + 1, u_1 (s_k S) (s_n S) k, s_l S)) := by
  obtain ⟨g1, g2, g3, g4, g5, ⟨xs, g6⟩, g7, g8, g9, g10, g11, g12, g13⟩ := g
  have hS' := g1.grow hk hn
  have hW := g1.wf
  have z0 := g2.1
  have o1 : ow (c + 1) = 1 := g2.tag (q := (1, 1)) (by decide)
  have o2 : ow (c + 2) = 1 := g2.tag (q := (2, 1)) (by decide)
  have o43 : ow (c + 43) = 2 := g2.tag (q := (43, 2)) (by decide)
  have o44 : ow (c + 44) = 2 := g2.tag (q := (44, 2)) (by decide)
  have hlt : ∀ x, TN (s_n S) x → ad x < h_z σ := fun x hx => TN.lt g2 g3 hx
  obtain ⟨n1, n2, n3, n4, n5, n6, n7, n8, n9, n10, n11, n12, n13, n14, n15, n16, n17, n18⟩ := hN
  generalize hρ : w_I τ 320 (c + 35) (nI 1) = ρ
  have hf : Fm ow [320, 579] [] [7] σ ρ := by rw [← hρ]; exact (h.wide (by decide) (by decide) (by decide)).tr (Fm.I _ _ _ (by decide))
  have eK : h_K ρ = h_K τ := by rw [← hρ]; rfl
  have eP : h_P ρ = h_P τ := by rw [← hρ]; rfl
  have eL : h_L ρ = h_L τ := by rw [← hρ]; rfl
  have eX : h_X ρ = h_X τ := by rw [← hρ]; rfl
  have eY : h_Y ρ = h_Y τ := by rw [← hρ]; rfl
  have ez : h_z ρ = h_z τ := by rw [← hρ]; rfl
  have eI : ∀ f b, f ≠ 320 → h_I ρ f b = h_I τ f b := fun f b w => by rw [← hρ]; exact hI_n _ _ w
  have i320 : h_I ρ 320 (c + 35) = nI 1 := by rw [← hρ]; exact hI_w _ _ _ _
  have lnE : ∀ a cap xs, Ln τ a cap xs → Ln ρ a cap xs := by
    intro a cap xs q
    unfold Ln at q ⊢
    rw [eK, eP, eL, eX, eI 193 _ (by decide)]
    exact q
  have he : ∀ a, a < h_z σ → owG ow (h_z σ) a = ow a := fun a ha => owG_lt ha
  have ea : ∀ x, TN (s_n S) x → u_1 ad (s_n S) (h_z σ) x = ad x := fun x hx => u1_n _ _ (by rcases hx with w | w <;> omega)
  have hct : CT ρ (s_n S) (s_T S) ad := g4.kp hf g2 g3 hW.w0 (by decide) (fun f _ q => by cases q)
  refine ⟨hS', g2.kp hf (by decide) (by decide) (fun q _ w => by cases w) (by decide) he, ⟨?_, ?_, fun x y hx hy hxy => ?_, fun x hx => ?_⟩, ?_, g5.kp hf (by omega) (by rw [o1]; decide) (by rw [show c + 1 + 1 = c + 2 by omega, o2]; decide) (by decide) (by decide), ⟨xs, g6.kp hf (by omega) (by rw [o43]; decide) (by rw [show c + 43 + 1 = c + 44 by omega, o44]; decide) (by decide) (by decide)⟩, g7.kp hf g2 (by decide) (by decide) (by decide) rfl rfl, Or.inl i320, ⟨?_, ?_⟩, ?_, g11.kp hf g2 (by decide) (fun f _ q => by cases q) (by decide) (by decide) he rfl, g12.kp hf g2 (by decide) (by decide) rfl, ?_⟩
  · rw [eI _ _ (by decide)]; exact n3
  · rw [ea 120 (Or.inr rfl)]; exact g3.2.1
  · have hx : x < s_n S + 1 := hx
    have hy : y < s_n S + 1 := hy
    by_cases q : x = s_n S
    · have w : y < s_n S := by omega
      rw [q, u1_s, ea y (Or.inl w)]
      exact Or.inr (g3.2.2.2 y w).2.2.1
    · have w : x < s_n S := by omega
      rw [ea x (Or.inl w)]
      by_cases q2 : y = s_n S
      · rw [q2, u1_s]
        exact Or.inl (g3.2.2.2 x w).2.2.1
      · rw [ea y (Or.inl (by omega))]
        exact g3.2.2.1 x y w (by omega) hxy
  · have hx : x < s_n S + 1 := hx
    by_cases q : x = s_n S
    · subst q
      show h_Y ρ (c + 15) _ = some (u_1 ad (s_n S) (h_z σ) (s_n S)) ∧ _
      rw [u1_s, eY, n2, u1_s]
      refine ⟨rfl, by omega, by omega, by rw [eI _ _ (by decide)]; exact n5, ?_, ?_, ?_, by rw [eP]; exact n8, by rw [eP]; exact n9, by rw [eP]; exact n10, by rw [eP]; exact n11, by rw [eK]; exact n12, by rw [eL]; exact n13, fun j j1 j2 => if_pos (by omega), ⟨[], lnE _ _ _ n14⟩, ⟨[], lnE _ _ _ n15⟩, ⟨[], lnE _ _ _ n16⟩⟩
      · show _ = nI (u_1 (s_k S) (s_n S) k (s_n S))
        rw [eI _ _ (by decide), u1_s]; exact n6
      · show u_1 (s_k S) (s_n S) k (s_n S) < 6
        rw [u1_s]; exact hk
      · show _ = some (c + 17 + 3 * (u_1 (s_k S) (s_n S) k (s_n S)))
        rw [eP, u1_s]; exact n7
    · have w : x < s_n S := by omega
      obtain ⟨k1, k2, k3, k4, k5, k6, k7, k8, k9, k10, k11, k12, k13, k14, ⟨x1, k15⟩, ⟨x2, k16⟩, ⟨x3, k17⟩⟩ := g3.2.2.2 x w
      obtain ⟨b1, b2, b3, b4, b5⟩ := hf.2 (ad x) (by omega)
      obtain ⟨d1, d2, d3, d4, d5⟩ := hf.2 (ad x + 1) (by omega)
      have ek : u_1 (s_k S) (s_n S) k x = s_k S x := u1_n _ _ q
      have npp : ∀ f, f ∉ ([] : List Nat) := fun f q => by cases q
      show h_Y ρ (c + 15) _ = some (u_1 ad (s_n S) (h_z σ) x) ∧ _ ∧ _ ∧ _ ∧ h_I ρ 513 _ = nI (u_1 (s_k S) (s_n S) k x) ∧ u_1 (s_k S) (s_n S) k x < 6 ∧ h_P ρ 514 _ = some (c + 17 + 3 * (u_1 (s_k S) (s_n S) k x)) ∧ _
      rw [ea x (Or.inl w), ek, eY, n2, u1_n _ _ q]
      refine ⟨k1, k2, by omega, by rw [b3 512 (by decide) (fun e => by cases e)]; exact k4, by rw [b3 513 (by decide) (fun e => by cases e)]; exact k5, k6, by rw [b4 514 (npp _)]; exact k7, by rw [b4 525 (npp _)]; exact k8, by rw [b4 526 (npp _)]; exact k9, by rw [b4 527 (npp _)]; exact k10, by rw [b4 528 (npp _)]; exact k11, by rw [d1]; exact k12, by rw [d2]; exact k13, fun j j1 j2 => by rw [he _ (by omega)]; exact k14 j j1 j2, ⟨x1, k15.kp hf (by omega) ?_ ?_ (npp _) (by decide)⟩, ⟨x2, k16.kp hf (by omega) ?_ ?_ (npp _) (by decide)⟩, ⟨x3, k17.kp hf (by omega) ?_ ?_ (npp _) (by decide)⟩⟩
      · rw [k14 2 (by omega) (by omega)]; decide
      · rw [show ad x + 2 + 1 = ad x + 3 by omega, k14 3 (by omega) (by omega)]; decide
      · rw [k14 4 (by omega) (by omega)]; decide
      · rw [show ad x + 4 + 1 = ad x + 5 by omega, k14 5 (by omega) (by omega)]; decide
      · rw [k14 6 (by omega) (by omega)]; decide
      · rw [show ad x + 6 + 1 = ad x + 7 by omega, k14 7 (by omega) (by omega)]; decide
  · exact hct.grow hW hn hlt (by rw [eK]; exact n4) (by rw [eP]; exact n17 516 (by decide)) (by rw [eP]; exact n17 518 (by decide)) (by rw [eI _ _ (by decide)]; exact n18 519 (by decide))
  · rw [(hf.2 c (by omega)).2.2.1 644 (by decide) (fun e => by cases e)]
    exact g9.1
  · exact CLg.adr g1.1 ea g1.2.2.1 (g9.2.kp hf g2 (by decide) (fun f _ q => by cases q) (by decide))
  · have hcm : CM (owG ow (h_z σ)) ρ c ad S := g10.kp hf g2 (by decide) (fun f _ q => by cases q) (by decide) (by decide) he rfl (fun _ _ _ => rfl)
    exact CM.adr (S := S) g1 ea hcm
  · obtain ⟨s, s1, s2, s3⟩ := g13
    refine ⟨s, by rw [(hf.2 (c + 39) (by omega)).2.2.1 449 (by decide) (fun e => by cases e)]; exact s1, s2, fun x hx => ?_⟩
    have hx : x < s_n S + 1 := hx
    by_cases q : x = s_n S
    · exact ⟨0, Nat.zero_le _, by rw [q, u1_s, eI _ _ (by decide)]; exact n18 529 (by decide)⟩
    · obtain ⟨p, p1, p2⟩ := s3 x (by omega)
      have := hlt x (Or.inl (by omega))
      exact ⟨p, p1, by rw [ea x (Or.inl (by omega)), (hf.2 (ad x) this).2.2.1 529 (by decide) (fun e => by cases e)]; exact p2⟩
end AC
section NK
variable {l : Launch} {D : DD} {σ : Hp} {c B : Nat} {ow ad : Nat → Nat} {S : Sp}
theorem c_grow0 {k : Nat} (g : RC ow σ c ad B S) (hk : k < 6) (hn : s_n S = 120) : Cn l D m_Tree_grow 0 0 [va_rf (some (c + 3)), .int (nI k)] σ (fun r τ => r = some (va_rf none) ∧ τ = σ) := by
  have k3 : h_K σ (c + 3) = 10 := g.2.1.2.1 (3, 10) (by decide)
  have k15 : h_K σ (c + 15) = 35 := g.2.1.2.1 (15, 35) (by decide)
  have p577 : h_P σ 577 (c + 3) = some (c + 15) := g.2.1.2.2.1 (577, 3, 15) (by decide)
  have l15 : h_L σ (c + 15) = 120 := g.2.1.2.2.2.1 (15, 120) (by decide)
  have i579 := g.2.2.1.1
  refine Cn.of (by decide) (by repeat (first | exact ca_0 | refine ca_i ?_ | refine ca_r ?_)) (Nat.le_of_ble_eq_true rfl) ?_
  refine r_aload_n rfl rfl ?_
  refine r_iload_n rfl rfl ?_
  refine r_callV (As := [_]) rfl (by decide) rfl k3 rfl rfl (Nat.le_of_ble_eq_true rfl) ⟨Nat.le_of_ble_eq_true rfl, Nat.le_of_ble_eq_true rfl⟩ (c_formOf g.2.1) (kc' := 0) (ks' := 0) (by omega) (by omega) (by decide) ?_
  rintro r σ ⟨rfl, rfl⟩
  rw [kiI_nI hk]
  refine r_astore_n rfl (by decide) ?_
  refine r_aload_n rfl rfl ?_
  refine r_ifnull rfl (fun hq => by cases hq) (fun _ _ => ?_)
  refine r_aload_n rfl rfl ?_
  (first | refine r_getIv rfl (by first | assumption | rfl) rfl (by assumption) ?_ | refine r_getI rfl (by first | assumption | rfl) rfl ?_)
  refine r_aload_n rfl rfl ?_
  (first | refine r_getPv rfl (by first | assumption | rfl) rfl (by assumption) ?_ | refine r_getP rfl (by first | assumption | rfl) rfl ?_)
  refine r_alen rfl (Or.inr (by rw [k15]; decide)) ?_
  rw [l15]
  refine r_ltN rfl (by omega) (by omega) (fun q => by omega) (fun _ => ?_)
  refine r_null rfl ?_
  exact r_aret rfl rfl ⟨rfl, rfl⟩
set_option maxHeartbeats 1000000 in
theorem c_grow {k : Nat} (g : RC ow σ c ad B S) (hk : k < 6) (hn : s_n S < 120) : Cn l D m_Tree_grow 8 120 [va_rf (some (c + 3)), .int (nI k)] σ (fun r τ => r = some (va_rf (some (h_z σ))) ∧ Fm ow [579] [] [7] σ τ ∧ NwT σ τ c (s_n S) k) := by
  have k3 : h_K σ (c + 3) = 10 := g.2.1.2.1 (3, 10) (by decide)
  have k15 : h_K σ (c + 15) = 35 := g.2.1.2.1 (15, 35) (by decide)
  have p577 : h_P σ 577 (c + 3) = some (c + 15) := g.2.1.2.2.1 (577, 3, 15) (by decide)
  have l15 : h_L σ (c + 15) = 120 := g.2.1.2.2.2.1 (15, 120) (by decide)
  have i579 := g.2.2.1.1
  have z0 := g.2.1.1
  have o15 : ow (c + 15) = 7 := g.2.1.tag (q := (15, 7)) (by decide)
  generalize hQ : (fun (r : Option Value) (τ : Hp) => r = some (va_rf (some (h_z σ))) ∧ Fm ow [579] [] [7] σ τ ∧ NwT σ τ c (s_n S) k) = Q
  refine Cn.of (by decide) (by repeat (first | exact ca_0 | refine ca_i ?_ | refine ca_r ?_)) (Nat.le_of_ble_eq_true rfl) ?_
  refine r_aload_n rfl rfl ?_
  refine r_iload_n rfl rfl ?_
  refine r_callV (As := [_]) rfl (by decide) rfl k3 rfl rfl (Nat.le_of_ble_eq_true rfl) ⟨Nat.le_of_ble_eq_true rfl, Nat.le_of_ble_eq_true rfl⟩ (c_formOf g.2.1) (kc' := 8) (ks' := 120) (by omega) (by omega) (by decide) ?_
  rintro r σ ⟨rfl, rfl⟩
  rw [kiI_nI hk]
  refine r_astore_n rfl (by decide) ?_
  refine r_aload_n rfl rfl ?_
  refine r_ifnull rfl (fun hq => by cases hq) (fun _ _ => ?_)
  refine r_aload_n rfl rfl ?_
  (first | refine r_getIv rfl (by first | assumption | rfl) rfl (by assumption) ?_ | refine r_getI rfl (by first | assumption | rfl) rfl ?_)
  refine r_aload_n rfl rfl ?_
  (first | refine r_getPv rfl (by first | assumption | rfl) rfl (by assumption) ?_ | refine r_getP rfl (by first | assumption | rfl) rfl ?_)
  refine r_alen rfl (Or.inr (by rw [k15]; decide)) ?_
  rw [l15]
  refine r_ltN rfl (by omega) (by omega) (fun _ => ?_) (fun q => by omega)
  refine r_new (kc := 7) (ks := 102) rfl (fun _ => ?_) |> G.less (by omega) (by show 102 + 18 ≤ _; omega)
  have n0 : NW [512, 513, 521] [514, 525, 526, 527, 528] (h_z σ) σ (n_O σ (8 + 1)) 1 := NW.O _ _
  have kA : h_K (n_O σ (8 + 1)) (h_z σ) = 9 := u1_s _ _ _
  have iA : ∀ f, h_I (n_O σ (8 + 1)) f (h_z σ) = 0 := fun f => if_pos rfl
  have pA : ∀ f, h_P (n_O σ (8 + 1)) f (h_z σ) = none := fun f => if_pos rfl
  generalize hσ0 : n_O σ (8 + 1) = σ0 at n0 kA iA pA ⊢
  have z1 := n0.1
  have k30 : h_K σ0 (c + 3) = 10 := by rw [(n0.2 _ (by omega)).1]; exact k3
  have i579' : h_I σ0 579 (c + 3) = nI (s_n S) := by rw [(n0.2 _ (by omega)).2.2.2.2.1 579 (fun e => by omega)]; exact i579
  show Gm l D m_Tree_grow 8 120 Q 27 [some (va_rf (some (c + 3))), some (.int (nI k)), some (va_rf (some (c + 17 + 3 * k))), none] [va_rf (some (h_z σ))] σ0 7 102
  refine r_dup rfl (by first | rfl | exact rf_cat _) ?_
  refine r_aload_n rfl rfl ?_
  (first | refine r_getIv rfl (by first | assumption | rfl) rfl (by assumption) ?_ | refine r_getI rfl (by first | assumption | rfl) rfl ?_)
  refine r_iload_n rfl rfl ?_
  refine r_aload_n rfl rfl ?_
  refine r_callI (As := [_, _, _]) rfl (by decide) rfl rfl rfl (Nat.le_of_ble_eq_true rfl) ⟨Nat.le_of_ble_eq_true rfl, Nat.le_of_ble_eq_true rfl⟩ (c_Thing_init (num := nI (s_n S)) (kk := nI k) (fo := some (c + 17 + 3 * k)) kA (by omega)) (kc' := 0) (ks' := 0) (by omega) (by omega) ?_
  rintro r σ1 ⟨rfl, n1, q1, q2, -, q4, q5, q6, q7, q8, q9, q10, -, q12, q13, q14⟩
  rw [z1] at q5 q6 q7 q8 q9 q10 q12 q13 q14
  have z2 := n1.1
  have n01 := n0.tr n1
  have k31 : h_K σ1 (c + 3) = 10 := by rw [(n01.2 _ (by omega)).1]; exact k3
  have k151 : h_K σ1 (c + 15) = 35 := by rw [(n01.2 _ (by omega)).1]; exact k15
  have l151 : h_L σ1 (c + 15) = 120 := by rw [(n01.2 _ (by omega)).2.1]; exact l15
  have y151 : h_Y σ1 (c + 15) = h_Y σ (c + 15) := (n01.2 _ (by omega)).2.2.2.1
  have p5771 : h_P σ1 577 (c + 3) = some (c + 15) := by rw [(n01.2 _ (by omega)).2.2.2.2.2 577 (fun e => by omega)]; exact p577
  have i5791 : h_I σ1 579 (c + 3) = nI (s_n S) := by rw [(n01.2 _ (by omega)).2.2.2.2.1 579 (fun e => by omega)]; exact i579
  have kA1 : h_K σ1 (h_z σ) = 9 := by rw [(n1.2 _ (by omega)).1]; exact kA
  have hf1 : Fm ow [579] [] [7] σ σ1 := ⟨by omega, fun b hb => ⟨(n01.2 b hb).1, (n01.2 b hb).2.1, fun f _ _ => (n01.2 b hb).2.2.2.2.1 f (fun e => by omega), fun f _ => (n01.2 b hb).2.2.2.2.2 f (fun e => by omega), fun _ => ⟨(n01.2 b hb).2.2.1, (n01.2 b hb).2.2.2.1⟩⟩⟩
  refine r_astore_n rfl (by decide) ?_
  refine r_aload_n rfl rfl ?_
  (first | refine r_getPv rfl (by first | assumption | rfl) rfl (by assumption) ?_ | refine r_getP rfl (by first | assumption | rfl) rfl ?_)
  refine r_aload_n rfl rfl ?_
  (first | refine r_getIv rfl (by first | assumption | rfl) rfl (by assumption) ?_ | refine r_getI rfl (by first | assumption | rfl) rfl ?_)
  refine r_aload_n rfl rfl ?_
  refine r_aast (t := 5) rfl k151 (by decide) rfl (by rw [l151]; exact hn) (by rw [l151]; decide) (fun b hb => by cases hb; exact kA1) ?_
  generalize hσ2 : w_Y σ1 (c + 15) (u_1 (h_Y σ1 (c + 15)) (s_n S) (some (h_z σ))) = σ2
  have hf2 : Fm ow [579] [] [7] σ σ2 := hf1.tr (by rw [← hσ2]; exact Fm.Y _ _ (by rw [o15]; decide))
  have k32 : h_K σ2 (c + 3) = 10 := by rw [← hσ2]; exact k31
  have i5792 : h_I σ2 579 (c + 3) = nI (s_n S) := by rw [← hσ2]; exact i5791
  refine r_aload_n rfl rfl ?_
  refine r_dup rfl (by first | rfl | exact rf_cat _) ?_
  (first | refine r_getIv rfl (by first | assumption | rfl) rfl (by assumption) ?_ | refine r_getI rfl (by first | assumption | rfl) rfl ?_)
  refine r_iconst (v := nI 1) rfl (by decide) ?_
  (first | refine r_iaddN rfl ?_ | refine r_iadd rfl ?_)
  refine r_putI rfl (by first | assumption | rfl) rfl (by first | exact Or.inl rfl | exact Or.inr ⟨rfl, rfl⟩) (by first | rfl | decide | assumption) (by first | rfl | decide) ?_
  refine r_aload_n rfl rfl ?_
  refine r_aret rfl rfl ?_
  rw [← hQ]
  refine ⟨rfl, hf2.tr (Fm.I _ _ _ (by decide)), ?_⟩
  have hI : ∀ f b, f ≠ 579 → h_I (w_I σ2 579 (c + 3) (nI (s_n S + 1))) f b = h_I σ1 f b := fun f b w => (hI_n _ _ w).trans (by rw [← hσ2]; rfl)
  have ek : h_K (w_I σ2 579 (c + 3) (nI (s_n S + 1))) = h_K σ1 := by rw [← hσ2]; rfl
  have ep : h_P (w_I σ2 579 (c + 3) (nI (s_n S + 1))) = h_P σ1 := by rw [← hσ2]; rfl
  have el : h_L (w_I σ2 579 (c + 3) (nI (s_n S + 1))) = h_L σ1 := by rw [← hσ2]; rfl
  have ex : h_X (w_I σ2 579 (c + 3) (nI (s_n S + 1))) = h_X σ1 := by rw [← hσ2]; rfl
  have ez : h_z (w_I σ2 579 (c + 3) (nI (s_n S + 1))) = h_z σ1 := by rw [← hσ2]; rfl
  have ey : h_Y (w_I σ2 579 (c + 3) (nI (s_n S + 1))) (c + 15) = u_1 (h_Y σ (c + 15)) (s_n S) (some (h_z σ)) := by
    rw [← hσ2]
    show u_1 (h_Y σ1) (c + 15) _ (c + 15) = _
    rw [u1_s, y151]
  have e9 : h_I (w_I σ2 579 (c + 3) (nI (s_n S + 1))) 579 (c + 3) = nI (s_n S + 1) := hI_w _ _ _ _
  generalize w_I σ2 579 (c + 3) (nI (s_n S + 1)) = τ at hI ek ep el ex ez ey e9 ⊢
  have lnE : ∀ a cap xs, Ln σ1 a cap xs → Ln τ a cap xs := by
    intro a cap xs q
    unfold Ln at q ⊢
    rw [ek, ep, el, ex, hI 193 _ (by decide)]
    exact q
  refine ⟨by omega, ey, e9, by rw [ek]; exact kA1, by rw [hI _ _ (by decide)]; exact q1, by rw [hI _ _ (by decide)]; exact q2, by rw [ep]; exact q4, by rw [ep]; exact q5, by rw [ep]; exact q6, by rw [ep]; exact q7, by rw [ep]; exact q8, by rw [ek]; exact q9, by rw [el]; exact q10, lnE _ _ _ q12, lnE _ _ _ q13, lnE _ _ _ q14, fun f hf => ?_, fun f hf => ?_⟩
  · rw [ep, (n1.2 _ (by omega)).2.2.2.2.2 f (fun e => (by decide : ∀ f ∈ [515, 516, 517, 518], f ∉ [514, 525, 526, 527, 528]) f hf e.2)]
    exact pA f
  · rw [hI f _ (by revert f; decide), (n1.2 _ (by omega)).2.2.2.2.1 f (fun e => (by decide : ∀ f ∈ [519, 529], f ∉ [512, 513, 521]) f hf e.2)]
    exact iA f
end NK
