/-! ===== the class: count; small helpers ===== -/
section NK
variable {l : Launch} {D : DD} {σ : Hp} {c B : Nat} {ow ad : Nat → Nat} {S : Sp}
theorem c_countThere (g : RC ow σ c ad B S) : Cn l D m_Tree_countThere 0 0 [va_rf (some (c + 3))] σ (fun r τ => r = some (.int (nI (ordT (s_T S)).length)) ∧ τ = σ) := by
  have hW := g.1.wf
  have hn := g.1.1
  have k3 : h_K σ (c + 3) = 10 := g.2.1.2.1 (3, 10) (by decide)
  have p576 : h_P σ 576 (c + 3) = some (c + 4) := g.2.1.2.2.1 (576, 3, 4) (by decide)
  have h120 : ad 120 = c + 4 := g.2.2.1.2.1
  have hcs := g.2.2.2.1.cs
  have k4 : h_K σ (c + 4) = 9 := by rw [← h120]; exact hcs.1 120 (Or.inr rfl)
  have hnx : ∀ x, TN (s_n S) x → 120 ∈ upl (s_T S) 200 x → Cn l D m_Thing_nextWithin 0 0 [va_rf (some (ad x)), va_rf (some (c + 4))] σ (fun r τ => r = some (va_rf ((nxT (s_T S) 120 x).map ad)) ∧ τ = σ) := by
    intro x hx hu
    have := c_nextT (l := l) (D := D) hcs hW hx (Or.inr rfl) hu
    rw [h120] at this
    exact this
  generalize hQ : (fun (r : Option Value) (τ : Hp) => r = some (.int (nI (ordT (s_T S)).length)) ∧ τ = σ) = Q
  refine Cn.of (by decide) (by repeat (first | exact ca_0 | refine ca_i ?_ | refine ca_r ?_)) (Nat.le_of_ble_eq_true rfl) ?_
  refine r_iconst (v := nI 0) rfl (by decide) ?_
  refine r_istore_n rfl (by decide) ?_
  refine r_aload_n rfl rfl ?_
  (first | refine r_getPv rfl (by first | assumption | rfl) rfl (by assumption) ?_ | refine r_getP rfl (by first | assumption | rfl) rfl ?_)
  refine r_aload_n rfl rfl ?_
  (first | refine r_getPv rfl (by first | assumption | rfl) rfl (by assumption) ?_ | refine r_getP rfl (by first | assumption | rfl) rfl ?_)
  have h1 := hnx 120 (Or.inr rfl) upl_self
  rw [h120] at h1
  refine r_callV (As := [_]) rfl (by decide) rfl k4 rfl rfl (Nat.le_of_ble_eq_true rfl) ⟨Nat.le_of_ble_eq_true rfl, Nat.le_of_ble_eq_true rfl⟩ (h1) (kc' := 0) (ks' := 0) (by omega) (by omega) (by decide) ?_
  rintro r σ ⟨rfl, rfl⟩
  refine r_astore_n rfl (by decide) ?_
  have walk : ∀ (L : List Nat) (cc : Nat) (cur : Option Nat), Wk (nxT (s_T S) 120) L cur → (∀ z ∈ L, t_h (s_T S) z = true) → cc + L.length = (ordT (s_T S)).length → Gm l D m_Tree_countThere 0 0 Q 14 [some (va_rf (some (c + 3))), some (.int (nI cc)), some (va_rf (cur.map ad))] [] σ 0 0 := by
    intro L
    induction L with
    | nil =>
      intro cc cur hwk _ hcc
      have hcu : cur = none := hwk
      subst hcu
      refine r_aload_n rfl rfl ?_
      refine r_ifnull rfl (fun _ => ?_) (fun _ hq => by cases hq)
      refine r_iload_n rfl rfl ?_
      refine r_iret rfl rfl ?_
      rw [← hQ]
      have hcc : cc + 0 = _ := hcc
      exact ⟨by rw [← hcc, Nat.add_zero], rfl⟩
    | cons z L ih =>
      intro cc cur hwk hL hcc
      obtain ⟨hcu, hwk2⟩ := hwk
      subst hcu
      have hzt := hL z List.mem_cons_self
      have hzn : TN (s_n S) z := Or.inl (hW.h_lt hzt)
      have kz := hcs.1 z hzn
      refine r_aload_n rfl rfl ?_
      refine r_ifnull rfl (fun hq => by cases hq) (fun _ _ => ?_)
      show Gm l D m_Tree_countThere 0 0 Q 18 [some (va_rf (some (c + 3))), some (.int (nI cc)), some (va_rf (some (ad z)))] [] σ 0 0
      refine r_iinc rfl rfl (nI_inc _) ?_
      refine r_aload_n rfl rfl ?_
      refine r_aload_n rfl rfl ?_
      (first | refine r_getPv rfl (by first | assumption | rfl) rfl (by assumption) ?_ | refine r_getP rfl (by first | assumption | rfl) rfl ?_)
      refine r_callV (As := [_]) rfl (by decide) rfl kz rfl rfl (Nat.le_of_ble_eq_true rfl) ⟨Nat.le_of_ble_eq_true rfl, Nat.le_of_ble_eq_true rfl⟩ (hnx z hzn (liv_up hW hzt)) (kc' := 0) (ks' := 0) (by omega) (by omega) (by decide) ?_
      rintro r σ ⟨rfl, rfl⟩
      refine r_astore_n rfl (by decide) ?_
      refine r_goto rfl ?_
      exact ih (cc + 1) _ hwk2 (fun w hw => hL w (List.mem_cons_of_mem _ hw)) (by rw [List.length_cons] at hcc; omega)
  exact walk (ordT (s_T S)) 0 _ (ord_wk hW) (fun z hz => (ord_mem hW).mp hz) (by omega)
theorem c_isLogFull (g : RC ow σ c ad B S) : Cn l D m_NK_isLogFull 0 0 [va_rf (some c)] σ (fun r τ => r = some (.int (nI (decide ((s_l S).length = 200)).toNat)) ∧ τ = σ) := by
  have k0 : h_K σ c = 11 := g.2.1.2.1 (0, 11) (by decide)
  have i644 : h_I σ 644 c = nI (s_l S).length := g.2.2.2.2.2.2.2.2.1.1
  have hl := g.1.2.2.2.1
  refine Cn.of (by decide) (by repeat (first | exact ca_0 | refine ca_i ?_ | refine ca_r ?_)) (Nat.le_of_ble_eq_true rfl) ?_
  refine r_aload_n rfl rfl ?_
  (first | refine r_getIv rfl (by first | assumption | rfl) rfl (by assumption) ?_ | refine r_getI rfl (by first | assumption | rfl) rfl ?_)
  refine r_sipush (v := nI 200) rfl (by decide) ?_
  refine r_ltN rfl (by omega) (by omega) (fun hlt => ?_) (fun hge => ?_)
  · refine r_iconst (v := nI 0) rfl (by decide) ?_
    refine r_zret rfl rfl (by decide) ⟨?_, rfl⟩
    rw [decide_eq_false (by omega)]
    rfl
  · refine r_iconst (v := nI 1) rfl (by decide) ?_
    refine r_goto rfl ?_
    refine r_zret rfl rfl (by decide) ⟨?_, rfl⟩
    rw [decide_eq_true (by omega)]
    rfl
theorem c_numberOf {x : Option Nat} (g : RC ow σ c ad B S) (hx : ∀ z, x = some z → z < s_n S) : Cn l D m_NK_numberOf 0 0 [va_rf (x.map ad)] σ (fun r τ => r = some (.int (oI x)) ∧ τ = σ) := by
  refine Cn.of (by decide) (by repeat (first | exact ca_0 | refine ca_i ?_ | refine ca_r ?_)) (Nat.le_of_ble_eq_true rfl) ?_
  refine r_aload_n rfl rfl ?_
  cases x with
  | none =>
    refine r_ifnonnull rfl (fun _ hq => by cases hq) (fun _ => ?_)
    refine r_iconst (v := -1) rfl (by decide) ?_
    refine r_goto rfl ?_
    exact r_iret rfl rfl ⟨rfl, rfl⟩
  | some z =>
    have hz := hx z rfl
    have kz := g.2.2.2.1.1 z (Or.inl hz)
    have iz := (g.2.2.1.2.2.2 z hz).2.2.2.1
    refine r_ifnonnull rfl (fun _ _ => ?_) (fun hq => by cases hq)
    show Gm l D m_NK_numberOf 0 0 _ 8 [some (va_rf (some (ad z)))] [] σ 0 0
    refine r_aload_n rfl rfl ?_
    (first | refine r_getIv rfl (by first | assumption | rfl) rfl (by assumption) ?_ | refine r_getI rfl (by first | assumption | rfl) rfl ?_)
    exact r_iret rfl rfl ⟨rfl, rfl⟩
theorem c_mentionOf {v : Int32} (g : RC ow σ c ad B S) : Cn l D m_NK_mentionOf 0 0 [va_rf (some c), .int v] σ (fun r τ => τ = σ ∧ (mnI S v = none ∧ r = some (va_rf none) ∨ ∃ q a, mnI S v = some q ∧ q ∈ s_m S ∧ r = some (va_rf (some a)) ∧ CM1 ow σ ad S a q)) := by
  have k0 : h_K σ c = 11 := g.2.1.2.1 (0, 11) (by decide)
  have k38 : h_K σ (c + 38) = 34 := g.2.1.2.1 (38, 34) (by decide)
  have p645 : h_P σ 645 c = some (c + 38) := g.2.1.2.2.1 (645, 0, 38) (by decide)
  have l38 : h_L σ (c + 38) = 100 := g.2.1.2.2.2.1 (38, 100) (by decide)
  obtain ⟨i646, hcm⟩ := g.2.2.2.2.2.2.2.2.2.1
  have hl := g.1.2.2.2.2.2.2.2.1
  generalize hQ : (fun (r : Option Value) (τ : Hp) => τ = σ ∧ (mnI S v = none ∧ r = some (va_rf none) ∨ ∃ q a, mnI S v = some q ∧ q ∈ s_m S ∧ r = some (va_rf (some a)) ∧ CM1 ow σ ad S a q)) = Q
  refine Cn.of (by decide) (by repeat (first | exact ca_0 | refine ca_i ?_ | refine ca_r ?_)) (Nat.le_of_ble_eq_true rfl) ?_
  have no : mnI S v = none → Gm l D m_NK_mentionOf 0 0 Q 30 [some (va_rf (some c)), some (.int v)] [] σ 0 0 := by
    intro hnone
    refine r_null rfl ?_
    refine r_aret rfl rfl ?_
    rw [← hQ]
    exact ⟨rfl, Or.inl ⟨hnone, rfl⟩⟩
  refine r_iload_n rfl rfl ?_
  refine r_if_lt rfl (fun hlt => no (by unfold mnI; rw [if_pos hlt])) (fun hge => ?_)
  obtain ⟨j, hj, rfl⟩ := nI_of hge
  have em : mnI S (nI j) = (s_m S)[j]? := by unfold mnI; rw [if_neg (nI_pos hj), nI_clamp hj]
  refine r_iload_n rfl rfl ?_
  refine r_aload_n rfl rfl ?_
  (first | refine r_getIv rfl (by first | assumption | rfl) rfl (by assumption) ?_ | refine r_getI rfl (by first | assumption | rfl) rfl ?_)
  refine r_geN rfl (by omega) (by omega) (fun hjj => no (by rw [em]; exact List.getElem?_eq_none hjj)) (fun hjj => ?_)
  refine r_iload_n rfl rfl ?_
  refine r_aload_n rfl rfl ?_
  (first | refine r_getPv rfl (by first | assumption | rfl) rfl (by assumption) ?_ | refine r_getP rfl (by first | assumption | rfl) rfl ?_)
  refine r_alen rfl (Or.inr (by rw [k38]; decide)) ?_
  rw [l38]
  refine r_geN rfl (by omega) (by omega) (fun hj2 => by omega) (fun _ => ?_)
  obtain ⟨a, a1, a2⟩ := hcm j _ (List.getElem?_eq_getElem hjj)
  refine r_aload_n rfl rfl ?_
  (first | refine r_getPv rfl (by first | assumption | rfl) rfl (by assumption) ?_ | refine r_getP rfl (by first | assumption | rfl) rfl ?_)
  refine r_iload_n rfl rfl ?_
  refine r_aald (t := 4) rfl k38 (by decide) rfl (by rw [l38]; omega) (by rw [l38]; decide) ?_
  rw [a1]
  refine r_goto rfl ?_
  refine r_aret rfl rfl ?_
  rw [← hQ]
  exact ⟨rfl, Or.inr ⟨_, a, by rw [em]; exact List.getElem?_eq_getElem hjj, List.getElem_mem hjj, rfl, a2⟩⟩
theorem c_editionOf {v : Int32} (g : RC ow σ c ad B S) : Cn l D m_NK_editionOf 0 0 [va_rf (some c), .int v] σ (fun r τ => τ = σ ∧ (edI S v = none ∧ r = some (va_rf none) ∨ ∃ d a, edI S v = some d ∧ d ∈ s_e S ∧ r = some (va_rf (some a)) ∧ CE1 ow σ a d)) := by
  have k0 : h_K σ c = 11 := g.2.1.2.1 (0, 11) (by decide)
  have k40 : h_K σ (c + 40) = 31 := g.2.1.2.1 (40, 31) (by decide)
  have p648 : h_P σ 648 c = some (c + 40) := g.2.1.2.2.1 (648, 0, 40) (by decide)
  have l40 : h_L σ (c + 40) = 8 := g.2.1.2.2.2.1 (40, 8) (by decide)
  obtain ⟨i649, hce⟩ := g.2.2.2.2.2.2.2.2.2.2.1
  have hl := g.1.2.2.2.2.2.2.2.2.1
  generalize hQ : (fun (r : Option Value) (τ : Hp) => τ = σ ∧ (edI S v = none ∧ r = some (va_rf none) ∨ ∃ d a, edI S v = some d ∧ d ∈ s_e S ∧ r = some (va_rf (some a)) ∧ CE1 ow σ a d)) = Q
  refine Cn.of (by decide) (by repeat (first | exact ca_0 | refine ca_i ?_ | refine ca_r ?_)) (Nat.le_of_ble_eq_true rfl) ?_
  have no : edI S v = none → Gm l D m_NK_editionOf 0 0 Q 30 [some (va_rf (some c)), some (.int v)] [] σ 0 0 := by
    intro hnone
    refine r_null rfl ?_
    refine r_aret rfl rfl ?_
    rw [← hQ]
    exact ⟨rfl, Or.inl ⟨hnone, rfl⟩⟩
  refine r_iload_n rfl rfl ?_
  refine r_if_lt rfl (fun hlt => no (by unfold edI; rw [if_pos hlt])) (fun hge => ?_)
  obtain ⟨j, hj, rfl⟩ := nI_of hge
  have em : edI S (nI j) = (s_e S)[j]? := by unfold edI; rw [if_neg (nI_pos hj), nI_clamp hj]
  refine r_iload_n rfl rfl ?_
  refine r_aload_n rfl rfl ?_
  (first | refine r_getIv rfl (by first | assumption | rfl) rfl (by assumption) ?_ | refine r_getI rfl (by first | assumption | rfl) rfl ?_)
  refine r_geN rfl (by omega) (by omega) (fun hjj => no (by rw [em]; exact List.getElem?_eq_none hjj)) (fun hjj => ?_)
  refine r_iload_n rfl rfl ?_
  refine r_aload_n rfl rfl ?_
  (first | refine r_getPv rfl (by first | assumption | rfl) rfl (by assumption) ?_ | refine r_getP rfl (by first | assumption | rfl) rfl ?_)
  refine r_alen rfl (Or.inr (by rw [k40]; decide)) ?_
  rw [l40]
  refine r_geN rfl (by omega) (by omega) (fun hj2 => by omega) (fun _ => ?_)
  obtain ⟨a, a1, a2⟩ := hce j _ (List.getElem?_eq_getElem hjj)
  refine r_aload_n rfl rfl ?_
  (first | refine r_getPv rfl (by first | assumption | rfl) rfl (by assumption) ?_ | refine r_getP rfl (by first | assumption | rfl) rfl ?_)
  refine r_iload_n rfl rfl ?_
  refine r_aald (t := 1) rfl k40 (by decide) rfl (by rw [l40]; omega) (by rw [l40]; decide) ?_
  rw [a1]
  refine r_goto rfl ?_
  refine r_aret rfl rfl ?_
  rw [← hQ]
  exact ⟨rfl, Or.inr ⟨_, a, by rw [em]; exact List.getElem?_eq_getElem hjj, List.getElem_mem hjj, rfl, a2⟩⟩
end NK
