/-! ===== the law's loop ===== -/
theorem and31 (x : Int32) : ∃ n, n < 32 ∧ x &&& nI 31 = nI n := by
  refine ⟨x.toBitVec.toNat % 32, Nat.mod_lt _ (by decide), ?_⟩
  apply Int32.toBitVec_inj.mp
  rw [Int32.toBitVec_and]
  apply BitVec.eq_of_toNat_eq
  rw [BitVec.toNat_and]
  have e1 : (nI 31).toBitVec.toNat = 2 ^ 5 - 1 := by decide
  rw [e1, Nat.and_two_pow_sub_one_eq_mod]
  show _ = (BitVec.ofNat 32 (x.toBitVec.toNat % 32)).toNat
  rw [BitVec.toNat_ofNat, Nat.mod_eq_of_lt (Nat.lt_of_lt_of_le (Nat.mod_lt _ (by decide)) (by decide))]
theorem neg6 : ∀ L, L < 6 → nI L - nI 6 < nI 0 := by decide
theorem tsw_out : ∀ n, n < 6 → (25 : Int) < (nI (n + 26)).toInt := by decide
section LL
variable {l : Launch} {D : DD} {c o : Nat}
theorem law_turn {σ : Hp} {k B kc ks kc' ks' : Nat} (h : Iv σ c o B) (hk : 6 * k + 6 ≤ d_L D) (hL : d_L D ≤ 3072) (hB : B < 2 ^ 29) (hc : kc + 484 ≤ kc') (hs : ks + 11700 ≤ ks') (nx : ∀ τ, Iv τ c o (B + 200) → GL l D 970 (lsL D c o k) [] τ kc ks) : GL l D 27 (lsL D c o k) [] σ kc' ks' := by
  have out : GL l D 970 (lsL D c o k) [] σ kc' ks' := by
    refine G.less (by omega) (by omega) (nx σ ?_)
    obtain ⟨ow, ad, S, g, r⟩ := h
    exact ⟨ow, ad, S, g.more (by omega), r⟩
  refine r_aload_n lf_27 rfl ?_
  refine r_iload_n lf_28 rfl ?_
  refine r_sld lf_29 rfl (by omega) (by omega) ?_
  refine r_bipush (v := nI 31) lf_30 (by decide) ?_
  refine r_iand lf_32 ?_
  obtain ⟨n, hn, e⟩ := and31 (d_x D (6 * k))
  rw [e]
  match n, hn with
  | 0, _ => exact r_tswIn (off := 119) (tgt := 152) lf_33 (by decide) (by decide) rfl rfl (law_feed h hk hL hB hc hs nx)
  | 1, _ => exact r_tswIn (off := 182) (tgt := 215) lf_33 (by decide) (by decide) rfl rfl (law_end h hk hL hB hc hs nx)
  | 2, _ => exact r_tswIn (off := 205) (tgt := 238) lf_33 (by decide) (by decide) rfl rfl (law_word h hk hL hB hc hs nx)
  | 3, _ => exact r_tswIn (off := 228) (tgt := 261) lf_33 (by decide) (by decide) rfl rfl (law_form h hk hL hB hc hs nx)
  | 4, _ => exact r_tswIn (off := 281) (tgt := 314) lf_33 (by decide) (by decide) rfl rfl (law_add h hk hL hB hc hs nx)
  | 5, _ => exact r_tswIn (off := 324) (tgt := 357) lf_33 (by decide) (by decide) rfl rfl (law_move h hk hL hB hc hs nx)
  | 6, _ => exact r_tswIn (off := 367) (tgt := 400) lf_33 (by decide) (by decide) rfl rfl (law_cut h hk hL hB hc hs nx)
  | 7, _ => exact r_tswIn (off := 390) (tgt := 423) lf_33 (by decide) (by decide) rfl rfl (law_join h hk hL hB hc hs nx)
  | 8, _ => exact r_tswIn (off := 423) (tgt := 456) lf_33 (by decide) (by decide) rfl rfl (law_undo h hk hL hB hc hs nx)
  | 9, _ => exact r_tswIn (off := 436) (tgt := 469) lf_33 (by decide) (by decide) rfl rfl (law_thing h hk hL hB hc hs nx)
  | 10, _ => exact r_tswIn (off := 469) (tgt := 502) lf_33 (by decide) (by decide) rfl rfl (law_at h hk hL hB hc hs nx)
  | 11, _ => exact r_tswIn (off := 492) (tgt := 525) lf_33 (by decide) (by decide) rfl rfl (law_told h hk hL hB hc hs nx)
  | 12, _ => exact r_tswIn (off := 525) (tgt := 558) lf_33 (by decide) (by decide) rfl rfl (law_twins h hk hL hB hc hs nx)
  | 13, _ => exact r_tswIn (off := 538) (tgt := 571) lf_33 (by decide) (by decide) rfl rfl (law_mention h hk hL hB hc hs nx)
  | 14, _ => exact r_tswIn (off := 581) (tgt := 614) lf_33 (by decide) (by decide) rfl rfl (law_range h hk hL hB hc hs nx)
  | 15, _ => exact r_tswIn (off := 634) (tgt := 667) lf_33 (by decide) (by decide) rfl rfl (law_frozen h hk hL hB hc hs nx)
  | 16, _ => exact r_tswIn (off := 677) (tgt := 710) lf_33 (by decide) (by decide) rfl rfl (law_about h hk hL hB hc hs nx)
  | 17, _ => exact r_tswIn (off := 710) (tgt := 743) lf_33 (by decide) (by decide) rfl rfl (law_text h hk hL hB hc hs nx)
  | 18, _ => exact r_tswIn (off := 743) (tgt := 776) lf_33 (by decide) (by decide) rfl rfl (law_trouble h hk hL hB hc hs nx)
  | 19, _ => exact r_tswIn (off := 756) (tgt := 789) lf_33 (by decide) (by decide) rfl rfl (law_edition h hk hL hB hc hs nx)
  | 20, _ => exact r_tswIn (off := 769) (tgt := 802) lf_33 (by decide) (by decide) rfl rfl (law_old h hk hL hB hc hs nx)
  | 21, _ => exact r_tswIn (off := 802) (tgt := 835) lf_33 (by decide) (by decide) rfl rfl (law_leads h hk hL hB hc hs nx)
  | 22, _ => exact r_tswIn (off := 835) (tgt := 868) lf_33 (by decide) (by decide) rfl rfl (law_changed h hk hL hB hc hs nx)
  | 23, _ => exact r_tswIn (off := 858) (tgt := 891) lf_33 (by decide) (by decide) rfl rfl (law_read h hk hL hB hc hs nx)
  | 24, _ => exact r_tswIn (off := 881) (tgt := 914) lf_33 (by decide) (by decide) rfl rfl (law_finding h hk hL hB hc hs nx)
  | 25, _ => exact r_tswIn (off := 914) (tgt := 947) lf_33 (by decide) (by decide) rfl rfl (law_count h hk hL hB hc hs nx)
  | n + 26, hn => exact r_tswOut (tgt := 970) lf_33 (Or.inr (tsw_out n (by omega))) rfl out
theorem law_loop (hL : d_L D ≤ 3072) : ∀ (d k : Nat) (σ : Hp), k + d = d_L D / 6 → Iv σ c o (200 * k) → GL l D 18 (lsL D c o k) [] σ (484 * d) (11700 * d) := by
  intro d
  induction d with
  | zero =>
    intro k σ hk h
    refine r_iload_n lf_18 rfl ?_
    refine r_aload_n lf_19 rfl ?_
    refine r_slen lf_20 ?_
    refine r_bipush (v := nI 6) lf_21 (by decide) ?_
    have fin : GL l D 976 (lsL D c o k) [] σ 0 0 := by
      refine r_iconst (v := 1) lf_976 (by decide) ?_
      exact r_lret
    by_cases h6 : 6 ≤ d_L D
    · refine r_isubN lf_23 h6 ?_
      exact r_gtN lf_24 (by omega) (by omega) (fun _ => fin) (fun w => by omega)
    · refine r_isub lf_23 ?_
      have hk0 : k = 0 := by omega
      subst hk0
      exact r_icmp_gt lf_24 (fun _ => fin) (fun w => absurd (neg6 _ (by omega)) w)
  | succ d ih =>
    intro k σ hk h
    refine r_iload_n lf_18 rfl ?_
    refine r_aload_n lf_19 rfl ?_
    refine r_slen lf_20 ?_
    refine r_bipush (v := nI 6) lf_21 (by decide) ?_
    refine r_isubN lf_23 (by omega) ?_
    refine r_gtN lf_24 (by omega) (by omega) (fun w => by omega) (fun _ => ?_)
    refine law_turn (kc := 484 * d) (ks := 11700 * d) h (by omega) hL (by omega) (by omega) (by omega) (fun τ ht => ?_)
    refine r_iinc (v := nI (6 * (k + 1))) lf_970 rfl ?_ ?_
    · show nI (6 * k) + nI 6 = nI (6 * (k + 1))
      rw [nI_add, show 6 * k + 6 = 6 * (k + 1) by omega]
    · refine r_goto lf_973 ?_
      exact ih (k + 1) τ (by omega) (by rw [show 200 * (k + 1) = 200 * k + 200 by omega]; exact ht)
end LL
