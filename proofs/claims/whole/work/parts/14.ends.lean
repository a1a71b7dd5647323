/-! ===== ends and entries ===== -/
section EN
variable {l : Launch} {D : DD} {y pc n x kc ks mc ms : Nat} {ls : List (Option Value)} {st : List Value} {σ : Hp} {Q : Option Value → Hp → Prop}
theorem r_iret {v : Int32} (hf : ft y pc = some (.ireturn, n, x)) (hr : mRet y = some .int) (hQ : Q (some (.int v)) σ) : Gm l D y mc ms Q pc ls [.int v] σ kc ks := by
  intro p e s m args below meth c H locs cells slots la hC h2 h3 h4 h5 h6 h7
  obtain ⟨hn, hd⟩ := f_1 hf rfl
  have hlk : meth.locks = false := hC.2.2.2.2.2.2.1
  refine W.widen (k := mc) (n := ms) (by have : (rmY y mc ms).cells = mc := rfl; omega) (by have : (rmY y mc ms).slots = ms := rfl; omega) ?_
  exact W.iret hC.1 hC.2.1 (hC.2.2.2.2.2.1.trans hr) (fun t ht hW => ⟨_, σ, rfl, hQ, by rw [ht]; exact h3⟩) h4 hd
theorem r_zret {v : Int32} (hf : ft y pc = some (.ireturn, n, x)) (hr : mRet y = some .boolean) (hv : narrow .boolean (.int v) = .int v) (hQ : Q (some (.int v)) σ) : Gm l D y mc ms Q pc ls [.int v] σ kc ks := by
  intro p e s m args below meth c H locs cells slots la hC h2 h3 h4 h5 h6 h7
  obtain ⟨hn, hd⟩ := f_1 hf rfl
  have hlk : meth.locks = false := hC.2.2.2.2.2.2.1
  refine W.widen (k := mc) (n := ms) (by have : (rmY y mc ms).cells = mc := rfl; omega) (by have : (rmY y mc ms).slots = ms := rfl; omega) ?_
  exact W.zret hC.1 hC.2.1 (hC.2.2.2.2.2.1.trans hr) hv (fun t ht hW => ⟨_, σ, rfl, hQ, by rw [ht]; exact h3⟩) h4 hd
theorem r_aret {v : Option Nat} {C : String} (hf : ft y pc = some (.areturn, n, x)) (hr : mRet y = some (.object C)) (hQ : Q (some (va_rf v)) σ) : Gm l D y mc ms Q pc ls [va_rf v] σ kc ks := by
  intro p e s m args below meth c H locs cells slots la hC h2 h3 h4 h5 h6 h7
  obtain ⟨hn, hd⟩ := f_1 hf rfl
  have hlk : meth.locks = false := hC.2.2.2.2.2.2.1
  refine W.widen (k := mc) (n := ms) (by have : (rmY y mc ms).cells = mc := rfl; omega) (by have : (rmY y mc ms).slots = ms := rfl; omega) ?_
  exact W.aret hC.1 hC.2.1 (hC.2.2.2.2.2.1.trans hr) (Or.inl ⟨C, rfl⟩) (by cases v with | none => exact Or.inl rfl | some a => exact Or.inr ⟨a, rfl⟩) (fun t ht hW => ⟨_, σ, rfl, hQ, by rw [ht]; exact h3⟩) h4 hd
theorem r_vret (hf : ft y pc = some (.return_, n, x)) (hr : mRet y = none) (hQ : Q none σ) : Gm l D y mc ms Q pc ls [] σ kc ks := by
  intro p e s m args below meth c H locs cells slots la hC h2 h3 h4 h5 h6 h7
  obtain ⟨hn, hd⟩ := f_1 hf rfl
  have hlk : meth.locks = false := hC.2.2.2.2.2.2.1
  refine W.widen (k := mc) (n := ms) (by have : (rmY y mc ms).cells = mc := rfl; omega) (by have : (rmY y mc ms).slots = ms := rfl; omega) ?_
  exact W.vret hC.1 hC.2.1 (hC.2.2.2.2.2.1.trans hr) (fun t ht hW => ⟨_, σ, rfl, hQ, by rw [ht]; exact h3⟩) h4 hd
theorem lg_cat1 {as : List Value} (h : ∀ v ∈ as, v.category = 1) : lg_sl as = as.map Slot.val := by
  induction as with
  | nil => rfl
  | cons v as ih =>
    have h1 := h v List.mem_cons_self
    have h2 := ih (fun w hw => h w (List.mem_cons_of_mem _ hw))
    unfold lg_sl at h2 ⊢
    rw [List.flatMap_cons, h2, if_neg (by omega)]
    rfl
/-- the locals at a method's entry -/
def en_L (as : List Value) (n : Nat) : List (Option Value) := as.map some ++ List.replicate (n - as.length) none
theorem en_ok {as : List Value} {n : Nat} (h : ∀ v ∈ as, v.category = 1) (hn : as.length ≤ n) : Lv ((lg_sl as ++ List.replicate (n - (lg_sl as).length) Slot.unset).toArray) (en_L as n) n := by
  have hl : (lg_sl as).length = as.length := by rw [lg_cat1 h, List.length_map]
  have he := lv_entry as (n := n) (by omega)
  refine ⟨he.1, by unfold en_L; simp; omega, he.2.1, fun i v hi => ?_⟩
  unfold en_L at hi
  by_cases hlt : i < as.length
  · rw [List.getElem?_append_left (by simpa using hlt), List.getElem?_map] at hi
    cases hv : as[i]? with
    | none => rw [hv] at hi; cases hi
    | some w =>
      rw [hv] at hi
      have e : w = v := by simpa using hi
      subst e
      refine ⟨?_, h w (List.mem_of_getElem? hv)⟩
      rw [lg_cat1 h]
      rw [List.getElem?_toArray, List.getElem?_append_left (by simpa using hlt), List.getElem?_map, hv]
      rfl
  · rw [List.getElem?_append_right (by simpa using Nat.le_of_not_lt hlt)] at hi
    rw [List.getElem?_replicate] at hi
    split at hi <;> cases hi
theorem Cn.of {as : List Value} (hy : y < 193) (h : ∀ v ∈ as, v.category = 1) (hn : as.length ≤ mLoc y) (g : Gm l D y mc ms Q 0 (en_L as (mLoc y)) [] σ mc ms) : Cn l D y mc ms as σ Q := by
  obtain ⟨o1, o2, o3, o4, o5, o6⟩ := mOK hy
  refine va_MetF (cc := mCode y) (maxL := mLoc y) (ret := mRet y) o2 rfl ?_
  intro p e s m args below meth c s₁ B hml hP
  obtain ⟨rfl, hR, hK⟩ := hP
  have hts : ∀ w ∈ TB, w.before as.toArray s = true := fun w hw => atoms_spec (ws := wsY y) B.pre w (List.mem_cons_of_mem _ hw)
  have hown : s.vm.findClass (cnm (mCls y)) = some m.cls := by rw [o5]; exact findClass_of_methodNamed B.named
  rw [lg_entry_eq]
  exact g p e s m as.toArray below meth c s.heap [] 0 0 _ ⟨B.exec, B.bytes, hml, hown, hts, B.returns, B.notSynchronized, (name_of_methodNamed B.named B.method).1⟩ hK hR (fun q hq => by cases hq) (by show 0 + mc ≤ mc; omega) (by show 0 + ms ≤ ms; omega) (en_ok h hn)
theorem Cn.mono {as : List Value} {Q' : Option Value → Hp → Prop} (h : Cn l D y mc ms as σ Q) (hq : ∀ r τ, Q r τ → Q' r τ) : Cn l D y mc ms as σ Q' := by
  intro p e ha hc hk s m args below hf happ hP hK
  obtain ⟨t, o, h1, h2, h3, ⟨⟨r, τ, q1, q2, q3⟩, q4⟩⟩ := h p e ha hc hk s m args below hf happ hP hK
  exact ⟨t, o, h1, h2, h3, ⟨r, τ, q1, hq r τ q2, q3⟩, q4⟩
end EN
section BG
variable {l : Launch} {D : DD} {R : Room} {Z : List Frame → Array Value → State → State → Prop} {y pc kc ks kc' ks' : Nat} {ls : List (Option Value)} {st : List Value} {σ : Hp}
theorem G.less (h1 : kc' ≤ kc) (h2 : ks' ≤ ks) (g : G l D R Z y pc ls st σ kc' ks') : G l D R Z y pc ls st σ kc ks := by
  intro p e s m args below meth c H locs cells slots la hC hK h3 h4 h5 h6 h7
  exact g p e s m args below meth c H locs cells slots la hC hK h3 h4 (by omega) (by omega) h7
end BG
/-- a small method, to see the rules at work: Thing.kidCount's first rows -/
theorem try_cat {l : Launch} {D : DD} {σ : Hp} {a : Nat} (h1 : h_K σ a = 9) (h2 : h_P σ 516 a = none) : Cn l D m_Thing_kidCount 0 0 [va_rf (some a)] σ (fun r τ => r = some (.int (nI 0)) ∧ τ = σ) := by
  refine Cn.of (by decide) (by simp [rf_cat]) (Nat.le_of_ble_eq_true rfl) ?_
  refine r_iconst (v := nI 0) rfl rfl ?_
  refine r_istore_n rfl (by decide) ?_
  refine r_aload_n rfl rfl ?_
  refine r_getP rfl h1 rfl ?_
  rw [h2]
  refine r_astore_n rfl (by decide) ?_
  refine r_aload_n rfl rfl ?_
  refine r_ifnull rfl (fun _ => ?_) (fun a h => by cases h)
  refine r_iload_n rfl rfl ?_
  exact r_iret rfl rfl ⟨rfl, rfl⟩
