/-! ===== String.charAt of the three texts ===== -/
def nmCA : MethodName := ⟨"java/lang/String", "charAt", "(I)C"⟩
def nmIL : MethodName := ⟨"java/lang/String", "isLatin1", "()Z"⟩
def nmSI : MethodName := ⟨"java/lang/String", "checkIndex", "(II)V"⟩
def nmLC : MethodName := ⟨"java/lang/StringLatin1", "charAt", "([BI)C"⟩
def nmPI : MethodName := ⟨"jdk/internal/util/Preconditions", "checkIndex", "(IILjava/util/function/BiFunction;)I"⟩
def jws (y : MethodName) (cc : ByteArray) (n : Nat) (ret : Option FieldType) : List Cond := .code y cc n ret :: TB
def jrm (fr lw : Nat) : Room := { frames := fr, cells := 0, slots := 0, locals := lw }
def JM (l : Launch) (D : DD) (y : MethodName) (cc : ByteArray) (n : Nat) (ret : Option FieldType) (fr lw : Nat) (as : List Value) (σ : Hp) (r : Option Value) : Prop :=
  Met l y (jws y cc n ret) (jrm fr lw) (PcY D as σ) (QcY D (fun r' τ => r' = r ∧ τ = σ)) 0 0 (fun q => d_n D ≤ q)
theorem jw_in : Cond.code nmCA prog_15_method_56_code 2 (some .char) ∈ TB ∧ Cond.code nmIL prog_15_method_154_code 1 (some .boolean) ∈ TB ∧ Cond.code nmSI prog_15_method_155_code 2 none ∈ TB ∧ Cond.code nmLC prog_16_method_2_code 2 (some .char) ∈ TB ∧ Cond.code nmPI prog_20_method_11_code 3 (some .int) ∈ TB := by decide +kernel
theorem jl_in : Cond.methodLink "java/lang/String" 492 nmIL ∈ TB ∧ Cond.methodLink "java/lang/String" 495 nmLC ∈ TB ∧ Cond.methodLink "java/lang/StringLatin1" 9 nmSI ∈ TB ∧ Cond.methodLink "java/lang/String" 1059 nmPI ∈ TB := by decide +kernel
theorem jf_in : Cond.fieldLink "java/lang/String" 9 "java/lang/String" "value" "[B" ∈ TB ∧ Cond.fieldLink "java/lang/String" 15 "java/lang/String" "coder" "B" ∈ TB ∧ Cond.fieldLink "java/lang/String" 38 "java/lang/String" "COMPACT_STRINGS" "Z" ∈ TB ∧ Cond.fieldLink "java/lang/String" 1053 "jdk/internal/util/Preconditions" "SIOOBE_FORMATTER" "Ljava/util/function/BiFunction;" ∈ TB := by decide +kernel
theorem jk_in : Cond.instanceMethod nmCA ∈ TB ∧ Cond.selects "java/lang/String" nmCA nmCA ∈ TB ∧ Cond.instanceMethod nmIL ∈ TB ∧ Cond.selects "java/lang/String" nmIL nmIL ∈ TB ∧ Cond.static nmSI ∈ TB ∧ Cond.static nmLC ∈ TB ∧ Cond.static nmPI ∈ TB := by decide +kernel
theorem ji_in : Cond.initialized "java/lang/String" ∈ TB ∧ Cond.initialized "java/lang/StringLatin1" ∈ TB ∧ Cond.initialized "jdk/internal/util/Preconditions" ∈ TB := by decide +kernel
section JC
variable {p : Program} {l : Launch} {e : Env} {R : Room} {s : State} {m : MethodId} {args : Array Value} {below : List Frame} {meth : Method} {c : Code} {H : Heap} {locs : List Loc} {cells slots : Nat}
/-- a char is returned -/
theorem j_cret {cc : ByteArray} {Qc : Array Value → State → Outcome → State → Prop} {free : Addr → Prop} {v : Int32} (hexec : p.tables.exec = Jvm.exec) (hb : c.code = cc) (hr : meth.sig.returnType = some .char) (hv : narrow .char (.int v) = .int v)
    (hq : ∀ t : State, t.heap = H → s.WarmedH t.vm → Qc args s (.returned (some (.int v))) t) (hf : ∀ q ∈ locs, free q.base)
    {pc : Nat} {ls : Array Slot} (hdg : decode cc pc = .ok (.ireturn, 1)) (hlocks : meth.locks = false := by assumption) : W p l e R s m args below meth c H locs cells slots (MQ below Qc args s cells slots free) (F0 m pc ls [.int v]) := by
  intro T hT X
  have hlocks : meth.locks = false := hlocks
  obtain ⟨fs, hret, hrun, hended, hW, hframe⟩ := X.leave (v := some (.int v)) (fun h => by rw [hr] at h; cases h)
  have hmeth' : T.vm.method? m = some meth := X.method'
  refine ⟨T.setFrames fs, ?_, .returned (some (.int v)), hrun, hended, hq _ hT hW, locs, ⟨⟨_, rfl⟩, hW, hframe⟩, hf⟩
  jvm_step X.here [X.here.top, hexec, hb, hdg, hmeth', hr, hv]
  (try refine ⟨rfl, ?_⟩); (try refine ⟨rfl, ?_⟩)
  first | (intro acts; rw [hret _ acts rfl rfl rfl]) | rw [hret _ _ rfl rfl rfl]
  exact Steps.refl _
end JC
section JS
variable {l : Launch} {D : DD} {σ : Hp}
theorem Rp.S2 {H0 H : Heap} {locs : List Loc} (h0 : Rp D σ H0) (h : Rp D σ H) (h4 : ∀ q ∈ locs, d_n D ≤ q.base) : va_S (fun q => d_n D ≤ q) H0 H locs :=
  ⟨by rw [h0.1, h.1]; exact Nat.le_refl _, fun q _ h2 => by rw [h.2.2.1 q (Nat.not_le.mp h2), h0.2.2.1 q (Nat.not_le.mp h2)], h4⟩
/-- the entry of such a method -/
theorem JM.of {y : MethodName} {cc : ByteArray} {n fr lw : Nat} {ret : Option FieldType} {as : List Value} {r : Option Value} (hy : plainFor y = true) (h : ∀ v ∈ as, v.category = 1) (hn : as.length ≤ n)
    (g : ∀ (p : Program) (e : Env) (s : State) (m : MethodId) (below : List Frame) (meth : Method) (c : Code) (la : Array Slot), p.tables.exec = Jvm.exec → c.code = cc → c.maxLocals = n → s.vm.findClass y.cls = some m.cls → (∀ w ∈ TB, w.before as.toArray s = true) → meth.sig.returnType = ret → KK D s → Rp D σ s.heap → Lv la (en_L as n) n → meth.locks = false →
      W p l e (jrm fr lw) s m as.toArray below meth c s.heap [] 0 0 (MQ below (QcY D (fun r' τ => r' = r ∧ τ = σ)) as.toArray s 0 0 (fun q => d_n D ≤ q)) (F0 m 0 la [])) : JM l D y cc n ret fr lw as σ r := by
  refine va_MetF (cc := cc) (maxL := n) (ret := ret) hy rfl ?_
  intro p e s m args below meth c s₁ B hml hP
  obtain ⟨rfl, hR, hK⟩ := hP
  have hts : ∀ w ∈ TB, w.before as.toArray s = true := fun w hw => atoms_spec (ws := jws y cc n ret) B.pre w (List.mem_cons_of_mem _ hw)
  have hown : s.vm.findClass y.cls = some m.cls := findClass_of_methodNamed B.named
  rw [lg_entry_eq]
  exact g p e s m below meth c _ B.exec B.bytes hml hown hts B.returns hK hR (en_ok h hn) B.notSynchronized
theorem c_PI {i n : Nat} {f : Value} (hi : i < n) (hn : n < 2 ^ 31) (hf : f.category = 1) : JM l D nmPI prog_20_method_11_code 3 (some .int) 0 0 [.int (nI i), .int (nI n), f] σ (some (.int (nI i))) := by
  refine JM.of (by decide +kernel) (by intro v hv; simp only [List.mem_cons, List.not_mem_nil, or_false] at hv; rcases hv with rfl | rfl | rfl <;> first | rfl | exact hf) (Nat.le_refl _) ?_
  intro p e s m below meth c la he hb hml hown hts hret hK hR hL hlk
  have l0 : la[0]? = some (.val (.int (nI i))) := (hL.2.2.2 0 _ rfl).1
  have l1 : la[1]? = some (.val (.int (nI n))) := (hL.2.2.2 1 _ rfl).1
  refine lv_iload_n (k := 0) (i := 0) he hb (by decide +kernel) rfl l0 ?_
  refine lv_if_lt (tgt := 9) (off := 8) he hb (by decide +kernel) (by decide) (fun q => absurd q (nI_pos (by omega))) (fun _ => ?_)
  refine lv_iload_n (k := 0) (i := 0) he hb (by decide +kernel) rfl l0 ?_
  refine lv_iload_n (k := 1) (i := 1) he hb (by decide +kernel) rfl l1 ?_
  refine lv_icmp_lt (tgt := 16) (off := 10) he hb (by decide +kernel) (by decide) (fun _ => ?_) (fun q => absurd (nI_lt hi hn) q)
  refine lv_iload_n (k := 0) (i := 0) he hb (by decide +kernel) rfl l0 ?_
  exact W.iret he hb hret (fun t ht hW => ⟨_, σ, rfl, ⟨rfl, rfl⟩, by rw [ht]; exact hR⟩) (fun q hq => by cases hq) (by decide +kernel)
theorem jws_good {y : MethodName} {cc : ByteArray} {n : Nat} {ret : Option FieldType} {args : Array Value} {s : State} (hcd : Cond.code y cc n ret ∈ TB) (hts : ∀ w ∈ TB, w.before args s = true) : ∀ w ∈ jws y cc n ret, ∀ (a' : Array Value) (U : State), s.WarmedH U.vm → w.before a' U = true := by
  intro w hw a' U hW
  have hin : w ∈ TB := by
    rcases List.mem_cons.mp hw with h | h
    · rw [h]; exact hcd
    · exact h
  exact word_at hW (good_of_word (List.mem_filter.mp hin).2) (hts w hin)
theorem j_B {R : Room} {s : State} {args : Array Value} {own : String} {k : Nat} {y : MethodName} {cc : ByteArray} {n fr lw nn : Nat} {ret : Option FieldType} (hts : ∀ w ∈ TB, w.before args s = true) (hcd : Cond.code y cc n ret ∈ TB) (hin : Cond.initialized y.cls ∈ TB) (hl : Cond.methodLink own k y ∈ TB) (o3 : y.cls ≠ "java/lang/invoke/MethodHandle" ∧ y.cls ≠ "java/lang/invoke/VarHandle") (o4 : (parseMethodDescriptor y.desc).map (fun d => d.parameters.length) = some nn) (hR : fr + 1 ≤ R.frames ∧ 8 + (n + 11) + lw ≤ R.locals) :
    CallB R s args own k y cc n ret (jws y cc n ret) (jrm fr lw) 0 0 nn := by
  refine ⟨rfl, rfl, hR.1, hR.2, jws_good hcd hts, List.mem_cons_self, hts _ hcd, hts _ hin, o3, fun sig h => ?_, hts _ hl⟩
  rw [h] at o4
  exact (Option.some.inj o4).symm
/-- behind the run of such a call -/
theorem j_go {p : Program} {e : Env} {R : Room} {s : State} {m : MethodId} {args : Array Value} {below : List Frame} {meth : Method} {c : Code} {H : Heap} {locs : List Loc} {pc : Nat} {la : Array Slot} {stk rest : List Value} {as : Array Value} {r : Option Value} {Q : State → Prop} (h4 : ∀ q ∈ locs, d_n D ≤ q.base)
    (run : va_Run p l e R s m args below meth c H locs 0 0 0 0 (F0 m pc la stk) rest (QcY D (fun r' τ => r' = r ∧ τ = σ) as) (fun q => d_n D ≤ q)) (kk : ∀ (H' : Heap) (locs' : List Loc), Rp D σ H' → (∀ q ∈ locs', d_n D ≤ q.base) → W p l e R s m args below meth c H' locs' 0 0 Q (F0 m (pc + 3) la (r.toList ++ rest))) :
    W p l e R s m args below meth c H locs 0 0 Q (F0 m pc la stk) := by
  intro T hT X
  obtain ⟨v, st0, t, T', L, e0, X', hL, e1, e2, ⟨r', τ, ho, ⟨hr, hτ⟩, hRp⟩, go⟩ := run T hT X
  have hv : v = r' := Outcome.returned.inj ho
  subst hv
  subst hr
  subst hτ
  obtain ⟨t2, a1, b1⟩ := kk t.heap (locs ++ L) hRp (fun q hq => by
    rcases List.mem_append.mp hq with g | g
    · exact h4 q g
    · exact hL q g) T' e1 X'
  exact ⟨t2, go t2 a1, b1⟩
theorem c_SI {i n : Nat} (hi : i < n) (hn : n < 2 ^ 31) : JM l D nmSI prog_15_method_155_code 2 none 1 22 [.int (nI i), .int (nI n)] σ none := by
  refine JM.of (by decide +kernel) (by intro v hv; simp only [List.mem_cons, List.not_mem_nil, or_false] at hv; rcases hv with rfl | rfl <;> rfl) (Nat.le_refl _) ?_
  intro p e s m below meth c la he hb hml hown hts hret hK hR hL hlk
  have l0 : la[0]? = some (.val (.int (nI i))) := (hL.2.2.2 0 _ rfl).1
  have l1 : la[1]? = some (.val (.int (nI n))) := (hL.2.2.2 1 _ rfl).1
  refine lv_iload_n (k := 0) (i := 0) he hb (by decide +kernel) rfl l0 ?_
  refine lv_iload_n (k := 1) (i := 1) he hb (by decide +kernel) rfl l1 ?_
  have rest : ∀ f : Value, f.category = 1 → W p l e (jrm 1 22) s m [Value.int (nI i), Value.int (nI n)].toArray below meth c s.heap [] 0 0 (MQ below (QcY D (fun r' τ => r' = none ∧ τ = σ)) [Value.int (nI i), Value.int (nI n)].toArray s 0 0 (fun q => d_n D ≤ q)) (F0 m 5 la [f, .int (nI n), .int (nI i)]) := by
    intro f hf
    refine j_go (fun q hq => by cases hq) (va_runS (Ts := TB) (rest := []) (As := [.int (nI i), .int (nI n), f]) ⟨he, hb, hml, hown, hts⟩ (c_PI (l := l) (D := D) (σ := σ) hi hn hf) ⟨j_B (nn := 3) hts jw_in.2.2.2.2 ji_in.2.2 jl_in.2.2.2 (by decide) (by decide +kernel) ⟨Nat.le_refl _, Nat.le_refl _⟩, hts _ jk_in.2.2.2.2.2.2⟩ ⟨PcY_blind _ _ _, fun U hU hW => ⟨rfl, by rw [hU]; exact hR, KK.warm hW hK⟩⟩ rfl rfl hL.1 rfl (by show 2 * 0 + 0 ≤ 8; omega) (show decode prog_15_method_155_code 5 = .ok (.invokestatic 1059, 3) by decide +kernel) ⟨Nat.le_refl _, Nat.le_refl _⟩) ?_
    intro H' locs' hR' h4'
    refine lv_pop he hb (by decide +kernel) rfl ?_
    exact W.vret he hb hret (fun t ht hW => ⟨_, σ, rfl, ⟨rfl, rfl⟩, by rw [ht]; exact hR'⟩) h4' (by decide +kernel)
  have hkp : ∀ a : Nat, a < (d_H D).size → ¬ d_n D ≤ a → s.heap[a]? = (d_H D)[a]? := fun a h1 _ => hR.2.2.1 a h1
  rcases hK.2.2.2.2.2.2.1.2 with hz | ⟨t, hz⟩
  · exact va_gets (A := fun q => d_n D ≤ q) he hb (hz.kept hkp) (hR.S2 hR (fun q hq => by cases hq)) hown (hts _ jf_in.2.2.2) (fun _ h => h) (by decide +kernel) (rest _ rfl)
  · exact va_gets (A := fun q => d_n D ≤ q) he hb (hz.kept hkp) (hR.S2 hR (fun q hq => by cases hq)) hown (hts _ jf_in.2.2.2) (fun _ h => h) (by decide +kernel) (rest _ rfl)
def tx (i j : Nat) : Int32 := (txB.getD i []).getD j 0
theorem tx_ok : ∀ i, i < 3 → ∀ j, j < 3 → (((tx i j) &&& 255).toUInt32 % 65536).toInt32 = tx i j ∧ narrow .char (.int (tx i j)) = .int (tx i j) := by decide
theorem t3 {i : Nat} (hi : i < 3) : [3, 3, 3].getD i 0 = 3 := by
  match i, hi with
  | 0, _ => rfl
  | 1, _ => rfl
  | 2, _ => rfl
theorem c_LC {i j : Nat} (hi : i < 3) (hj : j < 3) : JM l D nmLC prog_16_method_2_code 2 (some .char) 2 43 [.ref (d_v D i), .int (nI j)] σ (some (.int (tx i j))) := by
  refine JM.of (by decide +kernel) (by intro v hv; simp only [List.mem_cons, List.not_mem_nil, or_false] at hv; rcases hv with rfl | rfl <;> rfl) (Nat.le_refl _) ?_
  intro p e s m below meth c la he hb hml hown hts hret hK hR hL hlk
  have l0 : la[0]? = some (.val (.ref (d_v D i))) := (hL.2.2.2 0 _ rfl).1
  have l1 : la[1]? = some (.val (.int (nI j))) := (hL.2.2.2 1 _ rfl).1
  have hkp : ∀ a : Nat, a < (d_H D).size → ¬ d_n D ≤ a → s.heap[a]? = (d_H D)[a]? := fun a h1 _ => hR.2.2.1 a h1
  have hT : va_T .byte (d_v D i) 3 (fun j => .int (tx i j)) (fun q => d_n D ≤ q) s s.heap := by
    have := ((hK.2.2.2.2.1.1 i hi).2.2.2).kept hkp
    rw [t3 hi] at this
    exact this
  refine lv_iload_n (k := 1) (i := 1) he hb (by decide +kernel) rfl l1 ?_
  refine lv_aload_n (k := 0) (i := 0) he hb (by decide +kernel) rfl l0 ?_
  refine va_tlen (A := fun q => d_n D ≤ q) he hb hT (hR.S2 hR (fun q hq => by cases hq)) (v := nI 3) rfl (by decide +kernel) ?_
  refine j_go (fun q hq => by cases hq) (va_runS (Ts := TB) (rest := []) (As := [.int (nI j), .int (nI 3)]) ⟨he, hb, hml, hown, hts⟩ (c_SI (l := l) (D := D) (σ := σ) hj (by decide)) ⟨j_B (nn := 2) hts jw_in.2.2.1 ji_in.1 jl_in.2.2.1 (by decide) (by decide +kernel) ⟨Nat.le_refl _, Nat.le_refl _⟩, hts _ jk_in.2.2.2.2.1⟩ ⟨PcY_blind _ _ _, fun U hU hW => ⟨rfl, by rw [hU]; exact hR, KK.warm hW hK⟩⟩ rfl rfl hL.1 rfl (by show 2 * 0 + 0 ≤ 8; omega) (show decode prog_16_method_2_code 3 = .ok (.invokestatic 9, 3) by decide +kernel) ⟨Nat.le_refl _, Nat.le_refl _⟩) ?_
  intro H' locs' hR' h4'
  refine lv_aload_n (k := 0) (i := 0) he hb (by decide +kernel) rfl l0 ?_
  refine lv_iload_n (k := 1) (i := 1) he hb (by decide +kernel) rfl l1 ?_
  have ej : (nI j).toNatClampNeg = j := nI_clamp (by omega)
  refine va_tb (A := fun q => d_n D ≤ q) he hb hT (hR.S2 hR' h4') (i := nI j) (v := .int (tx i j)) (fun q => by
    rcases q with q | q
    · exact nI_pos (by omega) q
    · rw [ej] at q; omega) (by show Value.int (tx i (nI j).toNatClampNeg) = _; rw [ej]) (by decide +kernel) ?_
  refine lv_sipush (n := 255) (v := 255) he hb (by decide +kernel) (by decide) ?_
  refine lv_iand he hb (by decide +kernel) ?_
  refine lv_i2c (v := tx i j) he hb (by decide +kernel) (tx_ok i hi j hj).1 ?_
  exact j_cret he hb hret (tx_ok i hi j hj).2 (fun t ht hW => ⟨_, σ, rfl, ⟨rfl, rfl⟩, by rw [ht]; exact hR'⟩) h4' (by decide +kernel)
theorem c_IL {i : Nat} (hi : i < 3) : JM l D nmIL prog_15_method_154_code 1 (some .boolean) 0 0 [.ref (d_t D i)] σ (some (.int 1)) := by
  refine JM.of (by decide +kernel) (by intro v hv; simp only [List.mem_cons, List.not_mem_nil, or_false] at hv; rcases hv with rfl; rfl) (Nat.le_refl _) ?_
  intro p e s m below meth c la he hb hml hown hts hret hK hR hL hlk
  have l0 : la[0]? = some (.val (.ref (d_t D i))) := (hL.2.2.2 0 _ rfl).1
  have hkp : ∀ a : Nat, a < (d_H D).size → ¬ d_n D ≤ a → s.heap[a]? = (d_H D)[a]? := fun a h1 _ => hR.2.2.1 a h1
  have hS := hR.S2 hR (locs := []) (fun q hq => by cases hq)
  refine va_gets (A := fun q => d_n D ≤ q) he hb (hK.2.2.2.2.2.2.1.1.kept hkp) hS hown (hts _ jf_in.2.2.1) (fun _ h => h) (by decide +kernel) ?_
  refine lv_if_eq (tgt := 17) (off := 14) he hb (by decide +kernel) (by decide) (fun q => absurd q (by decide)) (fun _ => ?_)
  refine lv_aload_n (k := 0) (i := 0) he hb (by decide +kernel) rfl l0 ?_
  refine vk_getf (A := fun q => d_n D ≤ q) he hb (((hK.2.2.2.2.1.1 i hi).2.1).kept hkp) hS hown (hts _ jf_in.2.1) (fun _ h => h) (by decide +kernel) ?_
  refine lv_if_ne (tgt := 17) (off := 7) he hb (by decide +kernel) (by decide) (fun q => absurd rfl q) (fun _ => ?_)
  refine lv_iconst (n := 1) (v := 1) he hb (by decide +kernel) rfl ?_
  refine lv_goto (tgt := 18) (off := 4) he hb (by decide +kernel) (by decide) ?_
  exact W.zret he hb hret (by decide) (fun t ht hW => ⟨_, σ, rfl, ⟨rfl, rfl⟩, by rw [ht]; exact hR⟩) (fun q hq => by cases hq) (by decide +kernel)
theorem c_CA {i j : Nat} (hi : i < 3) (hj : j < 3) : JM l D nmCA prog_15_method_56_code 2 (some .char) 3 64 [.ref (d_t D i), .int (nI j)] σ (some (.int (tx i j))) := by
  refine JM.of (by decide +kernel) (by intro v hv; simp only [List.mem_cons, List.not_mem_nil, or_false] at hv; rcases hv with rfl | rfl <;> rfl) (Nat.le_refl _) ?_
  intro p e s m below meth c la he hb hml hown hts hret hK hR hL hlk
  have l0 : la[0]? = some (.val (.ref (d_t D i))) := (hL.2.2.2 0 _ rfl).1
  have l1 : la[1]? = some (.val (.int (nI j))) := (hL.2.2.2 1 _ rfl).1
  have hkp : ∀ a : Nat, a < (d_H D).size → ¬ d_n D ≤ a → s.heap[a]? = (d_H D)[a]? := fun a h1 _ => hR.2.2.1 a h1
  have hS := hR.S2 hR (locs := []) (fun q hq => by cases hq)
  refine lv_aload_n (k := 0) (i := 0) he hb (by decide +kernel) rfl l0 ?_
  obtain ⟨cell, q1, q2, q3, -⟩ := ((hK.2.2.2.2.1.1 i hi).1).kept hkp
  refine j_go (fun q hq => by cases hq) (va_runV (Ts := TB) (C := "java/lang/String") (b := d_t D i) (rest := []) (As := []) ⟨he, hb, hml, hown, hts⟩ (c_IL (l := l) (D := D) (σ := σ) hi) ⟨j_B (nn := 0) hts jw_in.2.1 ji_in.1 jl_in.1 (by decide) (by decide +kernel) ⟨Nat.le_of_ble_eq_true rfl, Nat.le_of_ble_eq_true rfl⟩, hts _ jk_in.2.2.1, hts _ jk_in.2.2.2.1⟩ ⟨PcY_blind _ _ _, ⟨cell, q1, q2, q3⟩, fun U hU hW => ⟨rfl, by rw [hU]; exact hR, KK.warm hW hK⟩⟩ rfl rfl hL.1 rfl (by show 2 * 0 + 0 ≤ 8; omega) (show decode prog_15_method_56_code 1 = .ok (.invokevirtual 492, 3) by decide +kernel) ⟨Nat.le_refl _, Nat.le_refl _⟩) ?_
  intro H' locs' hR' h4'
  refine lv_if_eq (tgt := 16) (off := 12) he hb (by decide +kernel) (by decide) (fun q => absurd q (by decide)) (fun _ => ?_)
  refine lv_aload_n (k := 0) (i := 0) he hb (by decide +kernel) rfl l0 ?_
  refine vk_getf (A := fun q => d_n D ≤ q) he hb (((hK.2.2.2.2.1.1 i hi).2.2.1).kept hkp) (hR.S2 hR' h4') hown (hts _ jf_in.1) (fun _ h => h) (by decide +kernel) ?_
  refine lv_iload_n (k := 1) (i := 1) he hb (by decide +kernel) rfl l1 ?_
  refine j_go h4' (va_runS (Ts := TB) (rest := []) (As := [.ref (d_v D i), .int (nI j)]) ⟨he, hb, hml, hown, hts⟩ (c_LC (l := l) (D := D) (σ := σ) hi hj) ⟨j_B (nn := 2) hts jw_in.2.2.2.1 ji_in.2.1 jl_in.2.1 (by decide) (by decide +kernel) ⟨Nat.le_refl _, Nat.le_refl _⟩, hts _ jk_in.2.2.2.2.2.1⟩ ⟨PcY_blind _ _ _, fun U hU hW => ⟨rfl, by rw [hU]; exact hR', KK.warm hW hK⟩⟩ rfl rfl hL.1 rfl (by show 2 * 0 + 0 ≤ 8; omega) (show decode prog_15_method_56_code 12 = .ok (.invokestatic 495, 3) by decide +kernel) ⟨Nat.le_refl _, Nat.le_refl _⟩) ?_
  intro H'' locs'' hR'' h4''
  exact j_cret he hb hret (tx_ok i hi j hj).2 (fun t ht hW => ⟨_, σ, rfl, ⟨rfl, rfl⟩, by rw [ht]; exact hR''⟩) h4'' (by decide +kernel)
end JS
section JR
variable {l : Launch} {D : DD} {R : Room} {Z : List Frame → Array Value → State → State → Prop} {y pc n kc ks : Nat} {ls : List (Option Value)} {st stk : List Value} {σ : Hp}
/-- a call of charAt -/
theorem r_charAt {k i j : Nat} (hf : ft y pc = some (.invokevirtual k, n, 902)) (hi : i < 3) (hj : j < 3) (hl : st.length ≤ 4) (hR : 4 ≤ R.frames ∧ 85 ≤ R.locals) (kk : G l D R Z y n ls (.int (tx i j) :: st) σ kc ks) : G l D R Z y pc ls (.int (nI j) :: va_rf (some (d_t D i)) :: st) σ kc ks := by
  intro p e s m args below meth c H locs cells slots la hC h2 h3 h4 h5 h6 h7
  obtain ⟨hn3, hd, hk1, hb⟩ := f_key (k := k) hf rfl
  subst hn3
  have hlink : (Cond.methodLink (cnm (mCls y)) k nmCA).before args s = true := w_link hC hk1 hb
  have hkp : ∀ a : Nat, a < (d_H D).size → ¬ d_n D ≤ a → H[a]? = (d_H D)[a]? := fun a h1 _ => h3.2.2.1 a h1
  obtain ⟨cell, q1, q2, q3, -⟩ := ((h2.2.2.2.2.1.1 i hi).1).kept hkp
  have hts := hC.2.2.2.2.1
  have hB : CallB R s args (cnm (mCls y)) k nmCA prog_15_method_56_code 2 (some .char) (jws nmCA prog_15_method_56_code 2 (some .char)) (jrm 3 64) 0 0 1 := by
    refine ⟨rfl, rfl, hR.1, hR.2, jws_good jw_in.1 hts, List.mem_cons_self, hts _ jw_in.1, hts _ ji_in.1, (by decide), fun sig h => ?_, hlink⟩
    have o4 : (parseMethodDescriptor nmCA.desc).map (fun d => d.parameters.length) = some 1 := by decide +kernel
    rw [h] at o4
    exact (Option.some.inj o4).symm
  refine c_go (kc' := kc) (ks' := ks) (mc := 0) (ms := 0) (Q' := fun r' τ => r' = some (.int (tx i j)) ∧ τ = σ) hC h2 h4 h5 h6 h7 (by omega) (by omega) (va_runV (Ts := TB) (C := "java/lang/String") (b := d_t D i) (As := [.int (nI j)]) ⟨hC.1, hC.2.1, hC.2.2.1, hC.2.2.2.1, hC.2.2.2.2.1⟩ (c_CA (l := l) (D := D) (σ := σ) hi hj) ⟨hB, hts _ jk_in.1, hts _ jk_in.2.1⟩ ⟨PcY_blind _ _ _, ⟨cell, q1, q2, q3⟩, fun U hU hW => ⟨rfl, by rw [hU]; exact h3, KK.warm hW h2⟩⟩ rfl rfl h7.1 rfl (by show 2 * 0 + _ ≤ 8; have := st_sum hl; omega) hd ⟨by omega, by omega⟩) ?_
  rintro r τ ⟨rfl, rfl⟩
  exact kk
end JR
