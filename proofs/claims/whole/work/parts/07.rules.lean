/-! ===== the rules, one for each instruction ===== -/
theorem rf_cat (p : Option Nat) : (va_rf p).category = 1 := by cases p <;> rfl
theorem Lv.get {la : Array Slot} {ls : List (Option Value)} {n i : Nat} {v : Value} (h : Lv la ls n) (hi : ls[i]? = some (some v)) : la[i]? = some (.val v) := (h.2.2.2 i v hi).1
def lvP (ls : List (Option Value)) : List (Nat × Value) := (List.range ls.length).filterMap fun i => match ls[i]? with
  | some (some v) => some (i, v)
  | _ => none
theorem lvP_mem {ls : List (Option Value)} {q : Nat × Value} : q ∈ lvP ls ↔ ls[q.1]? = some (some q.2) := by
  unfold lvP
  rw [List.mem_filterMap]
  constructor
  · rintro ⟨i, -, hi⟩
    cases h : ls[i]? with
    | none => simp [h] at hi
    | some w =>
      cases w with
      | none => simp [h] at hi
      | some v =>
        simp [h] at hi
        subst hi
        exact h
  · intro h
    refine ⟨q.1, List.mem_range.mpr ?_, ?_⟩
    · exact (List.getElem?_eq_some_iff.mp h).1
    · rw [h]
theorem Lv.has {la : Array Slot} {ls : List (Option Value)} {n : Nat} (h : Lv la ls n) : lv_has la n (lvP ls) := ⟨h.1, h.2.2.1, fun q hq => (h.2.2.2 q.1 q.2 (lvP_mem.mp hq)).1⟩
theorem Lv.st {la la' : Array Slot} {ls : List (Option Value)} {n i : Nat} {v : Value} (h : Lv la ls n) (hc : v.category = 1) (hi : i < n) (h' : lv_has la' n ((i, v) :: (lvP ls).filter (fun q => !(q.1 == i) && !(q.1 + 1 == i && q.2.category == 2)))) : Lv la' (ls.set i (some v)) n := by
  refine ⟨h'.1, by rw [List.length_set]; exact h.2.1, h'.2.1, fun j w hj => ?_⟩
  by_cases e : j = i
  · subst e
    rw [List.getElem?_set_self (by rw [h.2.1]; exact hi)] at hj
    cases hj
    exact ⟨h'.2.2 (j, v) List.mem_cons_self, hc⟩
  · rw [List.getElem?_set_ne (fun q => e q.symm)] at hj
    have h2 := h.2.2.2 j w hj
    refine ⟨h'.2.2 (j, w) (List.mem_cons_of_mem _ (List.mem_filter.mpr ⟨lvP_mem.mpr hj, ?_⟩)), h2.2⟩
    simp [e, h2.2]
section Rules
variable {l : Launch} {D : DD} {R : Room} {Z : List Frame → Array Value → State → State → Prop} {y pc n x kc ks : Nat} {ls : List (Option Value)} {st : List Value} {σ : Hp}
theorem f_1 {i : Instr} (hf : ft y pc = some (i, n, x)) (h : okI (mCls y) pc i n x = (n == pc + 1)) : n = pc + 1 ∧ decode (mCode y) pc = .ok (i, 1) := by
  obtain ⟨hd, hn⟩ := ft_ok hf
  rw [h] at hn
  have hn : n = pc + 1 := by simpa using hn
  subst hn
  rw [Nat.add_sub_cancel_left] at hd
  exact ⟨rfl, hd⟩
theorem f_2 {i : Instr} (hf : ft y pc = some (i, n, x)) (h : okI (mCls y) pc i n x = (n == pc + 2)) : n = pc + 2 ∧ decode (mCode y) pc = .ok (i, 2) := by
  obtain ⟨hd, hn⟩ := ft_ok hf
  rw [h] at hn
  have hn : n = pc + 2 := by simpa using hn
  subst hn
  rw [Nat.add_sub_cancel_left] at hd
  exact ⟨rfl, hd⟩
theorem f_3 {i : Instr} (hf : ft y pc = some (i, n, x)) (h : okI (mCls y) pc i n x = (n == pc + 3)) : n = pc + 3 ∧ decode (mCode y) pc = .ok (i, 3) := by
  obtain ⟨hd, hn⟩ := ft_ok hf
  rw [h] at hn
  have hn : n = pc + 3 := by simpa using hn
  subst hn
  rw [Nat.add_sub_cancel_left] at hd
  exact ⟨rfl, hd⟩
theorem f_3b {i : Instr} {b : Bool} (hf : ft y pc = some (i, n, x)) (h : okI (mCls y) pc i n x = (n == pc + 3 && b)) : (n = pc + 3 ∧ decode (mCode y) pc = .ok (i, 3)) ∧ b = true := by
  obtain ⟨hd, hn⟩ := ft_ok hf
  rw [h] at hn
  obtain ⟨hn, hb⟩ := okn hn
  have hn : n = pc + 3 := by simpa using hn
  subst hn
  rw [Nat.add_sub_cancel_left] at hd
  exact ⟨⟨rfl, hd⟩, hb⟩
theorem f_br {i : Instr} {f : Int} (hf : ft y pc = some (i, n, x)) (h : okI (mCls y) pc i n x = (n == pc + 3 && decide ((pc : Int) + f = (x : Int)))) : n = pc + 3 ∧ decode (mCode y) pc = .ok (i, 3) ∧ (pc : Int) + f = (x : Int) := by
  obtain ⟨⟨h1, h2⟩, h3⟩ := f_3b hf h
  exact ⟨h1, h2, of_decide_eq_true h3⟩
theorem r_bipush {i : Int} {v : Int32} (hf : ft y pc = some (.bipush i, n, x)) (hv : (Int8.ofInt i).toInt32 = v) (k : G l D R Z y n ls (.int v :: st) σ kc ks) : G l D R Z y pc ls st σ kc ks := by
  intro p e s m args below meth c H locs cells slots la hC h2 h3 h4 h5 h6 h7
  obtain ⟨hn, hd⟩ := f_2 hf rfl
  subst hn
  exact lv_bipush hC.1 hC.2.1 hd hv (k p e s m args below meth c H locs cells slots la hC h2 h3 h4 h5 h6 h7)
theorem r_sipush {i : Int} {v : Int32} (hf : ft y pc = some (.sipush i, n, x)) (hv : (Int16.ofInt i).toInt32 = v) (k : G l D R Z y n ls (.int v :: st) σ kc ks) : G l D R Z y pc ls st σ kc ks := by
  intro p e s m args below meth c H locs cells slots la hC h2 h3 h4 h5 h6 h7
  obtain ⟨hn, hd⟩ := f_3 hf rfl
  subst hn
  exact lv_sipush hC.1 hC.2.1 hd hv (k p e s m args below meth c H locs cells slots la hC h2 h3 h4 h5 h6 h7)
theorem r_null  (hf : ft y pc = some (.aconst_null, n, x))  (k : G l D R Z y n ls (va_rf none :: st) σ kc ks) : G l D R Z y pc ls st σ kc ks := by
  intro p e s m args below meth c H locs cells slots la hC h2 h3 h4 h5 h6 h7
  obtain ⟨hn, hd⟩ := f_1 hf rfl
  subst hn
  exact lv_null hC.1 hC.2.1 hd  (k p e s m args below meth c H locs cells slots la hC h2 h3 h4 h5 h6 h7)
theorem r_iload_n {q : Fin 4} {v : Int32} (hf : ft y pc = some (.iload_n q, n, x)) (hl : ls[(q : Nat)]? = some (some (.int v))) (k : G l D R Z y n ls (.int v :: st) σ kc ks) : G l D R Z y pc ls st σ kc ks := by
  intro p e s m args below meth c H locs cells slots la hC h2 h3 h4 h5 h6 h7
  obtain ⟨hn, hd⟩ := f_1 hf rfl
  subst hn
  exact lv_iload_n hC.1 hC.2.1 hd rfl (h7.get hl) (k p e s m args below meth c H locs cells slots la hC h2 h3 h4 h5 h6 h7)
theorem r_iload {q : Nat} {v : Int32} (hf : ft y pc = some (.iload q, n, x)) (hl : ls[q]? = some (some (.int v))) (k : G l D R Z y n ls (.int v :: st) σ kc ks) : G l D R Z y pc ls st σ kc ks := by
  intro p e s m args below meth c H locs cells slots la hC h2 h3 h4 h5 h6 h7
  obtain ⟨hn, hd⟩ := f_2 hf rfl
  subst hn
  exact lv_iload hC.1 hC.2.1 hd (h7.get hl) (k p e s m args below meth c H locs cells slots la hC h2 h3 h4 h5 h6 h7)
theorem r_aload_n {q : Fin 4} {r : Option Nat} (hf : ft y pc = some (.aload_n q, n, x)) (hl : ls[(q : Nat)]? = some (some (va_rf r))) (k : G l D R Z y n ls (va_rf r :: st) σ kc ks) : G l D R Z y pc ls st σ kc ks := by
  intro p e s m args below meth c H locs cells slots la hC h2 h3 h4 h5 h6 h7
  obtain ⟨hn, hd⟩ := f_1 hf rfl
  subst hn
  cases r with
  | none => exact lv_aload_nN hC.1 hC.2.1 hd rfl (h7.get hl) (k p e s m args below meth c H locs cells slots la hC h2 h3 h4 h5 h6 h7)
  | some a => exact lv_aload_n hC.1 hC.2.1 hd rfl (h7.get hl) (k p e s m args below meth c H locs cells slots la hC h2 h3 h4 h5 h6 h7)
theorem r_aload {q : Nat} {r : Option Nat} (hf : ft y pc = some (.aload q, n, x)) (hl : ls[q]? = some (some (va_rf r))) (k : G l D R Z y n ls (va_rf r :: st) σ kc ks) : G l D R Z y pc ls st σ kc ks := by
  intro p e s m args below meth c H locs cells slots la hC h2 h3 h4 h5 h6 h7
  obtain ⟨hn, hd⟩ := f_2 hf rfl
  subst hn
  cases r with
  | none => exact lv_aloadN hC.1 hC.2.1 hd (h7.get hl) (k p e s m args below meth c H locs cells slots la hC h2 h3 h4 h5 h6 h7)
  | some a => exact lv_aload hC.1 hC.2.1 hd (h7.get hl) (k p e s m args below meth c H locs cells slots la hC h2 h3 h4 h5 h6 h7)
theorem r_istore_n {q : Fin 4} {v : Int32} (hf : ft y pc = some (.istore_n q, n, x)) (hq : (q : Nat) < mLoc y) (k : G l D R Z y n (ls.set (q : Nat) (some (.int v))) st σ kc ks) : G l D R Z y pc ls (.int v :: st) σ kc ks := by
  intro p e s m args below meth c H locs cells slots la hC h2 h3 h4 h5 h6 h7
  obtain ⟨hn, hd⟩ := f_1 hf rfl
  subst hn
  exact lv_istore_n hC.1 hC.2.1 hd rfl h7.has hq rfl (fun la2 hl2 => k p e s m args below meth c H locs cells slots la2 hC h2 h3 h4 h5 h6 (h7.st rfl hq hl2))
theorem r_istore {q : Nat} {v : Int32} (hf : ft y pc = some (.istore q, n, x)) (hq : q < mLoc y) (k : G l D R Z y n (ls.set q (some (.int v))) st σ kc ks) : G l D R Z y pc ls (.int v :: st) σ kc ks := by
  intro p e s m args below meth c H locs cells slots la hC h2 h3 h4 h5 h6 h7
  obtain ⟨hn, hd⟩ := f_2 hf rfl
  subst hn
  exact lv_istore hC.1 hC.2.1 hd h7.has hq rfl (fun la2 hl2 => k p e s m args below meth c H locs cells slots la2 hC h2 h3 h4 h5 h6 (h7.st rfl hq hl2))
theorem r_astore_n {q : Fin 4} {r : Option Nat} (hf : ft y pc = some (.astore_n q, n, x)) (hq : (q : Nat) < mLoc y) (k : G l D R Z y n (ls.set (q : Nat) (some (va_rf r))) st σ kc ks) : G l D R Z y pc ls (va_rf r :: st) σ kc ks := by
  intro p e s m args below meth c H locs cells slots la hC h2 h3 h4 h5 h6 h7
  obtain ⟨hn, hd⟩ := f_1 hf rfl
  subst hn
  cases r with
  | none => exact lv_astore_nN hC.1 hC.2.1 hd rfl h7.has hq rfl (fun la2 hl2 => k p e s m args below meth c H locs cells slots la2 hC h2 h3 h4 h5 h6 (h7.st rfl hq hl2))
  | some a => exact lv_astore_n hC.1 hC.2.1 hd rfl h7.has hq rfl (fun la2 hl2 => k p e s m args below meth c H locs cells slots la2 hC h2 h3 h4 h5 h6 (h7.st rfl hq hl2))
theorem r_astore {q : Nat} {r : Option Nat} (hf : ft y pc = some (.astore q, n, x)) (hq : q < mLoc y) (k : G l D R Z y n (ls.set q (some (va_rf r))) st σ kc ks) : G l D R Z y pc ls (va_rf r :: st) σ kc ks := by
  intro p e s m args below meth c H locs cells slots la hC h2 h3 h4 h5 h6 h7
  obtain ⟨hn, hd⟩ := f_2 hf rfl
  subst hn
  cases r with
  | none => exact lv_astoreN hC.1 hC.2.1 hd h7.has hq rfl (fun la2 hl2 => k p e s m args below meth c H locs cells slots la2 hC h2 h3 h4 h5 h6 (h7.st rfl hq hl2))
  | some a => exact lv_astore hC.1 hC.2.1 hd h7.has hq rfl (fun la2 hl2 => k p e s m args below meth c H locs cells slots la2 hC h2 h3 h4 h5 h6 (h7.st rfl hq hl2))
theorem r_iinc {q : Nat} {i : Int} {a v : Int32} (hf : ft y pc = some (.iinc q i, n, x)) (hl : ls[q]? = some (some (.int a))) (hv : a + Int32.ofInt i = v) (k : G l D R Z y n (ls.set q (some (.int v))) st σ kc ks) : G l D R Z y pc ls st σ kc ks := by
  intro p e s m args below meth c H locs cells slots la hC h2 h3 h4 h5 h6 h7
  obtain ⟨hn, hd⟩ := f_3 hf rfl
  subst hn
  have hq : q < mLoc y := by
    rw [← h7.2.1]
    exact (List.getElem?_eq_some_iff.mp hl).1
  obtain ⟨j, hj⟩ := List.getElem?_of_mem (lvP_mem (ls := ls) (q := (q, Value.int a)) |>.mpr hl)
  exact lv_iinc hC.1 hC.2.1 hd h7.has hj hv hq rfl (fun la2 hl2 => k p e s m args below meth c H locs cells slots la2 hC h2 h3 h4 h5 h6 (h7.st rfl hq hl2))
theorem r_isub {a b : Int32} (hf : ft y pc = some (.isub, n, x))  (k : G l D R Z y n ls (.int (a - b) :: st) σ kc ks) : G l D R Z y pc ls (.int b :: .int a :: st) σ kc ks := by
  intro p e s m args below meth c H locs cells slots la hC h2 h3 h4 h5 h6 h7
  obtain ⟨hn, hd⟩ := f_1 hf rfl
  subst hn
  exact lv_isub hC.1 hC.2.1 hd  (k p e s m args below meth c H locs cells slots la hC h2 h3 h4 h5 h6 h7)
theorem r_imul {a b : Int32} (hf : ft y pc = some (.imul, n, x))  (k : G l D R Z y n ls (.int (a * b) :: st) σ kc ks) : G l D R Z y pc ls (.int b :: .int a :: st) σ kc ks := by
  intro p e s m args below meth c H locs cells slots la hC h2 h3 h4 h5 h6 h7
  obtain ⟨hn, hd⟩ := f_1 hf rfl
  subst hn
  exact lv_imul hC.1 hC.2.1 hd  (k p e s m args below meth c H locs cells slots la hC h2 h3 h4 h5 h6 h7)
theorem r_iand {a b : Int32} (hf : ft y pc = some (.iand, n, x))  (k : G l D R Z y n ls (.int (a &&& b) :: st) σ kc ks) : G l D R Z y pc ls (.int b :: .int a :: st) σ kc ks := by
  intro p e s m args below meth c H locs cells slots la hC h2 h3 h4 h5 h6 h7
  obtain ⟨hn, hd⟩ := f_1 hf rfl
  subst hn
  exact lv_iand hC.1 hC.2.1 hd  (k p e s m args below meth c H locs cells slots la hC h2 h3 h4 h5 h6 h7)
theorem r_ishr {a b : Int32} (hf : ft y pc = some (.ishr, n, x))  (k : G l D R Z y n ls (.int (a >>> (b &&& 31)) :: st) σ kc ks) : G l D R Z y pc ls (.int b :: .int a :: st) σ kc ks := by
  intro p e s m args below meth c H locs cells slots la hC h2 h3 h4 h5 h6 h7
  obtain ⟨hn, hd⟩ := f_1 hf rfl
  subst hn
  exact lv_ishr hC.1 hC.2.1 hd  (k p e s m args below meth c H locs cells slots la hC h2 h3 h4 h5 h6 h7)
theorem r_idiv {a b : Int32} (hf : ft y pc = some (.idiv, n, x)) (hb : ¬ b = 0) (k : G l D R Z y n ls (.int (a / b) :: st) σ kc ks) : G l D R Z y pc ls (.int b :: .int a :: st) σ kc ks := by
  intro p e s m args below meth c H locs cells slots la hC h2 h3 h4 h5 h6 h7
  obtain ⟨hn, hd⟩ := f_1 hf rfl
  subst hn
  exact lv_idiv hC.1 hC.2.1 hd hb (k p e s m args below meth c H locs cells slots la hC h2 h3 h4 h5 h6 h7)
theorem r_irem {a b : Int32} (hf : ft y pc = some (.irem, n, x)) (hb : ¬ b = 0) (k : G l D R Z y n ls (.int (a - a / b * b) :: st) σ kc ks) : G l D R Z y pc ls (.int b :: .int a :: st) σ kc ks := by
  intro p e s m args below meth c H locs cells slots la hC h2 h3 h4 h5 h6 h7
  obtain ⟨hn, hd⟩ := f_1 hf rfl
  subst hn
  exact lv_irem hC.1 hC.2.1 hd hb (k p e s m args below meth c H locs cells slots la hC h2 h3 h4 h5 h6 h7)
theorem r_iushr {a b v : Int32} (hf : ft y pc = some (.iushr, n, x)) (hv : (a.toUInt32 >>> (b.toUInt32 &&& Int32.toUInt32 31)).toInt32 = v) (k : G l D R Z y n ls (.int v :: st) σ kc ks) : G l D R Z y pc ls (.int b :: .int a :: st) σ kc ks := by
  intro p e s m args below meth c H locs cells slots la hC h2 h3 h4 h5 h6 h7
  obtain ⟨hn, hd⟩ := f_1 hf rfl
  subst hn
  exact lv_iushr hC.1 hC.2.1 hd hv (k p e s m args below meth c H locs cells slots la hC h2 h3 h4 h5 h6 h7)
theorem r_i2b {a v : Int32} (hf : ft y pc = some (.i2b, n, x)) (hv : a.toInt8.toInt32 = v) (k : G l D R Z y n ls (.int v :: st) σ kc ks) : G l D R Z y pc ls (.int a :: st) σ kc ks := by
  intro p e s m args below meth c H locs cells slots la hC h2 h3 h4 h5 h6 h7
  obtain ⟨hn, hd⟩ := f_1 hf rfl
  subst hn
  exact lv_i2b hC.1 hC.2.1 hd hv (k p e s m args below meth c H locs cells slots la hC h2 h3 h4 h5 h6 h7)
theorem r_dup {v : Value} (hf : ft y pc = some (.dup, n, x)) (hv : v.category = 1) (k : G l D R Z y n ls (v :: v :: st) σ kc ks) : G l D R Z y pc ls (v :: st) σ kc ks := by
  intro p e s m args below meth c H locs cells slots la hC h2 h3 h4 h5 h6 h7
  obtain ⟨hn, hd⟩ := f_1 hf rfl
  subst hn
  exact lv_dup hC.1 hC.2.1 hd hv (k p e s m args below meth c H locs cells slots la hC h2 h3 h4 h5 h6 h7)
theorem r_pop {v : Value} (hf : ft y pc = some (.pop, n, x)) (hv : v.category = 1) (k : G l D R Z y n ls st σ kc ks) : G l D R Z y pc ls (v :: st) σ kc ks := by
  intro p e s m args below meth c H locs cells slots la hC h2 h3 h4 h5 h6 h7
  obtain ⟨hn, hd⟩ := f_1 hf rfl
  subst hn
  exact lv_pop hC.1 hC.2.1 hd hv (k p e s m args below meth c H locs cells slots la hC h2 h3 h4 h5 h6 h7)
theorem r_dup2 {v w : Value} (hf : ft y pc = some (.dup2, n, x)) (hv : v.category = 1) (hw : w.category = 1) (k : G l D R Z y n ls (v :: w :: v :: w :: st) σ kc ks) : G l D R Z y pc ls (v :: w :: st) σ kc ks := by
  intro p e s m args below meth c H locs cells slots la hC h2 h3 h4 h5 h6 h7
  obtain ⟨hn, hd⟩ := f_1 hf rfl
  subst hn
  exact lv_dup2_11 hC.1 hC.2.1 hd hv hw (k p e s m args below meth c H locs cells slots la hC h2 h3 h4 h5 h6 h7)
theorem r_icmp_eq {a b : Int32} {f : Int} (hf : ft y pc = some (.if_icmp .eq f, n, x)) (kt : a = b → G l D R Z y x ls st σ kc ks) (kf : ¬ a = b → G l D R Z y n ls st σ kc ks) : G l D R Z y pc ls (.int b :: .int a :: st) σ kc ks := by
  intro p e s m args below meth c H locs cells slots la hC h2 h3 h4 h5 h6 h7
  obtain ⟨hn, hd, ht⟩ := f_br (f := f) hf rfl
  subst hn
  exact lv_icmp_eq hC.1 hC.2.1 hd ht (fun q => kt q p e s m args below meth c H locs cells slots la hC h2 h3 h4 h5 h6 h7) (fun q => kf q p e s m args below meth c H locs cells slots la hC h2 h3 h4 h5 h6 h7)
theorem r_if_eq {a : Int32} {f : Int} (hf : ft y pc = some (.ifCond .eq f, n, x)) (kt : a = 0 → G l D R Z y x ls st σ kc ks) (kf : ¬ a = 0 → G l D R Z y n ls st σ kc ks) : G l D R Z y pc ls (.int a :: st) σ kc ks := by
  intro p e s m args below meth c H locs cells slots la hC h2 h3 h4 h5 h6 h7
  obtain ⟨hn, hd, ht⟩ := f_br (f := f) hf rfl
  subst hn
  exact lv_if_eq hC.1 hC.2.1 hd ht (fun q => kt q p e s m args below meth c H locs cells slots la hC h2 h3 h4 h5 h6 h7) (fun q => kf q p e s m args below meth c H locs cells slots la hC h2 h3 h4 h5 h6 h7)
theorem r_icmp_ne {a b : Int32} {f : Int} (hf : ft y pc = some (.if_icmp .ne f, n, x)) (kt : ¬ a = b → G l D R Z y x ls st σ kc ks) (kf : a = b → G l D R Z y n ls st σ kc ks) : G l D R Z y pc ls (.int b :: .int a :: st) σ kc ks := by
  intro p e s m args below meth c H locs cells slots la hC h2 h3 h4 h5 h6 h7
  obtain ⟨hn, hd, ht⟩ := f_br (f := f) hf rfl
  subst hn
  exact lv_icmp_ne hC.1 hC.2.1 hd ht (fun q => kt q p e s m args below meth c H locs cells slots la hC h2 h3 h4 h5 h6 h7) (fun q => kf q p e s m args below meth c H locs cells slots la hC h2 h3 h4 h5 h6 h7)
theorem r_if_ne {a : Int32} {f : Int} (hf : ft y pc = some (.ifCond .ne f, n, x)) (kt : ¬ a = 0 → G l D R Z y x ls st σ kc ks) (kf : a = 0 → G l D R Z y n ls st σ kc ks) : G l D R Z y pc ls (.int a :: st) σ kc ks := by
  intro p e s m args below meth c H locs cells slots la hC h2 h3 h4 h5 h6 h7
  obtain ⟨hn, hd, ht⟩ := f_br (f := f) hf rfl
  subst hn
  exact lv_if_ne hC.1 hC.2.1 hd ht (fun q => kt q p e s m args below meth c H locs cells slots la hC h2 h3 h4 h5 h6 h7) (fun q => kf q p e s m args below meth c H locs cells slots la hC h2 h3 h4 h5 h6 h7)
theorem r_icmp_lt {a b : Int32} {f : Int} (hf : ft y pc = some (.if_icmp .lt f, n, x)) (kt : a < b → G l D R Z y x ls st σ kc ks) (kf : ¬ a < b → G l D R Z y n ls st σ kc ks) : G l D R Z y pc ls (.int b :: .int a :: st) σ kc ks := by
  intro p e s m args below meth c H locs cells slots la hC h2 h3 h4 h5 h6 h7
  obtain ⟨hn, hd, ht⟩ := f_br (f := f) hf rfl
  subst hn
  exact lv_icmp_lt hC.1 hC.2.1 hd ht (fun q => kt q p e s m args below meth c H locs cells slots la hC h2 h3 h4 h5 h6 h7) (fun q => kf q p e s m args below meth c H locs cells slots la hC h2 h3 h4 h5 h6 h7)
theorem r_if_lt {a : Int32} {f : Int} (hf : ft y pc = some (.ifCond .lt f, n, x)) (kt : a < 0 → G l D R Z y x ls st σ kc ks) (kf : ¬ a < 0 → G l D R Z y n ls st σ kc ks) : G l D R Z y pc ls (.int a :: st) σ kc ks := by
  intro p e s m args below meth c H locs cells slots la hC h2 h3 h4 h5 h6 h7
  obtain ⟨hn, hd, ht⟩ := f_br (f := f) hf rfl
  subst hn
  exact lv_if_lt hC.1 hC.2.1 hd ht (fun q => kt q p e s m args below meth c H locs cells slots la hC h2 h3 h4 h5 h6 h7) (fun q => kf q p e s m args below meth c H locs cells slots la hC h2 h3 h4 h5 h6 h7)
theorem r_icmp_ge {a b : Int32} {f : Int} (hf : ft y pc = some (.if_icmp .ge f, n, x)) (kt : b ≤ a → G l D R Z y x ls st σ kc ks) (kf : ¬ b ≤ a → G l D R Z y n ls st σ kc ks) : G l D R Z y pc ls (.int b :: .int a :: st) σ kc ks := by
  intro p e s m args below meth c H locs cells slots la hC h2 h3 h4 h5 h6 h7
  obtain ⟨hn, hd, ht⟩ := f_br (f := f) hf rfl
  subst hn
  exact lv_icmp_ge hC.1 hC.2.1 hd ht (fun q => kt q p e s m args below meth c H locs cells slots la hC h2 h3 h4 h5 h6 h7) (fun q => kf q p e s m args below meth c H locs cells slots la hC h2 h3 h4 h5 h6 h7)
theorem r_if_ge {a : Int32} {f : Int} (hf : ft y pc = some (.ifCond .ge f, n, x)) (kt : 0 ≤ a → G l D R Z y x ls st σ kc ks) (kf : ¬ 0 ≤ a → G l D R Z y n ls st σ kc ks) : G l D R Z y pc ls (.int a :: st) σ kc ks := by
  intro p e s m args below meth c H locs cells slots la hC h2 h3 h4 h5 h6 h7
  obtain ⟨hn, hd, ht⟩ := f_br (f := f) hf rfl
  subst hn
  exact lv_if_ge hC.1 hC.2.1 hd ht (fun q => kt q p e s m args below meth c H locs cells slots la hC h2 h3 h4 h5 h6 h7) (fun q => kf q p e s m args below meth c H locs cells slots la hC h2 h3 h4 h5 h6 h7)
theorem r_icmp_gt {a b : Int32} {f : Int} (hf : ft y pc = some (.if_icmp .gt f, n, x)) (kt : b < a → G l D R Z y x ls st σ kc ks) (kf : ¬ b < a → G l D R Z y n ls st σ kc ks) : G l D R Z y pc ls (.int b :: .int a :: st) σ kc ks := by
  intro p e s m args below meth c H locs cells slots la hC h2 h3 h4 h5 h6 h7
  obtain ⟨hn, hd, ht⟩ := f_br (f := f) hf rfl
  subst hn
  exact lv_icmp_gt hC.1 hC.2.1 hd ht (fun q => kt q p e s m args below meth c H locs cells slots la hC h2 h3 h4 h5 h6 h7) (fun q => kf q p e s m args below meth c H locs cells slots la hC h2 h3 h4 h5 h6 h7)
theorem r_if_gt {a : Int32} {f : Int} (hf : ft y pc = some (.ifCond .gt f, n, x)) (kt : 0 < a → G l D R Z y x ls st σ kc ks) (kf : ¬ 0 < a → G l D R Z y n ls st σ kc ks) : G l D R Z y pc ls (.int a :: st) σ kc ks := by
  intro p e s m args below meth c H locs cells slots la hC h2 h3 h4 h5 h6 h7
  obtain ⟨hn, hd, ht⟩ := f_br (f := f) hf rfl
  subst hn
  exact lv_if_gt hC.1 hC.2.1 hd ht (fun q => kt q p e s m args below meth c H locs cells slots la hC h2 h3 h4 h5 h6 h7) (fun q => kf q p e s m args below meth c H locs cells slots la hC h2 h3 h4 h5 h6 h7)
theorem r_icmp_le {a b : Int32} {f : Int} (hf : ft y pc = some (.if_icmp .le f, n, x)) (kt : a ≤ b → G l D R Z y x ls st σ kc ks) (kf : ¬ a ≤ b → G l D R Z y n ls st σ kc ks) : G l D R Z y pc ls (.int b :: .int a :: st) σ kc ks := by
  intro p e s m args below meth c H locs cells slots la hC h2 h3 h4 h5 h6 h7
  obtain ⟨hn, hd, ht⟩ := f_br (f := f) hf rfl
  subst hn
  exact lv_icmp_le hC.1 hC.2.1 hd ht (fun q => kt q p e s m args below meth c H locs cells slots la hC h2 h3 h4 h5 h6 h7) (fun q => kf q p e s m args below meth c H locs cells slots la hC h2 h3 h4 h5 h6 h7)
theorem r_if_le {a : Int32} {f : Int} (hf : ft y pc = some (.ifCond .le f, n, x)) (kt : a ≤ 0 → G l D R Z y x ls st σ kc ks) (kf : ¬ a ≤ 0 → G l D R Z y n ls st σ kc ks) : G l D R Z y pc ls (.int a :: st) σ kc ks := by
  intro p e s m args below meth c H locs cells slots la hC h2 h3 h4 h5 h6 h7
  obtain ⟨hn, hd, ht⟩ := f_br (f := f) hf rfl
  subst hn
  exact lv_if_le hC.1 hC.2.1 hd ht (fun q => kt q p e s m args below meth c H locs cells slots la hC h2 h3 h4 h5 h6 h7) (fun q => kf q p e s m args below meth c H locs cells slots la hC h2 h3 h4 h5 h6 h7)
theorem r_goto {f : Int} (hf : ft y pc = some (.goto f, n, x)) (k : G l D R Z y x ls st σ kc ks) : G l D R Z y pc ls st σ kc ks := by
  intro p e s m args below meth c H locs cells slots la hC h2 h3 h4 h5 h6 h7
  obtain ⟨hn, hd, ht⟩ := f_br (f := f) hf rfl
  exact lv_goto hC.1 hC.2.1 hd ht (k p e s m args below meth c H locs cells slots la hC h2 h3 h4 h5 h6 h7)
theorem r_ifnull {r : Option Nat} {f : Int} (hf : ft y pc = some (.ifnull f, n, x)) (kt : r = none → G l D R Z y x ls st σ kc ks) (kf : ∀ a, r = some a → G l D R Z y n ls st σ kc ks) : G l D R Z y pc ls (va_rf r :: st) σ kc ks := by
  intro p e s m args below meth c H locs cells slots la hC h2 h3 h4 h5 h6 h7
  obtain ⟨hn, hd, ht⟩ := f_br (f := f) hf rfl
  subst hn
  cases r with
  | none => exact lv_ifnullN hC.1 hC.2.1 hd ht (kt rfl p e s m args below meth c H locs cells slots la hC h2 h3 h4 h5 h6 h7)
  | some a => exact lv_ifnull hC.1 hC.2.1 hd (kf a rfl p e s m args below meth c H locs cells slots la hC h2 h3 h4 h5 h6 h7)
theorem r_ifnonnull {r : Option Nat} {f : Int} (hf : ft y pc = some (.ifnonnull f, n, x)) (kt : ∀ a, r = some a → G l D R Z y x ls st σ kc ks) (kf : r = none → G l D R Z y n ls st σ kc ks) : G l D R Z y pc ls (va_rf r :: st) σ kc ks := by
  intro p e s m args below meth c H locs cells slots la hC h2 h3 h4 h5 h6 h7
  obtain ⟨hn, hd, ht⟩ := f_br (f := f) hf rfl
  subst hn
  cases r with
  | none => exact lv_ifnonnullN hC.1 hC.2.1 hd (kf rfl p e s m args below meth c H locs cells slots la hC h2 h3 h4 h5 h6 h7)
  | some a => exact lv_ifnonnull hC.1 hC.2.1 hd ht (kt a rfl p e s m args below meth c H locs cells slots la hC h2 h3 h4 h5 h6 h7)
theorem r_acmp_eq {a b : Option Nat} {f : Int} (hf : ft y pc = some (.if_acmp .eq f, n, x)) (kt : a = b → G l D R Z y x ls st σ kc ks) (kf : ¬ a = b → G l D R Z y n ls st σ kc ks) : G l D R Z y pc ls (va_rf b :: va_rf a :: st) σ kc ks := by
  intro p e s m args below meth c H locs cells slots la hC h2 h3 h4 h5 h6 h7
  obtain ⟨hn, hd, ht⟩ := f_br (f := f) hf rfl
  subst hn
  exact lv_acmp_eq hC.1 hC.2.1 hd ht (fun q => kt q p e s m args below meth c H locs cells slots la hC h2 h3 h4 h5 h6 h7) (fun q => kf q p e s m args below meth c H locs cells slots la hC h2 h3 h4 h5 h6 h7)
theorem r_acmp_ne {a b : Option Nat} {f : Int} (hf : ft y pc = some (.if_acmp .ne f, n, x)) (kt : ¬ a = b → G l D R Z y x ls st σ kc ks) (kf : a = b → G l D R Z y n ls st σ kc ks) : G l D R Z y pc ls (va_rf b :: va_rf a :: st) σ kc ks := by
  intro p e s m args below meth c H locs cells slots la hC h2 h3 h4 h5 h6 h7
  obtain ⟨hn, hd, ht⟩ := f_br (f := f) hf rfl
  subst hn
  exact lv_acmp_ne hC.1 hC.2.1 hd ht (fun q => kt q p e s m args below meth c H locs cells slots la hC h2 h3 h4 h5 h6 h7) (fun q => kf q p e s m args below meth c H locs cells slots la hC h2 h3 h4 h5 h6 h7)
theorem r_tswOut {dflt lo hi : Int} {offs : Array Int} {a : Int32} {tgt : Nat} (hf : ft y pc = some (.tableswitch dflt lo hi offs, n, x)) (h : a.toInt < lo ∨ hi < a.toInt) (ht : (pc : Int) + dflt = (tgt : Int)) (k : G l D R Z y tgt ls st σ kc ks) : G l D R Z y pc ls (.int a :: st) σ kc ks := by
  intro p e s m args below meth c H locs cells slots la hC h2 h3 h4 h5 h6 h7
  exact lv_tableOut hC.1 hC.2.1 (ft_ok hf).1 h ht (k p e s m args below meth c H locs cells slots la hC h2 h3 h4 h5 h6 h7)
theorem r_tswIn {dflt lo hi : Int} {offs : Array Int} {a : Int32} {off : Int} {tgt : Nat} (hf : ft y pc = some (.tableswitch dflt lo hi offs, n, x)) (h1 : ¬ a.toInt < lo) (h2' : ¬ hi < a.toInt) (ho : offs[(a.toInt - lo).toNat]? = some off) (ht : (pc : Int) + off = (tgt : Int)) (k : G l D R Z y tgt ls st σ kc ks) : G l D R Z y pc ls (.int a :: st) σ kc ks := by
  intro p e s m args below meth c H locs cells slots la hC h2 h3 h4 h5 h6 h7
  exact lv_tableIn hC.1 hC.2.1 (ft_ok hf).1 h1 h2' ho ht (k p e s m args below meth c H locs cells slots la hC h2 h3 h4 h5 h6 h7)
theorem r_lsw {dflt : Int} {ps : Array (Int × Int)} {a : Int32} {off : Int} {tgt : Nat} (hf : ft y pc = some (.lookupswitch dflt ps, n, x)) (hp : (ps.toList.zip (ps.toList.drop 1)).all (fun (a, next) => a.1 < next.1) = true) (ho : Op.lookupswitch.offset ps.toList dflt a.toInt = off) (ht : (pc : Int) + off = (tgt : Int)) (k : G l D R Z y tgt ls st σ kc ks) : G l D R Z y pc ls (.int a :: st) σ kc ks := by
  intro p e s m args below meth c H locs cells slots la hC h2 h3 h4 h5 h6 h7
  exact lv_lookup hC.1 hC.2.1 (ft_ok hf).1 hp ho ht (k p e s m args below meth c H locs cells slots la hC h2 h3 h4 h5 h6 h7)
end Rules
