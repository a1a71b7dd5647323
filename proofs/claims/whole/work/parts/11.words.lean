/-! ===== new cells, calls, ends ===== -/
def mnm (c : Nat) : MethodName := if c = 900 then Lib.objectInit else if c = 901 then arraycopyName else if c = 902 then ⟨"java/lang/String", "charAt", "(I)C"⟩ else mName c
def mLkW (q : Nat × Nat) : Cond := .methodLink (cnm (q.1 / 1024)) (q.1 % 1024) (mnm q.2)
theorem mLk_all : mLk.map mLkW = mLkI.filterMap (fun i => lw_tbl[i]?) := by decide +kernel
theorem mLk_good : (mLk.map mLkW).all goodWord = true := by decide +kernel
theorem mLk_in {q : Nat × Nat} (h : mLk.contains q = true) : mLkW q ∈ TB := in_TB mLk_all mLk_good _ (List.mem_map.mpr ⟨q, by simpa using h, rfl⟩)
def cLkW (q : Nat × Nat) : Cond := .classLink (cnm (q.1 / 1024)) (q.1 % 1024) (cnm q.2)
theorem cLk_all : cLk.map cLkW = cLkI.filterMap (fun i => lw_tbl[i]?) := by decide +kernel
theorem cLk_good : (cLk.map cLkW).all goodWord = true := by decide +kernel
theorem cLk_rng : cLk.all (fun q => decide (q.2 < 12)) = true := by decide +kernel
theorem cLk_in {q : Nat × Nat} (h : cLk.contains q = true) : cLkW q ∈ TB ∧ q.2 < 12 := by
  have hm : q ∈ cLk := by simpa using h
  exact ⟨in_TB cLk_all cLk_good _ (List.mem_map.mpr ⟨q, hm, rfl⟩), of_decide_eq_true (List.all_eq_true.mp cLk_rng q hm)⟩
theorem inst_in {ci : Nat} (h : ci < 12) : Cond.instantiable (cnm ci) (fN ci) ∈ TB ∧ Cond.initialized (cnm ci) ∈ TB := by
  match ci, h with
  | 0, _ => decide +kernel
  | 1, _ => decide +kernel
  | 2, _ => decide +kernel
  | 3, _ => decide +kernel
  | 4, _ => decide +kernel
  | 5, _ => decide +kernel
  | 6, _ => decide +kernel
  | 7, _ => decide +kernel
  | 8, _ => decide +kernel
  | 9, _ => decide +kernel
  | 10, _ => decide +kernel
  | 11, _ => decide +kernel
theorem arr_in : Cond.arrayClass .byte ∈ TB ∧ Cond.arrayClass .int ∈ TB ∧ Cond.arrayClass .boolean ∈ TB := by decide +kernel
theorem over_in {t : Nat} (h : t < 6) : cnm (aCl t) ∈ ovC := by
  match t, h with
  | 0, _ => decide
  | 1, _ => decide
  | 2, _ => decide
  | 3, _ => decide
  | 4, _ => decide
  | 5, _ => decide
theorem obj_in : Cond.instanceMethod Lib.objectInit ∈ TB ∧ Cond.code Lib.objectInit ⟨#[0xb1]⟩ 1 none ∈ TB := by decide +kernel
theorem cpy_in : Cond.native arraycopyName ∈ TB ∧ Cond.static arraycopyName ∈ TB ∧ Cond.initialized "java/lang/System" ∈ TB := by decide +kernel
def mWords (y : Nat) : List Cond := .code (mName y) (mCode y) (mLoc y) (mRet y) :: .initialized (mName y).cls :: (if mKd y = 1 then [.static (mName y)] else if mKd y = 2 then [.instanceMethod (mName y)] else [.instanceMethod (mName y), .selects (mName y).cls (mName y) (mName y)])
def mChk (y : Nat) : Bool := plainFor (mName y) && decide ((mName y).cls ≠ "java/lang/invoke/MethodHandle") && decide ((mName y).cls ≠ "java/lang/invoke/VarHandle") && decide ((parseMethodDescriptor (mName y).desc).map (fun d => d.parameters.length) = some (mNa y)) && decide (cnm (mCls y) = (mName y).cls) && (if mKd y = 2 then decide ((mName y).name = "<init>" ∧ mRet y = none) else true) && (mWords y).all goodWord
theorem mChk_all : (List.range 193).all mChk = true := by decide +kernel
set_option maxRecDepth 100000 in
theorem mWords_all : (List.range 193).map mWords = (List.range 193).map (fun y => (mWp y).filterMap (fun i => lw_tbl[i]?)) := by rfl
theorem mOK {y : Nat} (h : y < 193) : (∀ w ∈ mWords y, w ∈ TB) ∧ plainFor (mName y) = true ∧ ((mName y).cls ≠ "java/lang/invoke/MethodHandle" ∧ (mName y).cls ≠ "java/lang/invoke/VarHandle") ∧ (parseMethodDescriptor (mName y).desc).map (fun d => d.parameters.length) = some (mNa y) ∧ cnm (mCls y) = (mName y).cls ∧ (mKd y = 2 → (mName y).name = "<init>" ∧ mRet y = none) := by
  have h1 := List.all_eq_true.mp mChk_all y (List.mem_range.mpr h)
  unfold mChk at h1
  obtain ⟨h1, h7⟩ := okn h1
  obtain ⟨h1, h6⟩ := okn h1
  obtain ⟨h1, h5⟩ := okn h1
  obtain ⟨h1, h4⟩ := okn h1
  obtain ⟨h1, h3⟩ := okn h1
  obtain ⟨h1, h2⟩ := okn h1
  have e : mWords y = (mWp y).filterMap (fun i => lw_tbl[i]?) := by
    have hy : y < (List.range 193).length := by rw [List.length_range]; exact h
    have := congrArg (fun L => L[y]?) mWords_all
    simp only [List.getElem?_map, List.getElem?_range h, Option.map_some] at this
    exact Option.some.inj this
  refine ⟨in_TB e h7, h1, ⟨of_decide_eq_true h2, of_decide_eq_true h3⟩, of_decide_eq_true h4, of_decide_eq_true h5, fun hk => ?_⟩
  rw [if_pos hk] at h6
  exact of_decide_eq_true h6
