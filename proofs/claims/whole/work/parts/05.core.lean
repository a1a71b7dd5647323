/-! ===== the table of the methods ===== -/
def mrD : Mr := (⟨"", "", ""⟩, ByteArray.empty, 0, none, 0, [], (0, 0), (0, 0), [])
def mr (y : Nat) : Mr := MTL.getD y mrD
def mName (y : Nat) : MethodName := (mr y).1
def mCode (y : Nat) : ByteArray := (mr y).2.1
def mLoc (y : Nat) : Nat := (mr y).2.2.1
def mRet (y : Nat) : Option FieldType := (mr y).2.2.2.1
def mCls (y : Nat) : Nat := (mr y).2.2.2.2.1
def mIns (y : Nat) : List Ins := (mr y).2.2.2.2.2.1
def mFr (y : Nat) : Nat := (mr y).2.2.2.2.2.2.1.1
def mLw (y : Nat) : Nat := (mr y).2.2.2.2.2.2.1.2
def mKd (y : Nat) : Nat := (mr y).2.2.2.2.2.2.2.1.1
def mNa (y : Nat) : Nat := (mr y).2.2.2.2.2.2.2.1.2
def mWp (y : Nat) : List Nat := (mr y).2.2.2.2.2.2.2.2
def ftL : List Ins → Nat → Option (Instr × Nat × Nat)
  | [], _ => none
  | q :: r, pc => bif Nat.beq q.1 pc then some q.2 else ftL r pc
def ft (y pc : Nat) : Option (Instr × Nat × Nat) := ftL (mIns y) pc
theorem ftL_mem {L : List Ins} {pc : Nat} {q : Instr × Nat × Nat} (h : ftL L pc = some q) : (pc, q) ∈ L := by
  induction L with
  | nil => cases h
  | cons a r ih =>
    unfold ftL at h
    cases hb : Nat.beq a.1 pc with
    | true =>
      rw [hb] at h
      have e := Nat.eq_of_beq_eq_true hb
      have h2 : a.2 = q := Option.some.inj h
      rw [← h2, ← e]
      exact List.mem_cons_self
    | false =>
      rw [hb] at h
      exact List.mem_cons_of_mem _ (ih h)
theorem okL_step {oc : Nat} {b : ByteArray} {L : List Ins} {m k : Nat} (h1 : okL oc b ((L.drop m).take k) = true) (h2 : okL oc b (L.drop (m + k)) = true) : okL oc b (L.drop m) = true := by
  unfold okL at *
  rw [← List.take_append_drop k (L.drop m), List.all_append, h1, List.drop_drop, h2]
  rfl
theorem okL_193 : okL 14 code cd193 = true :=
  okL_step (m := 0) (k := 40) okLw_0 (okL_step okLw_1 (okL_step okLw_2 (okL_step okLw_3 (okL_step okLw_4 (okL_step okLw_5 (okL_step okLw_6 (okL_step okLw_7 (okL_step okLw_8 (okL_step okLw_9 (okL_step okLw_10 (okL_step okLw_11 (okL_step okLw_12 (okL_step okLw_13 (okL_step okLw_14 (okL_step okLw_15 (okL_step okLw_16 (okL_step okLw_17 (by decide +kernel))))))))))))))))))
set_option maxRecDepth 100000 in
theorem okAll : ∀ M ∈ MTL, okL M.2.2.2.2.1 M.2.1 M.2.2.2.2.2.1 = true := by
  unfold MTL
  exact List.forall_mem_cons.mpr ⟨okL_0, List.forall_mem_cons.mpr ⟨okL_1, List.forall_mem_cons.mpr ⟨okL_2, List.forall_mem_cons.mpr ⟨okL_3, List.forall_mem_cons.mpr ⟨okL_4, List.forall_mem_cons.mpr ⟨okL_5, List.forall_mem_cons.mpr ⟨okL_6, List.forall_mem_cons.mpr ⟨okL_7, List.forall_mem_cons.mpr ⟨okL_8, List.forall_mem_cons.mpr ⟨okL_9, List.forall_mem_cons.mpr ⟨okL_10, List.forall_mem_cons.mpr ⟨okL_11, List.forall_mem_cons.mpr ⟨okL_12, List.forall_mem_cons.mpr ⟨okL_13, List.forall_mem_cons.mpr ⟨okL_14, List.forall_mem_cons.mpr ⟨okL_15, List.forall_mem_cons.mpr ⟨okL_16, List.forall_mem_cons.mpr ⟨okL_17, List.forall_mem_cons.mpr ⟨okL_18, List.forall_mem_cons.mpr ⟨okL_19, List.forall_mem_cons.mpr ⟨okL_20, List.forall_mem_cons.mpr ⟨okL_21, List.forall_mem_cons.mpr ⟨okL_22, List.forall_mem_cons.mpr ⟨okL_23, List.forall_mem_cons.mpr ⟨okL_24, List.forall_mem_cons.mpr ⟨okL_25, List.forall_mem_cons.mpr ⟨okL_26, List.forall_mem_cons.mpr ⟨okL_27, List.forall_mem_cons.mpr ⟨okL_28, List.forall_mem_cons.mpr ⟨okL_29, List.forall_mem_cons.mpr ⟨okL_30, List.forall_mem_cons.mpr ⟨okL_31, List.forall_mem_cons.mpr ⟨okL_32, List.forall_mem_cons.mpr ⟨okL_33, List.forall_mem_cons.mpr ⟨okL_34, List.forall_mem_cons.mpr ⟨okL_35, List.forall_mem_cons.mpr ⟨okL_36, List.forall_mem_cons.mpr ⟨okL_37, List.forall_mem_cons.mpr ⟨okL_38, List.forall_mem_cons.mpr ⟨okL_39, List.forall_mem_cons.mpr ⟨okL_40, List.forall_mem_cons.mpr ⟨okL_41, List.forall_mem_cons.mpr ⟨okL_42, List.forall_mem_cons.mpr ⟨okL_43, List.forall_mem_cons.mpr ⟨okL_44, List.forall_mem_cons.mpr ⟨okL_45, List.forall_mem_cons.mpr ⟨okL_46, List.forall_mem_cons.mpr ⟨okL_47, List.forall_mem_cons.mpr ⟨okL_48, List.forall_mem_cons.mpr ⟨okL_49, List.forall_mem_cons.mpr ⟨okL_50, List.forall_mem_cons.mpr ⟨okL_51, List.forall_mem_cons.mpr ⟨okL_52, List.forall_mem_cons.mpr ⟨okL_53, List.forall_mem_cons.mpr ⟨okL_54, List.forall_mem_cons.mpr ⟨okL_55, List.forall_mem_cons.mpr ⟨okL_56, List.forall_mem_cons.mpr ⟨okL_57, List.forall_mem_cons.mpr ⟨okL_58, List.forall_mem_cons.mpr ⟨okL_59, List.forall_mem_cons.mpr ⟨okL_60, List.forall_mem_cons.mpr ⟨okL_61, List.forall_mem_cons.mpr ⟨okL_62, List.forall_mem_cons.mpr ⟨okL_63, List.forall_mem_cons.mpr ⟨okL_64, List.forall_mem_cons.mpr ⟨okL_65, List.forall_mem_cons.mpr ⟨okL_66, List.forall_mem_cons.mpr ⟨okL_67, List.forall_mem_cons.mpr ⟨okL_68, List.forall_mem_cons.mpr ⟨okL_69, List.forall_mem_cons.mpr ⟨okL_70, List.forall_mem_cons.mpr ⟨okL_71, List.forall_mem_cons.mpr ⟨okL_72, List.forall_mem_cons.mpr ⟨okL_73, List.forall_mem_cons.mpr ⟨okL_74, List.forall_mem_cons.mpr ⟨okL_75, List.forall_mem_cons.mpr ⟨okL_76, List.forall_mem_cons.mpr ⟨okL_77, List.forall_mem_cons.mpr ⟨okL_78, List.forall_mem_cons.mpr ⟨okL_79, List.forall_mem_cons.mpr ⟨okL_80, List.forall_mem_cons.mpr ⟨okL_81, List.forall_mem_cons.mpr ⟨okL_82, List.forall_mem_cons.mpr ⟨okL_83, List.forall_mem_cons.mpr ⟨okL_84, List.forall_mem_cons.mpr ⟨okL_85, List.forall_mem_cons.mpr ⟨okL_86, List.forall_mem_cons.mpr ⟨okL_87, List.forall_mem_cons.mpr ⟨okL_88, List.forall_mem_cons.mpr ⟨okL_89, List.forall_mem_cons.mpr ⟨okL_90, List.forall_mem_cons.mpr ⟨okL_91, List.forall_mem_cons.mpr ⟨okL_92, List.forall_mem_cons.mpr ⟨okL_93, List.forall_mem_cons.mpr ⟨okL_94, List.forall_mem_cons.mpr ⟨okL_95, List.forall_mem_cons.mpr ⟨okL_96, List.forall_mem_cons.mpr ⟨okL_97, List.forall_mem_cons.mpr ⟨okL_98, List.forall_mem_cons.mpr ⟨okL_99, List.forall_mem_cons.mpr ⟨okL_100, List.forall_mem_cons.mpr ⟨okL_101, List.forall_mem_cons.mpr ⟨okL_102, List.forall_mem_cons.mpr ⟨okL_103, List.forall_mem_cons.mpr ⟨okL_104, List.forall_mem_cons.mpr ⟨okL_105, List.forall_mem_cons.mpr ⟨okL_106, List.forall_mem_cons.mpr ⟨okL_107, List.forall_mem_cons.mpr ⟨okL_108, List.forall_mem_cons.mpr ⟨okL_109, List.forall_mem_cons.mpr ⟨okL_110, List.forall_mem_cons.mpr ⟨okL_111, List.forall_mem_cons.mpr ⟨okL_112, List.forall_mem_cons.mpr ⟨okL_113, List.forall_mem_cons.mpr ⟨okL_114, List.forall_mem_cons.mpr ⟨okL_115, List.forall_mem_cons.mpr ⟨okL_116, List.forall_mem_cons.mpr ⟨okL_117, List.forall_mem_cons.mpr ⟨okL_118, List.forall_mem_cons.mpr ⟨okL_119, List.forall_mem_cons.mpr ⟨okL_120, List.forall_mem_cons.mpr ⟨okL_121, List.forall_mem_cons.mpr ⟨okL_122, List.forall_mem_cons.mpr ⟨okL_123, List.forall_mem_cons.mpr ⟨okL_124, List.forall_mem_cons.mpr ⟨okL_125, List.forall_mem_cons.mpr ⟨okL_126, List.forall_mem_cons.mpr ⟨okL_127, List.forall_mem_cons.mpr ⟨okL_128, List.forall_mem_cons.mpr ⟨okL_129, List.forall_mem_cons.mpr ⟨okL_130, List.forall_mem_cons.mpr ⟨okL_131, List.forall_mem_cons.mpr ⟨okL_132, List.forall_mem_cons.mpr ⟨okL_133, List.forall_mem_cons.mpr ⟨okL_134, List.forall_mem_cons.mpr ⟨okL_135, List.forall_mem_cons.mpr ⟨okL_136, List.forall_mem_cons.mpr ⟨okL_137, List.forall_mem_cons.mpr ⟨okL_138, List.forall_mem_cons.mpr ⟨okL_139, List.forall_mem_cons.mpr ⟨okL_140, List.forall_mem_cons.mpr ⟨okL_141, List.forall_mem_cons.mpr ⟨okL_142, List.forall_mem_cons.mpr ⟨okL_143, List.forall_mem_cons.mpr ⟨okL_144, List.forall_mem_cons.mpr ⟨okL_145, List.forall_mem_cons.mpr ⟨okL_146, List.forall_mem_cons.mpr ⟨okL_147, List.forall_mem_cons.mpr ⟨okL_148, List.forall_mem_cons.mpr ⟨okL_149, List.forall_mem_cons.mpr ⟨okL_150, List.forall_mem_cons.mpr ⟨okL_151, List.forall_mem_cons.mpr ⟨okL_152, List.forall_mem_cons.mpr ⟨okL_153, List.forall_mem_cons.mpr ⟨okL_154, List.forall_mem_cons.mpr ⟨okL_155, List.forall_mem_cons.mpr ⟨okL_156, List.forall_mem_cons.mpr ⟨okL_157, List.forall_mem_cons.mpr ⟨okL_158, List.forall_mem_cons.mpr ⟨okL_159, List.forall_mem_cons.mpr ⟨okL_160, List.forall_mem_cons.mpr ⟨okL_161, List.forall_mem_cons.mpr ⟨okL_162, List.forall_mem_cons.mpr ⟨okL_163, List.forall_mem_cons.mpr ⟨okL_164, List.forall_mem_cons.mpr ⟨okL_165, List.forall_mem_cons.mpr ⟨okL_166, List.forall_mem_cons.mpr ⟨okL_167, List.forall_mem_cons.mpr ⟨okL_168, List.forall_mem_cons.mpr ⟨okL_169, List.forall_mem_cons.mpr ⟨okL_170, List.forall_mem_cons.mpr ⟨okL_171, List.forall_mem_cons.mpr ⟨okL_172, List.forall_mem_cons.mpr ⟨okL_173, List.forall_mem_cons.mpr ⟨okL_174, List.forall_mem_cons.mpr ⟨okL_175, List.forall_mem_cons.mpr ⟨okL_176, List.forall_mem_cons.mpr ⟨okL_177, List.forall_mem_cons.mpr ⟨okL_178, List.forall_mem_cons.mpr ⟨okL_179, List.forall_mem_cons.mpr ⟨okL_180, List.forall_mem_cons.mpr ⟨okL_181, List.forall_mem_cons.mpr ⟨okL_182, List.forall_mem_cons.mpr ⟨okL_183, List.forall_mem_cons.mpr ⟨okL_184, List.forall_mem_cons.mpr ⟨okL_185, List.forall_mem_cons.mpr ⟨okL_186, List.forall_mem_cons.mpr ⟨okL_187, List.forall_mem_cons.mpr ⟨okL_188, List.forall_mem_cons.mpr ⟨okL_189, List.forall_mem_cons.mpr ⟨okL_190, List.forall_mem_cons.mpr ⟨okL_191, List.forall_mem_cons.mpr ⟨okL_192, List.forall_mem_cons.mpr ⟨okL_193, fun _ h => absurd h List.not_mem_nil⟩⟩⟩⟩⟩⟩⟩⟩⟩⟩⟩⟩⟩⟩⟩⟩⟩⟩⟩⟩⟩⟩⟩⟩⟩⟩⟩⟩⟩⟩⟩⟩⟩⟩⟩⟩⟩⟩⟩⟩⟩⟩⟩⟩⟩⟩⟩⟩⟩⟩⟩⟩⟩⟩⟩⟩⟩⟩⟩⟩⟩⟩⟩⟩⟩⟩⟩⟩⟩⟩⟩⟩⟩⟩⟩⟩⟩⟩⟩⟩⟩⟩⟩⟩⟩⟩⟩⟩⟩⟩⟩⟩⟩⟩⟩⟩⟩⟩⟩⟩⟩⟩⟩⟩⟩⟩⟩⟩⟩⟩⟩⟩⟩⟩⟩⟩⟩⟩⟩⟩⟩⟩⟩⟩⟩⟩⟩⟩⟩⟩⟩⟩⟩⟩⟩⟩⟩⟩⟩⟩⟩⟩⟩⟩⟩⟩⟩⟩⟩⟩⟩⟩⟩⟩⟩⟩⟩⟩⟩⟩⟩⟩⟩⟩⟩⟩⟩⟩⟩⟩⟩⟩⟩⟩⟩⟩⟩⟩⟩⟩⟩⟩⟩⟩⟩⟩⟩⟩⟩⟩⟩⟩⟩⟩
theorem mr_in {y : Nat} (h : mIns y ≠ []) : mr y ∈ MTL := by
  unfold mr
  by_cases hy : y < MTL.length
  · rw [List.getD_eq_getElem?_getD, List.getElem?_eq_getElem hy]
    exact List.getElem_mem hy
  · exfalso
    apply h
    unfold mIns mr
    rw [List.getD_eq_getElem?_getD, List.getElem?_eq_none (by omega)]
    rfl
theorem ft_ok {y pc n x : Nat} {i : Instr} (h : ft y pc = some (i, n, x)) : decode (mCode y) pc = .ok (i, n - pc) ∧ okI (mCls y) pc i n x = true := by
  have hm := ftL_mem h
  have hin := mr_in (y := y) (fun e => by rw [e] at hm; cases hm)
  have hk := okAll (mr y) hin
  have h2 := List.all_eq_true.mp hk _ hm
  change (match decode (mCode y) pc with
    | .ok (i', n') => decide (i' = i) && (pc + n' == n) && okI (mCls y) pc i n x
    | .error _ => false) = true at h2
  cases hd : decode (mCode y) pc with
  | error e => rw [hd] at h2; cases h2
  | ok v =>
    obtain ⟨i', n'⟩ := v
    rw [hd] at h2
    simp only [Bool.and_eq_true, decide_eq_true_eq, beq_iff_eq] at h2
    obtain ⟨⟨h3, h4⟩, h5⟩ := h2
    subst h3
    have h6 : n - pc = n' := by omega
    rw [h6]
    exact ⟨rfl, h5⟩
/-! ===== the words ===== -/
theorem fLk_all : fLk.map fLkW = fLkI.filterMap (fun i => lw_tbl[i]?) := by decide +kernel
theorem fLk_good : (fLk.map fLkW).all goodWord = true := by decide +kernel
theorem fLk_rng : fLk.all (fun q => decide (q.2 / 64 < 12) && decide (q.2 % 64 < fN (q.2 / 64))) = true := by decide +kernel
theorem in_TB {ws : List Cond} {ps : List Nat} (h1 : ws = ps.filterMap (fun i => lw_tbl[i]?)) (h2 : ws.all goodWord = true) : ∀ w ∈ ws, w ∈ TB := by
  intro w hw
  refine List.mem_filter.mpr ⟨?_, List.all_eq_true.mp h2 w hw⟩
  rw [h1] at hw
  obtain ⟨i, -, hi⟩ := List.mem_filterMap.mp hw
  exact List.mem_of_getElem? hi
theorem fLk_in {q : Nat × Nat} (h : fLk.contains q = true) : fLkW q ∈ TB ∧ q.2 / 64 < 12 ∧ q.2 % 64 < fN (q.2 / 64) := by
  have hm : q ∈ fLk := by simpa using h
  have h2 := List.all_eq_true.mp fLk_rng q hm
  simp only [Bool.and_eq_true, decide_eq_true_eq] at h2
  exact ⟨in_TB fLk_all fLk_good _ (List.mem_map.mpr ⟨q, hm, rfl⟩), h2.1, h2.2⟩
theorem vw_at {ci : Nat} (h : ci < 12) : vwCl[ci]? = some (cnm ci, fT ci, fN ci) := by
  match ci, h with
  | 0, _ => rfl
  | 1, _ => rfl
  | 2, _ => rfl
  | 3, _ => rfl
  | 4, _ => rfl
  | 5, _ => rfl
  | 6, _ => rfl
  | 7, _ => rfl
  | 8, _ => rfl
  | 9, _ => rfl
  | 10, _ => rfl
  | 11, _ => rfl
theorem vw_in {ci : Nat} (h : ci < 12) : ∀ w ∈ u_ws (cnm ci) (fT ci) (fN ci), w ∈ TB := by
  match ci, h with
  | 0, _ => decide +kernel
  | 1, _ => decide +kernel
  | 2, _ => decide +kernel
  | 3, _ => decide +kernel
  | 4, _ => decide +kernel
  | 5, _ => decide +kernel
  | 6, _ => decide +kernel
  | 7, _ => decide +kernel
  | 8, _ => decide +kernel
  | 9, _ => decide +kernel
  | 10, _ => decide +kernel
  | 11, _ => decide +kernel
theorem vw_ty {ci : Nat} (h : ci < 12) : ∀ k, k < fN ci → parseFieldDescriptor (fT ci k).2.2.1 = some (fTy ci k) := by
  match ci, h with
  | 0, _ => exact tyX0_ok
  | 1, _ => exact tyX1_ok
  | 2, _ => exact tyX2_ok
  | 3, _ => exact tyX3_ok
  | 4, _ => exact tyX4_ok
  | 5, _ => exact tyX5_ok
  | 6, _ => exact tyX6_ok
  | 7, _ => exact tyX7_ok
  | 8, _ => exact tyX8_ok
  | 9, _ => exact tyX9_ok
  | 10, _ => exact tyX10_ok
  | 11, _ => exact tyX11_ok
theorem vw_nm {ci : Nat} (h : ci < 12) : ∀ a, a < fN ci → ∀ b, b < fN ci → a ≠ b → (fT ci a).2.1 ≠ (fT ci b).2.1 := by
  match ci, h with
  | 0, _ => exact nmX0
  | 1, _ => exact nmX1
  | 2, _ => exact nmX2
  | 3, _ => exact nmX3
  | 4, _ => exact nmX4
  | 5, _ => exact nmX5
  | 6, _ => exact nmX6
  | 7, _ => exact nmX7
  | 8, _ => exact nmX8
  | 9, _ => exact nmX9
  | 10, _ => exact nmX10
  | 11, _ => exact nmX11
