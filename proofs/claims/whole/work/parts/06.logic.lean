/-! ===== the heap as the program sees it: size, kinds, int fields, reference fields, lengths, int rows, reference rows ===== -/
abbrev Hp : Type := Nat × (Nat → Nat) × (Nat → Nat → Int32) × (Nat → Nat → Option Nat) × (Nat → Nat) × (Nat → Nat → Int32) × (Nat → Nat → Option Nat)
def h_z (σ : Hp) : Nat := σ.1
def h_K (σ : Hp) : Nat → Nat := σ.2.1
def h_I (σ : Hp) : Nat → Nat → Int32 := σ.2.2.1
def h_P (σ : Hp) : Nat → Nat → Option Nat := σ.2.2.2.1
def h_L (σ : Hp) : Nat → Nat := σ.2.2.2.2.1
def h_X (σ : Hp) : Nat → Nat → Int32 := σ.2.2.2.2.2.1
def h_Y (σ : Hp) : Nat → Nat → Option Nat := σ.2.2.2.2.2.2
def u_1 {α : Type} (f : Nat → α) (a : Nat) (v : α) : Nat → α := fun b => if b = a then v else f b
def u_2 {α : Type} (f : Nat → Nat → α) (a b : Nat) (v : α) : Nat → Nat → α := fun x y => if x = a ∧ y = b then v else f x y
def w_I (σ : Hp) (f a : Nat) (v : Int32) : Hp := (h_z σ, h_K σ, u_2 (h_I σ) f a v, h_P σ, h_L σ, h_X σ, h_Y σ)
def w_P (σ : Hp) (f a : Nat) (v : Option Nat) : Hp := (h_z σ, h_K σ, h_I σ, u_2 (h_P σ) f a v, h_L σ, h_X σ, h_Y σ)
def w_X (σ : Hp) (a : Nat) (g : Nat → Int32) : Hp := (h_z σ, h_K σ, h_I σ, h_P σ, h_L σ, u_1 (h_X σ) a g, h_Y σ)
def w_Y (σ : Hp) (a : Nat) (g : Nat → Option Nat) : Hp := (h_z σ, h_K σ, h_I σ, h_P σ, h_L σ, h_X σ, u_1 (h_Y σ) a g)
/-- a new object of kind t -/
def n_O (σ : Hp) (t : Nat) : Hp := (h_z σ + 1, u_1 (h_K σ) (h_z σ) t, fun f a => if a = h_z σ then 0 else h_I σ f a, fun f a => if a = h_z σ then none else h_P σ f a, h_L σ, h_X σ, h_Y σ)
/-- a new row of kind t and length n -/
def n_A (σ : Hp) (t n : Nat) : Hp := (h_z σ + 1, u_1 (h_K σ) (h_z σ) t, h_I σ, h_P σ, u_1 (h_L σ) (h_z σ) n, u_1 (h_X σ) (h_z σ) (fun _ => 0), u_1 (h_Y σ) (h_z σ) (fun _ => none))
def fPrim (ty : FieldType) : Bool := match ty with
  | .object _ => false
  | .array _ => false
  | _ => true
def fV (σ : Hp) (ci a k : Nat) : Value := if fPrim (fTy ci k) = true then .int (h_I σ (64 * ci + k) a) else va_rf (h_P σ (64 * ci + k) a)
def aTy (t : Nat) : Option FieldType := match t with
  | 20 => some .byte
  | 21 => some .int
  | 22 => some .boolean
  | 30 => some (.object RX0)
  | 31 => some (.object RX1)
  | 32 => some (.object RX2)
  | 33 => some (.object RX3)
  | 34 => some (.object RX4)
  | 35 => some (.object RX8)
  | _ => none
/-- what stays the same through a run: the classes' numbers and slots, the rows' classes, the heap at the law's beginning, the script (its place, length, ints), the places of the three texts and of their bytes -/
abbrev DD : Type := va_G × (Nat → ClassId) × Heap × (Nat × Nat × (Nat → Int32)) × (Nat → Nat) × (Nat → Nat)
def d_A (D : DD) : Nat → ClassId := D.2.1
def d_H (D : DD) : Heap := D.2.2.1
def d_b (D : DD) : Nat := D.2.2.2.1.1
def d_L (D : DD) : Nat := D.2.2.2.1.2.1
def d_x (D : DD) : Nat → Int32 := D.2.2.2.1.2.2
def d_t (D : DD) : Nat → Nat := D.2.2.2.2.1
def d_v (D : DD) : Nat → Nat := D.2.2.2.2.2
def d_n (D : DD) : Nat := (d_H D).size
def Rp (D : DD) (σ : Hp) (H : Heap) : Prop :=
  H.size = h_z σ ∧ d_n D ≤ h_z σ ∧ (∀ q : Nat, q < d_n D → H[q]? = (d_H D)[q]?) ∧ (∀ a, h_K σ a ≠ 0 → d_n D ≤ a ∧ a < h_z σ) ∧
  (∀ a ci, ci < 12 → h_K σ a = ci + 1 → t_OB a (D.1.1 ci) (fN ci) (D.1.2 ci) H (fV σ ci a)) ∧
  (∀ a t, t < 3 → h_K σ a = 20 + t → H[a]? = some (arrV (d_A D (20 + t)) (h_L σ a) (fun j => .int (h_X σ a j))) ∧ (t = 0 → ∀ j, fits .byte (.int (h_X σ a j)) = true)) ∧
  (∀ a t, t < 6 → h_K σ a = 30 + t → H[a]? = some (arrV (d_A D (30 + t)) (h_L σ a) (fun j => va_rf (h_Y σ a j))))
def txB : List (List Int32) := [[99, 100, 109], [120, 108, 99], [105, 118, 120]]
def txI : List (Nat × String) := [(157, "cdm"), (163, "xlc"), (165, "ivx")]
def nstW : List Cond := [.methodLinkNest RX3 48 (mName 118) RX10, .methodLinkNest RX6 46 (mName 118) RX10, .methodLinkNest RX9 13 (mName 7) RX10]
def ovC : List String := [RX0, RX1, RX2, RX3, RX4, RX8]
def KK (D : DD) (U : State) : Prop :=
  (∀ ci, ci < 12 → u_Kn U (cnm ci) (fT ci) (fN ci) (D.1.1 ci) (D.1.2 ci)) ∧ (∀ t ty, aTy t = some ty → ArrOfT U (d_A D t) ty ∧ va_RA U (d_A D t) ty) ∧
  va_X (d_b D) (d_L D) (d_x D) U (d_H D) ∧ d_b D < d_n D ∧ vk_S 3 [3, 3, 3] txB (d_t D) (d_v D) (fun q => d_n D ≤ q) U (d_H D) ∧
  (∀ i q, txI[i]? = some q → vk_R RX5 q.1 q.2 (d_t D i) U) ∧ (va_Z "java/lang/String" "COMPACT_STRINGS" "Z" (.int 1) (fun q => d_n D ≤ q) U (d_H D) ∧ va_Zq "jdk/internal/util/Preconditions" "SIOOBE_FORMATTER" "Ljava/util/function/BiFunction;" (fun q => d_n D ≤ q) U (d_H D)) ∧ (∀ w ∈ nstW, va_Nw w U) ∧ ∀ C ∈ ovC, va_AO C U
theorem KK.same {D : DD} {u U : State} (hv : u.vm = U.vm) (h : KK D u) : KK D U := by
  obtain ⟨h1, h2, h3, h4, h5, h6, h7, h8, h9⟩ := h
  have hA : u.vm.Alike U.vm := by rw [hv]; exact Vm.Alike.refl _
  refine ⟨fun ci hc => u_Kn_moved hA (h1 ci hc), fun t ty ht => ⟨arrOfT_moved hA (h2 t ty ht).1, va_RA.moved hA (h2 t ty ht).2⟩, va_X.moved hA h3, h4, vk_S.moved hA h5, fun i q hq => vk_R.same hv.symm (h6 i q hq), ⟨va_Z.moved hA h7.1, va_Zq.moved hA h7.2⟩, fun w hw => ?_, fun C hC => va_AO.moved hA (h9 C hC)⟩
  refine va_Nw.same ?_ hv (h8 w hw)
  simp only [nstW, List.mem_cons, List.not_mem_nil, or_false] at hw
  rcases hw with rfl | rfl | rfl <;> rfl
theorem KK.warm {D : DD} {s U : State} (hW : s.WarmedH U.vm) (h : KK D s) : KK D U := by
  obtain ⟨h1, h2, h3, h4, h5, h6, h7, h8, h9⟩ := h
  have hA : s.vm.Alike U.vm := hW.alike
  refine ⟨fun ci hc => u_Kn_moved hA (h1 ci hc), fun t ty ht => ⟨arrOfT_moved hA (h2 t ty ht).1, va_RA.moved hA (h2 t ty ht).2⟩, va_X.moved hA h3, h4, vk_S.moved hA h5, fun i q hq => vk_R.warm hW (h6 i q hq), ⟨va_Z.moved hA h7.1, va_Zq.moved hA h7.2⟩, fun w hw => ?_, fun C hC => va_AO.moved hA (h9 C hC)⟩
  simp only [nstW, List.mem_cons, List.not_mem_nil, or_false] at hw
  rcases hw with rfl | rfl | rfl
  · exact va_Nw.warmM hW (h8 _ (by simp [nstW]))
  · exact va_Nw.warmM hW (h8 _ (by simp [nstW]))
  · exact va_Nw.warmM hW (h8 _ (by simp [nstW]))
/-! ===== a method's frame and its judgement ===== -/
def Lv (la : Array Slot) (ls : List (Option Value)) (n : Nat) : Prop := la.size = n ∧ ls.length = n ∧ lv_wf la ∧ ∀ (i : Nat) (v : Value), ls[i]? = some (some v) → la[i]? = some (.val v) ∧ v.category = 1
def Cx (y : Nat) (p : Program) (s : State) (m : MethodId) (args : Array Value) (meth : Method) (c : Code) : Prop :=
  p.tables.exec = Jvm.exec ∧ c.code = mCode y ∧ c.maxLocals = mLoc y ∧ s.vm.findClass (cnm (mCls y)) = some m.cls ∧ (∀ w ∈ TB, w.before args s = true) ∧ meth.sig.returnType = mRet y ∧ meth.locks = false ∧ meth.name = (mName y).name
def G (l : Launch) (D : DD) (R : Room) (Z : List Frame → Array Value → State → State → Prop) (y pc : Nat) (ls : List (Option Value)) (st : List Value) (σ : Hp) (kc ks : Nat) : Prop :=
  ∀ (p : Program) (e : Env) (s : State) (m : MethodId) (args : Array Value) (below : List Frame) (meth : Method) (c : Code) (H : Heap) (locs : List Loc) (cells slots : Nat) (la : Array Slot),
    Cx y p s m args meth c → KK D s → Rp D σ H → (∀ q ∈ locs, d_n D ≤ q.base) → cells + kc ≤ R.cells → slots + ks ≤ R.slots → Lv la ls (mLoc y) →
    W p l e R s m args below meth c H locs cells slots (Z below args s) (F0 m pc la st)
def rmY (y mc ms : Nat) : Room := { frames := mFr y, cells := mc, slots := ms, locals := mLw y }
def wsY (y : Nat) : List Cond := .code (mName y) (mCode y) (mLoc y) (mRet y) :: TB
def PcY (D : DD) (as : List Value) (σ : Hp) : Array Value → State → Prop := fun v U => v = as.toArray ∧ Rp D σ U.heap ∧ KK D U
def QcY (D : DD) (Q : Option Value → Hp → Prop) : Array Value → State → Outcome → State → Prop := fun _ _ o t => ∃ (r : Option Value) (τ : Hp), o = .returned r ∧ Q r τ ∧ Rp D τ t.heap
/-- method y, called with these values over this heap, returns with Q, in mc new cells of ms slots -/
def Cn (l : Launch) (D : DD) (y mc ms : Nat) (as : List Value) (σ : Hp) (Q : Option Value → Hp → Prop) : Prop :=
  Met l (mName y) (wsY y) (rmY y mc ms) (PcY D as σ) (QcY D Q) mc ms (fun q => d_n D ≤ q)
def ZM (D : DD) (mc ms : Nat) (Q : Option Value → Hp → Prop) : List Frame → Array Value → State → State → Prop := fun below args s => MQ below (QcY D Q) args s mc ms (fun q => d_n D ≤ q)
abbrev Gm (l : Launch) (D : DD) (y mc ms : Nat) (Q : Option Value → Hp → Prop) (pc : Nat) (ls : List (Option Value)) (st : List Value) (σ : Hp) (kc ks : Nat) : Prop := G l D (rmY y mc ms) (ZM D mc ms Q) y pc ls st σ kc ks
section Rules
variable {l : Launch} {D : DD} {R : Room} {Z : List Frame → Array Value → State → State → Prop} {y pc n x kc ks : Nat} {ls : List (Option Value)} {st : List Value} {σ : Hp}
theorem okn {a b : Bool} (h : (a && b) = true) : a = true ∧ b = true := by simpa using h
theorem r_iconst {i : Int} {v : Int32} (hf : ft y pc = some (.iconst i, n, x)) (hv : Int32.ofInt i = v) (k : G l D R Z y n ls (.int v :: st) σ kc ks) : G l D R Z y pc ls st σ kc ks := by
  intro p e s m args below meth c H locs cells slots la hC h2 h3 h4 h5 h6 h7
  obtain ⟨hd, hn⟩ := ft_ok hf
  have hn : n = pc + 1 := by simpa [okI] using hn
  subst hn
  rw [Nat.add_sub_cancel_left] at hd
  exact lv_iconst hC.1 hC.2.1 hd hv (k p e s m args below meth c H locs cells slots la hC h2 h3 h4 h5 h6 h7)
theorem r_iadd {a b : Int32} (hf : ft y pc = some (.iadd, n, x)) (k : G l D R Z y n ls (.int (a + b) :: st) σ kc ks) : G l D R Z y pc ls (.int b :: .int a :: st) σ kc ks := by
  intro p e s m args below meth c H locs cells slots la hC h2 h3 h4 h5 h6 h7
  obtain ⟨hd, hn⟩ := ft_ok hf
  have hn : n = pc + 1 := by simpa [okI] using hn
  subst hn
  rw [Nat.add_sub_cancel_left] at hd
  exact lv_iadd hC.1 hC.2.1 hd (k p e s m args below meth c H locs cells slots la hC h2 h3 h4 h5 h6 h7)
end Rules
