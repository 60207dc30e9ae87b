/-! ===== THE ENGINE, second half: the one world (137 cells), V (from here on the method comes to its end), Cl (a call), a row an instruction. Printed by wip/whole/gen/mk04.py ===== -/
set_option maxRecDepth 10000 in
def shp : List (Nat × Nat × Nat) := [(0, 10, 16), (1, 16, 0), (5, 2, 0), (0, 5, 9), (2, 600, 0), (0, 0, 14), (4, 16, 0), (1, 16, 0), (4, 96, 0), (1, 16, 0), (1, 16, 0), (1, 16, 0), (1, 60, 0), (1, 60, 0), (1, 60, 0), (1, 60, 0), (3, 60, 0), (0, 0, 14), (4, 16, 0), (1, 16, 0), (4, 96, 0), (1, 16, 0), (1, 16, 0), (1, 16, 0), (1, 60, 0), (1, 60, 0), (1, 60, 0), (1, 60, 0), (3, 60, 0), (0, 0, 14), (4, 16, 0), (1, 16, 0), (4, 96, 0), (1, 16, 0), (1, 16, 0), (1, 16, 0), (1, 60, 0), (1, 60, 0), (1, 60, 0), (1, 60, 0), (3, 60, 0), (0, 0, 14), (4, 16, 0), (1, 16, 0), (4, 96, 0), (1, 16, 0), (1, 16, 0), (1, 16, 0), (1, 60, 0), (1, 60, 0), (1, 60, 0), (1, 60, 0), (3, 60, 0), (0, 4, 4), (0, 6, 2), (1, 16, 0), (4, 16, 0), (0, 6, 2), (1, 16, 0), (4, 16, 0), (0, 7, 4), (1, 60, 0), (1, 60, 0), (3, 60, 0), (0, 8, 7), (2, 3072, 0), (2, 40, 0), (0, 8, 7), (2, 0, 0), (2, 40, 0), (0, 7, 4), (1, 60, 0), (1, 60, 0), (3, 60, 0), (0, 7, 4), (1, 60, 0), (1, 60, 0), (3, 60, 0), (0, 2, 2), (4, 16, 0), (4, 16, 0), (0, 3, 7), (1, 10, 0), (1, 10, 0), (1, 10, 0), (0, 1, 5), (1, 16, 0), (1, 48, 0), (1, 48, 0), (1, 3417, 0), (0, 9, 4), (1, 20, 0), (1, 20, 0), (1, 441, 0), (0, 11, 67), (1, 16, 0), (1, 112, 0), (1, 1344, 0), (1, 16, 0), (1, 16, 0), (1, 16, 0), (1, 60, 0), (1, 60, 0), (1, 60, 0), (1, 60, 0), (3, 60, 0), (1, 600, 0), (1, 102, 0), (1, 16, 0), (1, 20000, 0), (1, 48, 0), (1, 102, 0), (1, 10, 0), (1, 10, 0), (1, 10, 0), (1, 3417, 0), (1, 3417, 0), (1, 3417, 0), (1, 20, 0), (1, 20, 0), (1, 441, 0), (1, 6, 0), (1, 3, 0), (1, 48, 0), (1, 336, 0), (1, 4032, 0), (1, 48, 0), (1, 48, 0), (1, 48, 0), (1, 3, 0), (1, 180, 0), (1, 180, 0), (1, 180, 0), (1, 180, 0), (3, 180, 0), (3, 3, 0), (1, 102, 0)]
def fkT : List (List Nat) := [[0, 1, 1, 1, 1, 1, 1, 0, 1, 1, 1, 1, 1, 3], [0, 1, 1, 1, 1], [1, 1], [0, 0, 0, 0, 1, 1, 1], [1, 1, 0, 1], [0, 0, 0, 1, 0, 2, 0, 0, 0], [1, 1], [0, 1, 1, 1], [1, 0, 0, 0, 0, 1, 0], [0, 1, 1, 1], [1, 2, 1, 0, 0, 1, 1, 1, 1, 3, 1, 1, 1, 1, 1, 1], [0, 1, 1, 1, 1, 1, 1, 0, 1, 1, 1, 1, 1, 1, 0, 0, 0, 0, 0, 0, 0, 0, 0, 1, 0, 0, 3, 0, 0, 1, 1, 0, 0, 3, 1, 0, 0, 1, 0, 0, 0, 1, 1, 1, 1, 1, 1, 0, 1, 1, 1, 1, 1, 1, 1, 1, 1, 1, 1, 1, 1, 1, 1, 1, 1, 1, 1]]
def soT : List (List Nat) := [[0, 1, 2, 3, 4, 5, 6, 0, 7, 8, 9, 10, 11, 0], [0, 1, 2, 3, 4], [1, 2], [0, 0, 0, 0, 1, 2, 3], [54, 57, 0, 60], [0, 0, 0, 1, 0, 0, 0, 0, 0], [1, 2], [0, 1, 2, 3], [1, 0, 0, 0, 0, 2, 0], [0, 1, 2, 3], [3, 0, 2, 0, 0, 53, 64, 67, 1, 0, 70, 74, 78, 81, 85, 90], [0, 1, 2, 3, 4, 5, 6, 0, 7, 8, 9, 10, 11, 12, 0, 0, 0, 0, 0, 0, 0, 0, 0, 13, 0, 0, 0, 0, 0, 14, 15, 0, 0, 0, 16, 0, 0, 17, 0, 0, 0, 18, 19, 20, 21, 22, 23, 0, 24, 25, 26, 27, 28, 29, 30, 31, 32, 33, 34, 35, 36, 37, 38, 39, 40, 41, 42]]
def fkd (c j : Nat) : Nat := (fkT.getD c []).getD j 0
def sof (c k j : Nat) : Nat := if c = 10 ∨ c = 4 then (soT.getD c []).getD j 0 else k + (soT.getD c []).getD j 0
def imT (j : Nat) : Nat := if j = 0 then 17 else 29
def slen : List Nat := [2, 6, 11, 6, 4, 5, 4, 4, 3]
def sbyt : List (List Int32) := [[32, 32], [32, 32, 115, 101, 101, 32], [32, 32, 115, 101, 101, 32, 97, 108, 115, 111, 32], [44, 32, 115, 101, 101, 32], [97, 108, 115, 111], [97, 115, 107, 101, 100], [109, 97, 105, 110], [109, 97, 114, 107], [115, 101, 101]]
def nestW : List (String × Nat × MethodName × String) := [("BackPages", 9, ⟨"BackPages$Reader", "<init>", "()V"⟩, "BackPages"), ("BackPages$Reader", 30, ⟨"BackPages$Book", "<init>", "()V"⟩, "BackPages"), ("BackPages", 18, ⟨"BackPages$Book", "<init>", "()V"⟩, "BackPages"), ("BackPages", 36, ⟨"BackPages$Press", "<init>", "()V"⟩, "BackPages"), ("BackPages$Press", 11, ⟨"BackPages$Row", "<init>", "()V"⟩, "BackPages"), ("BackPages$Press", 27, ⟨"BackPages$Runs", "<init>", "()V"⟩, "BackPages"), ("BackPages", 63, ⟨"BackPages$Runs", "<init>", "()V"⟩, "BackPages"), ("BackPages", 73, ⟨"BackPages$Pages", "<init>", "()V"⟩, "BackPages"), ("BackPages", 80, ⟨"BackPages$Poster", "<init>", "()V"⟩, "BackPages"), ("BackPages", 87, ⟨"BackPages$Fitter", "<init>", "()V"⟩, "BackPages"), ("BackPages", 94, ⟨"BackPages$Story", "<init>", "()V"⟩, "BackPages"), ("BackPages$Reader", 138, ⟨"BackPages", "isIn", "(II)Z"⟩, "BackPages"), ("BackPages$Press", 82, ⟨"BackPages", "isIn", "(II)Z"⟩, "BackPages"), ("BackPages$Book", 81, ⟨"BackPages", "isIn", "(II)Z"⟩, "BackPages"), ("BackPages$Pages", 40, ⟨"BackPages", "isIn", "(II)Z"⟩, "BackPages"), ("BackPages$Poster", 47, ⟨"BackPages", "isIn", "(II)Z"⟩, "BackPages")]
def strR : List (String × Nat × String × Nat) := [("BackPages$Reader", 92, "mark", 7), ("BackPages$Reader", 98, "see", 8), ("BackPages$Reader", 100, "also", 4), ("BackPages$Reader", 102, "asked", 5), ("BackPages$Reader", 128, "main", 6), ("BackPages$Press", 86, "  ", 0), ("BackPages$Press", 96, "  see ", 1), ("BackPages$Press", 102, ", see ", 3), ("BackPages$Press", 138, "  see also ", 2)]
def up (σ : Sg) (k : Nat) (i v : Int) : Sg := st σ k (pt (σ k) i v)
theorem up_o {σ : Sg} {k a : Nat} {i v j : Int} (h : a ≠ k) : up σ k i v a j = σ a j := congrFun (st_ne h) j
theorem up_r {σ : Sg} {k a : Nat} {i v : Int} (h : a ≠ k) : up σ k i v a = σ a := st_ne h
theorem up_f {σ : Sg} {k : Nat} {i v j : Int} (h : j ≠ i) : up σ k i v k j = σ k j := by unfold up; rw [st_self, pt_ne h]
theorem up_s {σ : Sg} {k : Nat} {i v : Int} : up σ k i v k i = v := by unfold up; rw [st_self, pt_self]
theorem up_k {σ : Sg} {k : Nat} {i v : Int} : up σ k i v k = pt (σ k) i v := st_self
theorem SubL_0 {b : Lc} : SubL [] b := trivial
theorem SubL_n {a b : Lc} {x : Option MV} (h : SubL a b) : SubL (none :: a) (x :: b) := h
theorem SubL_e {a : Lc} (h : SubL a []) : SubL (none :: a) [] := h
theorem SubL_s {a b : Lc} {v : MV} (h : SubL a b) : SubL (some v :: a) (some v :: b) := ⟨rfl, h⟩
def fldV (ad : Nat → Nat) (row : Int → Int) (c k j : Nat) : Value := match fkd c j with
  | 1 => .ref (ad (sof c k j))
  | 2 => .ref (ad (row j).toNat)
  | _ => .int (iI (row j))
def cellE (ad : Nat → Nat) (dA : Nat → ClassId) (row : Int → Int) (k : Nat) (q : Nat × Nat × Nat) : va_E := match q.1 with
  | 0 => .inr (q.2.1, (List.range q.2.2).map (fldV ad row q.2.1 k))
  | 4 => .inl (dA 4, q.2.1, .inr (.inl (fun j => lI (row j))))
  | 5 => .inl (dA 5, q.2.1, .inr (.inr (.inr (.inr (fun j => some (ad (imT j)))))))
  | t => .inl (dA t, q.2.1, .inl (fun j => iI (row j)))
def wl (ad : Nat → Nat) (dA : Nat → ClassId) (σ : Sg) : va_W := (List.range 137).map (fun k => (ad k, cellE ad dA (σ k) k (shp.getD k (9, 0, 0))))
theorem shp_len : shp.length = 137 := by decide +kernel
theorem shp_lt {k : Nat} {q : Nat × Nat × Nat} (h : shp[k]? = some q) : k < 137 := by
  have := (List.getElem?_eq_some_iff.mp h).1
  rw [shp_len] at this
  exact this
theorem shp_small {k : Nat} {q : Nat × Nat × Nat} (h : shp[k]? = some q) : q.2.1 < 2147483648 := by
  have : ∀ q ∈ shp, q.2.1 < 2147483648 := by decide +kernel
  exact this q (List.mem_of_getElem? h)
theorem wl_get {ad : Nat → Nat} {dA : Nat → ClassId} {σ : Sg} {k : Nat} {q : Nat × Nat × Nat} (h : shp[k]? = some q) : (wl ad dA σ)[k]? = some (ad k, cellE ad dA (σ k) k q) := by
  unfold wl
  rw [List.getElem?_map, List.getElem?_range (shp_lt h), Option.map_some, List.getD_eq_getElem?_getD, h]
  rfl
theorem wl_set {ad : Nat → Nat} {dA : Nat → ClassId} {σ : Sg} {k : Nat} {q : Nat × Nat × Nat} (h : shp[k]? = some q) (f : Int → Int) : (wl ad dA σ).set k (ad k, cellE ad dA f k q) = wl ad dA (st σ k f) := by
  apply List.ext_getElem?
  intro i
  by_cases hi : k = i
  · subst hi
    have hlen : k < (wl ad dA σ).length := by unfold wl; simp; exact shp_lt h
    rw [List.getElem?_set_self hlen, wl_get h, st_self]
  · rw [List.getElem?_set_ne hi]
    unfold wl
    rw [List.getElem?_map, List.getElem?_map]
    by_cases h2 : i < 137
    · rw [List.getElem?_range h2]
      simp only [Option.map_some]
      rw [st_ne (fun z => hi z.symm)]
    · rw [List.getElem?_eq_none (by simp; omega)]
      rfl
/-- the cells are apart -/
def Ap (ad : Nat → Nat) : Prop := ∀ i j : Nat, i < 137 → j < 137 → ad i = ad j → i = j
def inA (ad : Nat → Nat) : Nat → Prop := fun q => ∃ k, k < 137 ∧ q = ad k
theorem wl_D {ad : Nat → Nat} {dA : Nat → ClassId} {σ : Sg} {A : Nat → Prop} (hA : Ap ad) (h : ∀ k, k < 137 → A (ad k)) : va_D A (wl ad dA σ) := by
  have key : ∀ (k : Nat) (q : Nat × va_E), (wl ad dA σ)[k]? = some q → k < 137 ∧ q.1 = ad k := by
    intro k q hk
    unfold wl at hk
    rw [List.getElem?_map] at hk
    by_cases h2 : k < 137
    · rw [List.getElem?_range h2] at hk
      cases hk
      exact ⟨h2, rfl⟩
    · rw [List.getElem?_eq_none (by simp; omega)] at hk
      cases hk
  refine ⟨fun i j x y hi hj hxy => ?_, fun k q hk => ?_⟩
  · obtain ⟨a1, a2⟩ := key i x hi
    obtain ⟨b1, b2⟩ := key j y hj
    exact hA i j a1 b1 (by rw [← a2, ← b2]; exact hxy)
  · obtain ⟨a1, a2⟩ := key k q hk
    rw [a2]
    exact h k a1
/-- rows of booleans hold 0 and 1 -/
def okB (σ : Sg) : Prop := ∀ (k n : Nat), shp[k]? = some (3, n, 0) → ∀ i : Int, σ k i = 0 ∨ σ k i = 1
theorem okB.st {σ : Sg} {k : Nat} {q : Nat × Nat × Nat} {f : Int → Int} (h : okB σ) (hq : shp[k]? = some q) (hk : q.1 = 3 → ∀ i, f i = 0 ∨ f i = 1) : okB (st σ k f) := by
  intro a n ha i
  by_cases hi : a = k
  · subst hi
    rw [st_self]
    rw [hq] at ha
    cases ha
    exact hk rfl i
  · rw [st_ne hi]
    exact h a n ha i
def tyl (dA : Nat → ClassId) : List (ClassId × FieldType) := [(dA 1, .int), (dA 2, .byte), (dA 3, .boolean), (dA 4, .long), (dA 5, .object "BackPages$Book")]
def zC (A : Nat → Prop) (U : State) : Prop := va_Z "java/lang/String" "COMPACT_STRINGS" "Z" (.int 1) A U U.heap
def zF (A : Nat → Prop) (U : State) : Prop := va_Zq "jdk/internal/util/Preconditions" "SIOOBE_FORMATTER" "Ljava/util/function/BiFunction;" A U U.heap
/-- what lies outside the cells: links of nest mates, texts -/
def Ext (ad : Nat → Nat) (A : Nat → Prop) (U : State) : Prop := (∀ q ∈ nestW, va_Nw (.methodLinkNest q.1 q.2.1 q.2.2.1 q.2.2.2) U) ∧ vk_S 9 slen sbyt (fun i => ad (200 + i)) (fun i => ad (300 + i)) A U U.heap ∧ (∀ q ∈ strR, vk_R q.1 q.2.1 q.2.2.1 (ad (200 + q.2.2.2)) U) ∧ zC A U ∧ zF A U
theorem Ext.go {ad : Nat → Nat} {A B : Nat → Prop} {s U : State} (h : Ext ad A s) (hW : s.WarmedH U.vm) (hAB : ∀ q, B q → A q) (hh : ∀ a : Nat, a < s.heap.size → ¬ A a → U.heap[a]? = s.heap[a]?) : Ext ad B U :=
  ⟨fun q hq => va_Nw.warmM hW (h.1 q hq), ((h.2.1.kept hh).moved hW.alike).narrow hAB, fun q hq => (h.2.2.1 q hq).warm hW, ((h.2.2.2.1.kept hh).moved hW.alike).narrow hAB, ((h.2.2.2.2.kept hh).moved hW.alike).narrow hAB⟩
theorem Ext.calling {ad : Nat → Nat} {A : Nat → Prop} {U : State} (h : Ext ad A U) (a : Array Value) (g : JFrame) (mk : MethodId) : Ext ad A (U.calling g mk a) :=
  ⟨fun q hq => va_Nw.same rfl rfl (h.1 q hq), vk_S.moved (u := U) (U := U.calling g mk a) (Vm.Alike.refl U.vm) h.2.1, fun q hq => vk_R.same (u := U) rfl (h.2.2.1 q hq), va_Z.moved (u := U) (U := U.calling g mk a) (Vm.Alike.refl U.vm) h.2.2.2.1, va_Zq.moved (u := U) (U := U.calling g mk a) (Vm.Alike.refl U.vm) h.2.2.2.2⟩
/-- a method: its name, its bytes, its locals, what it returns, how deep its calls go -/
abbrev Md : Type := MethodName × ByteArray × Nat × Option FieldType × Nat
abbrev rmD (h : Nat) : Room := { frames := h, cells := 0, slots := 0, locals := 30 * h }
abbrev wsD (y : Md) : List Cond := Cond.code y.1 y.2.1 y.2.2.1 y.2.2.2.1 :: gws
def Cx (y : Md) (p : Program) (R : Room) (s : State) (m : MethodId) (args : Array Value) (c : Code) (A : Nat → Prop) (ad : Nat → Nat) (dA : Nat → ClassId) (D : va_G) (cells slots : Nat) : Prop :=
  p.tables.exec = Jvm.exec ∧ c.code = y.2.1 ∧ c.maxLocals = y.2.2.1 ∧ s.vm.findClass y.1.cls = some m.cls ∧ (∀ w ∈ gws, w.before args s = true) ∧ (y.2.2.2.2 ≤ R.frames ∧ 30 * y.2.2.2.2 ≤ R.locals) ∧ (cells ≤ R.cells ∧ slots ≤ R.slots) ∧ Ap ad ∧ (∀ k, k < 137 → A (ad k)) ∧ va_K D vwCl (tyl dA) s ∧ Ext ad A s
def RI (y : Md) (pc : Nat) : Option MV → Prop
  | none => y.2.2.2.1 = none ∧ decode y.2.1 pc = .ok (.return_, 1)
  | some (.inl z) => decode y.2.1 pc = .ok (.ireturn, 1) ∧ ∃ ty, y.2.2.2.1 = some ty ∧ narrow ty (.int (iI z)) = .int (iI z)
  | some (.inr (.inl _)) => y.2.2.2.1 = some .long ∧ decode y.2.1 pc = .ok (.lreturn, 1)
  | some (.inr (.inr _)) => (∃ n, y.2.2.2.1 = some (.object n)) ∧ decode y.2.1 pc = .ok (.areturn, 1)
abbrev Po : Type := Option MV → Sg → Prop
def Rt (y : Md) (p : Program) (l : Launch) (e : Env) (R : Room) (s : State) (m : MethodId) (args : Array Value) (below : List Frame) (meth : Method) (c : Code) (A : Nat → Prop) (ad : Nat → Nat) (dA : Nat → ClassId) (D : va_G) (cells slots : Nat) (Q : State → Prop) (post : Po) : Prop :=
  ∀ (r : Option MV) (σ : Sg) (H : Heap) (locs : List Loc) (pc : Nat) (ls : Array Slot), post r σ → okB σ → va_P D vwCl (wl ad dA σ) H → va_S A s.heap H locs → RI y pc r → W p l e R s m args below meth c H locs cells slots Q (F0 m pc ls (r.toList.map (ren ad)))
/-- what more may be known of the start -/
abbrev Ph : Type := State → (Nat → Prop) → (Nat → Nat) → Prop
/-- from pc on, with these locals, this stack, this memory, the method comes to an end with 'post answer memory' -/
def VP (Φ : Ph) (y : Md) (pc : Nat) (L : Lc) (stk : List MV) (σ : Sg) (post : Po) : Prop :=
  ∀ (p : Program) (l : Launch) (e : Env) (R : Room) (s : State) (m : MethodId) (args : Array Value) (below : List Frame) (meth : Method) (c : Code) (A : Nat → Prop) (ad : Nat → Nat) (dA : Nat → ClassId) (D : va_G) (cells slots : Nat) (Q : State → Prop),
    Cx y p R s m args c A ad dA D cells slots → Φ s A ad → Rt y p l e R s m args below meth c A ad dA D cells slots Q post →
    ∀ (H : Heap) (locs : List Loc) (ls : Array Slot), okB σ → va_P D vwCl (wl ad dA σ) H → va_S A s.heap H locs → LH ad ls y.2.2.1 L →
      W p l e R s m args below meth c H locs cells slots Q (F0 m pc ls (stk.map (ren ad)))
abbrev V : Md → Nat → Lc → List MV → Sg → Po → Prop := VP (fun _ _ _ => True)
def Qz (y : Md) (ad : Nat → Nat) (dA : Nat → ClassId) (D : va_G) (post : Po) : Array Value → State → Outcome → State → Prop := fun _ st oc t =>
  (∃ (r : Option MV) (σ : Sg), oc = .returned (r.map (ren ad)) ∧ post r σ ∧ okB σ ∧ va_P D vwCl (wl ad dA σ) t.heap) ∧ va_F (inA ad) st t
def Pz (ad : Nat → Nat) (dA : Nat → ClassId) (D : va_G) (σ : Sg) (U : State) : Prop := okB σ ∧ Ap ad ∧ va_P D vwCl (wl ad dA σ) U.heap ∧ va_K D vwCl (tyl dA) U ∧ Ext ad (inA ad) U
/-- a call of y with these arguments from this memory comes back with 'post answer memory' -/
def Cl (y : Md) (av : List MV) (σ : Sg) (post : Po) : Prop :=
  ∀ (l : Launch) (ad : Nat → Nat) (dA : Nat → ClassId) (D : va_G), Met l y.1 (wsD y) (rmD y.2.2.2.2) (va_Pc (av.map (ren ad)) (Pz ad dA D σ)) (Qz y ad dA D post) 0 0 (inA ad)
abbrev pV (post : Sg → Prop) : Po := fun r σ => r = none ∧ post σ
abbrev pI (post : Int → Sg → Prop) : Po := fun r σ => ∃ z, r = some (vi z) ∧ post z σ
abbrev pL (post : Int → Sg → Prop) : Po := fun r σ => ∃ z, r = some (vl z) ∧ post z σ
abbrev pR (post : Nat → Sg → Prop) : Po := fun r σ => ∃ k, r = some (vr k) ∧ post k σ
theorem V.mono {Φ : Ph} {y : Md} {pc : Nat} {L : Lc} {stk : List MV} {σ : Sg} {post post' : Po} (h : VP Φ y pc L stk σ post) (hp : ∀ r σ, post r σ → post' r σ) : VP Φ y pc L stk σ post' := by
  intro p l e R s m args below meth c A ad dA D cells slots Q X hΦ hR
  exact h p l e R s m args below meth c A ad dA D cells slots Q X hΦ (fun r σ H locs pc ls h1 => hR r σ H locs pc ls (hp r σ h1))
theorem V.sub {Φ : Ph} {y : Md} {pc : Nat} {L L' : Lc} {stk : List MV} {σ : Sg} {post : Po} (hs : SubL L' L) (h : VP Φ y pc L' stk σ post) : VP Φ y pc L stk σ post := by
  intro p l e R s m args below meth c A ad dA D cells slots Q X hΦ hR H locs ls hB hP hS hL
  exact h p l e R s m args below meth c A ad dA D cells slots Q X hΦ hR H locs ls hB hP hS (hL.sub hs)
/-- the rows of booleans may be taken as 0 and 1 -/
theorem V.okB {Φ : Ph} {y : Md} {pc : Nat} {L : Lc} {stk : List MV} {σ : Sg} {post : Po} (h : okB σ → VP Φ y pc L stk σ post) : VP Φ y pc L stk σ post := by
  intro p l e R s m args below meth c A ad dA D cells slots Q X hΦ hR H locs ls hB
  exact h hB p l e R s m args below meth c A ad dA D cells slots Q X hΦ hR H locs ls hB
theorem Met.moQ {l : Launch} {y : MethodName} {ws : List Cond} {rm : Room} {Pc : Array Value → State → Prop} {Q Q' : Array Value → State → Outcome → State → Prop} {mc ms : Nat} {free : Addr → Prop} (h : Met l y ws rm Pc Q mc ms free) (hq : ∀ a st o t, Q a st o t → Q' a st o t) : Met l y ws rm Pc Q' mc ms free := by
  intro p e a1 a2 a3 s m args below a4 a5 a6 a7
  obtain ⟨k, o, h1, h2, h3, h4, h5⟩ := h p e a1 a2 a3 s m args below a4 a5 a6 a7
  exact ⟨k, o, h1, h2, h3, hq _ _ _ _ h4, h5⟩
theorem Cl.mono {y : Md} {av : List MV} {σ : Sg} {post post' : Po} (h : Cl y av σ post) (hp : ∀ r σ, post r σ → post' r σ) : Cl y av σ post' := by
  intro l ad dA D
  refine Met.moQ (h l ad dA D) (fun a st o t hq => ?_)
  obtain ⟨⟨r, σ', h1, h2, h3⟩, h4⟩ := hq
  exact ⟨⟨r, σ', h1, hp _ _ h2, h3⟩, h4⟩
/-- a method's contract, out of a walk from its start -/
theorem Cl_of {y : Md} {av : List MV} {σ : Sg} {post : Po} (L : Lc) (hy : plainName y.1.cls = true) (hL : SubL L (args0 av)) (hn : ∀ ad, (lg_sl (av.map (ren ad))).length ≤ y.2.2.1) (h : V y 0 L [] σ post) : Cl y av σ post := by
  intro l ad dA D
  refine Met.ofW (cc := y.2.1) (maxL := y.2.2.1) (ret := y.2.2.2.1) hy rfl ?_
  intro p e s m args below meth c s₁ B hml hv
  obtain ⟨rfl, hB, hAp, hP, hK, hE⟩ := hv
  have hts := atoms_spec (ws := wsD y) B.pre
  have hlocks := B.notSynchronized
  have hr := B.returns
  have hx := B.exec
  have hb := B.bytes
  rw [lg_entry_eq]
  refine h p l e _ s m _ below meth c (inA ad) ad dA D 0 0 _ ⟨hx, hb, hml, findClass_of_methodNamed B.named, fun w hw => hts w (List.mem_cons_of_mem _ hw), ⟨Nat.le_refl _, Nat.le_refl _⟩, ⟨Nat.zero_le _, Nat.zero_le _⟩, hAp, fun k hk => ⟨k, hk, rfl⟩, hK, hE⟩ trivial ?_ s.heap [] _ hB hP va_S.rf ((LH.entry (hn ad)).sub hL)
  intro r σ' H locs pc ls hp hB' hP' hS hi
  have hq : ∀ t : State, t.heap = H → s.WarmedH t.vm → Qz y ad dA D post (av.map (ren ad)).toArray s (.returned (r.map (ren ad))) t := fun t ht _ => ⟨⟨r, σ', rfl, hp, hB', by rw [ht]; exact hP'⟩, hS.F ht⟩
  rcases r with _ | z | z | k
  · exact W.vret hx hb (hr.trans hi.1) hq hS.2.2 hi.2
  · obtain ⟨h1, ty, h2, h3⟩ := hi
    exact W.zret hx hb (hr.trans h2) h3 hq hS.2.2 h1
  · exact W.lret hx hb (hr.trans hi.1) hq hS.2.2 hi.2
  · obtain ⟨⟨n, h1⟩, h2⟩ := hi
    exact W.aret hx hb (hr.trans h1) (Or.inl ⟨n, rfl⟩) (Or.inr ⟨_, rfl⟩) hq hS.2.2 h2

