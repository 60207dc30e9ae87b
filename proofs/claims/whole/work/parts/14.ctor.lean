/-! ===== CONSTRUCTORS: a world that grows, every new cell at its head, at the heap's end (printed by wip/whole/gen/mk14.py) ===== -/
theorem rot_get {x : Nat × va_E} {ws : va_W} {k : Nat} {q : Nat × va_E} (h : (x :: ws)[k]? = some q) : (ws ++ [x])[if k = 0 then ws.length else k - 1]? = some q := by
  cases k with
  | zero =>
    rw [if_pos rfl, List.getElem?_append_right (Nat.le_refl _), Nat.sub_self]
    exact h
  | succ k =>
    rw [if_neg (by omega)]
    have h' : ws[k]? = some q := h
    have hl := (List.getElem?_eq_some_iff.mp h').1
    show (ws ++ [x])[k]? = some q
    rw [List.getElem?_append_left hl]
    exact h'
theorem va_P_rot {D : va_G} {cl : List vw_C} {x : Nat × va_E} {ws : va_W} {H : Heap} (h : va_P D cl (ws ++ [x]) H) : va_P D cl (x :: ws) H := fun k q hk => h _ q (rot_get hk)
theorem va_D_rot {A : Nat → Prop} {x : Nat × va_E} {ws : va_W} (h : va_D A (ws ++ [x])) : va_D A (x :: ws) := by
  refine ⟨fun i j p q hi hj hpq => ?_, fun k q hk => h.2 _ q (rot_get hk)⟩
  have e := h.1 _ _ p q (rot_get hi) (rot_get hj) hpq
  have li : i < ws.length + 1 := (List.getElem?_eq_some_iff.mp hi).1
  have lj : j < ws.length + 1 := (List.getElem?_eq_some_iff.mp hj).1
  by_cases h0 : i = 0 <;> by_cases h1 : j = 0 <;> simp [h0, h1] at e <;> omega
def nsW (U : State) : Prop := ∀ q ∈ nestW, va_Nw (.methodLinkNest q.1 q.2.1 q.2.2.1 q.2.2.2) U
def CxU (y : Md) (mc ms : Nat) (p : Program) (R : Room) (s : State) (m : MethodId) (args : Array Value) (meth : Method) (c : Code) (A : Nat → Prop) (dA : Nat → ClassId) (D : va_G) : Prop :=
  p.tables.exec = Jvm.exec ∧ c.code = y.2.1 ∧ c.maxLocals = y.2.2.1 ∧ s.vm.findClass y.1.cls = some m.cls ∧ (∀ w ∈ gws, w.before args s = true) ∧ (y.2.2.2.2 ≤ R.frames ∧ 30 * y.2.2.2.2 ≤ R.locals) ∧ (mc ≤ R.cells ∧ ms ≤ R.slots) ∧ (∀ q, s.heap.size ≤ q → A q) ∧ va_K D vwCl (tyl dA) s ∧ nsW s ∧ va_AO "BackPages$Book" s ∧ (y.1.name = "<init>" → meth.name = "<init>")
abbrev PoU : Type := va_W → Prop
/-- at the place 'stop' (a return, or where the law goes on) -/
def RtU (y : Md) (mc ms stop : Nat) (p : Program) (l : Launch) (e : Env) (R : Room) (s : State) (m : MethodId) (args : Array Value) (below : List Frame) (meth : Method) (c : Code) (A : Nat → Prop) (D : va_G) (Q : State → Prop) (lv : va_W → List (Nat × Value)) (post : PoU) : Prop :=
  ∀ (ws : va_W) (H : Heap) (locs : List Loc) (ls : Array Slot), post ws → va_P D vwCl ws H → va_D A ws → va_S A s.heap H locs → lv_has ls y.2.2.1 (lv ws) → W p l e R s m args below meth c H locs mc ms Q (F0 m stop ls [])
def UK (dA : Nat → ClassId) (y : Md) (mc ms stop : Nat) (lv : va_W → List (Nat × Value)) (pc : Nat) (L : List (Nat × Value)) (stk : List Value) (ws : va_W) (c0 s0 : Nat) (post : PoU) : Prop :=
  ∀ (p : Program) (l : Launch) (e : Env) (R : Room) (s : State) (m : MethodId) (args : Array Value) (below : List Frame) (meth : Method) (c : Code) (A : Nat → Prop) (D : va_G) (Q : State → Prop),
    CxU y mc ms p R s m args meth c A dA D → RtU y mc ms stop p l e R s m args below meth c A D Q lv post →
    ∀ (H : Heap) (locs : List Loc) (ls : Array Slot), va_P D vwCl ws H → va_D A ws → va_S A s.heap H locs → lv_has ls y.2.2.1 L → W p l e R s m args below meth c H locs c0 s0 Q (F0 m pc ls stk)
def PzU (dA : Nat → ClassId) (D : va_G) (ws : va_W) (n : Nat) (U : State) : Prop := U.heap.size = n ∧ va_P D vwCl ws U.heap ∧ va_D (fun _ => True) ws ∧ va_K D vwCl (tyl dA) U ∧ nsW U ∧ va_AO "BackPages$Book" U
def QzU (D : va_G) (ws : va_W) (n : Nat) (post : PoU) : Array Value → State → Outcome → State → Prop := fun _ st oc t =>
  (∃ ws' : va_W, oc = .returned none ∧ post ws' ∧ va_P D vwCl ws' t.heap ∧ va_D (va_A ws n) ws') ∧ va_F (va_A ws n) st t
def CU (dA : Nat → ClassId) (y : Md) (mc ms : Nat) (av : List Value) (ws : va_W) (n : Nat) (post : PoU) : Prop :=
  ∀ (l : Launch) (D : va_G), Met l y.1 (wsD y) { frames := y.2.2.2.2, cells := mc, slots := ms, locals := 30 * y.2.2.2.2 } (va_Pc av (PzU dA D ws n)) (QzU D ws n post) mc ms (va_A ws n)
theorem CU_of {dA : Nat → ClassId} {y : Md} {mc ms stop : Nat} {av : List Value} {ws : va_W} {n : Nat} {post : PoU} (lv : va_W → List (Nat × Value)) (hy : plainName y.1.cls = true) (hr0 : y.2.2.2.1 = none) (hd : decode y.2.1 stop = .ok (.return_, 1)) (hlen : (lg_sl av).length ≤ y.2.2.1) (h : UK dA y mc ms stop lv 0 (lv_args 0 av) [] ws 0 0 post) : CU dA y mc ms av ws n post := by
  intro l D
  refine Met.ofW (cc := y.2.1) (maxL := y.2.2.1) (ret := y.2.2.2.1) hy rfl ?_
  intro p e s m args below meth c s₁ B hml hv
  obtain ⟨rfl, hsz, hP, hD, hK, hN, hO⟩ := hv
  have hts := atoms_spec (ws := wsD y) B.pre
  have hlocks := B.notSynchronized
  have hr := B.returns
  have hx := B.exec
  have hb := B.bytes
  rw [lg_entry_eq]
  have hD2 : va_D (va_A ws n) ws := hD.self
  refine h p l e _ s m _ below meth c (va_A ws n) D _ ⟨hx, hb, hml, findClass_of_methodNamed B.named, fun w hw => hts w (List.mem_cons_of_mem _ hw), ⟨Nat.le_refl _, Nat.le_refl _⟩, ⟨Nat.le_refl _, Nat.le_refl _⟩, fun q hq => Or.inr (by omega), hK, hN, hO, fun h => ((name_of_methodNamed B.named B.method).1).trans h⟩ ?_ s.heap [] _ hP hD2 va_S.rf (lv_entry av hlen)
  intro ws' H locs ls hp hP' hD' hS hl
  exact W.vret hx hb (hr.trans hr0) (fun t ht _ => ⟨⟨ws', rfl, hp, by rw [ht]; exact hP', hD'⟩, hS.F ht⟩) hS.2.2 hd
theorem U_aload {dA : Nat → ClassId} {y : Md} {mc ms stop : Nat} {lv : va_W → List (Nat × Value)} {pc : Nat} {L : List (Nat × Value)} {stk : List Value} {ws : va_W} {c0 s0 : Nat} {post : PoU} {k : Fin 4} {i a j : Nat} (hd : decode y.2.1 pc = .ok (.aload_n k, 1)) (hi : (k : Nat) = i) (hl : L[j]? = some (i, .ref a)) (kk : UK dA y mc ms stop lv (pc + 1) L (.ref a :: stk) (ws) (c0) (s0) post) : UK dA y mc ms stop lv pc L (stk) ws c0 s0 post := by
  intro p l e R s m args below meth c A D Q X hR H locs ls hP hD hS hL
  exact lv_aload_n X.1 X.2.1 hd hi (lv_at hL j hl) (kk p l e R s m args below meth c A D Q X hR H locs ls hP hD hS hL)
theorem U_iload {dA : Nat → ClassId} {y : Md} {mc ms stop : Nat} {lv : va_W → List (Nat × Value)} {pc : Nat} {L : List (Nat × Value)} {stk : List Value} {ws : va_W} {c0 s0 : Nat} {post : PoU} {k : Fin 4} {i j : Nat} {x : Int32} (hd : decode y.2.1 pc = .ok (.iload_n k, 1)) (hi : (k : Nat) = i) (hl : L[j]? = some (i, .int x)) (kk : UK dA y mc ms stop lv (pc + 1) L (.int x :: stk) (ws) (c0) (s0) post) : UK dA y mc ms stop lv pc L (stk) ws c0 s0 post := by
  intro p l e R s m args below meth c A D Q X hR H locs ls hP hD hS hL
  exact lv_iload_n X.1 X.2.1 hd hi (lv_at hL j hl) (kk p l e R s m args below meth c A D Q X hR H locs ls hP hD hS hL)
theorem U_iconst {dA : Nat → ClassId} {y : Md} {mc ms stop : Nat} {lv : va_W → List (Nat × Value)} {pc : Nat} {L : List (Nat × Value)} {stk : List Value} {ws : va_W} {c0 s0 : Nat} {post : PoU} {z : Int} (hd : decode y.2.1 pc = .ok (.iconst z, 1))(kk : UK dA y mc ms stop lv (pc + 1) L (.int (iI z) :: stk) (ws) (c0) (s0) post) : UK dA y mc ms stop lv pc L (stk) ws c0 s0 post := by
  intro p l e R s m args below meth c A D Q X hR H locs ls hP hD hS hL
  exact lv_iconst X.1 X.2.1 hd rfl (kk p l e R s m args below meth c A D Q X hR H locs ls hP hD hS hL)
theorem U_bipush {dA : Nat → ClassId} {y : Md} {mc ms stop : Nat} {lv : va_W → List (Nat × Value)} {pc : Nat} {L : List (Nat × Value)} {stk : List Value} {ws : va_W} {c0 s0 : Nat} {post : PoU} {z : Int} (hd : decode y.2.1 pc = .ok (.bipush z, 2))(hn : -128 ≤ z ∧ z ≤ 127) (kk : UK dA y mc ms stop lv (pc + 2) L (.int (iI z) :: stk) (ws) (c0) (s0) post) : UK dA y mc ms stop lv pc L (stk) ws c0 s0 post := by
  intro p l e R s m args below meth c A D Q X hR H locs ls hP hD hS hL
  exact lv_bipush X.1 X.2.1 hd (bp_ok hn) (kk p l e R s m args below meth c A D Q X hR H locs ls hP hD hS hL)
theorem U_sipush {dA : Nat → ClassId} {y : Md} {mc ms stop : Nat} {lv : va_W → List (Nat × Value)} {pc : Nat} {L : List (Nat × Value)} {stk : List Value} {ws : va_W} {c0 s0 : Nat} {post : PoU} {z : Int} (hd : decode y.2.1 pc = .ok (.sipush z, 3))(hn : -32768 ≤ z ∧ z ≤ 32767) (kk : UK dA y mc ms stop lv (pc + 3) L (.int (iI z) :: stk) (ws) (c0) (s0) post) : UK dA y mc ms stop lv pc L (stk) ws c0 s0 post := by
  intro p l e R s m args below meth c A D Q X hR H locs ls hP hD hS hL
  exact lv_sipush X.1 X.2.1 hd (sp_ok hn) (kk p l e R s m args below meth c A D Q X hR H locs ls hP hD hS hL)
theorem U_dup {dA : Nat → ClassId} {y : Md} {mc ms stop : Nat} {lv : va_W → List (Nat × Value)} {pc : Nat} {L : List (Nat × Value)} {stk : List Value} {ws : va_W} {c0 s0 : Nat} {post : PoU} {v : Value} (hd : decode y.2.1 pc = .ok (.dup, 1))(hv : v.category = 1) (kk : UK dA y mc ms stop lv (pc + 1) L (v :: v :: stk) (ws) (c0) (s0) post) : UK dA y mc ms stop lv pc L (v :: stk) ws c0 s0 post := by
  intro p l e R s m args below meth c A D Q X hR H locs ls hP hD hS hL
  exact lv_dup X.1 X.2.1 hd hv (kk p l e R s m args below meth c A D Q X hR H locs ls hP hD hS hL)
theorem U_astore {dA : Nat → ClassId} {y : Md} {mc ms stop : Nat} {lv : va_W → List (Nat × Value)} {pc : Nat} {L : List (Nat × Value)} {stk : List Value} {ws : va_W} {c0 s0 : Nat} {post : PoU} {k : Fin 4} {i a : Nat} {L' : List (Nat × Value)} (hd : decode y.2.1 pc = .ok (.astore_n k, 1))(hi : (k : Nat) = i) (hn : i < y.2.2.1) (hl : (i, Value.ref a) :: L.filter (fun q => !(q.1 == i) && !(q.1 + 1 == i && q.2.category == 2)) = L') (kk : UK dA y mc ms stop lv (pc + 1) L' (stk) (ws) (c0) (s0) post) : UK dA y mc ms stop lv pc L (.ref a :: stk) ws c0 s0 post := by
  intro p l e R s m args below meth c A D Q X hR H locs ls hP hD hS hL
  exact lv_astore_n X.1 X.2.1 hd hi hL hn hl (fun ls1 h1 => kk p l e R s m args below meth c A D Q X hR H locs ls1 hP hD hS h1)
theorem U_istore {dA : Nat → ClassId} {y : Md} {mc ms stop : Nat} {lv : va_W → List (Nat × Value)} {pc : Nat} {L : List (Nat × Value)} {stk : List Value} {ws : va_W} {c0 s0 : Nat} {post : PoU} {k : Fin 4} {i : Nat} {x : Int32} {L' : List (Nat × Value)} (hd : decode y.2.1 pc = .ok (.istore_n k, 1))(hi : (k : Nat) = i) (hn : i < y.2.2.1) (hl : (i, Value.int x) :: L.filter (fun q => !(q.1 == i) && !(q.1 + 1 == i && q.2.category == 2)) = L') (kk : UK dA y mc ms stop lv (pc + 1) L' (stk) (ws) (c0) (s0) post) : UK dA y mc ms stop lv pc L (.int x :: stk) ws c0 s0 post := by
  intro p l e R s m args below meth c A D Q X hR H locs ls hP hD hS hL
  exact lv_istore_n X.1 X.2.1 hd hi hL hn hl (fun ls1 h1 => kk p l e R s m args below meth c A D Q X hR H locs ls1 hP hD hS h1)
theorem U_stop {dA : Nat → ClassId} {y : Md} {mc ms stop : Nat} {lv : va_W → List (Nat × Value)} {pc : Nat} {L : List (Nat × Value)} {stk : List Value} {ws : va_W} {c0 s0 : Nat} {post : PoU} (hs : pc = stop) (hlv : L = lv ws) (hc : c0 ≤ mc) (hm : s0 ≤ ms) (h : post ws) : UK dA y mc ms stop lv pc L ([]) ws c0 s0 post := by
  intro p l e R s m args below meth c A D Q X hR H locs ls hP hD hS hL
  subst hs
  rw [hlv] at hL
  refine W.widen hc hm ?_
  exact hR ws H locs ls h hP hD hS hL
theorem dA_eq {dA : Nat → ClassId} {D : va_G} {s : State} (hK : va_K D vwCl (tyl dA) s) {cA : ClassId} {k : Nat} {ty : FieldType} (hk : (tyl dA)[k]? = some (dA (k + 1), ty)) (hp : va_RA s (dA (k + 1)) ty = (s.vm.findClass ("[" ++ ty.toString) = some (dA (k + 1)))) (h : s.vm.findClass ("[" ++ ty.toString) = some cA) : cA = dA (k + 1) := by
  have h1 := (hK.2 k _ hk).2
  rw [hp] at h1
  exact Option.some.inj (h.symm.trans h1)
theorem U_newa1 {dA : Nat → ClassId} {y : Md} {mc ms stop : Nat} {lv : va_W → List (Nat × Value)} {pc : Nat} {L : List (Nat × Value)} {stk : List Value} {ws : va_W} {c0 s0 : Nat} {post : PoU} {z : Int} {N : Nat} (hd : decode y.2.1 pc = .ok (.newarray .int, 2)) (hz : z = (N : Int)) (hN : N < 100000) (hw : Cond.arrayClass .int ∈ gws) (hc : c0 + 1 ≤ mc) (hm : s0 + N ≤ ms) (kk : ∀ q : Nat, UK dA y mc ms stop lv (pc + 2) L (.ref q :: stk) ((q, .inl (dA 1, N, .inl (fun _ => iI 0))) :: ws) (c0 + 1) (s0 + N) post) : UK dA y mc ms stop lv pc L (.int (iI z) :: stk) ws c0 s0 post := by
  intro p l e R s m args below meth c A D Q X hR H locs ls hP hD hS hL
  subst hz
  have r0 : rng (N : Int) := ⟨by omega, by omega⟩
  have hcl : (iI (N : Int)).toNatClampNeg = N := by rw [iI_clamp (by omega) r0]; omega
  refine va_newa (atype := .int) (ty := .int) (a0 := (N, .inl (fun _ => iI 0))) X.1 X.2.1 (X.2.2.2.2.1 _ hw) rfl X.2.2.2.2.2.2.2.2.1 hP hD hS X.2.2.2.2.2.2.2.1 (fun cA => rfl) (fun q => by rw [iI_lt0 r0] at q; omega) hcl (by first | (show N * 1 ≤ _; omega) | (show N * 4 ≤ _; omega) | (show N * 8 ≤ _; omega)) (Nat.le_trans hc X.2.2.2.2.2.2.1.1) (Nat.le_trans hm X.2.2.2.2.2.2.1.2) hd (fun q cA H1 hK1 hP1 hD1 hS1 => ?_)
  have hcA : cA = dA 1 := dA_eq (k := 0) X.2.2.2.2.2.2.2.2.1 rfl rfl (hK1.2 5 _ rfl).2
  subst hcA
  exact (kk q) p l e R s m args below meth c A D Q X hR H1 locs ls (va_P_rot hP1) (va_D_rot hD1) hS1 hL
theorem U_newa2 {dA : Nat → ClassId} {y : Md} {mc ms stop : Nat} {lv : va_W → List (Nat × Value)} {pc : Nat} {L : List (Nat × Value)} {stk : List Value} {ws : va_W} {c0 s0 : Nat} {post : PoU} {z : Int} {N : Nat} (hd : decode y.2.1 pc = .ok (.newarray .byte, 2)) (hz : z = (N : Int)) (hN : N < 100000) (hw : Cond.arrayClass .byte ∈ gws) (hc : c0 + 1 ≤ mc) (hm : s0 + N ≤ ms) (kk : ∀ q : Nat, UK dA y mc ms stop lv (pc + 2) L (.ref q :: stk) ((q, .inl (dA 2, N, .inl (fun _ => iI 0))) :: ws) (c0 + 1) (s0 + N) post) : UK dA y mc ms stop lv pc L (.int (iI z) :: stk) ws c0 s0 post := by
  intro p l e R s m args below meth c A D Q X hR H locs ls hP hD hS hL
  subst hz
  have r0 : rng (N : Int) := ⟨by omega, by omega⟩
  have hcl : (iI (N : Int)).toNatClampNeg = N := by rw [iI_clamp (by omega) r0]; omega
  refine va_newa (atype := .byte) (ty := .byte) (a0 := (N, .inl (fun _ => iI 0))) X.1 X.2.1 (X.2.2.2.2.1 _ hw) rfl X.2.2.2.2.2.2.2.2.1 hP hD hS X.2.2.2.2.2.2.2.1 (fun cA => rfl) (fun q => by rw [iI_lt0 r0] at q; omega) hcl (by first | (show N * 1 ≤ _; omega) | (show N * 4 ≤ _; omega) | (show N * 8 ≤ _; omega)) (Nat.le_trans hc X.2.2.2.2.2.2.1.1) (Nat.le_trans hm X.2.2.2.2.2.2.1.2) hd (fun q cA H1 hK1 hP1 hD1 hS1 => ?_)
  have hcA : cA = dA 2 := dA_eq (k := 1) X.2.2.2.2.2.2.2.2.1 rfl rfl (hK1.2 5 _ rfl).2
  subst hcA
  exact (kk q) p l e R s m args below meth c A D Q X hR H1 locs ls (va_P_rot hP1) (va_D_rot hD1) hS1 hL
theorem U_newa3 {dA : Nat → ClassId} {y : Md} {mc ms stop : Nat} {lv : va_W → List (Nat × Value)} {pc : Nat} {L : List (Nat × Value)} {stk : List Value} {ws : va_W} {c0 s0 : Nat} {post : PoU} {z : Int} {N : Nat} (hd : decode y.2.1 pc = .ok (.newarray .boolean, 2)) (hz : z = (N : Int)) (hN : N < 100000) (hw : Cond.arrayClass .boolean ∈ gws) (hc : c0 + 1 ≤ mc) (hm : s0 + N ≤ ms) (kk : ∀ q : Nat, UK dA y mc ms stop lv (pc + 2) L (.ref q :: stk) ((q, .inl (dA 3, N, .inl (fun _ => iI 0))) :: ws) (c0 + 1) (s0 + N) post) : UK dA y mc ms stop lv pc L (.int (iI z) :: stk) ws c0 s0 post := by
  intro p l e R s m args below meth c A D Q X hR H locs ls hP hD hS hL
  subst hz
  have r0 : rng (N : Int) := ⟨by omega, by omega⟩
  have hcl : (iI (N : Int)).toNatClampNeg = N := by rw [iI_clamp (by omega) r0]; omega
  refine va_newa (atype := .boolean) (ty := .boolean) (a0 := (N, .inl (fun _ => iI 0))) X.1 X.2.1 (X.2.2.2.2.1 _ hw) rfl X.2.2.2.2.2.2.2.2.1 hP hD hS X.2.2.2.2.2.2.2.1 (fun cA => rfl) (fun q => by rw [iI_lt0 r0] at q; omega) hcl (by first | (show N * 1 ≤ _; omega) | (show N * 4 ≤ _; omega) | (show N * 8 ≤ _; omega)) (Nat.le_trans hc X.2.2.2.2.2.2.1.1) (Nat.le_trans hm X.2.2.2.2.2.2.1.2) hd (fun q cA H1 hK1 hP1 hD1 hS1 => ?_)
  have hcA : cA = dA 3 := dA_eq (k := 2) X.2.2.2.2.2.2.2.2.1 rfl rfl (hK1.2 5 _ rfl).2
  subst hcA
  exact (kk q) p l e R s m args below meth c A D Q X hR H1 locs ls (va_P_rot hP1) (va_D_rot hD1) hS1 hL
theorem U_newa4 {dA : Nat → ClassId} {y : Md} {mc ms stop : Nat} {lv : va_W → List (Nat × Value)} {pc : Nat} {L : List (Nat × Value)} {stk : List Value} {ws : va_W} {c0 s0 : Nat} {post : PoU} {z : Int} {N : Nat} (hd : decode y.2.1 pc = .ok (.newarray .long, 2)) (hz : z = (N : Int)) (hN : N < 100000) (hw : Cond.arrayClass .long ∈ gws) (hc : c0 + 1 ≤ mc) (hm : s0 + N ≤ ms) (kk : ∀ q : Nat, UK dA y mc ms stop lv (pc + 2) L (.ref q :: stk) ((q, .inl (dA 4, N, .inr (.inl (fun _ => lI 0)))) :: ws) (c0 + 1) (s0 + N) post) : UK dA y mc ms stop lv pc L (.int (iI z) :: stk) ws c0 s0 post := by
  intro p l e R s m args below meth c A D Q X hR H locs ls hP hD hS hL
  subst hz
  have r0 : rng (N : Int) := ⟨by omega, by omega⟩
  have hcl : (iI (N : Int)).toNatClampNeg = N := by rw [iI_clamp (by omega) r0]; omega
  refine va_newa (atype := .long) (ty := .long) (a0 := (N, .inr (.inl (fun _ => lI 0)))) X.1 X.2.1 (X.2.2.2.2.1 _ hw) rfl X.2.2.2.2.2.2.2.2.1 hP hD hS X.2.2.2.2.2.2.2.1 (fun cA => rfl) (fun q => by rw [iI_lt0 r0] at q; omega) hcl (by first | (show N * 1 ≤ _; omega) | (show N * 4 ≤ _; omega) | (show N * 8 ≤ _; omega)) (Nat.le_trans hc X.2.2.2.2.2.2.1.1) (Nat.le_trans hm X.2.2.2.2.2.2.1.2) hd (fun q cA H1 hK1 hP1 hD1 hS1 => ?_)
  have hcA : cA = dA 4 := dA_eq (k := 3) X.2.2.2.2.2.2.2.2.1 rfl rfl (hK1.2 5 _ rfl).2
  subst hcA
  exact (kk q) p l e R s m args below meth c A D Q X hR H1 locs ls (va_P_rot hP1) (va_D_rot hD1) hS1 hL
theorem U_newq {dA : Nat → ClassId} {y : Md} {mc ms stop : Nat} {lv : va_W → List (Nat × Value)} {pc : Nat} {L : List (Nat × Value)} {stk : List Value} {ws : va_W} {c0 s0 : Nat} {post : PoU} {idx : Nat} (hd : decode y.2.1 pc = .ok (.anewarray idx, 3)) (hw : Cond.classLink y.1.cls idx "BackPages$Book" ∈ gws) (hc : c0 + 1 ≤ mc) (hm : s0 + 2 ≤ ms) (kk : ∀ q : Nat, UK dA y mc ms stop lv (pc + 3) L (.ref q :: stk) ((q, .inl (dA 5, 2, .inr (.inr (.inr (.inr (fun _ => none)))))) :: ws) (c0 + 1) (s0 + 2) post) : UK dA y mc ms stop lv pc L (.int (iI 2) :: stk) ws c0 s0 post := by
  intro p l e R s m args below meth c A D Q X hR H locs ls hP hD hS hL
  have hcl : (iI 2).toNatClampNeg = 2 := by decide +kernel
  refine va_newq X.1 X.2.1 X.2.2.2.1 (X.2.2.2.2.1 _ hw) X.2.2.2.2.2.2.2.2.2.2.1 X.2.2.2.2.2.2.2.2.1 hP hD hS X.2.2.2.2.2.2.2.1 (by decide +kernel) hcl (by decide) (Nat.le_trans hc X.2.2.2.2.2.2.1.1) (Nat.le_trans hm X.2.2.2.2.2.2.1.2) hd (fun q cA H1 hK1 hP1 hD1 hS1 => ?_)
  obtain ⟨kB, compB, g1, g2, g3, g4⟩ := (X.2.2.2.2.2.2.2.2.1.2 4 _ rfl).2
  obtain ⟨kB', compB', g1', g2', g3', g4'⟩ := (hK1.2 5 _ rfl).2
  have hcA : cA = dA 5 := Option.some.inj (g4'.symm.trans g4)
  subst hcA
  exact (kk q) p l e R s m args below meth c A D Q X hR H1 locs ls (va_P_rot hP1) (va_D_rot hD1) hS1 hL
theorem U_aast {dA : Nat → ClassId} {y : Md} {mc ms stop : Nat} {lv : va_W → List (Nat × Value)} {pc : Nat} {L : List (Nat × Value)} {stk : List Value} {ws : va_W} {c0 s0 : Nat} {post : PoU} {i : Int} {a v q0 qk : Nat} {fs : List Value} {f : Nat → Option Nat} {j : Nat} {ws2 : va_W} (hd : decode y.2.1 pc = .ok (.aastore, 1)) (hj : (iI i).toNatClampNeg = j) (hi : vp_in (iI i) 2) (ha : ws[q0]? = some (a, .inl (dA 5, 2, .inr (.inr (.inr (.inr f)))))) (hv : ws[qk]? = some (v, .inr (0, fs))) (hw2 : ws.set q0 (a, .inl (dA 5, 2, .inr (.inr (.inr (.inr (va_up f j (some v))))))) = ws2) (kk : UK dA y mc ms stop lv (pc + 1) L (stk) (ws2) (c0) (s0) post) : UK dA y mc ms stop lv pc L (.ref v :: .int (iI i) :: .ref a :: stk) ws c0 s0 post := by
  intro p l e R s m args below meth c A D Q X hR H locs ls hP hD hS hL
  subst hj
  subst hw2
  refine va_astq (r := (RX0, TX0, 14)) X.1 X.2.1 X.2.2.2.2.2.2.2.2.1 hP hD hS q0 4 qk 0 ha rfl hv rfl hi hd (fun H1 locs1 hP1 hD1 hS1 => ?_)
  exact kk p l e R s m args below meth c A D Q X hR H1 locs1 ls hP1 hD1 hS1 hL
theorem U_put {dA : Nat → ClassId} {y : Md} {mc ms stop : Nat} {lv : va_W → List (Nat × Value)} {pc : Nat} {L : List (Nat × Value)} {stk : List Value} {ws : va_W} {c0 s0 : Nat} {post : PoU} {C : String} {T : u_T} {N ci idx a k q0 : Nat} {fs : List Value} {v : Value} {ws2 : va_W} (hin : ∀ w ∈ u_ws C T N, w ∈ gws) (ty0 : Nat → FieldType) (hty : ∀ k, k < N → parseFieldDescriptor (T k).2.2.1 = some (ty0 k)) (hnm : ∀ a, a < N → ∀ b, b < N → a ≠ b → (T a).2.1 ≠ (T b).2.1) (he : ws[q0]? = some (a, .inr (ci, fs))) (hc : vwCl[ci]? = some (C, T, N)) (hk : k < N) (hw : Cond.fieldLink y.1.cls idx (T k).1 (T k).2.1 (T k).2.2.1 ∈ gws) (hini : y.1.name = "<init>") (hdecl : (T k).1 = y.1.cls) (hn : narrow (ty0 k) v = v) (hfit : fits (ty0 k) v = true) (hl : k < fs.length) (hw2 : ws.set q0 (a, .inr (ci, fs.set k v)) = ws2) (hd : decode y.2.1 pc = .ok (.putfield idx, 3)) (kk : UK dA y mc ms stop lv (pc + 3) L (stk) (ws2) (c0) (s0) post) : UK dA y mc ms stop lv pc L (v :: .ref a :: stk) ws c0 s0 post := by
  intro p l e R s m args below meth c A D Q X hR H locs ls hP hD hS hL
  subst hw2
  by_cases hfin : (T k).2.2.2 = true
  · refine va_putF (C := C) (T := T) (N := N) X.1 X.2.1 X.2.2.2.2.1 hin ty0 hty hnm X.2.2.2.1 X.2.2.2.2.2.2.2.2.1 hP hD hS q0 he hc k hk (X.2.2.2.2.1 _ hw) (fun _ h9 => h9) hfin (X.2.2.2.2.2.2.2.2.2.2.2 hini) hdecl (hty k hk) hn hfit hl hd (fun H1 locs1 hP1 hD1 hS1 => ?_)
    exact kk p l e R s m args below meth c A D Q X hR H1 locs1 ls hP1 hD1 hS1 hL
  · refine va_put (C := C) (T := T) (N := N) X.1 X.2.1 X.2.2.2.2.1 hin ty0 hty hnm X.2.2.2.1 X.2.2.2.2.2.2.2.2.1 hP hD hS q0 he hc k hk (X.2.2.2.2.1 _ hw) (fun _ h9 => h9) (by simpa using hfin) (hty k hk) hn hfit hl hd (fun H1 locs1 hP1 hD1 hS1 => ?_)
    exact kk p l e R s m args below meth c A D Q X hR H1 locs1 ls hP1 hD1 hS1 hL
theorem U_new {dA : Nat → ClassId} {y : Md} {mc ms stop : Nat} {lv : va_W → List (Nat × Value)} {pc : Nat} {L : List (Nat × Value)} {stk : List Value} {ws : va_W} {c0 s0 : Nat} {post : PoU} {C : String} {T : u_T} {N ci idx : Nat} {fs : List Value} (hin : ∀ w ∈ u_ws C T N, w ∈ gws) (ty0 : Nat → FieldType) (hty : ∀ k, k < N → parseFieldDescriptor (T k).2.2.1 = some (ty0 k)) (hc : vwCl[ci]? = some (C, T, N)) (hfs : ∀ j, j < N → defaultValue (ty0 j) = vp_V fs j) (hw : Cond.classLink y.1.cls idx C ∈ gws ∧ Cond.instantiable C N ∈ gws ∧ Cond.initialized C ∈ gws) (hcc : c0 + 1 ≤ mc) (hm : s0 + N ≤ ms) (hd : decode y.2.1 pc = .ok (.new idx, 3)) (kk : ∀ q : Nat, UK dA y mc ms stop lv (pc + 3) L (.ref q :: stk) ((q, .inr (ci, fs)) :: ws) (c0 + 1) (s0 + N) post) : UK dA y mc ms stop lv pc L (stk) ws c0 s0 post := by
  intro p l e R s m args below meth c A D Q X hR H locs ls hP hD hS hL
  refine va_new (C := C) (T := T) (N := N) X.1 X.2.1 X.2.2.2.2.1 hin ty0 hty X.2.2.2.1 (X.2.2.2.2.1 _ hw.1) (X.2.2.2.2.1 _ hw.2.1) (X.2.2.2.2.1 _ hw.2.2) X.2.2.2.2.2.2.2.2.1 hP hD hS X.2.2.2.2.2.2.2.1 hc hfs (Nat.le_trans hcc X.2.2.2.2.2.2.1.1) (Nat.le_trans hm X.2.2.2.2.2.2.1.2) hd (fun q H1 hP1 hD1 hS1 => ?_)
  exact (kk q) p l e R s m args below meth c A D Q X hR H1 locs ls (va_P_rot hP1) (va_D_rot hD1) hS1 hL
theorem U_obj {dA : Nat → ClassId} {y : Md} {mc ms stop : Nat} {lv : va_W → List (Nat × Value)} {pc : Nat} {L : List (Nat × Value)} {stk : List Value} {ws : va_W} {c0 s0 : Nat} {post : PoU} {a idx : Nat} (hw : Cond.methodLink y.1.cls idx objectInit ∈ gws ∧ Cond.instanceMethod objectInit ∈ gws ∧ Cond.code objectInit ⟨#[0xb1]⟩ 1 none ∈ gws) (hst : stk = []) (hh : 1 ≤ y.2.2.2.2) (hd : decode y.2.1 pc = .ok (.invokespecial idx, 3)) (kk : UK dA y mc ms stop lv (pc + 3) L (stk) (ws) (c0) (s0) post) : UK dA y mc ms stop lv pc L (.ref a :: stk) ws c0 s0 post := by
  intro p l e R s m args below meth c A D Q X hR H locs ls hP hD hS hL
  subst hst
  refine W.objInit X.1 X.2.1 X.2.2.2.1 (X.2.2.2.2.1 _ hw.1) (X.2.2.2.2.1 _ hw.2.1) (X.2.2.2.2.1 _ hw.2.2) rfl (by rw [X.2.2.1]; exact hL.1) rfl hd (Nat.le_trans hh X.2.2.2.2.2.1.1) ?_ (kk p l e R s m args below meth c A D Q X hR H locs ls hP hD hS hL)
  show 2 * 0 + 0 + 12 ≤ R.locals
  have := X.2.2.2.2.2.1.2
  omega
theorem U_max {dA : Nat → ClassId} {y : Md} {mc ms stop : Nat} {lv : va_W → List (Nat × Value)} {pc : Nat} {L : List (Nat × Value)} {stk : List Value} {ws : va_W} {c0 s0 : Nat} {post : PoU} {x : Int} {idx : Nat} (hw : Cond.methodLink y.1.cls idx Lib.Math.max.name ∈ gws ∧ Cond.static Lib.Math.max.name ∈ gws ∧ Cond.initialized "java/lang/Math" ∈ gws ∧ Cond.code Lib.Math.max.name Lib.Math.max.code 2 (some .int) ∈ gws) (hx0 : rng x ∧ 0 ≤ x) (hh : 1 ≤ y.2.2.2.2) (h8 : (stk.map fun v => v.category).sum ≤ 8) (hc : c0 ≤ mc) (hm : s0 ≤ ms) (hd : decode y.2.1 pc = .ok (.invokestatic idx, 3)) (kk : UK dA y mc ms stop lv (pc + 3) L (.int (iI x) :: stk) (ws) (c0) (s0) post) : UK dA y mc ms stop lv pc L (.int (iI 0) :: .int (iI x) :: stk) ws c0 s0 post := by
  intro p l e R s m args below meth c A D Q X hR H locs ls hP hD hS hL
  refine va_mmax X.1 X.2.1 (X.2.2.1.trans hL.1.symm) X.2.2.2.1 (X.2.2.2.2.1 _ hw.1) (X.2.2.2.2.1 _ hw.2.1) (X.2.2.2.2.1 _ hw.2.2.1) (X.2.2.2.2.1 _ hw.2.2.2) (Nat.le_trans hh X.2.2.2.2.2.1.1) (by have := X.2.2.2.2.2.1.2; omega) (Nat.le_trans hc X.2.2.2.2.2.2.1.1) (Nat.le_trans hm X.2.2.2.2.2.2.1.2) hd ?_
  rw [if_neg (fun q => by rw [iI_lt hx0.1 rng_0] at q; omega)]
  exact kk p l e R s m args below meth c A D Q X hR H locs ls hP hD hS hL
theorem callU {dA : Nat → ClassId} {y : Md} {mc ms stop mc' ms' : Nat} {lv : va_W → List (Nat × Value)} {pc : Nat} {L : List (Nat × Value)} {rest st0 : List Value} {ws : va_W} {c0 s0 : Nat} {post post' : PoU} {a : Array Value} {p : Program} {l : Launch} {e : Env} {R : Room} {s : State} {m : MethodId} {args : Array Value} {below : List Frame} {meth : Method} {c : Code} {A : Nat → Prop} {D : va_G} {Q : State → Prop} {H : Heap} {locs : List Loc} {ls : Array Slot}
    (hr : va_Run p l e R s m args below meth c H locs c0 s0 mc' ms' (F0 m pc ls st0) rest (QzU D ws H.size post' a) (va_A ws H.size))
    (X : CxU y mc ms p R s m args meth c A dA D) (hR : RtU y mc ms stop p l e R s m args below meth c A D Q lv post) (hD : va_D A ws) (hS : va_S A s.heap H locs) (hL : lv_has ls y.2.2.1 L)
    (hk : ∀ ws', post' ws' → UK dA y mc ms stop lv (pc + 3) L rest ws' (c0 + mc') (s0 + ms') post) : W p l e R s m args below meth c H locs c0 s0 Q (F0 m pc ls st0) := by
  intro T hT X0
  obtain ⟨v, st₀, t, T', Lc', h0, X', hLc, e1, e2, ⟨⟨ws', hv, hp, hP', hD'⟩, hz, hk1⟩, st⟩ := hr T hT X0
  cases hv
  rw [h0] at hz hk1
  have hA : ∀ q, va_A ws H.size q → A q := by
    rintro q (⟨k, ee, h⟩ | h)
    · exact hD.2 k (q, ee) h
    · exact X.2.2.2.2.2.2.2.1 q (Nat.le_trans hS.1 h)
  have hS' : va_S A s.heap T'.heap (locs ++ Lc') := ⟨Nat.le_trans hS.1 (by rw [e1]; exact hz), fun q h1 h2 => by rw [e1, hk1 q (Nat.lt_of_lt_of_le h1 hS.1) (fun z => h2 (hA q z))]; exact hS.2.1 q h1 h2, fun q hq => by
      rcases List.mem_append.mp hq with h | h
      · exact hS.2.2 q h
      · exact hA _ (hLc q h)⟩
  have w := hk ws' hp p l e R s m args below meth c A D Q X hR T'.heap (locs ++ Lc') ls (by rw [e1]; exact hP') (hD'.weaken (fun _ _ _ h => hA _ h)) hS' hL
  obtain ⟨t2, a1, b1⟩ := w T' rfl X'
  exact ⟨t2, st t2 a1, b1⟩
theorem PzU_blind {dA : Nat → ClassId} {D : va_G} {ws : va_W} {n : Nat} {av : List Value} : FrameBlind (va_Pc av (PzU dA D ws n)) := by
  intro a U g mk q
  obtain ⟨q0, q1, qP, qD, qK, qN, qO⟩ := q
  exact ⟨q0, q1, qP, qD, va_K.moved (u := U) (U := U.calling g mk a) (Vm.Alike.refl U.vm) qK, fun x hx => va_Nw.same rfl rfl (qN x hx), va_AO.moved (u := U) (U := U.calling g mk a) (Vm.Alike.refl U.vm) qO⟩
theorem U_callI {dA : Nat → ClassId} {y : Md} {mc ms stop : Nat} {lv : va_W → List (Nat × Value)} {pc : Nat} {L : List (Nat × Value)} {stk : List Value} {ws : va_W} {c0 s0 : Nat} {post : PoU} {y' : Md} {mc' ms' a nn idx : Nat} {av stk0 : List Value} {post' : PoU} (hw : Cond.methodLink y.1.cls idx y'.1 ∈ gws) (hA : CallA y' nn) (hin : Cond.instanceMethod y'.1 ∈ gws) (hnm : y'.1.name = "<init>") (hr0 : y'.2.2.2.1 = none) (hs : stk0 = av.reverse ++ .ref a :: stk) (hn : av.length = nn) (hh : y'.2.2.2.2 < y.2.2.2.2) (h8 : (stk.map fun v => v.category).sum ≤ 8) (hc : c0 + mc' ≤ mc) (hm : s0 + ms' ≤ ms) (hd : decode y.2.1 pc = .ok (.invokespecial idx, 3)) (hM : ∀ sz : Nat, CU dA y' mc' ms' (.ref a :: av) ws sz post') (hk : ∀ ws', post' ws' → UK dA y mc ms stop lv (pc + 3) L stk ws' (c0 + mc') (s0 + ms') post) : UK dA y mc ms stop lv pc L stk0 ws c0 s0 post := by
  intro p l e R s m args below meth c A D Q X hR H locs ls hP hD hS hL
  subst hs
  have hini := X.2.2.2.2.1 _ hA.2.1
  have hrm : y'.2.2.2.2 + 1 ≤ R.frames ∧ 8 + (y'.2.2.1 + 11) + 30 * y'.2.2.2.2 ≤ R.locals := ⟨by have := X.2.2.2.2.2.1.1; omega, by have := X.2.2.2.2.2.1.2; have := hA.2.2.2; omega⟩
  have hpre : ∀ U : State, U.heap = H → s.WarmedH U.vm → va_Pc (.ref a :: av) (PzU dA D ws H.size) (.ref a :: av).toArray U := fun U hU hW => ⟨rfl, by rw [hU], by rw [hU]; exact hP, hD.weaken (fun _ _ _ _ => trivial), va_K.moved hW.alike X.2.2.2.2.2.2.2.2.1, fun q hq => va_Nw.warmM hW (X.2.2.2.2.2.2.2.2.2.1 q hq), va_AO.moved hW.alike X.2.2.2.2.2.2.2.2.2.2.1⟩
  have hM' := hM H.size l D
  refine callU (va_runI (As := av) (rest := stk) ⟨X.1, X.2.1, X.2.2.1, X.2.2.2.1, X.2.2.2.2.1⟩ hM' (cwI (bytes := y'.2.1) (maxL := y'.2.2.1) nn X.2.2.2.2.1 (gws_callee hA.1) (by rw [← hr0]) rfl rfl hini (X.2.2.2.2.1 _ hw) (X.2.2.2.2.1 _ hin) hnm hA.2.2.1 hrm) ⟨PzU_blind, hpre⟩ rfl hn hL.1 rfl (lv_room h8) hd ⟨Nat.le_trans hc X.2.2.2.2.2.2.1.1, Nat.le_trans hm X.2.2.2.2.2.2.1.2⟩) X hR hD hS hL hk
theorem U_callN {dA : Nat → ClassId} {y : Md} {mc ms stop : Nat} {lv : va_W → List (Nat × Value)} {pc : Nat} {L : List (Nat × Value)} {stk : List Value} {ws : va_W} {c0 s0 : Nat} {post : PoU} {y' : Md} {mc' ms' a nn idx : Nat} {av stk0 : List Value} {post' : PoU} (hw : ∃ host, (y.1.cls, idx, y'.1, host) ∈ nestW) (hA : CallA y' nn) (hin : Cond.instanceMethod y'.1 ∈ gws) (hnm : y'.1.name = "<init>") (hr0 : y'.2.2.2.1 = none) (hs : stk0 = av.reverse ++ .ref a :: stk) (hn : av.length = nn) (hh : y'.2.2.2.2 < y.2.2.2.2) (h8 : (stk.map fun v => v.category).sum ≤ 8) (hc : c0 + mc' ≤ mc) (hm : s0 + ms' ≤ ms) (hd : decode y.2.1 pc = .ok (.invokespecial idx, 3)) (hM : ∀ sz : Nat, CU dA y' mc' ms' (.ref a :: av) ws sz post') (hk : ∀ ws', post' ws' → UK dA y mc ms stop lv (pc + 3) L stk ws' (c0 + mc') (s0 + ms') post) : UK dA y mc ms stop lv pc L stk0 ws c0 s0 post := by
  intro p l e R s m args below meth c A D Q X hR H locs ls hP hD hS hL
  subst hs
  have hini := X.2.2.2.2.1 _ hA.2.1
  have hrm : y'.2.2.2.2 + 1 ≤ R.frames ∧ 8 + (y'.2.2.1 + 11) + 30 * y'.2.2.2.2 ≤ R.locals := ⟨by have := X.2.2.2.2.2.1.1; omega, by have := X.2.2.2.2.2.1.2; have := hA.2.2.2; omega⟩
  have hpre : ∀ U : State, U.heap = H → s.WarmedH U.vm → va_Pc (.ref a :: av) (PzU dA D ws H.size) (.ref a :: av).toArray U := fun U hU hW => ⟨rfl, by rw [hU], by rw [hU]; exact hP, hD.weaken (fun _ _ _ _ => trivial), va_K.moved hW.alike X.2.2.2.2.2.2.2.2.1, fun q hq => va_Nw.warmM hW (X.2.2.2.2.2.2.2.2.2.1 q hq), va_AO.moved hW.alike X.2.2.2.2.2.2.2.2.2.2.1⟩
  have hM' := hM H.size l D
  obtain ⟨host, hnest⟩ := hw
  refine callU (va_runIN (host := host) (As := av) (rest := stk) ⟨X.1, X.2.1, X.2.2.1, X.2.2.2.1, X.2.2.2.2.1⟩ hM' ⟨va_cnB (bytes := y'.2.1) (maxL := y'.2.2.1) nn X.2.2.2.2.1 (gws_callee hA.1) (by rw [← hr0]) rfl rfl (X.2.2.2.2.2.2.2.2.2.1 _ hnest) hini hA.2.2.1 hrm, hnm, X.2.2.2.2.1 _ hin⟩ ⟨PzU_blind, hpre⟩ rfl hn hL.1 rfl (lv_room h8) hd ⟨Nat.le_trans hc X.2.2.2.2.2.2.1.1, Nat.le_trans hm X.2.2.2.2.2.2.1.2⟩) X hR hD hS hL hk
