/-! ===== THE ENGINE, first half: numbers, mini-values, locals. Whole numbers are Int; iI, lI put them into Int32, Int64 ===== -/
def iI (z : Int) : Int32 := Int32.ofInt z
def lI (z : Int) : Int64 := Int64.ofInt z
abbrev rng (z : Int) : Prop := -2147483648 ≤ z ∧ z ≤ 2147483647
abbrev rngL (z : Int) : Prop := -9223372036854775808 ≤ z ∧ z ≤ 9223372036854775807
theorem iI_add (a b : Int) : iI a + iI b = iI (a + b) := (Int32.ofInt_add a b).symm
theorem iI_sub (a b : Int) : iI a - iI b = iI (a - b) := (Int32.ofInt_sub a b).symm
theorem iI_mul (a b : Int) : iI a * iI b = iI (a * b) := (Int32.ofInt_mul a b).symm
theorem lI_add (a b : Int) : lI a + lI b = lI (a + b) := (Int64.ofInt_add a b).symm
theorem lI_sub (a b : Int) : lI a - lI b = lI (a - b) := (Int64.ofInt_sub a b).symm
theorem iI_toInt {a : Int} (h : rng a) : (iI a).toInt = a := Int32.toInt_ofInt_of_le (by have := h.1; omega) (by have := h.2; omega)
theorem lI_toInt {a : Int} (h : rngL a) : (lI a).toInt = a := Int64.toInt_ofInt_of_le (by have := h.1; omega) (by have := h.2; omega)
theorem iI_of (x : Int32) : iI x.toInt = x := Int32.ofInt_toInt x
theorem lI_of (x : Int64) : lI x.toInt = x := Int64.ofInt_toInt x
theorem rng_of (x : Int32) : rng x.toInt := ⟨by have := x.le_toInt; omega, by have := x.toInt_lt; omega⟩
theorem rngL_of (x : Int64) : rngL x.toInt := ⟨by have := x.le_toInt; omega, by have := x.toInt_lt; omega⟩
theorem iI_lt {a b : Int} (ha : rng a) (hb : rng b) : iI a < iI b ↔ a < b := by rw [Int32.lt_iff_toInt_lt, iI_toInt ha, iI_toInt hb]
theorem iI_le {a b : Int} (ha : rng a) (hb : rng b) : iI a ≤ iI b ↔ a ≤ b := by rw [Int32.le_iff_toInt_le, iI_toInt ha, iI_toInt hb]
theorem iI_eq {a b : Int} (ha : rng a) (hb : rng b) : iI a = iI b ↔ a = b := by rw [← Int32.toInt_inj, iI_toInt ha, iI_toInt hb]
theorem lI_lt {a b : Int} (ha : rngL a) (hb : rngL b) : lI a < lI b ↔ a < b := by rw [Int64.lt_iff_toInt_lt, lI_toInt ha, lI_toInt hb]
theorem lI_eq {a b : Int} (ha : rngL a) (hb : rngL b) : lI a = lI b ↔ a = b := by rw [← Int64.toInt_inj, lI_toInt ha, lI_toInt hb]
theorem iI_0 : iI 0 = 0 := by decide +kernel
theorem rng_0 : rng 0 := by decide
theorem iI_clamp {a : Int} (h0 : 0 ≤ a) (h : rng a) : (iI a).toNatClampNeg = a.toNat := by rw [← Int32.toNat_toInt, iI_toInt h]
theorem iI_in {a : Int} {n : Nat} (h0 : 0 ≤ a) (h1 : a < n) (hn : n < 2147483648) : vp_in (iI a) n := by
  rw [vp_in_iff, iI_toInt ⟨by omega, by omega⟩]
  exact ⟨h0, h1⟩
theorem iI_l {a : Int} (h : rng a) : (iI a).toInt64 = lI a := Int64.toInt_inj.mp (by rw [Int32.toInt_toInt64, iI_toInt h, lI_toInt ⟨by have := h.1; omega, by have := h.2; omega⟩])
theorem lI_i (a : Int) : (lI a).toInt32 = iI a := Int64.toInt32_ofInt
-- operations on bits
def iAnd (a b : Int) : Int := (iI a &&& iI b).toInt
def iOr (a b : Int) : Int := (iI a ||| iI b).toInt
def iXor (a b : Int) : Int := (iI a ^^^ iI b).toInt
def iShl (a b : Int) : Int := (iI a <<< (iI b &&& 31)).toInt
def iShr (a b : Int) : Int := (iI a >>> (iI b &&& 31)).toInt
def iUshr (a b : Int) : Int := ((iI a).toUInt32 >>> ((iI b).toUInt32 &&& Int32.toUInt32 31)).toInt32.toInt
def iDiv (a b : Int) : Int := (iI a / iI b).toInt
def iByte (a : Int) : Int := ((iI a).toInt8.toInt32).toInt
def lAnd (a b : Int) : Int := (lI a &&& lI b).toInt
def lOr (a b : Int) : Int := (lI a ||| lI b).toInt
def lXor (a b : Int) : Int := (lI a ^^^ lI b).toInt
def lShl (a b : Int) : Int := (lI a <<< ((iI b).toInt64 &&& 63)).toInt
def lShr (a b : Int) : Int := (lI a >>> ((iI b).toInt64 &&& 63)).toInt
def lUshr (a b : Int) : Int := ((lI a).toUInt64 >>> ((iI b).toInt64.toUInt64 &&& Int64.toUInt64 63)).toInt64.toInt
-- mini-values: a whole number, a long one, a cell's number
abbrev MV : Type := Int ⊕ (Int ⊕ Nat)
abbrev vi (z : Int) : MV := .inl z
abbrev vl (z : Int) : MV := .inr (.inl z)
abbrev vr (k : Nat) : MV := .inr (.inr k)
def ren (ad : Nat → Nat) : MV → Value
  | .inl z => .int (iI z)
  | .inr (.inl z) => .long (lI z)
  | .inr (.inr k) => .ref (ad k)
/-- the memory: a row a cell -/
abbrev Sg : Type := Nat → Int → Int
def st (σ : Sg) (k : Nat) (f : Int → Int) : Sg := fun a => if a = k then f else σ a
def pt (f : Int → Int) (j v : Int) : Int → Int := fun b => if b = j then v else f b
theorem st_self {σ : Sg} {k : Nat} {f : Int → Int} : st σ k f k = f := if_pos rfl
theorem st_ne {σ : Sg} {k a : Nat} {f : Int → Int} (h : a ≠ k) : st σ k f a = σ a := if_neg h
theorem st_st {σ : Sg} {k : Nat} {f g : Int → Int} : st (st σ k f) k g = st σ k g := by
  funext a; unfold st; by_cases h : a = k <;> simp [h]
theorem pt_self {f : Int → Int} {j v : Int} : pt f j v j = v := if_pos rfl
theorem pt_ne {f : Int → Int} {j b v : Int} (h : b ≠ j) : pt f j v b = f b := if_neg h
-- locals
abbrev Lc : Type := List (Option MV)
def LH (ad : Nat → Nat) (ls : Array Slot) (n : Nat) (L : Lc) : Prop := ls.size = n ∧ lv_wf ls ∧ ∀ (i : Nat) (v : MV), L[i]? = some (some v) → ls[i]? = some (.val (ren ad v))
def isLong : Option (Option MV) → Bool
  | some (some (.inr (.inl _))) => true
  | _ => false
def clr (L : Lc) : Nat → Lc
  | 0 => L
  | j + 1 => if isLong L[j]? = true then L.set j none else L
def stv (L : Lc) (i : Nat) (v : MV) : Lc := (clr L i).set i (some v)
def stw (L : Lc) (i : Nat) (v : MV) : Lc := ((clr L i).set (i + 1) none).set i (some v)
def SubL : Lc → Lc → Prop
  | [], _ => True
  | none :: a, b => SubL a b.tail
  | some v :: a, some w :: b => v = w ∧ SubL a b
  | _, _ => False
theorem SubL.get : ∀ {L' L : Lc}, SubL L' L → ∀ (i : Nat) (v : MV), L'[i]? = some (some v) → L[i]? = some (some v)
  | [], _, _, i, v, h => by simp at h
  | none :: a, b, hs, i, v, h => by
    cases i with
    | zero => simp at h
    | succ i =>
      have := SubL.get (L' := a) (L := b.tail) hs i v (by simpa using h)
      cases b with
      | nil => simp at this
      | cons x b => simpa using this
  | some w :: a, some x :: b, hs, i, v, h => by
    cases i with
    | zero =>
      have h1 := hs.1
      subst h1
      simpa using h
    | succ i =>
      have := SubL.get (L' := a) (L := b) hs.2 i v (by simpa using h)
      simpa using this
  | some w :: a, [], hs, i, v, h => hs.elim
  | some w :: a, none :: b, hs, i, v, h => hs.elim
theorem SubL.rf : ∀ {L : Lc}, SubL L L
  | [] => trivial
  | none :: a => SubL.rf (L := a)
  | some v :: a => ⟨rfl, SubL.rf (L := a)⟩
theorem LH.sub {ad : Nat → Nat} {ls : Array Slot} {n : Nat} {L L' : Lc} (h : LH ad ls n L) (hs : SubL L' L) : LH ad ls n L' := ⟨h.1, h.2.1, fun i v hv => h.2.2 i v (hs.get i v hv)⟩
def asc (ad : Nat → Nat) (L : Lc) : List (Nat × Value) := (List.range L.length).filterMap fun i => match L[i]? with
  | some (some v) => some (i, ren ad v)
  | _ => none
theorem asc_mem {ad : Nat → Nat} {L : Lc} {q : Nat × Value} (h : q ∈ asc ad L) : ∃ v, L[q.1]? = some (some v) ∧ q.2 = ren ad v := by
  obtain ⟨i, hi, h2⟩ := List.mem_filterMap.mp h
  cases hL : L[i]? with
  | none => rw [hL] at h2; cases h2
  | some o =>
    cases o with
    | none => rw [hL] at h2; cases h2
    | some v => rw [hL] at h2; cases h2; exact ⟨v, hL, rfl⟩
theorem mem_asc {ad : Nat → Nat} {L : Lc} {i : Nat} {v : MV} (h : L[i]? = some (some v)) : (i, ren ad v) ∈ asc ad L := by
  refine List.mem_filterMap.mpr ⟨i, List.mem_range.mpr (List.getElem?_eq_some_iff.mp h).1, ?_⟩
  rw [h]
theorem LH.has {ad : Nat → Nat} {ls : Array Slot} {n : Nat} {L : Lc} (h : LH ad ls n L) : lv_has ls n (asc ad L) := by
  refine ⟨h.1, h.2.1, fun q hq => ?_⟩
  obtain ⟨v, h1, h2⟩ := asc_mem hq
  rw [h.2.2 _ v h1, h2]
theorem clr_get {L : Lc} {i j : Nat} {v : MV} (h : (clr L i)[j]? = some (some v)) : L[j]? = some (some v) ∧ ¬ (j + 1 = i ∧ isLong L[j]? = true) := by
  cases i with
  | zero => exact ⟨h, fun q => by omega⟩
  | succ i =>
    have h : (if isLong L[i]? = true then L.set i none else L)[j]? = some (some v) := h
    by_cases hc : isLong L[i]? = true
    · rw [if_pos hc] at h
      by_cases hj : i = j
      · subst hj
        rw [List.getElem?_set] at h
        split at h
        · split at h <;> cases h
        · next hq => exact absurd rfl hq
      · rw [List.getElem?_set_ne hj] at h
        exact ⟨h, fun q => hj (by omega)⟩
    · rw [if_neg hc] at h
      refine ⟨h, fun q => hc ?_⟩
      have : j = i := by omega
      rw [← this]; exact q.2
theorem isLong_cat {L : Lc} {j : Nat} {v : MV} {ad : Nat → Nat} (h : L[j]? = some (some v)) (hn : ¬ isLong L[j]? = true) : ¬ (ren ad v).category = 2 := by
  rw [h] at hn
  rcases v with z | z | k
  · intro q; cases q
  · exact absurd rfl hn
  · intro q; cases q
theorem LH.st1 {ad : Nat → Nat} {ls' : Array Slot} {n i : Nat} {L : Lc} {v : MV} (h : lv_has ls' n ((i, ren ad v) :: (asc ad L).filter (fun q => !(q.1 == i) && !(q.1 + 1 == i && q.2.category == 2)))) : LH ad ls' n (stv L i v) := by
  refine ⟨h.1, h.2.1, fun j w hw => ?_⟩
  unfold stv at hw
  by_cases hj : i = j
  · subst hj
    rw [List.getElem?_set] at hw
    split at hw
    · split at hw
      · cases hw
        exact h.2.2 (i, ren ad v) List.mem_cons_self
      · cases hw
    · next hq => exact absurd rfl hq
  · rw [List.getElem?_set_ne hj] at hw
    obtain ⟨h1, h2⟩ := clr_get hw
    refine h.2.2 (j, ren ad w) (List.mem_cons_of_mem _ (List.mem_filter.mpr ⟨mem_asc h1, ?_⟩))
    have h3 : ¬ (j + 1 = i ∧ (ren ad w).category = 2) := fun q => isLong_cat (ad := ad) h1 (fun z => h2 ⟨q.1, z⟩) q.2
    simp only [Bool.and_eq_true, Bool.not_eq_true', beq_eq_false_iff_ne, ne_eq, Bool.and_eq_false_iff]
    refine ⟨fun q => hj q.symm, ?_⟩
    by_cases h4 : j + 1 = i
    · exact Or.inr (fun q => h3 ⟨h4, q⟩)
    · exact Or.inl h4
theorem LH.st2 {ad : Nat → Nat} {ls' : Array Slot} {n i : Nat} {L : Lc} {v : MV} (h : lv_has ls' n ((i, ren ad v) :: (asc ad L).filter (fun q => !(q.1 == i) && (!(q.1 == i + 1) && !(q.1 + 1 == i && q.2.category == 2))))) : LH ad ls' n (stw L i v) := by
  refine ⟨h.1, h.2.1, fun j w hw => ?_⟩
  unfold stw at hw
  by_cases hj : i = j
  · subst hj
    rw [List.getElem?_set] at hw
    split at hw
    · split at hw
      · cases hw
        exact h.2.2 (i, ren ad v) List.mem_cons_self
      · cases hw
    · next hq => exact absurd rfl hq
  · rw [List.getElem?_set_ne hj] at hw
    by_cases hj1 : i + 1 = j
    · subst hj1
      rw [List.getElem?_set] at hw
      split at hw
      · split at hw <;> cases hw
      · next hq => exact absurd rfl hq
    rw [List.getElem?_set_ne hj1] at hw
    obtain ⟨h1, h2⟩ := clr_get hw
    refine h.2.2 (j, ren ad w) (List.mem_cons_of_mem _ (List.mem_filter.mpr ⟨mem_asc h1, ?_⟩))
    have h3 : ¬ (j + 1 = i ∧ (ren ad w).category = 2) := fun q => isLong_cat (ad := ad) h1 (fun z => h2 ⟨q.1, z⟩) q.2
    simp only [Bool.and_eq_true, Bool.not_eq_true', beq_eq_false_iff_ne, ne_eq, Bool.and_eq_false_iff]
    refine ⟨fun q => hj q.symm, fun q => hj1 q.symm, ?_⟩
    by_cases h4 : j + 1 = i
    · exact Or.inr (fun q => h3 ⟨h4, q⟩)
    · exact Or.inl h4
/-- the locals of a method's start -/
def args0 : List MV → Lc
  | [] => []
  | .inr (.inl z) :: r => some (vl z) :: none :: args0 r
  | v :: r => some v :: args0 r
theorem args0_mem (ad : Nat → Nat) : ∀ (vs : List MV) (i0 i : Nat) (v : MV), (args0 vs)[i]? = some (some v) → (i0 + i, ren ad v) ∈ lv_args i0 (vs.map (ren ad))
  | [], i0, i, v, h => by simp [args0] at h
  | .inl z :: r, i0, i, v, h => by
    cases i with
    | zero =>
      have : vi z = v := by simpa [args0] using h
      subst this
      exact List.mem_cons_self
    | succ i =>
      have := args0_mem ad r (i0 + 1) i v (by simpa [args0] using h)
      refine List.mem_cons_of_mem _ ?_
      have e : i0 + (i + 1) = i0 + 1 + i := by omega
      rw [e]
      exact this
  | .inr (.inr k) :: r, i0, i, v, h => by
    cases i with
    | zero =>
      have : vr k = v := by simpa [args0] using h
      subst this
      exact List.mem_cons_self
    | succ i =>
      have := args0_mem ad r (i0 + 1) i v (by simpa [args0] using h)
      refine List.mem_cons_of_mem _ ?_
      have e : i0 + (i + 1) = i0 + 1 + i := by omega
      rw [e]
      exact this
  | .inr (.inl z) :: r, i0, i, v, h => by
    cases i with
    | zero =>
      have : vl z = v := by simpa [args0] using h
      subst this
      exact List.mem_cons_self
    | succ i =>
      cases i with
      | zero => simp [args0] at h
      | succ i =>
        have := args0_mem ad r (i0 + 2) i v (by simpa [args0] using h)
        refine List.mem_cons_of_mem _ ?_
        have e : i0 + (i + 1 + 1) = i0 + 2 + i := by omega
        rw [e]
        exact this
theorem LH.entry {ad : Nat → Nat} {vs : List MV} {n : Nat} (h : (lg_sl (vs.map (ren ad))).length ≤ n) : LH ad ((lg_sl (vs.map (ren ad)) ++ List.replicate (n - (lg_sl (vs.map (ren ad))).length) Slot.unset).toArray) n (args0 vs) := by
  have h1 := lv_entry (vs.map (ren ad)) h
  refine ⟨h1.1, h1.2.1, fun i v hv => ?_⟩
  have := h1.2.2 _ (args0_mem ad vs 0 i v hv)
  simpa using this
