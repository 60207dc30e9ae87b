/-! ===== PURE HALF, by hand: what the class's book says, what is printed of it, the invariant ===== -/
/-- rows of a book: 0 (0 heads, 7 marks, 13 kept), 1 words, 2 subs, 3 words of subs, 4 see, 5 also, 6 asked, 7 .. 11 marks (head, sub, from, to, main) -/
def bk (σ : Sg) (k : Nat) : Sg := fun j => if j = 0 then (fun x => if x = 0 then σ k 0 else σ k 7) else if j < 12 then σ (k + j) else fun _ => 0
/-- the reference's kept image i, in the order of its own rows -/
def kv (σ : Sg) (i : Int) : Sg := fun j => match j with
  | 0 => fun x => if x = 0 then σ 122 i else σ 129 i
  | 1 => fun h => σ 123 (16 * i + h)
  | 2 => fun w => σ 124 (112 * i + w)
  | 3 => fun w => σ 125 (1344 * i + w)
  | 4 => fun h => σ 126 (16 * i + h)
  | 5 => fun h => σ 127 (16 * i + h)
  | 6 => fun h => σ 128 (16 * i + h)
  | j => if j < 12 then (fun k => σ (j + 123) (60 * i + k)) else fun _ => 0
def ew (B : Sg) (h s : Int) : Int := if s = -1 then B 1 h else B 3 (h * 6 + s)
def sumN (f : Int → Int) : Nat → Int
  | 0 => 0
  | n + 1 => sumN f n + f n
def alsoSum (B : Sg) : Int := sumN (fun h => cnt (fun g => has (B 5 h) g) 16) (B 0 0).toNat
def WfH (B : Sg) (h : Int) : Prop := (0 ≤ B 2 h ∧ B 2 h ≤ 6) ∧ (-1 ≤ B 4 h ∧ B 4 h < B 0 0) ∧ (0 ≤ B 5 h ∧ B 5 h < 65536 ∧ ∀ g : Int, 0 ≤ g → has (B 5 h) g = true → g < B 0 0) ∧ (0 ≤ B 6 h ∧ B 6 h ≤ 99) ∧ ∀ s : Int, -1 ≤ s → s < B 2 h → WW (ew B h s)
def WfM (B : Sg) (k : Int) : Prop := (0 ≤ B 7 k ∧ B 7 k < B 0 0) ∧ (-1 ≤ B 8 k ∧ B 8 k < B 2 (B 7 k)) ∧ (1 ≤ B 9 k ∧ B 9 k ≤ B 10 k ∧ B 10 k ≤ 99) ∧ (B 11 k = 0 ∨ B 11 k = 1)
def WfB (B : Sg) : Prop := (0 ≤ B 0 0 ∧ B 0 0 ≤ 16) ∧ (0 ≤ B 0 7 ∧ B 0 7 ≤ 60) ∧ (∀ h : Int, 0 ≤ h → h < B 0 0 → WfH B h) ∧ (∀ k : Int, 0 ≤ k → k < B 0 7 → WfM B k) ∧ alsoSum B ≤ 8
/-- a word as the reference has it -/
def RW (sz wd : Int → Int) (w c : Int) : Prop := sz w = wlen c ∧ ∀ i : Int, 0 ≤ i → i < wlen c → wd (12 * w + i) = cd c i + 94
def RH (ρ B : Sg) (h : Int) : Prop := ρ 1 h = B 2 h ∧ ρ 4 h = B 4 h ∧ ρ 5 h = B 5 h ∧ ρ 6 h = B 6 h ∧ ∀ s : Int, -1 ≤ s → s < B 2 h → RW (ρ 2) (ρ 3) (7 * h + 1 + s) (ew B h s)
def RM (ρ B : Sg) (k : Int) : Prop := ρ 7 k = B 7 k ∧ ρ 8 k = B 8 k ∧ ρ 9 k = B 9 k ∧ ρ 10 k = B 10 k ∧ ρ 11 k = B 11 k
def RA (ρ B : Sg) : Prop := ρ 0 0 = B 0 0 ∧ ρ 0 7 = B 0 7 ∧ (∀ h : Int, 0 ≤ h → h < B 0 0 → RH ρ B h) ∧ ∀ k : Int, 0 ≤ k → k < B 0 7 → RM ρ B k
/-! the order -/
def fnd (p : Int → Bool) : Nat → Int
  | 0 => -1
  | n + 1 => if 0 ≤ fnd p n then fnd p n else if p n = true then n else -1
def plc (key : Int → Int) (n : Nat) (j : Int) : Int := cnt (fun l => decide (key l < key j ∨ key l = key j ∧ l < j)) n
def ord (key : Int → Int) (n : Nat) (i : Int) : Int := fnd (fun j => decide (plc key n j = i)) n
/-- the letters of the first n bytes of a word, without underlines -/
def lets (c : Int) : Nat → List Int
  | 0 => []
  | n + 1 => if 1 < cd c n then lets c n ++ [cd c n] else lets c n
def pkL : List Int → Int
  | [] => 0
  | d :: l => d * 36028797018963968 + pkL l / 32
def keyOf (how c : Int) : Int := if how = 1 then c else pkL (lets c 12)
def hkey (B : Sg) (how j : Int) : Int := keyOf how (B 1 j)
def skey (B : Sg) (how h j : Int) : Int := keyOf how (B 3 (h * 6 + j))
/-! marks, pages, runs -/
def isM (B : Sg) (h s k : Int) : Bool := decide (B 7 k = h ∧ (s = -2 ∨ B 8 k = s))
def nM (B : Sg) (h s : Int) : Int := cnt (isM B h s) (B 0 7).toNat
def tkN (B : Sg) (h s p : Int) : Nat → Int
  | 0 => 0
  | n + 1 => if isM B h s n = true ∧ B 9 n ≤ p ∧ p ≤ B 10 n then (if B 11 n = 0 ∧ tkN B h s p n ≠ 3 then 1 else 3) else tkN B h s p n
def tk (B : Sg) (h s p : Int) : Int := tkN B h s p (B 0 7).toNat
def Rep (T : Int → Int) : Int → List (Int × Int × Int) → Prop
  | p, [] => ∀ q : Int, p ≤ q → q ≤ 99 → T q = 0
  | p, (a, b, m) :: R => (p ≤ a ∧ a ≤ b ∧ b ≤ 99) ∧ (∀ q : Int, p ≤ q → q < a → T q = 0) ∧ (∀ q : Int, a ≤ q → q ≤ b → T q ≠ 0) ∧ T (b + 1) = 0 ∧ ((m = 0 ∧ ∀ q : Int, a ≤ q → q ≤ b → T q ≠ 3) ∨ (m = 1 ∧ ∃ q : Int, a ≤ q ∧ q ≤ b ∧ T q = 3)) ∧ Rep T (b + 1) R
noncomputable def rL (B : Sg) (h s : Int) : List (Int × Int × Int) := Classical.epsilon (fun R => Rep (tk B h s) 1 R)
/-! what is printed -/
def wbl (c : Int) : List Int := (List.range (wlen c).toNat).map (fun i : Nat => cd c (i : Int) + 94)
def pgB (p : Int) : List Int := if 9 < p then [48 + p / 10, 48 + p % 10] else [48 + p % 10]
def runB (r : Int × Int × Int) : List Int := (if r.2.2 = 1 then [42] else []) ++ pgB r.1 ++ (if r.1 < r.2.1 then 45 :: pgB r.2.1 else [])
def rowT (w : Int) : Int → List (List Int) → List Int
  | _, [] => [10]
  | col, u :: us => if col + 2 + u.length ≤ w then [44, 32] ++ u ++ rowT w (col + 2 + u.length) us else [44, 10, 32, 32, 32, 32] ++ u ++ rowT w (4 + u.length) us
def rowB (w : Int) (u : List Int) (us : List (List Int)) : List Int := u ++ rowT w u.length us
def seeB : List Int := [115, 101, 101, 32]
noncomputable def subB (B : Sg) (how w h s : Int) : List Int := if 0 < nM B h s then rowB w ([32, 32] ++ wbl (ew B h s)) ((rL B h s).map runB) else []
def catN (f : Int → List Int) : Nat → List Int
  | 0 => []
  | n + 1 => catN f n ++ f n
noncomputable def subsB (B : Sg) (how w h : Int) : List Int := catN (fun i => subB B how w h (ord (skey B how h) (B 2 h).toNat i)) (B 2 h).toNat
/-- the heads of a set, in the order -/
def alsL (B : Sg) (how set : Int) : Nat → List Int
  | 0 => []
  | n + 1 => alsL B how set n ++ (if has set (ord (hkey B how) (B 0 0).toNat n) = true then [ord (hkey B how) (B 0 0).toNat n] else [])
def alsB (B : Sg) (how w set : Int) : List Int := match alsL B how set (B 0 0).toNat with
  | [] => []
  | g :: gs => rowB w ([32, 32] ++ seeB ++ [97, 108, 115, 111, 32] ++ wbl (B 1 g)) (gs.map (fun g => wbl (B 1 g)))
/-- of head h, with the marks of src, folded (1) or not (0) -/
noncomputable def hdB (B : Sg) (how w h src fold : Int) : List Int :=
  (if 0 < nM B src (-2) then
    rowB w (wbl (B 1 h)) ((rL B src (if fold = 1 then -2 else -1)).map runB) ++ (if fold = 1 then [] else subsB B how w src) ++ (if src = h ∧ B 4 h ≠ -1 then rowB w ([32, 32] ++ seeB ++ wbl (B 1 (B 4 h))) [] else [])
  else if src = h ∧ B 4 h ≠ -1 then rowB w (wbl (B 1 h) ++ [44, 32] ++ seeB ++ wbl (B 1 (B 4 h))) []
  else if B 5 h ≠ 0 then rowB w (wbl (B 1 h)) [] else [])
  ++ (if B 5 h ≠ 0 then alsB B how w (B 5 h) else [])
def tens : List Int → Int
  | [] => 0
  | b :: l => (if b = 10 then 1 else 0) + tens l
noncomputable def allB (B : Sg) (how w : Int) : Nat → List Int
  | 0 => []
  | n + 1 => allB B how w n ++ hdB B how w (ord (hkey B how) (B 0 0).toNat n) (ord (hkey B how) (B 0 0).toNat n) 0
/-- bytes lie in a row from 0 on -/
def lies (f : Int → Int) (l : List Int) : Prop := ∀ i : Nat, i < l.length → f i = l.getD i 0
def PrOK (σ : Sg) : Prop := (σ 53 2 = σ 0 3 ∧ ∀ i : Int, 0 ≤ i → i < σ 5 0 → σ 55 i = ord (hkey (bk σ 5) (σ 0 3)) (σ 5 0).toNat i) ∧
  (σ 64 1 = (allB (bk σ 5) (σ 0 3) (σ 0 4) (σ 5 0).toNat).length ∧ σ 64 2 = tens (allB (bk σ 5) (σ 0 3) (σ 0 4) (σ 5 0).toNat) ∧ lies (σ 65) (allB (bk σ 5) (σ 0 3) (σ 0 4) (σ 5 0).toNat)) ∧
  ∀ h : Int, 0 ≤ h → h < σ 5 0 → σ 1 h = tens (hdB (bk σ 5) (σ 0 3) (σ 0 4) h h 0)
/-! the invariant -/
def ImOK (σ : Sg) (k : Nat) (i : Int) : Prop := σ k 13 = σ 135 i ∧ (σ k 13 = 0 ∨ σ k 13 = 1) ∧ (σ k 13 = 1 → WfB (bk σ k) ∧ RA (kv σ i) (bk σ k))
def TxOK (σ : Sg) : Prop := σ 3 0 = σ 94 14 ∧ (0 ≤ σ 3 0 ∧ σ 3 0 ≤ 600) ∧ ∀ i : Int, 0 ≤ i → i < σ 3 0 → (0 ≤ σ 106 i ∧ σ 106 i ≤ 255) ∧ σ 4 i = if σ 106 i < 128 then σ 106 i else σ 106 i - 256
def PaOK (σ : Sg) : Prop := σ 90 0 = σ 94 47 ∧ (0 ≤ σ 90 0 ∧ σ 90 0 ≤ 20) ∧ (∀ i : Int, 0 ≤ i → i < σ 90 0 → σ 91 i = σ 118 i ∧ 1 ≤ σ 118 i ∧ σ 92 i = σ 119 i - σ 118 i) ∧ ∀ i : Int, 0 ≤ i → i < 20 → (0 ≤ σ 118 i ∧ σ 118 i ≤ 99) ∧ (0 ≤ σ 119 i ∧ σ 119 i ≤ 199)
def ScOK (σ : Sg) : Prop := (σ 0 1 = 5 ∧ σ 3 5 = 41) ∧ (σ 3 2 = σ 94 19 ∧ -1 ≤ σ 3 2 ∧ σ 3 2 ≤ 600) ∧ (σ 0 3 = σ 94 27 ∧ (σ 0 3 = 0 ∨ σ 0 3 = 1)) ∧ (σ 0 4 = σ 94 28 ∧ 20 ≤ σ 0 4 ∧ σ 0 4 ≤ 80) ∧ (σ 0 9 = 0 ∨ σ 0 9 = 1)
def Inv (σ : Sg) : Prop := ScOK σ ∧ TxOK σ ∧ PaOK σ ∧ (WfB (bk σ 5) ∧ RA (bk σ 94) (bk σ 5)) ∧ (ImOK σ 17 0 ∧ ImOK σ 29 1) ∧ (σ 0 9 = 1 → PrOK σ)
/-! what they say, in rows of the memory -/
theorem bk_congr {σ σ' : Sg} {k k' : Nat} (h0 : σ' k' 0 = σ k 0) (h7 : σ' k' 7 = σ k 7) (h : ∀ j, 1 ≤ j → j < 12 → σ' (k' + j) = σ (k + j)) : bk σ' k' = bk σ k := by
  funext j
  unfold bk
  by_cases e : j = 0
  · rw [if_pos e, if_pos e, h0, h7]
  · rw [if_neg e, if_neg e]
    by_cases e2 : j < 12
    · rw [if_pos e2, if_pos e2, h j (by omega) e2]
    · rw [if_neg e2, if_neg e2]
theorem Wb_heads {σ : Sg} {k : Nat} (h : WfB (bk σ k)) : 0 ≤ σ k 0 ∧ σ k 0 ≤ 16 := h.1
theorem Wb_marks {σ : Sg} {k : Nat} (h : WfB (bk σ k)) : 0 ≤ σ k 7 ∧ σ k 7 ≤ 60 := h.2.1
theorem Wb_h {σ : Sg} {k : Nat} (h : WfB (bk σ k)) {i : Int} (i0 : 0 ≤ i) (i1 : i < σ k 0) : WfH (bk σ k) i := h.2.2.1 i i0 i1
theorem Wb_subs {σ : Sg} {k : Nat} (h : WfB (bk σ k)) {i : Int} (i0 : 0 ≤ i) (i1 : i < σ k 0) : 0 ≤ σ (k + 2) i ∧ σ (k + 2) i ≤ 6 := (Wb_h h i0 i1).1
theorem Wb_see {σ : Sg} {k : Nat} (h : WfB (bk σ k)) {i : Int} (i0 : 0 ≤ i) (i1 : i < σ k 0) : -1 ≤ σ (k + 4) i ∧ σ (k + 4) i < σ k 0 := (Wb_h h i0 i1).2.1
theorem Wb_also {σ : Sg} {k : Nat} (h : WfB (bk σ k)) {i : Int} (i0 : 0 ≤ i) (i1 : i < σ k 0) : 0 ≤ σ (k + 5) i ∧ σ (k + 5) i < 65536 ∧ ∀ g : Int, 0 ≤ g → has (σ (k + 5) i) g = true → g < σ k 0 := (Wb_h h i0 i1).2.2.1
theorem Wb_ask {σ : Sg} {k : Nat} (h : WfB (bk σ k)) {i : Int} (i0 : 0 ≤ i) (i1 : i < σ k 0) : 0 ≤ σ (k + 6) i ∧ σ (k + 6) i ≤ 99 := (Wb_h h i0 i1).2.2.2.1
theorem Wb_ww {σ : Sg} {k : Nat} (h : WfB (bk σ k)) {i s : Int} (i0 : 0 ≤ i) (i1 : i < σ k 0) (s0 : -1 ≤ s) (s1 : s < σ (k + 2) i) : WW (ew (bk σ k) i s) := (Wb_h h i0 i1).2.2.2.2 s s0 s1
theorem Wb_wh {σ : Sg} {k : Nat} (h : WfB (bk σ k)) {i : Int} (i0 : 0 ≤ i) (i1 : i < σ k 0) : WW (σ (k + 1) i) := by
  have e := Wb_ww h (s := -1) i0 i1 (by decide) (by have := Wb_subs h i0 i1; omega)
  unfold ew at e
  rw [if_pos rfl] at e
  exact e
theorem Wb_ws {σ : Sg} {k : Nat} (h : WfB (bk σ k)) {i s : Int} (i0 : 0 ≤ i) (i1 : i < σ k 0) (s0 : 0 ≤ s) (s1 : s < σ (k + 2) i) : WW (σ (k + 3) (i * 6 + s)) := by
  have e := Wb_ww h (s := s) i0 i1 (by omega) s1
  unfold ew at e
  rw [if_neg (by omega)] at e
  exact e
theorem Wb_m {σ : Sg} {k : Nat} (h : WfB (bk σ k)) {i : Int} (i0 : 0 ≤ i) (i1 : i < σ k 7) : (0 ≤ σ (k + 7) i ∧ σ (k + 7) i < σ k 0) ∧ (-1 ≤ σ (k + 8) i ∧ σ (k + 8) i < σ (k + 2) (σ (k + 7) i)) ∧ (1 ≤ σ (k + 9) i ∧ σ (k + 9) i ≤ σ (k + 10) i ∧ σ (k + 10) i ≤ 99) ∧ (σ (k + 11) i = 0 ∨ σ (k + 11) i = 1) := h.2.2.2.1 i i0 i1
theorem Ra_heads {σ B : Sg} (h : RA (bk σ 94) B) : σ 94 0 = B 0 0 := h.1
theorem Ra_marks {σ B : Sg} (h : RA (bk σ 94) B) : σ 94 7 = B 0 7 := h.2.1
theorem Ra_h {σ B : Sg} (h : RA (bk σ 94) B) {i : Int} (i0 : 0 ≤ i) (i1 : i < B 0 0) : RH (bk σ 94) B i := h.2.2.1 i i0 i1
theorem Ra_subs {σ B : Sg} (h : RA (bk σ 94) B) {i : Int} (i0 : 0 ≤ i) (i1 : i < B 0 0) : σ 95 i = B 2 i := (Ra_h h i0 i1).1
theorem Ra_see {σ B : Sg} (h : RA (bk σ 94) B) {i : Int} (i0 : 0 ≤ i) (i1 : i < B 0 0) : σ 98 i = B 4 i := (Ra_h h i0 i1).2.1
theorem Ra_also {σ B : Sg} (h : RA (bk σ 94) B) {i : Int} (i0 : 0 ≤ i) (i1 : i < B 0 0) : σ 99 i = B 5 i := (Ra_h h i0 i1).2.2.1
theorem Ra_ask {σ B : Sg} (h : RA (bk σ 94) B) {i : Int} (i0 : 0 ≤ i) (i1 : i < B 0 0) : σ 100 i = B 6 i := (Ra_h h i0 i1).2.2.2.1
theorem Ra_w {σ B : Sg} (h : RA (bk σ 94) B) {i s : Int} (i0 : 0 ≤ i) (i1 : i < B 0 0) (s0 : -1 ≤ s) (s1 : s < B 2 i) : RW (σ 96) (σ 97) (7 * i + 1 + s) (ew B i s) := (Ra_h h i0 i1).2.2.2.2 s s0 s1
theorem Ra_m {σ B : Sg} (h : RA (bk σ 94) B) {i : Int} (i0 : 0 ≤ i) (i1 : i < B 0 7) : σ 101 i = B 7 i ∧ σ 102 i = B 8 i ∧ σ 103 i = B 9 i ∧ σ 104 i = B 10 i ∧ σ 105 i = B 11 i := h.2.2.2 i i0 i1
/-! frames -/
def Fr (M : List Nat) (σ σ' : Sg) : Prop := ∀ k : Nat, k ∉ M → σ' k = σ k
def FrJ (M : List Nat) (J : List Int) (σ σ' : Sg) : Prop := (∀ k : Nat, k ∉ M → k ≠ 94 → σ' k = σ k) ∧ ∀ j : Int, j ∉ J → σ' 94 j = σ 94 j
theorem Fr.rf {M : List Nat} {σ : Sg} : Fr M σ σ := fun _ _ => rfl
theorem Fr.tr {M : List Nat} {σ σ' σ'' : Sg} (h : Fr M σ σ') (h2 : Fr M σ' σ'') : Fr M σ σ'' := fun k hk => (h2 k hk).trans (h k hk)
theorem Fr.mo {M N : List Nat} {σ σ' : Sg} (h : Fr M σ σ') (hs : ∀ k, k ∈ M → k ∈ N) : Fr N σ σ' := fun k hk => h k (fun z => hk (hs k z))
theorem Fr.u {M : List Nat} {σ σ' : Sg} (h : Fr M σ σ') {k : Nat} {i v : Int} (hk : k ∈ M) : Fr M σ (up σ' k i v) := fun a ha => (up_r (a := a) (fun z => ha (by rw [z]; exact hk))).trans (h a ha)
theorem Fr.s {M : List Nat} {σ σ' : Sg} (h : Fr M σ σ') {k : Nat} {f : Int → Int} (hk : k ∈ M) : Fr M σ (st σ' k f) := fun a ha => (st_ne (a := a) (fun z => ha (by rw [z]; exact hk))).trans (h a ha)
theorem FrJ.rf {M : List Nat} {J : List Int} {σ : Sg} : FrJ M J σ σ := ⟨fun _ _ _ => rfl, fun _ _ => rfl⟩
theorem FrJ.tr {M : List Nat} {J : List Int} {σ σ' σ'' : Sg} (h : FrJ M J σ σ') (h2 : FrJ M J σ' σ'') : FrJ M J σ σ'' := ⟨fun k hk h94 => (h2.1 k hk h94).trans (h.1 k hk h94), fun j hj => (h2.2 j hj).trans (h.2 j hj)⟩
theorem FrJ.mo {M N : List Nat} {J K : List Int} {σ σ' : Sg} (h : FrJ M J σ σ') (hs : ∀ k, k ∈ M → k ∈ N) (hs2 : ∀ j, j ∈ J → j ∈ K) : FrJ N K σ σ' := ⟨fun k hk h94 => h.1 k (fun z => hk (hs k z)) h94, fun j hj => h.2 j (fun z => hj (hs2 j z))⟩
theorem FrJ.u {M : List Nat} {J : List Int} {σ σ' : Sg} (h : FrJ M J σ σ') {k : Nat} {i v : Int} (hk : k ∈ M) (h94 : k ≠ 94) : FrJ M J σ (up σ' k i v) := ⟨fun a ha h9 => (up_r (a := a) (fun z => ha (by rw [z]; exact hk))).trans (h.1 a ha h9), fun j hj => (up_o (fun z => h94 z.symm)).trans (h.2 j hj)⟩
theorem FrJ.j {M : List Nat} {J : List Int} {σ σ' : Sg} (h : FrJ M J σ σ') {i v : Int} (hi : i ∈ J) : FrJ M J σ (up σ' 94 i v) := ⟨fun a ha h9 => (up_r (a := a) h9).trans (h.1 a ha h9), fun j hj => (up_f (j := j) (fun z => hj (by rw [z]; exact hi))).trans (h.2 j hj)⟩
