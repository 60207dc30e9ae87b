/-! ===== PURE HALF, by hand: what to fold or leave out; two tables that say the same ===== -/
def mn (a b : Int) : Int := if a ≤ b then a else b
theorem mn_c (a b : Int) : (mn a b = a ∧ a ≤ b) ∨ (mn a b = b ∧ b ≤ a) := by
  unfold mn
  split <;> omega
theorem mn_e {a b z : Int} (h : (z = a ∧ a ≤ b) ∨ (z = b ∧ b ≤ a)) : z = mn a b := by
  have := mn_c a b
  omega
def byw (Ln Ls : Int → Int → Int) (E : Int → Int) (h w l : Int) : Int := if l - Ln h w < 0 ∨ Ls h w = 268435456 then 268435456 else mn 268435456 (Ls h w + E (l - Ln h w))
def Ex (Ln Ls : Int → Int → Int) (n : Int) : Nat → Int → Int
  | 0, l => if l = 0 then 0 else 268435456
  | k + 1, l => mn (mn (byw Ln Ls (Ex Ln Ls n k) (n - (k + 1)) 0 l) (byw Ln Ls (Ex Ln Ls n k) (n - (k + 1)) 1 l)) (byw Ln Ls (Ex Ln Ls n k) (n - (k + 1)) 2 l)
def okW (Ln Ls : Int → Int → Int) (n : Int) : Prop := ∀ h : Int, 0 ≤ h → h < n → (∀ w : Int, 0 ≤ w → w ≤ 2 → (0 ≤ Ln h w ∧ Ln h w ≤ 1400) ∧ (Ls h w = 268435456 ∨ (0 ≤ Ls h w ∧ Ls h w ≤ 2000))) ∧ Ls h 0 = 0 ∧ Ln h 2 = 0 ∧ (0 < Ln h 0 → Ls h 2 ≠ 268435456) ∧ (Ls h 1 = 268435456 → Ln h 1 = 0)
theorem byw_b {Ln Ls : Int → Int → Int} {E : Int → Int} {h w l : Int} (hE : ∀ l, 0 ≤ E l) (hS : Ls h w = 268435456 ∨ 0 ≤ Ls h w) : 0 ≤ byw Ln Ls E h w l ∧ byw Ln Ls E h w l ≤ 268435456 := by
  unfold byw
  split
  · omega
  · have := mn_c 268435456 (Ls h w + E (l - Ln h w))
    have := hE (l - Ln h w)
    omega
theorem Ex_b {Ln Ls : Int → Int → Int} {n : Int} (hk : okW Ln Ls n) : ∀ k : Nat, (k : Int) ≤ n → ∀ l : Int, 0 ≤ Ex Ln Ls n k l ∧ Ex Ln Ls n k l ≤ 268435456
  | 0, _, l => by rw [Ex]; split <;> omega
  | k + 1, hn, l => by
    have ih := Ex_b hk k (by omega)
    have o := (hk (n - (k + 1)) (by omega) (by omega)).1
    have b : ∀ w : Int, 0 ≤ w → w ≤ 2 → 0 ≤ byw Ln Ls (Ex Ln Ls n k) (n - (k + 1)) w l ∧ byw Ln Ls (Ex Ln Ls n k) (n - (k + 1)) w l ≤ 268435456 := fun w a c => byw_b (fun l => (ih l).1) (by have := (o w a c).2; omega)
    have b0 := b 0 (by decide) (by decide)
    have b1 := b 1 (by decide) (by decide)
    have b2 := b 2 (by decide) (by decide)
    rw [Ex]
    have m1 := mn_c (byw Ln Ls (Ex Ln Ls n k) (n - (k + 1)) 0 l) (byw Ln Ls (Ex Ln Ls n k) (n - (k + 1)) 1 l)
    have m2 := mn_c (mn (byw Ln Ls (Ex Ln Ls n k) (n - (k + 1)) 0 l) (byw Ln Ls (Ex Ln Ls n k) (n - (k + 1)) 1 l)) (byw Ln Ls (Ex Ln Ls n k) (n - (k + 1)) 2 l)
    omega
/-- the least of three -/
theorem Ex_min {Ln Ls : Int → Int → Int} {n : Int} {k : Nat} {l : Int} : (∀ w : Int, 0 ≤ w → w ≤ 2 → Ex Ln Ls n (k + 1) l ≤ byw Ln Ls (Ex Ln Ls n k) (n - (k + 1)) w l) ∧ ∃ w : Int, 0 ≤ w ∧ w ≤ 2 ∧ Ex Ln Ls n (k + 1) l = byw Ln Ls (Ex Ln Ls n k) (n - (k + 1)) w l := by
  have m1 := mn_c (byw Ln Ls (Ex Ln Ls n k) (n - (k + 1)) 0 l) (byw Ln Ls (Ex Ln Ls n k) (n - (k + 1)) 1 l)
  have m2 := mn_c (mn (byw Ln Ls (Ex Ln Ls n k) (n - (k + 1)) 0 l) (byw Ln Ls (Ex Ln Ls n k) (n - (k + 1)) 1 l)) (byw Ln Ls (Ex Ln Ls n k) (n - (k + 1)) 2 l)
  have e : Ex Ln Ls n (k + 1) l = mn (mn (byw Ln Ls (Ex Ln Ls n k) (n - (k + 1)) 0 l) (byw Ln Ls (Ex Ln Ls n k) (n - (k + 1)) 1 l)) (byw Ln Ls (Ex Ln Ls n k) (n - (k + 1)) 2 l) := rfl
  constructor
  · intro w a b
    have : w = 0 ∨ w = 1 ∨ w = 2 := by omega
    rcases this with c | c | c <;> subst c <;> omega
  · rcases m2 with ⟨a, b⟩ | ⟨a, b⟩
    · rcases m1 with ⟨c, d⟩ | ⟨c, d⟩
      · exact ⟨0, by decide, by decide, by rw [e, a, c]⟩
      · exact ⟨1, by decide, by decide, by rw [e, a, c]⟩
    · exact ⟨2, by decide, by decide, by rw [e, a]⟩
def mxw (Ln : Int → Int → Int) (n : Int) : Nat → Int
  | 0 => 0
  | k + 1 => mxw Ln n k + (if Ln (n - (k + 1)) 0 ≤ Ln (n - (k + 1)) 1 then Ln (n - (k + 1)) 1 else Ln (n - (k + 1)) 0)
/-- the best of k heads in at most so many lines: loss and lines -/
def RJ (Ln Ls : Int → Int → Int) (n : Int) (k : Nat) (left L U : Int) : Prop := (0 ≤ U ∧ U ≤ left) ∧ Ex Ln Ls n k U = L ∧ (∀ l : Int, 0 ≤ l → l ≤ left → L ≤ Ex Ln Ls n k l) ∧ (∀ l : Int, 0 ≤ l → l < U → L < Ex Ln Ls n k l) ∧ (0 ≤ L ∧ L ≤ 2000 * k) ∧ U ≤ mxw Ln n k
/-- the best of the ways below w -/
def CP (al : Int → Prop) (cl cu : Int → Int) (w l u d : Int) : Prop := (l = 1000000 ∧ d = 0 ∧ ∀ v : Int, 0 ≤ v → v < w → ¬ al v) ∨ (0 ≤ d ∧ d < w ∧ al d ∧ l = cl d ∧ u = cu d ∧ ∀ v : Int, 0 ≤ v → v < w → al v → (l < cl v ∨ l = cl v ∧ u ≤ cu v) ∧ (v < d → l < cl v ∨ l = cl v ∧ u < cu v))
theorem CP_no {al : Int → Prop} {cl cu : Int → Int} {w l u d : Int} (h : CP al cl cu w l u d) (hn : ¬ al w) : CP al cl cu (w + 1) l u d := by
  rcases h with ⟨a, b, c⟩ | ⟨a, b, c, e, f, g⟩
  · refine Or.inl ⟨a, b, fun v v0 v1 => ?_⟩
    by_cases q : v = w
    · rw [q]; exact hn
    · exact c v v0 (by omega)
  · refine Or.inr ⟨a, by omega, c, e, f, fun v v0 v1 hv => ?_⟩
    by_cases q : v = w
    · rw [q] at hv; exact absurd hv hn
    · exact g v v0 (by omega) hv
theorem CP_keep {al : Int → Prop} {cl cu : Int → Int} {w l u d : Int} (h : CP al cl cu w l u d) (hw : al w) (hc : cl w < 1000000) (hk : ¬ (cl w < l ∨ cl w = l ∧ cu w < u)) : CP al cl cu (w + 1) l u d := by
  rcases h with ⟨a, b, c⟩ | ⟨a, b, c, e, f, g⟩
  · exact absurd (Or.inl (by omega)) hk
  · refine Or.inr ⟨a, by omega, c, e, f, fun v v0 v1 hv => ?_⟩
    by_cases q : v = w
    · subst q
      refine ⟨by omega, fun z => by omega⟩
    · exact g v v0 (by omega) hv
theorem CP_take {al : Int → Prop} {cl cu : Int → Int} {w l u d : Int} (h : CP al cl cu w l u d) (w0 : 0 ≤ w) (hw : al w) (hc : cl w < 1000000) (hk : cl w < l ∨ cl w = l ∧ cu w < u) : CP al cl cu (w + 1) (cl w) (cu w) w := by
  refine Or.inr ⟨w0, by omega, hw, rfl, rfl, fun v v0 v1 hv => ?_⟩
  rcases h with ⟨a, b, c⟩ | ⟨a, b, c, e, f, g⟩
  · by_cases q : v = w
    · subst q
      exact ⟨by omega, fun z => by omega⟩
    · exact absurd hv (c v v0 (by omega))
  · by_cases q : v = w
    · subst q
      exact ⟨by omega, fun z => by omega⟩
    · have := g v v0 (by omega) hv
      exact ⟨by omega, fun z => by omega⟩
theorem RJ_0 {Ln Ls : Int → Int → Int} {n left : Int} (hl : 0 ≤ left) : RJ Ln Ls n 0 left 0 0 := by
  refine ⟨by omega, by rw [Ex, if_pos rfl], fun l l0 l1 => ?_, fun l l0 l1 => by omega, by omega, Int.le_refl _⟩
  rw [Ex]
  split <;> omega
/-- one head on -/
theorem RJ_s {Ln Ls : Int → Int → Int} {n : Int} {k : Nat} {L1 U1 : Int → Int} {left l u d : Int} (hk : okW Ln Ls n) (kn : (k : Int) + 1 ≤ n) (n16 : n ≤ 16) (l0 : 0 ≤ left) (hR : ∀ x : Int, 0 ≤ x → x ≤ left → RJ Ln Ls n k x (L1 x) (U1 x)) (hC : CP (fun w => Ls (n - (k + 1)) w ≠ 268435456 ∧ Ln (n - (k + 1)) w ≤ left) (fun w => Ls (n - (k + 1)) w + L1 (left - Ln (n - (k + 1)) w)) (fun w => Ln (n - (k + 1)) w + U1 (left - Ln (n - (k + 1)) w)) 3 l u d) : RJ Ln Ls n (k + 1) left l u ∧ (0 ≤ d ∧ d ≤ 2) ∧ (Ls (n - (k + 1)) d ≠ 268435456 ∧ Ln (n - (k + 1)) d ≤ left ∧ u - Ln (n - (k + 1)) d = U1 (left - Ln (n - (k + 1)) d)) ∧ byw Ln Ls (Ex Ln Ls n k) (n - (k + 1)) d u = Ex Ln Ls n (k + 1) u ∧ ∀ w : Int, 0 ≤ w → w < d → byw Ln Ls (Ex Ln Ls n k) (n - (k + 1)) w u ≠ Ex Ln Ls n (k + 1) u := by
  have o := hk (n - (k + 1)) (by omega) (by omega)
  have eb := Ex_b hk k (by omega)
  have em := fun l => Ex_min (Ln := Ln) (Ls := Ls) (n := n) (k := k) (l := l)
  have mxs : mxw Ln n (k + 1) = mxw Ln n k + (if Ln (n - (k + 1)) 0 ≤ Ln (n - (k + 1)) 1 then Ln (n - (k + 1)) 1 else Ln (n - (k + 1)) 0) := rfl
  generalize eh : n - ((k : Int) + 1) = h at *
  obtain ⟨o1, o2, o3, o4, o5⟩ := o
  rcases hC with ⟨a, b, c⟩ | ⟨a, b, ⟨c1, c2⟩, e, f, g⟩
  · exfalso
    have q0 := c 0 (by decide) (by decide)
    have q2 := c 2 (by decide) (by decide)
    have p0 : ¬ Ln h 0 ≤ left := fun z => q0 ⟨by rw [o2]; decide, z⟩
    exact q2 ⟨o4 (by omega), by omega⟩
  dsimp only at e f g
  have od := o1 d a (by omega)
  have Rd := hR (left - Ln h d) (by omega) (by omega)
  obtain ⟨r1, r2, r3, r4, r5, r6⟩ := Rd
  have ls0 : 0 ≤ Ls h d ∧ Ls h d ≤ 2000 := by have := od.2; omega
  have lb : 0 ≤ l ∧ l ≤ 2000 * ((k + 1 : Nat) : Int) := by omega
  have l32 : l ≤ 32000 := by omega
  -- what a way gives
  have way : ∀ (w x : Int), 0 ≤ w → w ≤ 2 → x ≤ left → byw Ln Ls (Ex Ln Ls n k) h w x < 268435456 → (Ls h w ≠ 268435456 ∧ Ln h w ≤ x) ∧ byw Ln Ls (Ex Ln Ls n k) h w x = Ls h w + Ex Ln Ls n k (x - Ln h w) := by
    intro w x w0 w1 hx hb
    unfold byw at hb ⊢
    split at hb
    · omega
    · rename_i q
      rw [if_neg q]
      have m := mn_c 268435456 (Ls h w + Ex Ln Ls n k (x - Ln h w))
      exact ⟨⟨fun z => q (Or.inr z), by omega⟩, by omega⟩
  have key : ∀ (w x : Int), 0 ≤ w → w ≤ 2 → 0 ≤ x → x ≤ left → l ≤ byw Ln Ls (Ex Ln Ls n k) h w x ∧ (byw Ln Ls (Ex Ln Ls n k) h w x = l → u ≤ x ∧ (x = u → Ls h w + L1 (left - Ln h w) = l ∧ Ln h w + U1 (left - Ln h w) = u ∧ Ls h w ≠ 268435456 ∧ Ln h w ≤ left)) := by
    intro w x w0 w1 x0 hx
    have ow := o1 w w0 w1
    by_cases hb : byw Ln Ls (Ex Ln Ls n k) h w x < 268435456
    · obtain ⟨⟨y1, y2⟩, y3⟩ := way w x w0 w1 hx hb
      have Rw := hR (left - Ln h w) (by omega) (by omega)
      obtain ⟨t1, t2, t3, t4, t5, t6⟩ := Rw
      have gw := g w w0 (by omega) ⟨y1, by omega⟩
      have t3' := t3 (x - Ln h w) (by omega) (by omega)
      refine ⟨by omega, fun z => ?_⟩
      have t4' := t4 (x - Ln h w) (by omega)
      have : U1 (left - Ln h w) ≤ x - Ln h w := by
        by_cases q : x - Ln h w < U1 (left - Ln h w)
        · have := t4' q; omega
        · omega
      refine ⟨by omega, fun z2 => ⟨by omega, by omega, y1, by omega⟩⟩
    · exact ⟨by omega, fun z => by omega⟩
  have ed : byw Ln Ls (Ex Ln Ls n k) h d u = l := by
    unfold byw
    rw [if_neg (by omega), f, show Ln h d + U1 (left - Ln h d) - Ln h d = U1 (left - Ln h d) by omega, r2]
    have m := mn_c 268435456 (Ls h d + L1 (left - Ln h d))
    omega
  have ul : u ≤ left := by omega
  have eU : Ex Ln Ls n (k + 1) u = l := by
    obtain ⟨m1, w, w0, w1, m2⟩ := em u
    have x1 := m1 d a (by omega)
    have x2 := (key w u w0 w1 (by omega) ul).1
    omega
  refine ⟨⟨by omega, eU, fun x x0 x1 => ?_, fun x x0 x1 => ?_, lb, ?_⟩, by omega, ⟨c1, c2, by omega⟩, by rw [ed, eU], fun w w0 w1 => ?_⟩
  · obtain ⟨m1, w, w0, w1, m2⟩ := em x
    have := (key w x w0 w1 x0 x1).1
    omega
  · obtain ⟨m1, w, w0, w1, m2⟩ := em x
    have kk := key w x w0 w1 x0 (by omega)
    by_cases q : byw Ln Ls (Ex Ln Ls n k) h w x = l
    · have := (kk.2 q).1
      omega
    · omega
  · have d3 : d = 0 ∨ d = 1 ∨ d = 2 := by omega
    rw [mxs]
    have z0 := (o1 0 (by decide) (by decide)).1
    have z1 := (o1 1 (by decide) (by decide)).1
    rcases d3 with q | q | q <;> subst q <;> split <;> omega
  · rw [eU]
    intro z
    have kk := ((key w u w0 (by omega) (by omega) ul).2 z).2 rfl
    have gw := (g w w0 (by omega) ⟨kk.2.2.1, kk.2.2.2⟩).2 w1
    omega
theorem RJ_uniq {Ln Ls : Int → Int → Int} {n : Int} {k : Nat} {left L U L' U' : Int} (a : RJ Ln Ls n k left L U) (b : RJ Ln Ls n k left L' U') : L = L' ∧ U = U' := by
  obtain ⟨a1, a2, a3, a4, a5, a6⟩ := a
  obtain ⟨b1, b2, b3, b4, b5, b6⟩ := b
  have x := a3 U' b1.1 b1.2
  have y := b3 U a1.1 a1.2
  have e : L = L' := by omega
  refine ⟨e, ?_⟩
  rcases Int.lt_trichotomy U U' with q | q | q
  · have := b4 U a1.1 q; omega
  · exact q
  · have := a4 U' b1.1 q; omega
