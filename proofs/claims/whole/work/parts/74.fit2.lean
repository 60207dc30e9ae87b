/-! ===== PURE HALF, by hand: fit, the class's side ===== -/
theorem CP_ex {al : Int → Prop} {cl cu : Int → Int} : ∀ w : Nat, (∀ v : Int, 0 ≤ v → v < w → al v → cl v < 1000000) → ∃ l u d, CP al cl cu w l u d
  | 0, _ => ⟨1000000, 0, 0, Or.inl ⟨rfl, rfl, fun v v0 v1 => by omega⟩⟩
  | w + 1, h => by
    obtain ⟨l, u, d, hc⟩ := CP_ex (al := al) (cl := cl) (cu := cu) w (fun v v0 v1 => h v v0 (by omega))
    have e : ((w + 1 : Nat) : Int) = (w : Int) + 1 := by omega
    rw [e]
    by_cases a : al w
    · have b := h w (by omega) (by omega) a
      by_cases c : cl w < l ∨ cl w = l ∧ cu w < u
      · exact ⟨_, _, _, CP_take hc (by omega) a b c⟩
      · exact ⟨_, _, _, CP_keep hc a b c⟩
    · exact ⟨_, _, _, CP_no hc a⟩
noncomputable def RLU (Ln Ls : Int → Int → Int) (n : Int) (k : Nat) (left : Int) : Int × Int := Classical.epsilon (fun p : Int × Int => RJ Ln Ls n k left p.1 p.2)
theorem RJ_ex {Ln Ls : Int → Int → Int} {n : Int} (hk : okW Ln Ls n) (n16 : n ≤ 16) : ∀ k : Nat, (k : Int) ≤ n → ∀ left : Int, 0 ≤ left → RJ Ln Ls n k left (RLU Ln Ls n k left).1 (RLU Ln Ls n k left).2
  | 0, _, left, hl => Classical.epsilon_spec (p := fun p : Int × Int => RJ Ln Ls n 0 left p.1 p.2) ⟨(0, 0), RJ_0 hl⟩
  | k + 1, hn, left, hl => by
    have ih := RJ_ex hk n16 k (by omega)
    have o := (hk (n - (k + 1)) (by omega) (by omega)).1
    obtain ⟨l, u, d, hc⟩ := CP_ex (al := fun w => Ls (n - (k + 1)) w ≠ 268435456 ∧ Ln (n - (k + 1)) w ≤ left) (cl := fun w => Ls (n - (k + 1)) w + (RLU Ln Ls n k (left - Ln (n - (k + 1)) w)).1) (cu := fun w => Ln (n - (k + 1)) w + (RLU Ln Ls n k (left - Ln (n - (k + 1)) w)).2) 3 (fun v v0 v1 a => by
      have ov := o v v0 (by omega)
      have := (ih (left - Ln (n - (k + 1)) v) (by have := a.2; omega)).2.2.2.2.1
      have := ov.2
      have := a.1
      show Ls (n - (k + 1)) v + (RLU Ln Ls n k (left - Ln (n - (k + 1)) v)).1 < 1000000
      omega)
    have := (RJ_s (L1 := fun x => (RLU Ln Ls n k x).1) (U1 := fun x => (RLU Ln Ls n k x).2) hk (by omega) n16 hl (fun x x0 _ => ih x x0) hc).1
    exact Classical.epsilon_spec (p := fun p : Int × Int => RJ Ln Ls n (k + 1) left p.1 p.2) ⟨(l, u), this⟩
/-- the first way that keeps to the least -/
def cw (Ln Ls : Int → Int → Int) (n : Int) (k : Nat) (u : Int) : Int := if byw Ln Ls (Ex Ln Ls n k) (n - (k + 1)) 0 u = Ex Ln Ls n (k + 1) u then 0 else if byw Ln Ls (Ex Ln Ls n k) (n - (k + 1)) 1 u = Ex Ln Ls n (k + 1) u then 1 else 2
theorem cw_e {Ln Ls : Int → Int → Int} {n : Int} {k : Nat} {u d : Int} (d0 : 0 ≤ d ∧ d ≤ 2) (h1 : byw Ln Ls (Ex Ln Ls n k) (n - (k + 1)) d u = Ex Ln Ls n (k + 1) u) (h2 : ∀ w : Int, 0 ≤ w → w < d → byw Ln Ls (Ex Ln Ls n k) (n - (k + 1)) w u ≠ Ex Ln Ls n (k + 1) u) : d = cw Ln Ls n k u := by
  unfold cw
  have : d = 0 ∨ d = 1 ∨ d = 2 := by omega
  rcases this with q | q | q <;> subst q
  · rw [if_pos h1]
  · rw [if_neg (h2 0 (by decide) (by decide)), if_pos h1]
  · rw [if_neg (h2 0 (by decide) (by decide)), if_neg (h2 1 (by decide) (by decide))]
/-- what a best way says -/
theorem cw_ok {Ln Ls : Int → Int → Int} {n : Int} (hk : okW Ln Ls n) (n16 : n ≤ 16) {k : Nat} (hn : (k : Int) + 1 ≤ n) {left : Int} (hl : 0 ≤ left) {d l u : Int} (hC : CP (fun w => Ls (n - (k + 1)) w ≠ 268435456 ∧ Ln (n - (k + 1)) w ≤ left) (fun w => Ls (n - (k + 1)) w + (RLU Ln Ls n k (left - Ln (n - (k + 1)) w)).1) (fun w => Ln (n - (k + 1)) w + (RLU Ln Ls n k (left - Ln (n - (k + 1)) w)).2) 3 l u d) : l = (RLU Ln Ls n (k + 1) left).1 ∧ u = (RLU Ln Ls n (k + 1) left).2 ∧ d = cw Ln Ls n k u := by
  obtain ⟨a, b, c, e, f⟩ := RJ_s (L1 := fun x => (RLU Ln Ls n k x).1) (U1 := fun x => (RLU Ln Ls n k x).2) hk hn n16 hl (fun x x0 _ => RJ_ex hk n16 k (by omega) x x0) hC
  have r := RJ_uniq a (RJ_ex hk n16 (k + 1) (by omega) left hl)
  exact ⟨r.1, r.2, cw_e b e f⟩
theorem cw_step {Ln Ls : Int → Int → Int} {n : Int} (hk : okW Ln Ls n) (n16 : n ≤ 16) {k : Nat} (hn : (k : Int) + 1 ≤ n) {left : Int} (hl : 0 ≤ left) : (0 ≤ cw Ln Ls n k (RLU Ln Ls n (k + 1) left).2 ∧ cw Ln Ls n k (RLU Ln Ls n (k + 1) left).2 ≤ 2) ∧ Ls (n - (k + 1)) (cw Ln Ls n k (RLU Ln Ls n (k + 1) left).2) ≠ 268435456 ∧ Ln (n - (k + 1)) (cw Ln Ls n k (RLU Ln Ls n (k + 1) left).2) ≤ left ∧ (RLU Ln Ls n (k + 1) left).2 - Ln (n - (k + 1)) (cw Ln Ls n k (RLU Ln Ls n (k + 1) left).2) = (RLU Ln Ls n k (left - Ln (n - (k + 1)) (cw Ln Ls n k (RLU Ln Ls n (k + 1) left).2))).2 := by
  have ih := RJ_ex hk n16 k (by omega)
  have o := (hk (n - (k + 1)) (by omega) (by omega)).1
  obtain ⟨l, u, d, hc⟩ := CP_ex (al := fun w => Ls (n - (k + 1)) w ≠ 268435456 ∧ Ln (n - (k + 1)) w ≤ left) (cl := fun w => Ls (n - (k + 1)) w + (RLU Ln Ls n k (left - Ln (n - (k + 1)) w)).1) (cu := fun w => Ln (n - (k + 1)) w + (RLU Ln Ls n k (left - Ln (n - (k + 1)) w)).2) 3 (fun v v0 v1 a => by
      have ov := o v v0 (by omega)
      have := (ih (left - Ln (n - (k + 1)) v) (by have := a.2; omega)).2.2.2.2.1
      have := ov.2
      have := a.1
      show Ls (n - (k + 1)) v + (RLU Ln Ls n k (left - Ln (n - (k + 1)) v)).1 < 1000000
      omega)
  obtain ⟨a, b, c, e, f⟩ := RJ_s (L1 := fun x => (RLU Ln Ls n k x).1) (U1 := fun x => (RLU Ln Ls n k x).2) hk hn n16 hl (fun x x0 _ => ih x x0) hc
  have r := RJ_uniq a (RJ_ex hk n16 (k + 1) (by omega) left hl)
  have ed := cw_e b e f
  rw [← r.2, ← ed]
  exact ⟨b, c⟩
/-- lines that are left for the heads from j on -/
def pth (Ln Ls : Int → Int → Int) (n : Int) (U : Int) : Nat → Int
  | 0 => U
  | j + 1 => if pth Ln Ls n U j - Ln j (cw Ln Ls n (n - j - 1).toNat (pth Ln Ls n U j)) < 0 then 0 else pth Ln Ls n U j - Ln j (cw Ln Ls n (n - j - 1).toNat (pth Ln Ls n U j))
/-- the ways of heads, as rows -/
def WR (σ : Sg) (Ln Ls : Int → Int → Int) (n : Int) : Prop := ∀ h w : Int, 0 ≤ h → h < n → 0 ≤ w → w ≤ 2 → σ 87 (h * 3 + w) = Ln h w ∧ σ 88 (h * 3 + w) = Ls h w
theorem WR.fr {σ σ' : Sg} {Ln Ls : Int → Int → Int} {n : Int} {M : List Nat} (h : WR σ Ln Ls n) (hF : Fr M σ σ') (h7 : 87 ∉ M) (h8 : 88 ∉ M) : WR σ' Ln Ls n := by
  unfold WR
  rw [hF 87 h7, hF 88 h8]
  exact h
def TB (σ : Sg) (Ln Ls : Int → Int → Int) (n m : Int) (k : Nat) : Prop := ∀ (i : Nat) (l : Int), i ≤ k → 0 ≤ l → l ≤ m → σ 89 ((n - i) * 201 + l) = Ex Ln Ls n i l
theorem c_lossBy {σ : Sg} {post : Po} {Ln Ls : Int → Int → Int} {n m w l : Int} {k : Nat} (hk : okW Ln Ls n) (n16 : n ≤ 16) (hn : (k : Int) + 1 ≤ n) (hR : WR σ Ln Ls n) (hT : TB σ Ln Ls n m k) (m1 : m ≤ 200) (w0 : 0 ≤ w) (w1 : w ≤ 2) (l0 : 0 ≤ l) (l1 : l ≤ m) (hp : post (some (vi (byw Ln Ls (Ex Ln Ls n k) (n - (k + 1)) w l))) σ) : Cl mX1_lossBy [vr 85, vi (n - (k + 1)), vi w, vi l] σ post := by
  obtain ⟨o1, o2, o3, o4, o5⟩ := hk (n - (k + 1)) (by omega) (by omega)
  have ow := o1 w w0 w1
  obtain ⟨r1, r2⟩ := hR (n - (k + 1)) w (by omega) (by omega) w0 w1
  unfold byw at hp
  refine EX1_lossBy ⟨by omega, ?_⟩
  rw [r1, r2]
  refine ⟨by omega, fun c => ?_, fun c => ⟨by omega, fun c2 => ⟨by omega, ?_⟩, fun c2 => ?_⟩⟩
  · rw [if_pos (Or.inl c)] at hp; exact hp
  · have e := hT k (l - Ln (n - (k + 1)) w) (Nat.le_refl _) (by omega) (by omega)
    rw [show (n - ((k : Int) + 1) + 1) * 201 + (l - Ln (n - (k + 1)) w) = (n - (k : Int)) * 201 + (l - Ln (n - (k + 1)) w) by omega, e]
    have eb := Ex_b hk k (by omega) (l - Ln (n - (k + 1)) w)
    rw [if_neg (fun z => z.elim c c2)] at hp
    refine c_min (by decide) (by omega) (fun z hz => ⟨_, rfl, ?_⟩)
    rw [mn_e hz]
    exact hp
  · rw [if_pos (Or.inr c2)] at hp; exact hp
theorem c_leastFrom {σ : Sg} {post : Po} {Ln Ls : Int → Int → Int} {n m l : Int} {k : Nat} (hk : okW Ln Ls n) (n16 : n ≤ 16) (hn : (k : Int) + 1 ≤ n) (hR : WR σ Ln Ls n) (hT : TB σ Ln Ls n m k) (m1 : m ≤ 200) (l0 : 0 ≤ l) (l1 : l ≤ m) (hp : post (some (vi (Ex Ln Ls n (k + 1) l))) σ) : Cl mX1_leastFrom [vr 85, vi (n - (k + 1)), vi l] σ post := by
  have eb := Ex_b hk k (by omega)
  have o := (hk (n - (k + 1)) (by omega) (by omega)).1
  have b : ∀ w : Int, 0 ≤ w → w ≤ 2 → 0 ≤ byw Ln Ls (Ex Ln Ls n k) (n - (k + 1)) w l ∧ byw Ln Ls (Ex Ln Ls n k) (n - (k + 1)) w l ≤ 268435456 := fun w a c => byw_b (fun l => (eb l).1) (by have := (o w a c).2; omega)
  have b0 := b 0 (by decide) (by decide)
  have b1' := b 1 (by decide) (by decide)
  have b2 := b 2 (by decide) (by decide)
  have e : Ex Ln Ls n (k + 1) l = mn (mn (byw Ln Ls (Ex Ln Ls n k) (n - (k + 1)) 0 l) (byw Ln Ls (Ex Ln Ls n k) (n - (k + 1)) 1 l)) (byw Ln Ls (Ex Ln Ls n k) (n - (k + 1)) 2 l) := rfl
  refine EX1_leastFrom (BX1_leastFrom_6 ⟨by decide, fun c => absurd c (by decide), fun _ => c_lossBy hk n16 hn hR hT m1 (by decide) (by decide) l0 l1 ⟨_, rfl, c_min (by decide) (by omega) (fun z hz => ⟨_, rfl, ?_⟩)⟩⟩)
  have hz0 : z = byw Ln Ls (Ex Ln Ls n k) (n - (k + 1)) 0 l := by omega
  show V mX1_leastFrom 6 [some (vr 85), some (vi (n - ((k : Int) + 1))), some (vi l), some (vi z), some (vi 1)] [] σ post
  refine BX1_leastFrom_6 ⟨by decide, fun c => absurd c (by decide), fun _ => c_lossBy hk n16 hn hR hT m1 (by decide) (by decide) l0 l1 ⟨_, rfl, c_min (by omega) (by omega) (fun z1 hz1 => ⟨_, rfl, ?_⟩)⟩⟩
  have m1' := mn_e hz1
  rw [hz0] at m1'
  have mc := mn_c (byw Ln Ls (Ex Ln Ls n k) (n - (k + 1)) 0 l) (byw Ln Ls (Ex Ln Ls n k) (n - (k + 1)) 1 l)
  show V mX1_leastFrom 6 [some (vr 85), some (vi (n - ((k : Int) + 1))), some (vi l), some (vi z1), some (vi 2)] [] σ post
  refine BX1_leastFrom_6 ⟨by decide, fun c => absurd c (by decide), fun _ => c_lossBy hk n16 hn hR hT m1 (by decide) (by decide) l0 l1 ⟨_, rfl, c_min (by omega) (by omega) (fun z2 hz2 => ⟨_, rfl, ?_⟩)⟩⟩
  refine BX1_leastFrom_6 ⟨by decide, fun _ => ?_, fun c => absurd (by decide) c⟩
  rw [mn_e hz2, m1', ← e]
  exact hp
theorem c_mostNeeded {σ : Sg} {post : Po} {Ln Ls : Int → Int → Int} {n : Int} (hk : okW Ln Ls n) (n0 : 0 ≤ n) (n16 : n ≤ 16) (hR : WR σ Ln Ls n) (hp : post (some (vi (mxw Ln n n.toNat))) σ) : Cl mX1_mostNeeded [vr 85, vi n] σ post := by
  refine EX1_mostNeeded ?_
  have loop : ∀ (d j : Nat) (x : Int), (j : Int) + d = n → x + mxw Ln n d = mxw Ln n n.toNat → V mX1_mostNeeded 4 [some (vr 85), some (vi n), some (vi x), some (vi (j : Int))] [] σ post := by
    intro d
    induction d with
    | zero =>
      intro j x hj hx
      refine BX1_mostNeeded_4 ⟨by omega, by omega, fun _ => ?_, fun c => absurd (by omega) c⟩
      rw [mxw, Int.add_zero] at hx
      rw [hx]
      exact hp
    | succ d ih =>
      intro j x hj hx
      obtain ⟨o1, _⟩ := hk j (by omega) (by omega)
      have r0 := (hR j 0 (by omega) (by omega) (by decide) (by decide)).1
      have r1 := (hR j 1 (by omega) (by omega) (by decide) (by decide)).1
      rw [Int.add_zero] at r0
      have z0 := (o1 0 (by decide) (by decide)).1
      have z1 := (o1 1 (by decide) (by decide)).1
      refine BX1_mostNeeded_4 ⟨by omega, by omega, fun c => absurd c (by omega), fun _ => ⟨by omega, by omega, ?_⟩⟩
      rw [r0, r1]
      refine c_max (by omega) (by omega) (fun z hz => ⟨_, rfl, ih (j + 1) _ (by omega) ?_⟩)
      rw [mxw, show n - ((d : Int) + 1) = j by omega] at hx
      split at hx <;> omega
  exact loop n.toNat 0 0 (by omega) (by omega)
theorem c_follow {σ : Sg} {post : Po} {Ln Ls : Int → Int → Int} {n m U : Int} (hk : okW Ln Ls n) (n0 : 0 ≤ n) (n16 : n ≤ 16) (hR : WR σ Ln Ls n) (hT : TB σ Ln Ls n m n.toNat) (m1 : m ≤ 200) (u0 : 0 ≤ U) (u1 : U ≤ m) (hp : ∀ σ' : Sg, Fr [86] σ σ' → (∀ h : Nat, (h : Int) < n → σ' 86 h = cw Ln Ls n (n - h - 1).toNat (pth Ln Ls n U h)) → post none σ') : Cl mX1_follow [vr 85, vi n, vi U] σ post := by
  refine EX1_follow ?_
  have pb : ∀ j : Nat, (j : Int) ≤ n → 0 ≤ pth Ln Ls n U j ∧ pth Ln Ls n U j ≤ m := by
    intro j
    induction j with
    | zero => intro _; exact ⟨u0, u1⟩
    | succ j ih =>
      intro hj
      have a := ih (by omega)
      have o := (hk j (by omega) (by omega)).1
      have c2 : 0 ≤ cw Ln Ls n (n - j - 1).toNat (pth Ln Ls n U j) ∧ cw Ln Ls n (n - j - 1).toNat (pth Ln Ls n U j) ≤ 2 := by
        unfold cw
        split
        · decide
        · split <;> decide
      have := (o _ c2.1 c2.2).1
      rw [pth]
      split <;> omega
  have loop : ∀ (d j : Nat) (τ : Sg), (j : Int) + d = n → Fr [86] σ τ → (∀ h : Nat, h < j → τ 86 h = cw Ln Ls n (n - h - 1).toNat (pth Ln Ls n U h)) → V mX1_follow 5 [some (vr 85), some (vi n), none, some (vi (pth Ln Ls n U j)), some (vi (j : Int)), none] [] τ post := by
    intro d
    induction d with
    | zero =>
      intro j τ hj hF hc
      exact BX1_follow_5 ⟨by omega, by omega, fun _ => hp τ hF (fun h hh => hc h (by omega)), fun c => absurd (by omega) c⟩
    | succ d ih =>
      intro j τ hj hF hc
      have hR' : WR τ Ln Ls n := hR.fr hF (by decide) (by decide)
      have pj := pb j (by omega)
      have pj1 := pb (j + 1) (by omega)
      have ed : (n - (j : Int) - 1).toNat = d := by omega
      have eh : n - ((d : Int) + 1) = j := by omega
      have eb := Ex_b hk d (by omega)
      have eb1 := Ex_b hk (d + 1) (by omega) (pth Ln Ls n U j)
      have o := (hk j (by omega) (by omega)).1
      have hT' : TB τ Ln Ls n m d := fun i l hi l0 l1 => by rw [hF 89 (by decide)]; exact hT i l (by omega) l0 l1
      have e89 : τ 89 ((j : Int) * 201 + pth Ln Ls n U j) = Ex Ln Ls n (d + 1) (pth Ln Ls n U j) := by
        have := hT (d + 1) (pth Ln Ls n U j) (by omega) pj.1 pj.2
        rw [show n - ((d + 1 : Nat) : Int) = j by omega] at this
        rw [hF 89 (by decide)]
        exact this
      have ps : pth Ln Ls n U (j + 1) = if pth Ln Ls n U j - Ln j (cw Ln Ls n d (pth Ln Ls n U j)) < 0 then 0 else pth Ln Ls n U j - Ln j (cw Ln Ls n d (pth Ln Ls n U j)) := by rw [pth, ed]
      have lossB : ∀ w : Int, 0 ≤ w → w ≤ 2 → ∀ (post' : Po), post' (some (vi (byw Ln Ls (Ex Ln Ls n d) j w (pth Ln Ls n U j)))) τ → Cl mX1_lossBy [vr 85, vi (j : Int), vi w, vi (pth Ln Ls n U j)] τ post' := fun w a b post' hq => by
        have := c_lossBy (post := post') hk n16 (show (d : Int) + 1 ≤ n by omega) hR' hT' m1 a b pj.1 pj.2
        rw [eh] at this
        exact this hq
      have bb : ∀ w : Int, 0 ≤ w → w ≤ 2 → 0 ≤ byw Ln Ls (Ex Ln Ls n d) j w (pth Ln Ls n U j) ∧ byw Ln Ls (Ex Ln Ls n d) j w (pth Ln Ls n U j) ≤ 268435456 := fun w a c => byw_b (fun l => (eb l).1) (by have := (o w a c).2; omega)
      have bb0 := bb 0 (by decide) (by decide)
      have bb1 := bb 1 (by decide) (by decide)
      have fin : ∀ w : Int, 0 ≤ w → w ≤ 2 → w = cw Ln Ls n d (pth Ln Ls n U j) → (0 ≤ (j : Int) ∧ (j : Int) < 16) ∧ ((0 ≤ (((j : Int) * 3) + w) ∧ (((j : Int) * 3) + w) < 48) ∧ (Cl mJ9_max_7cf53 [vi 0, vi (pth Ln Ls n U j - (τ 87 (((j : Int) * 3) + w)))] (up τ 86 j w) (pI fun z1 σ1 => V mX1_follow 5 [some (vr 85), some (vi n), none, some (vi z1), some (vi ((j : Int) + 1)), none] [] σ1 post))) := by
        intro w a b hw
        have ow := (o w a b).1
        refine ⟨by omega, by omega, ?_⟩
        rw [(hR' j w (by omega) (by omega) a b).1]
        refine c_max (by decide) (by omega) (fun z hz => ⟨_, rfl, ?_⟩)
        have ez : z = pth Ln Ls n U (j + 1) := by
          rw [ps, ← hw]
          split <;> omega
        rw [ez]
        refine ih (j + 1) _ (by omega) (hF.u (by simp)) (fun h hh => ?_)
        by_cases q : h = j
        · rw [q, up_s, ed]; exact hw
        · rw [up_f (by omega)]
          exact hc h (by omega)
      refine BX1_follow_5 ⟨by omega, by omega, fun c => absurd c (by omega), fun _ => BX1_follow_14 ⟨by decide, fun c => absurd c (by decide), fun _ => lossB 0 (by decide) (by decide) _ ⟨_, rfl, by omega, by omega, ?_⟩⟩⟩
      rw [e89]
      refine ⟨by omega, fun c => fin 0 (by decide) (by decide) ?_, fun c => BX1_follow_14 ⟨by decide, fun c => absurd c (by decide), fun _ => lossB 1 (by decide) (by decide) _ ⟨_, rfl, by omega, by omega, ?_⟩⟩⟩
      · unfold cw
        rw [eh, if_pos c]
      · rw [e89]
        refine ⟨by omega, fun c2 => fin 1 (by decide) (by decide) ?_, fun c2 => BX1_follow_14 ⟨by decide, fun _ => fin 2 (by decide) (by decide) ?_, fun c => absurd (by decide) c⟩⟩
        · unfold cw
          rw [eh, if_neg c, if_pos c2]
        · unfold cw
          rw [eh, if_neg c, if_neg c2]
  exact loop n.toNat 0 σ (by omega) Fr.rf (fun h hh => by omega)
theorem c_fchoose {σ : Sg} {post : Po} {Ln Ls : Int → Int → Int} {n m : Int} (hk : okW Ln Ls n) (n0 : 0 ≤ n) (n16 : n ≤ 16) (hR : WR σ Ln Ls n) (m0 : 0 ≤ m) (m1 : m ≤ 200) (hp : ∀ σ' : Sg, Fr [85, 86, 89] σ σ' → σ' 85 0 = (RLU Ln Ls n n.toNat m).1 → (∀ h : Nat, (h : Int) < n → σ' 86 h = cw Ln Ls n (n - h - 1).toNat (pth Ln Ls n (RLU Ln Ls n n.toNat m).2 h)) → post none σ') : Cl mX1_choose [vr 85, vi n, vi m] σ post := by
  have RJt := RJ_ex hk n16 n.toNat (by omega) m m0
  generalize eL : (RLU Ln Ls n n.toNat m).1 = L at RJt hp
  generalize eU : (RLU Ln Ls n n.toNat m).2 = U at RJt hp
  obtain ⟨j1, j2, j3, j4, j5, j6⟩ := RJt
  have mb : ∀ k : Nat, (k : Int) ≤ n → 0 ≤ mxw Ln n k ∧ mxw Ln n k ≤ 1400 * k := by
    intro k
    induction k with
    | zero => intro _; rw [mxw]; omega
    | succ k ih =>
      intro hk2
      have a := ih (by omega)
      have o := (hk (n - (k + 1)) (by omega) (by omega)).1
      have z0 := (o 0 (by decide) (by decide)).1
      have z1 := (o 1 (by decide) (by decide)).1
      rw [mxw]
      split <;> omega
  have mbn := mb n.toNat (by omega)
  refine EX1_choose (c_mostNeeded hk n0 n16 hR ⟨_, rfl, c_min (by omega) (by omega) (fun t ht => ⟨_, rfl, ?_⟩)⟩)
  have t0 : 0 ≤ t ∧ t ≤ 200 ∧ t ≤ m ∧ U ≤ t := by omega
  clear ht mbn
  have Eb := fun l => Ex_b hk n.toNat (by omega) l
  -- the best
  have best : ∀ (d : Nat) (x4 x5 : Int) (τ : Sg), x5 + d = t + 1 → 1 ≤ x5 → 0 ≤ x4 → x4 < x5 → (∀ l : Int, 0 ≤ l → l < x5 → Ex Ln Ls n n.toNat x4 ≤ Ex Ln Ls n n.toNat l) → (∀ l : Int, 0 ≤ l → l < x4 → Ex Ln Ls n n.toNat x4 < Ex Ln Ls n n.toNat l) → Fr [89] σ τ → TB τ Ln Ls n t n.toNat → V mX1_choose 108 [some (vr 85), some (vi n), none, some (vi t), some (vi x4), some (vi x5)] [] τ post := by
    intro d
    induction d with
    | zero =>
      intro x4 x5 τ hd a1 a2 a3 a4 a5 hF hT
      have e4 : τ 89 x4 = Ex Ln Ls n n.toNat x4 := by
        have := hT n.toNat x4 (Nat.le_refl _) a2 (by omega)
        rw [show (n - (n.toNat : Int)) * 201 + x4 = x4 by omega] at this
        exact this
      have xu : x4 = U := by
        have p1 := a4 U j1.1 (by omega)
        have p2 := j3 x4 a2 (by omega)
        rcases Int.lt_trichotomy x4 U with q | q | q
        · have := j4 x4 a2 q; omega
        · exact q
        · have := a5 U j1.1 q; omega
      refine BX1_choose_108 ⟨by omega, by omega, fun _ => ⟨by omega, ?_⟩, fun c => absurd (by omega) c⟩
      rw [e4, xu, j2]
      have F2 : Fr [85, 89] σ (up τ 85 0 L) := (hF.mo (by decide)).u (by decide)
      refine c_follow hk n0 n16 (hR.fr F2 (by decide) (by decide)) (m := t) (fun i l hi l0 l1 => by rw [up_r (by decide)]; exact hT i l hi l0 l1) t0.2.1 j1.1 t0.2.2.2 (fun σ' hF' hc => ⟨rfl, hp σ' ((F2.mo (by decide)).tr (hF'.mo (by decide))) ?_ hc⟩)
      rw [hF' 85 (by decide), up_s]
    | succ d ih =>
      intro x4 x5 τ hd a1 a2 a3 a4 a5 hF hT
      have e4 : τ 89 x4 = Ex Ln Ls n n.toNat x4 := by
        have := hT n.toNat x4 (Nat.le_refl _) a2 (by omega)
        rw [show (n - (n.toNat : Int)) * 201 + x4 = x4 by omega] at this
        exact this
      have e5 : τ 89 x5 = Ex Ln Ls n n.toNat x5 := by
        have := hT n.toNat x5 (Nat.le_refl _) (by omega) (by omega)
        rw [show (n - (n.toNat : Int)) * 201 + x5 = x5 by omega] at this
        exact this
      have E4 := Eb x4
      have E5 := Eb x5
      refine BX1_choose_108 ⟨by omega, by omega, fun c => absurd c (by omega), fun _ => ⟨by omega, by omega, ?_⟩⟩
      rw [e4, e5]
      refine ⟨by omega, by omega, fun c => ih x4 (x5 + 1) τ (by omega) (by omega) a2 (by omega) (fun l l0 l1 => ?_) a5 hF hT, fun c => ih x5 (x5 + 1) τ (by omega) (by omega) (by omega) (by omega) (fun l l0 l1 => ?_) (fun l l0 l1 => ?_) hF hT⟩
      · by_cases q : l = x5
        · rw [q]; exact c
        · exact a4 l l0 (by omega)
      · by_cases q : l = x5
        · rw [q]; exact Int.le_refl _
        · have := a4 l l0 (by omega); omega
      · have := a4 l l0 (by omega); omega
  -- row by row
  have rows : ∀ (d k : Nat) (τ : Sg), (k : Int) + d = n → Fr [89] σ τ → TB τ Ln Ls n t k → V mX1_choose 54 [some (vr 85), some (vi n), none, some (vi t), some (vi ((d : Int) - 1)), none] [] τ post := by
    intro d
    induction d with
    | zero =>
      intro k τ hd hF hT
      refine BX1_choose_54 ⟨by decide, fun _ => ?_, fun c => absurd (by decide) c⟩
      rw [show k = n.toNat by omega] at hT
      exact best t.toNat 0 1 τ (by omega) (by decide) (by decide) (by decide) (fun l l0 l1 => by rw [show l = 0 by omega]; exact Int.le_refl _) (fun l l0 l1 => by omega) hF hT
    | succ d ih =>
      intro k τ hd hF hT
      refine BX1_choose_54 ⟨by omega, fun c => absurd c (by omega), fun _ => ?_⟩
      rw [show ((d + 1 : Nat) : Int) - 1 = n - ((k : Int) + 1) by omega]
      have cells : ∀ (e : Nat) (x : Int) (υ : Sg), x + e = t + 1 → 0 ≤ x → Fr [89] σ υ → TB υ Ln Ls n t k → (∀ l : Int, 0 ≤ l → l < x → υ 89 ((n - ((k : Int) + 1)) * 201 + l) = Ex Ln Ls n (k + 1) l) → V mX1_choose 62 [some (vr 85), some (vi n), none, some (vi t), some (vi (n - ((k : Int) + 1))), some (vi x)] [] υ post := by
        intro e
        induction e with
        | zero =>
          intro x υ he x0 hG hU hV
          refine BX1_choose_62 ⟨by omega, by omega, fun _ => ?_, fun c => absurd (by omega) c⟩
          rw [show n - ((k : Int) + 1) + -1 = (d : Int) - 1 by omega]
          refine ih (k + 1) υ (by omega) hG (fun i l hi l0 l1 => ?_)
          by_cases q : i = k + 1
          · rw [q, show n - ((k + 1 : Nat) : Int) = n - ((k : Int) + 1) by omega]
            exact hV l l0 (by omega)
          · exact hU i l (by omega) l0 l1
        | succ e ihe =>
          intro x υ he x0 hG hU hV
          refine BX1_choose_62 ⟨by omega, by omega, fun c => absurd c (by omega), fun _ => c_leastFrom hk n16 (by omega) (hR.fr hG (by decide) (by decide)) hU t0.2.1 x0 (by omega) ⟨_, rfl, by omega, ihe (x + 1) _ (by omega) (by omega) (hG.u (by simp)) (fun i l hi l0 l1 => ?_) (fun l l0 l1 => ?_)⟩⟩
          · rw [up_f (by omega)]
            exact hU i l hi l0 l1
          · by_cases q : l = x
            · rw [q]; exact up_s
            · rw [up_f (by omega)]
              exact hV l l0 (by omega)
      exact cells (t + 1).toNat 0 τ (by omega) (by decide) hF hT (fun l l0 l1 => by omega)
  -- the last row
  have last : ∀ (e : Nat) (x : Int) (υ : Sg), x + e = t + 1 → 0 ≤ x → Fr [89] σ υ → (∀ l : Int, 0 ≤ l → l < x → υ 89 (n * 201 + l) = Ex Ln Ls n 0 l) → V mX1_choose 13 [some (vr 85), some (vi n), none, some (vi t), some (vi x), none] [] υ post := by
    intro e
    induction e with
    | zero =>
      intro x υ he x0 hG hV
      refine BX1_choose_13 ⟨by omega, by omega, fun _ => ?_, fun c => absurd (by omega) c⟩
      have := rows n.toNat 0 υ (by omega) hG (fun i l hi l0 l1 => by
        rw [show i = 0 by omega, show n - ((0 : Nat) : Int) = n by omega]
        exact hV l l0 (by omega))
      rw [show ((n.toNat : Nat) : Int) = n by omega] at this
      exact this
    | succ e ihe =>
      intro x υ he x0 hG hV
      have st : ∀ v : Int, v = Ex Ln Ls n 0 x → V mX1_choose 13 [some (vr 85), some (vi n), none, some (vi t), some (vi (x + 1)), none] [] (up υ 89 (n * 201 + x) v) post := fun v hv => ihe (x + 1) _ (by omega) (by omega) (hG.u (by simp)) (fun l l0 l1 => by
        by_cases q : l = x
        · rw [q, up_s]; exact hv
        · rw [up_f (by omega)]
          exact hV l l0 (by omega))
      refine BX1_choose_13 ⟨by omega, by omega, fun c => absurd c (by omega), fun _ => ⟨fun c => ⟨by omega, st _ ?_⟩, fun c => ⟨by omega, st _ ?_⟩⟩⟩
      · rw [Ex, if_neg c]
      · rw [Ex, if_pos c]
  exact last (t + 1).toNat 0 σ (by omega) (by decide) Fr.rf (fun l l0 l1 => by omega)
