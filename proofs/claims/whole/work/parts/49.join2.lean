/-! ===== PURE HALF, by hand: join, the class's marks ===== -/
theorem bkJ {σ τ C : Sg} (hC : ∀ j, j ≠ 2 → j ≠ 3 → j ≠ 7 → j ≠ 8 → C j = bk σ 5 j) (hF : Fr [7, 8, 12, 13] σ τ) (h2 : τ 7 = C 2) (h3 : τ 8 = C 3) (h7 : τ 12 = C 7) (h8 : τ 13 = C 8) : bk τ 5 = C := by
  funext j
  by_cases c2 : j = 2
  · subst c2; exact h2
  by_cases c3 : j = 3
  · subst c3; exact h3
  by_cases c7 : j = 7
  · subst c7; exact h7
  by_cases c8 : j = 8
  · subst c8; exact h8
  rw [hC j c2 c3 c7 c8]
  unfold bk
  by_cases e : j = 0
  · rw [if_pos e, if_pos e, hF 5 (by decide)]
  · rw [if_neg e, if_neg e]
    by_cases e2 : j < 12
    · rw [if_pos e2, if_pos e2, hF (5 + j) (by simp; omega)]
    · rw [if_neg e2, if_neg e2]
theorem jB_row {B : Sg} {a b : Int} {i : Nat} {j : Nat} (h2 : j ≠ 2) (h3 : j ≠ 3) (h7 : j ≠ 7) (h8 : j ≠ 8) : jB B a b i j = B j := by
  unfold jB jS
  rw [if_neg h7, if_neg h8, if_neg h2, if_neg h3]
theorem jS_3y {B : Sg} {a b : Int} {i : Nat} (h : jz B a b i = -1) (n0 : 0 ≤ jn B a b i ∧ jn B a b i < 6) : pt (jS B a b i 3) (a * 6 + jn B a b i) (B 3 (b * 6 + i)) = jS B a b (i + 1) 3 := by
  obtain ⟨e1, e2, e3⟩ := j_y h
  funext x
  show _ = if a * 6 ≤ x ∧ x < a * 6 + 6 then jv B a b (i + 1) (x - a * 6) else B 3 x
  rw [e2]
  by_cases c : x = a * 6 + jn B a b i
  · rw [c, pt_self, if_pos (by omega), show a * 6 + jn B a b i - a * 6 = jn B a b i by omega, pt_self]
  · rw [pt_ne c, pt_ne (by omega)]
    rfl
theorem jS_3n {B : Sg} {a b : Int} {i : Nat} (h : ¬ jz B a b i = -1) : jS B a b i 3 = jS B a b (i + 1) 3 := by
  obtain ⟨e1, e2, e3⟩ := j_n h
  funext x
  show (if a * 6 ≤ x ∧ x < a * 6 + 6 then jv B a b i (x - a * 6) else B 3 x) = if a * 6 ≤ x ∧ x < a * 6 + 6 then jv B a b (i + 1) (x - a * 6) else B 3 x
  rw [e2]
theorem jS_0 {B : Sg} {a b : Int} : jS B a b 0 2 = B 2 ∧ jS B a b 0 3 = B 3 := by
  constructor
  · funext x
    show pt (B 2) a (B 2 a) x = _
    by_cases c : x = a
    · rw [c, pt_self]
    · rw [pt_ne c]
  · funext x
    show (if a * 6 ≤ x ∧ x < a * 6 + 6 then B 3 (a * 6 + (x - a * 6)) else B 3 x) = _
    rw [show a * 6 + (x - a * 6) = x by omega]
    split <;> rfl
/-- giving the marks of sub i -/
theorem jB_7 {B : Sg} {a b : Int} (hab : a ≠ b) {i : Nat} {k : Int} {n : Int} (hn : n = B 0 7) : (if (0 ≤ k ∧ k < n) ∧ jB B a b i 7 k = b ∧ jB B a b i 8 k = i then a else jB B a b i 7 k) = jB B a b (i + 1) 7 k := by
  subst hn
  by_cases c : jK B b i k
  · have e7 : jB B a b i 7 k = a := jT_y c
    have e7' : jB B a b (i + 1) 7 k = a := jT_y ⟨c.1, c.2.1, by have := c.2.2; omega⟩
    rw [e7, e7', if_neg (fun z => hab z.2.1)]
  · have e7 : jB B a b i 7 k = B 7 k := jT_n c
    have e8 : jB B a b i 8 k = B 8 k := jT_n c
    rw [e7, e8]
    by_cases d : (0 ≤ k ∧ k < B 0 7) ∧ B 7 k = b ∧ B 8 k = i
    · have e7' : jB B a b (i + 1) 7 k = a := jT_y ⟨d.1, d.2.1, by have := d.2.2; omega⟩
      rw [if_pos d, e7']
    · have e7' : jB B a b (i + 1) 7 k = B 7 k := jT_n (fun z => by
        obtain ⟨z1, z2, z3⟩ := z
        by_cases y : B 8 k < i
        · exact c ⟨z1, z2, y⟩
        · exact d ⟨z1, z2, by omega⟩)
      rw [if_neg d, e7']
theorem jB_8 {B : Sg} {a b : Int} (hab : a ≠ b) {i : Nat} {k z : Int} {n : Int} (hn : n = B 0 7) (hz : jb B a b (i + 1) = pt (jb B a b i) i z) : (if (0 ≤ k ∧ k < n) ∧ jB B a b i 7 k = b ∧ jB B a b i 8 k = i then z else jB B a b i 8 k) = jB B a b (i + 1) 8 k := by
  subst hn
  by_cases c : jK B b i k
  · have e7 : jB B a b i 7 k = a := jT_y c
    have e8 : jB B a b i 8 k = jb B a b i (B 8 k) := jT_y c
    have e8' : jB B a b (i + 1) 8 k = jb B a b (i + 1) (B 8 k) := jT_y ⟨c.1, c.2.1, by have := c.2.2; omega⟩
    rw [e7, e8, e8', if_neg (fun z => hab z.2.1), hz, pt_ne (by have := c.2.2; omega)]
  · have e7 : jB B a b i 7 k = B 7 k := jT_n c
    have e8 : jB B a b i 8 k = B 8 k := jT_n c
    rw [e7, e8]
    by_cases d : (0 ≤ k ∧ k < B 0 7) ∧ B 7 k = b ∧ B 8 k = i
    · have e8' : jB B a b (i + 1) 8 k = jb B a b (i + 1) (B 8 k) := jT_y ⟨d.1, d.2.1, by have := d.2.2; omega⟩
      rw [if_pos d, e8', hz, d.2.2, pt_self]
    · have e8' : jB B a b (i + 1) 8 k = B 8 k := jT_n (fun z => by
        obtain ⟨z1, z2, z3⟩ := z
        by_cases y : B 8 k < i
        · exact c ⟨z1, z2, y⟩
        · exact d ⟨z1, z2, by omega⟩)
      rw [if_neg d, e8']
theorem c_joinMarks {σ : Sg} {post : Po} {a b : Int} (hW : WfB (bk σ 5)) (a0 : 0 ≤ a) (a1 : a < σ 5 0) (b0 : 0 ≤ b) (b1 : b < σ 5 0) (hab : a ≠ b) (h6 : σ 7 a + jm (bk σ 5) a b (σ 7 b).toNat ≤ 6) (hp : ∀ τ : Sg, Fr [7, 8, 12, 13] σ τ → bk τ 5 = jB (bk σ 5) a b (σ 7 b).toNat → post none (up τ 7 b 0)) : Cl mX0_joinMarks [vr 5, vi a, vi b] σ post := by
  have wh := Wb_heads hW
  have ws : 0 ≤ σ 7 b ∧ σ 7 b ≤ 6 := Wb_subs hW b0 b1
  have hk : shp[5]? = some (0, 0, 14) := rfl
  have mks : ∀ τ : Sg, WfB (bk τ 5) → (0 ≤ τ 5 7 ∧ τ 5 7 ≤ 60) ∧ ∀ k : Int, 0 ≤ k → k < τ 5 7 → rng (τ 12 k) ∧ rng (τ 13 k) := by
    intro τ w
    refine ⟨Wb_marks w, fun k k0 k1 => ?_⟩
    have wh := Wb_heads w
    obtain ⟨w1, w2, _, _⟩ := Wb_m w k0 k1
    have w1' : 0 ≤ τ 12 k ∧ τ 12 k < τ 5 0 := w1
    have w5 : 0 ≤ τ 7 (τ 12 k) ∧ τ 7 (τ 12 k) ≤ 6 := Wb_subs w w1.1 w1.2
    have w2' : -1 ≤ τ 13 k ∧ τ 13 k < τ 7 (τ 12 k) := w2
    omega
  have n6 : ∀ i : Nat, (i : Int) ≤ σ 7 b → 0 ≤ jn (bk σ 5) a b i ∧ jn (bk σ 5) a b i ≤ 6 := by
    intro i hi
    have o := (j_ok hW a0 a1 b0 b1 i hi).1
    have wa : 0 ≤ bk σ 5 2 a ∧ bk σ 5 2 a ≤ 6 := Wb_subs hW a0 a1
    have m : jm (bk σ 5) a b i ≤ jm (bk σ 5) a b (σ 7 b).toNat := cnt_le _ (by omega)
    have e : bk σ 5 2 a = σ 7 a := rfl
    omega
  refine EX0_joinMarks hk (c_giveMarks (mks σ hW).1 (mks σ hW).2 (by omega) (by decide) (fun τ hF h12 h13 => ⟨rfl, ?_⟩))
  have loop : ∀ (n i : Nat) (τ : Sg), (i : Int) + n = σ 7 b → Fr [7, 8, 12, 13] σ τ → bk τ 5 = jB (bk σ 5) a b i → V mX0_joinMarks 10 [some (vr 5), some (vi a), some (vi b), some (vi (i : Int)), none, none, none] [] τ post := by
    intro n
    induction n with
    | zero =>
      intro i τ hi hF hB
      have e7 : τ 7 b = σ 7 b := by
        have : bk τ 5 2 b = jB (bk σ 5) a b i 2 b := by rw [hB]
        exact this.trans (pt_ne (fun z => hab z.symm))
      have ei : (σ 7 b).toNat = i := by omega
      rw [ei] at hp
      exact BX0_joinMarks_10 hk ⟨by omega, by omega, show rng (τ 7 b) by omega, fun _ => hp τ hF hB, fun z => absurd (show τ 7 b ≤ i by omega) z⟩
    | succ n ih =>
      intro i τ hi hF hB
      have e7 : τ 7 b = σ 7 b := by
        have : bk τ 5 2 b = jB (bk σ 5) a b i 2 b := by rw [hB]
        exact this.trans (pt_ne (fun z => hab z.symm))
      have r2 : τ 7 = jB (bk σ 5) a b i 2 := by rw [← hB]; rfl
      have r3 : τ 8 = jB (bk σ 5) a b i 3 := by rw [← hB]; rfl
      have r7 : τ 12 = jB (bk σ 5) a b i 7 := by rw [← hB]; rfl
      have r8 : τ 13 = jB (bk σ 5) a b i 8 := by rw [← hB]; rfl
      have e5 : τ 5 = σ 5 := hF 5 (by decide)
      have N := n6 i (by omega)
      have wB : WfB (bk τ 5) := by rw [hB]; exact jB_wf hW a0 a1 b0 b1 i (show (i : Int) ≤ σ 7 b by omega) N.2
      have eW : ew (bk τ 5) b i = bk σ 5 3 (b * 6 + i) := by
        have h1 : ew (bk τ 5) b i = bk τ 5 3 (b * 6 + i) := if_neg (by omega)
        rw [h1, hB]
        exact if_neg (by omega)
      have ww : WW (bk σ 5 3 (b * 6 + i)) := Wws hW b0 b1 (s := i) (by omega) (show (i : Int) < σ 7 b by omega)
      have zb := fnd_b (fun s => decide (jv (bk σ 5) a b i s = bk σ 5 3 (b * 6 + i))) (jn (bk σ 5) a b i).toNat
      have zb' : -1 ≤ jz (bk σ 5) a b i ∧ jz (bk σ 5) a b i < (jn (bk σ 5) a b i).toNat := zb
      have jC : ∀ j, j ≠ 2 → j ≠ 3 → j ≠ 7 → j ≠ 8 → jB (bk σ 5) a b (i + 1) j = bk σ 5 j := fun j h2 h3 h7 h8 => jB_row h2 h3 h7 h8
      refine BX0_joinMarks_10 hk ⟨by omega, by omega, show rng (τ 7 b) by omega, fun z => absurd z (show ¬ τ 7 b ≤ i by omega), fun _ => c_wordOf hk wB b0 (by rw [e5]; exact b1) (by omega) (show (i : Int) < τ 7 b by omega) ⟨_, rfl, ?_⟩⟩
      rw [eW]
      refine c_findSub hk wB ⟨by omega, by rw [e5]; exact a1⟩ (by have := ww.1; omega) ⟨_, rfl, ?_⟩
      rw [hB, jB_sL a0 N.2]
      refine ⟨by omega, fun z => ?_, fun z => ?_⟩
      · obtain ⟨y1, y2, y3⟩ := j_n z
        refine c_giveMarks (mks τ wB).1 (mks τ wB).2 (by omega) (by omega) (fun υ hG h12 h13 => ⟨rfl, ih (i + 1) υ (by omega) (hF.tr (hG.mo (by decide))) (bkJ jC (hF.tr (hG.mo (by decide))) ?_ ?_ ?_ ?_)⟩)
        · rw [hG 7 (by decide), r2]
          show pt (bk σ 5 2) a (jn (bk σ 5) a b i) = pt (bk σ 5 2) a (jn (bk σ 5) a b (i + 1))
          rw [y1]
        · rw [hG 8 (by decide), r3]
          exact jS_3n z
        · rw [h12]
          funext k
          unfold gv
          rw [r7, r8]
          exact jB_7 hab (by rw [e5]; rfl)
        · rw [h13]
          funext k
          unfold gv
          rw [r7, r8]
          exact jB_8 hab (by rw [e5]; rfl) y3
      · obtain ⟨y1, y2, y3⟩ := j_y z
        have N2 := n6 (i + 1) (by omega)
        have e7a : τ 7 a = jn (bk σ 5) a b i := by rw [r2]; exact pt_self
        refine EX0_putSub hk ⟨by omega, show rng (τ 7 a) by omega, fun _ => ⟨show 0 ≤ a * 6 + τ 7 a ∧ a * 6 + τ 7 a < 96 by omega, ⟨_, rfl, ?_⟩⟩, fun y => absurd (show τ 7 a < 6 by omega) y⟩
        show Cl mX0_giveMarks [vr 5, vi b, vi (i : Int), vi a, vi (τ 7 a + 1 - 1)] (up (up τ 8 (a * 6 + τ 7 a) (bk σ 5 3 (b * 6 + i))) 7 a (τ 7 a + 1)) _
        rw [e7a, show jn (bk σ 5) a b i + 1 - 1 = jn (bk σ 5) a b i by omega]
        have t : ∀ q : Nat, q ≠ 7 → q ≠ 8 → up (up τ 8 (a * 6 + jn (bk σ 5) a b i) (bk σ 5 3 (b * 6 + i))) 7 a (jn (bk σ 5) a b i + 1) q = τ q := fun q h7 h8 => by rw [up_r h7, up_r h8]
        have hG0 : Fr [7, 8, 12, 13] σ (up (up τ 8 (a * 6 + jn (bk σ 5) a b i) (bk σ 5 3 (b * 6 + i))) 7 a (jn (bk σ 5) a b i + 1)) := (hF.u (by decide)).u (by decide)
        have u7 : up (up τ 8 (a * 6 + jn (bk σ 5) a b i) (bk σ 5 3 (b * 6 + i))) 7 a (jn (bk σ 5) a b i + 1) 7 = jB (bk σ 5) a b (i + 1) 2 := by
          show pt (up τ 8 (a * 6 + jn (bk σ 5) a b i) (bk σ 5 3 (b * 6 + i)) 7) a (jn (bk σ 5) a b i + 1) = pt (bk σ 5 2) a (jn (bk σ 5) a b (i + 1))
          rw [up_r (by decide), r2, y1]
          funext x
          by_cases c : x = a
          · rw [c, pt_self, pt_self]
          · rw [pt_ne c, pt_ne c]
            exact pt_ne c
        have u8 : up (up τ 8 (a * 6 + jn (bk σ 5) a b i) (bk σ 5 3 (b * 6 + i))) 7 a (jn (bk σ 5) a b i + 1) 8 = jB (bk σ 5) a b (i + 1) 3 := by
          rw [up_r (by decide)]
          show pt (τ 8) (a * 6 + jn (bk σ 5) a b i) (bk σ 5 3 (b * 6 + i)) = _
          rw [r3]
          exact jS_3y z (by omega)
        have t5 := t 5 (by decide) (by decide)
        have t12 := t 12 (by decide) (by decide)
        have t13 := t 13 (by decide) (by decide)
        refine c_giveMarks (by rw [t5]; exact (mks τ wB).1) (by rw [t5, t12, t13]; exact (mks τ wB).2) (by omega) (by omega) (fun υ hG h12 h13 => ⟨rfl, ih (i + 1) υ (by omega) (hG0.tr (hG.mo (by decide))) (bkJ jC (hG0.tr (hG.mo (by decide))) ?_ ?_ ?_ ?_)⟩)
        · rw [hG 7 (by decide)]; exact u7
        · rw [hG 8 (by decide)]; exact u8
        · rw [h12]
          funext k
          unfold gv
          rw [t5, t12, t13, r7, r8]
          exact jB_7 hab (by rw [e5]; rfl)
        · rw [h13]
          funext k
          unfold gv
          rw [t5, t12, t13, r7, r8]
          exact jB_8 hab (by rw [e5]; rfl) y3
  refine loop (σ 7 b).toNat 0 τ (by omega) (hF.mo (by decide)) (bkJ (fun j h2 h3 h7 h8 => jB_row h2 h3 h7 h8) (hF.mo (by decide)) ?_ ?_ ?_ ?_)
  · rw [hF 7 (by decide)]; exact (jS_0 (B := bk σ 5) (a := a) (b := b)).1.symm
  · rw [hF 8 (by decide)]; exact (jS_0 (B := bk σ 5) (a := a) (b := b)).2.symm
  · rw [h12]
    funext k
    show (if (0 ≤ k ∧ k < σ 5 7) ∧ σ 12 k = b ∧ σ 13 k = -1 then a else σ 12 k) = if (0 ≤ k ∧ k < σ 5 7) ∧ σ 12 k = b ∧ σ 13 k < ((0 : Nat) : Int) then a else σ 12 k
    by_cases c : (0 ≤ k ∧ k < σ 5 7)
    · have w2 : -1 ≤ σ 13 k := (Wb_m hW c.1 c.2).2.1.1
      by_cases d : σ 12 k = b ∧ σ 13 k = -1
      · rw [if_pos ⟨c, d⟩, if_pos ⟨c, d.1, by omega⟩]
      · rw [if_neg (fun z => d z.2), if_neg (fun z => d ⟨z.2.1, by omega⟩)]
    · rw [if_neg (fun z => c z.1), if_neg (fun z => c z.1)]
  · rw [h13]
    funext k
    show (if (0 ≤ k ∧ k < σ 5 7) ∧ σ 12 k = b ∧ σ 13 k = -1 then -1 else σ 13 k) = if (0 ≤ k ∧ k < σ 5 7) ∧ σ 12 k = b ∧ σ 13 k < ((0 : Nat) : Int) then -1 else σ 13 k
    by_cases c : (0 ≤ k ∧ k < σ 5 7)
    · have w2 : -1 ≤ σ 13 k := (Wb_m hW c.1 c.2).2.1.1
      by_cases d : σ 12 k = b ∧ σ 13 k = -1
      · rw [if_pos ⟨c, d⟩, if_pos ⟨c, d.1, by omega⟩]
      · rw [if_neg (fun z => d z.2), if_neg (fun z => d ⟨z.2.1, by omega⟩)]
    · rw [if_neg (fun z => c z.1), if_neg (fun z => c z.1)]
