/-! ===== PURE HALF, by hand: join, the class ===== -/
theorem fnd_no {p : Int → Bool} : ∀ n : Nat, fnd p n = -1 → ∀ i : Nat, i < n → ¬ p i = true
  | 0, _, i, hi => by omega
  | n + 1, h, i, hi => by
    have b := fnd_b p n
    rw [fnd] at h
    by_cases c : 0 ≤ fnd p n
    · rw [if_pos c] at h; omega
    · rw [if_neg c] at h
      by_cases c2 : p n = true
      · rw [if_pos c2] at h; omega
      · by_cases e : i = n
        · rw [e]; exact c2
        · exact fnd_no n (by omega) i (by omega)
theorem fnd_congr {p q : Int → Bool} : ∀ n : Nat, (∀ i : Nat, i < n → p i = q i) → fnd p n = fnd q n
  | 0, _ => rfl
  | n + 1, h => by
    rw [fnd, fnd, fnd_congr n (fun i hi => h i (by omega)), h n (by omega)]
theorem cnt_le {p : Int → Bool} {m : Nat} : ∀ n : Nat, m ≤ n → cnt p m ≤ cnt p n
  | 0, h => by rw [show m = 0 by omega]; exact Int.le_refl _
  | n + 1, h => by
    by_cases e : m = n + 1
    · rw [e]; exact Int.le_refl _
    · have := cnt_le (p := p) (m := m) n (by omega)
      rw [cnt_s]
      split <;> omega
def jw (B : Sg) (a b : Int) : Nat → Int × (Int → Int) × (Int → Int)
  | 0 => (B 2 a, (fun s => B 3 (a * 6 + s)), fun _ => -1)
  | i + 1 => if fnd (fun s => decide ((jw B a b i).2.1 s = B 3 (b * 6 + i))) (jw B a b i).1.toNat = -1 then ((jw B a b i).1 + 1, pt (jw B a b i).2.1 (jw B a b i).1 (B 3 (b * 6 + i)), pt (jw B a b i).2.2 i (jw B a b i).1) else ((jw B a b i).1, (jw B a b i).2.1, pt (jw B a b i).2.2 i (fnd (fun s => decide ((jw B a b i).2.1 s = B 3 (b * 6 + i))) (jw B a b i).1.toNat))
def jn (B : Sg) (a b : Int) (i : Nat) : Int := (jw B a b i).1
def jv (B : Sg) (a b : Int) (i : Nat) : Int → Int := (jw B a b i).2.1
def jb (B : Sg) (a b : Int) (i : Nat) : Int → Int := (jw B a b i).2.2
def jz (B : Sg) (a b : Int) (i : Nat) : Int := fnd (fun s => decide (jv B a b i s = B 3 (b * 6 + i))) (jn B a b i).toNat
theorem j_y {B : Sg} {a b : Int} {i : Nat} (h : jz B a b i = -1) : jn B a b (i + 1) = jn B a b i + 1 ∧ jv B a b (i + 1) = pt (jv B a b i) (jn B a b i) (B 3 (b * 6 + i)) ∧ jb B a b (i + 1) = pt (jb B a b i) i (jn B a b i) := by
  have e : jw B a b (i + 1) = (jn B a b i + 1, pt (jv B a b i) (jn B a b i) (B 3 (b * 6 + i)), pt (jb B a b i) i (jn B a b i)) := by
    rw [jw]; exact if_pos h
  unfold jn jv jb at e ⊢
  rw [e]
  exact ⟨rfl, rfl, rfl⟩
theorem j_n {B : Sg} {a b : Int} {i : Nat} (h : ¬ jz B a b i = -1) : jn B a b (i + 1) = jn B a b i ∧ jv B a b (i + 1) = jv B a b i ∧ jb B a b (i + 1) = pt (jb B a b i) i (jz B a b i) := by
  have e : jw B a b (i + 1) = (jn B a b i, jv B a b i, pt (jb B a b i) i (jz B a b i)) := by
    rw [jw]; exact if_neg h
  unfold jn jv jb at e ⊢
  rw [e]
  exact ⟨rfl, rfl, rfl⟩
def jm (B : Sg) (a b : Int) (i : Nat) : Int := cnt (fun j => decide (sL B a (B 3 (b * 6 + j)) = -1)) i
def JOK (B : Sg) (a b : Int) (i : Nat) : Prop :=
  (B 2 a ≤ jn B a b i ∧ jn B a b i ≤ B 2 a + jm B a b i) ∧ (∀ s : Int, 0 ≤ s → s < B 2 a → jv B a b i s = B 3 (a * 6 + s)) ∧ (∀ s : Int, 0 ≤ s → s < jn B a b i → WW (jv B a b i s)) ∧ (∀ j : Int, j < 0 → jb B a b i j = -1) ∧ ∀ j : Int, 0 ≤ j → j < i → 0 ≤ jb B a b i j ∧ jb B a b i j < jn B a b i
theorem Wws {B : Sg} (hW : WfB B) {h s : Int} (h0 : 0 ≤ h) (h1 : h < B 0 0) (s0 : 0 ≤ s) (s1 : s < B 2 h) : WW (B 3 (h * 6 + s)) := by
  have e := (hW.2.2.1 h h0 h1).2.2.2.2 s (by omega) s1
  unfold ew at e
  rw [if_neg (by omega)] at e
  exact e
theorem j_ok {B : Sg} {a b : Int} (hW : WfB B) (a0 : 0 ≤ a) (a1 : a < B 0 0) (b0 : 0 ≤ b) (b1 : b < B 0 0) : ∀ i : Nat, (i : Int) ≤ B 2 b → JOK B a b i
  | 0, _ => by
    have w := (hW.2.2.1 a a0 a1).1
    exact ⟨⟨Int.le_refl _, by unfold jm; rw [cnt]; exact Int.le_of_eq (Int.add_zero _).symm⟩, fun s s0 s1 => rfl, fun s s0 s1 => Wws hW a0 a1 s0 s1, fun j hj => rfl, fun j j0 j1 => by omega⟩
  | i + 1, hi => by
    obtain ⟨o1, o2, o3, o4, o5⟩ := j_ok hW a0 a1 b0 b1 i (by omega)
    have w := (hW.2.2.1 a a0 a1).1
    have wc := Wws hW b0 b1 (s := i) (by omega) (by omega)
    have em : jm B a b (i + 1) = jm B a b i + (if decide (sL B a (B 3 (b * 6 + i)) = -1) = true then 1 else 0) := cnt_s _ _
    have mono : jm B a b i ≤ jm B a b (i + 1) := by rw [em]; split <;> omega
    by_cases h : jz B a b i = -1
    · obtain ⟨e1, e2, e3⟩ := j_y h
      have hs : sL B a (B 3 (b * 6 + i)) = -1 := by
        unfold sL
        rw [if_neg (by omega)]
        refine fnd_none _ (fun s hs => ?_)
        have := fnd_no _ h s (by omega)
        rw [← o2 s (by omega) (by omega)]
        exact this
      rw [if_pos (decide_eq_true hs)] at em
      refine ⟨by rw [e1, em]; omega, fun s s0 s1 => ?_, fun s s0 s1 => ?_, fun j hj => ?_, fun j j0 j1 => ?_⟩
      · rw [e2, pt_ne (by omega)]; exact o2 s s0 s1
      · rw [e1] at s1
        rw [e2]
        by_cases c : s = jn B a b i
        · rw [c, pt_self]; exact wc
        · rw [pt_ne c]; exact o3 s s0 (by omega)
      · rw [e3, pt_ne (by omega)]; exact o4 j hj
      · rw [e3, e1]
        by_cases c : j = i
        · rw [c, pt_self]; omega
        · rw [pt_ne c]
          have := o5 j j0 (by omega)
          omega
    · obtain ⟨e1, e2, e3⟩ := j_n h
      refine ⟨by rw [e1]; omega, fun s s0 s1 => ?_, fun s s0 s1 => ?_, fun j hj => ?_, fun j j0 j1 => ?_⟩
      · rw [e2]; exact o2 s s0 s1
      · rw [e1] at s1
        rw [e2]; exact o3 s s0 s1
      · rw [e3, pt_ne (by omega)]; exact o4 j hj
      · rw [e3, e1]
        by_cases c : j = i
        · rw [c, pt_self]
          have := fnd_b (fun s => decide (jv B a b i s = B 3 (b * 6 + i))) (jn B a b i).toNat
          unfold jz at h ⊢
          omega
        · rw [pt_ne c]
          exact o5 j j0 (by omega)
/-- subs and their words joined so far -/
def jS (B : Sg) (a b : Int) (i : Nat) : Sg := fun j => if j = 2 then pt (B 2) a (jn B a b i) else if j = 3 then (fun x => if a * 6 ≤ x ∧ x < a * 6 + 6 then jv B a b i (x - a * 6) else B 3 x) else B j
def jK (B : Sg) (b : Int) (i : Nat) (k : Int) : Prop := (0 ≤ k ∧ k < B 0 7) ∧ B 7 k = b ∧ B 8 k < i
def jT (B : Sg) (b : Int) (i : Nat) (k x y : Int) : Int := if (0 ≤ k ∧ k < B 0 7) ∧ B 7 k = b ∧ B 8 k < i then x else y
theorem jT_y {B : Sg} {b : Int} {i : Nat} {k x y : Int} (h : jK B b i k) : jT B b i k x y = x := if_pos h
theorem jT_n {B : Sg} {b : Int} {i : Nat} {k x y : Int} (h : ¬ jK B b i k) : jT B b i k x y = y := if_neg h
/-- and the marks -/
def jB (B : Sg) (a b : Int) (i : Nat) : Sg := fun j => if j = 7 then (fun k => jT B b i k a (B 7 k)) else if j = 8 then (fun k => jT B b i k (jb B a b i (B 8 k)) (B 8 k)) else jS B a b i j
theorem jS_ew {B : Sg} {a b : Int} {i : Nat} {h s : Int} (s0 : -1 ≤ s) (s1 : s < 6) (hh : ¬ (h = a ∧ 0 ≤ s)) : ew (jS B a b i) h s = ew B h s := by
  unfold ew
  by_cases c : s = -1
  · rw [if_pos c, if_pos c]; rfl
  · rw [if_neg c, if_neg c]
    exact if_neg (by omega)
theorem jS_ewa {B : Sg} {a b : Int} {i : Nat} {s : Int} (s0 : 0 ≤ s) (s1 : s < 6) : ew (jS B a b i) a s = jv B a b i s := by
  unfold ew
  rw [if_neg (by omega)]
  show (if a * 6 ≤ a * 6 + s ∧ a * 6 + s < a * 6 + 6 then jv B a b i (a * 6 + s - a * 6) else B 3 (a * 6 + s)) = _
  rw [if_pos (by omega), show a * 6 + s - a * 6 = s by omega]
theorem jB_wf {B : Sg} {a b : Int} (hW : WfB B) (a0 : 0 ≤ a) (a1 : a < B 0 0) (b0 : 0 ≤ b) (b1 : b < B 0 0) (i : Nat) (hi : (i : Int) ≤ B 2 b) (h6 : jn B a b i ≤ 6) : WfB (jB B a b i) := by
  obtain ⟨o1, o2, o3, o4, o5⟩ := j_ok hW a0 a1 b0 b1 i hi
  obtain ⟨w1, w2, w3, w4, w5⟩ := hW
  have wa := (w3 a a0 a1).1
  refine ⟨w1, w2, fun h h0 h1 => ?_, fun k k0 k1 => ?_, w5⟩
  · obtain ⟨q1, q2, q3, q4, q5⟩ := w3 h h0 h1
    by_cases c : h = a
    · subst c
      refine ⟨?_, q2, q3, q4, fun s s0 s1 => ?_⟩
      · show 0 ≤ pt (B 2) h (jn B h b i) h ∧ pt (B 2) h (jn B h b i) h ≤ 6
        rw [pt_self]; omega
      · have s1' : s < jn B h b i := by
          have : s < pt (B 2) h (jn B h b i) h := s1
          rw [pt_self] at this; exact this
        by_cases d : 0 ≤ s
        · show WW (ew (jS B h b i) h s)
          rw [jS_ewa d (by omega)]
          exact o3 s d s1'
        · show WW (ew (jS B h b i) h s)
          rw [jS_ew s0 (by omega) (by omega)]
          exact q5 s s0 (by omega)
    · refine ⟨?_, q2, q3, q4, fun s s0 s1 => ?_⟩
      · show 0 ≤ pt (B 2) a (jn B a b i) h ∧ pt (B 2) a (jn B a b i) h ≤ 6
        rw [pt_ne c]; exact q1
      · have s1' : s < B 2 h := by
          have : s < pt (B 2) a (jn B a b i) h := s1
          rw [pt_ne c] at this; exact this
        show WW (ew (jS B a b i) h s)
        rw [jS_ew s0 (by omega) (by omega)]
        exact q5 s s0 s1'
  · obtain ⟨q1, q2, q3, q4⟩ := w4 k k0 k1
    by_cases c : jK B b i k
    · have e7 : jB B a b i 7 k = a := jT_y c
      have e8 : jB B a b i 8 k = jb B a b i (B 8 k) := jT_y c
      refine ⟨by rw [e7]; exact ⟨a0, a1⟩, ?_, q3, q4⟩
      rw [e7, e8]
      show -1 ≤ jb B a b i (B 8 k) ∧ jb B a b i (B 8 k) < pt (B 2) a (jn B a b i) a
      rw [pt_self]
      by_cases d : B 8 k < 0
      · rw [o4 _ d]; omega
      · have := o5 (B 8 k) (by omega) c.2.2
        omega
    · have e7 : jB B a b i 7 k = B 7 k := jT_n c
      have e8 : jB B a b i 8 k = B 8 k := jT_n c
      refine ⟨by rw [e7]; exact q1, ?_, q3, q4⟩
      rw [e7, e8]
      refine ⟨q2.1, ?_⟩
      show B 8 k < pt (B 2) a (jn B a b i) (B 7 k)
      by_cases d : B 7 k = a
      · rw [d, pt_self]; rw [d] at q2; omega
      · rw [pt_ne d]; exact q2.2
theorem jB_sL {B : Sg} {a b : Int} {i : Nat} (a0 : 0 ≤ a) (h6 : jn B a b i ≤ 6) : sL (jB B a b i) a (B 3 (b * 6 + i)) = jz B a b i := by
  unfold sL
  rw [if_neg (by omega)]
  have e : (jB B a b i 2 a) = jn B a b i := pt_self
  rw [e]
  refine fnd_congr _ (fun s hs => ?_)
  have e2 : jB B a b i 3 (a * 6 + s) = jv B a b i s := by
    show (if a * 6 ≤ a * 6 + (s : Int) ∧ a * 6 + (s : Int) < a * 6 + 6 then jv B a b i (a * 6 + s - a * 6) else B 3 (a * 6 + s)) = _
    rw [if_pos (by omega), show a * 6 + (s : Int) - a * 6 = s by omega]
  show decide (jB B a b i 3 (a * 6 + s) = B 3 (b * 6 + i)) = _
  rw [e2]
/-! the class's calls -/
theorem c_subsMissing {σ : Sg} {post : Po} {a b : Int} (hW : WfB (bk σ 5)) (a0 : 0 ≤ a) (a1 : a < σ 5 0) (b0 : 0 ≤ b) (b1 : b < σ 5 0) (hp : post (some (vi (jm (bk σ 5) a b (σ 7 b).toNat))) σ) : Cl mX0_subsMissing [vr 5, vi a, vi b] σ post := by
  have wh := Wb_heads hW
  have ws : 0 ≤ σ 7 b ∧ σ 7 b ≤ 6 := Wb_subs hW b0 b1
  have hk : shp[5]? = some (0, 0, 14) := rfl
  refine EX0_subsMissing hk ?_
  have loop : ∀ (n j : Nat), (j : Int) + n = σ 7 b → V mX0_subsMissing 5 [some (vr 5), some (vi a), some (vi b), some (vi (jm (bk σ 5) a b j)), some (vi (j : Int))] [] σ post := by
    intro n
    induction n with
    | zero =>
      intro j hj
      have e : (σ 7 b).toNat = j := by omega
      rw [e] at hp
      exact BX0_subsMissing_5 hk ⟨by omega, by omega, show rng (σ 7 b) by omega, fun _ => hp, fun z => absurd (show σ 7 b ≤ j by omega) z⟩
    | succ n ih =>
      intro j hj
      have ww := Wb_ws hW b0 b1 (s := j) (by omega) (show (j : Int) < σ 7 b by omega)
      have eW : ew (bk σ 5) b j = bk σ 5 3 (b * 6 + j) := if_neg (by omega)
      have ww2 : WW (bk σ 5 3 (b * 6 + j)) := ww
      have sb := sL_b hW (g := a) ⟨by omega, a1⟩ (bk σ 5 3 (b * 6 + j))
      have em : jm (bk σ 5) a b (j + 1) = jm (bk σ 5) a b j + (if decide (sL (bk σ 5) a (bk σ 5 3 (b * 6 + j)) = -1) = true then 1 else 0) := cnt_s _ _
      refine BX0_subsMissing_5 hk ⟨by omega, by omega, show rng (σ 7 b) by omega, fun z => absurd z (show ¬ σ 7 b ≤ j by omega), fun _ => c_wordOf hk hW b0 b1 (by omega) (show (j : Int) < σ 7 b by omega) ⟨_, rfl, ?_⟩⟩
      rw [eW]
      refine c_findSub hk hW ⟨by omega, a1⟩ (by have := ww2.1; omega) ⟨_, rfl, by omega, fun z => ?_, fun z => ?_⟩
      · rw [if_neg (fun y => z (of_decide_eq_true y)), Int.add_zero] at em
        have := ih (j + 1) (by omega)
        rw [em] at this
        exact this
      · rw [if_pos (decide_eq_true z)] at em
        have := ih (j + 1) (by omega)
        rw [em] at this
        exact this
  exact loop (σ 7 b).toNat 0 (by omega)
def gv (σ : Sg) (h s : Int) (n : Int) (g : Int) (f : Int → Int) : Int → Int := fun k => if (0 ≤ k ∧ k < n) ∧ σ 12 k = h ∧ σ 13 k = s then g else f k
theorem c_giveMarks {σ : Sg} {post : Po} {h s g u : Int} (wm : 0 ≤ σ 5 7 ∧ σ 5 7 ≤ 60) (hm : ∀ k : Int, 0 ≤ k → k < σ 5 7 → rng (σ 12 k) ∧ rng (σ 13 k)) (rh : rng h) (rs : rng s) (hp : ∀ σ' : Sg, Fr [12, 13] σ σ' → σ' 12 = gv σ h s (σ 5 7) g (σ 12) → σ' 13 = gv σ h s (σ 5 7) u (σ 13) → post none σ') : Cl mX0_giveMarks [vr 5, vi h, vi s, vi g, vi u] σ post := by
  have hk : shp[5]? = some (0, 0, 14) := rfl
  refine EX0_giveMarks hk ?_
  have loop : ∀ (n : Nat) (j : Int) (τ : Sg), 0 ≤ j → j + n = σ 5 7 → Fr [12, 13] σ τ → τ 12 = gv σ h s j g (σ 12) → τ 13 = gv σ h s j u (σ 13) → V mX0_giveMarks 3 [some (vr 5), some (vi h), some (vi s), some (vi g), some (vi u), some (vi j)] [] τ post := by
    intro n
    induction n with
    | zero =>
      intro j τ j0 hj hF h12 h13
      have e5 : τ 5 = σ 5 := hF 5 (by decide)
      have ej : j = σ 5 7 := by omega
      rw [ej] at h12 h13
      exact BX0_giveMarks_3 hk ⟨by omega, by rw [e5]; omega, fun _ => hp τ hF h12 h13, fun z => absurd (by rw [e5]; omega) z⟩
    | succ n ih =>
      intro j τ j0 hj hF h12 h13
      have e5 : τ 5 = σ 5 := hF 5 (by decide)
      obtain ⟨w1, w2⟩ := hm j j0 (by omega)
      have q12 : τ 12 j = σ 12 j := by rw [h12]; exact if_neg (by omega)
      have q13 : τ 13 j = σ 13 j := by rw [h13]; exact if_neg (by omega)
      have no : ¬ (σ 12 j = h ∧ σ 13 j = s) → V mX0_giveMarks 3 [some (vr 5), some (vi h), some (vi s), some (vi g), some (vi u), some (vi (j + 1))] [] τ post := by
        intro hn
        have key : ∀ (v : Int) (f : Int → Int), gv σ h s j v f = gv σ h s (j + 1) v f := by
          intro v f
          funext k
          unfold gv
          by_cases c : (0 ≤ k ∧ k < j) ∧ σ 12 k = h ∧ σ 13 k = s
          · rw [if_pos c, if_pos ⟨by omega, c.2⟩]
          · rw [if_neg c, if_neg]
            intro z
            by_cases e : k = j
            · rw [e] at z; exact hn z.2
            · exact c ⟨by omega, z.2⟩
        refine ih (j + 1) τ (by omega) (by omega) hF ?_ ?_
        · rw [h12]; exact key _ _
        · rw [h13]; exact key _ _
      refine BX0_giveMarks_3 hk ⟨by omega, by rw [e5]; omega, fun z => absurd z (by rw [e5]; omega), fun _ => ⟨by omega, show rng (τ 12 j) by rw [q12]; omega, rh, fun z => no (fun y => z (show τ 12 j = h by rw [q12]; exact y.1)), fun z => ⟨show rng (τ 13 j) by rw [q13]; omega, rs, fun z2 => no (fun y => z2 (show τ 13 j = s by rw [q13]; exact y.2)), fun z2 => ?_⟩⟩⟩
      have y1 : σ 12 j = h := by rw [← q12]; exact z
      have y2 : σ 13 j = s := by rw [← q13]; exact z2
      have key : ∀ (v : Int) (f : Int → Int), pt (gv σ h s j v f) j v = gv σ h s (j + 1) v f := by
        intro v f
        funext k
        by_cases e : k = j
        · rw [e, pt_self]
          exact (if_pos ⟨by omega, y1, y2⟩).symm
        · rw [pt_ne e]
          unfold gv
          by_cases c : (0 ≤ k ∧ k < j) ∧ σ 12 k = h ∧ σ 13 k = s
          · rw [if_pos c, if_pos ⟨by omega, c.2⟩]
          · rw [if_neg c, if_neg]
            intro z
            exact c ⟨by omega, z.2⟩
      refine ih (j + 1) _ (by omega) (by omega) ((hF.u (by decide)).u (by decide)) ?_ ?_
      · rw [up_r (by decide)]
        show pt (τ 12) j g = _
        rw [h12]; exact key _ _
      · show pt (up τ 12 j g 13) j u = _
        rw [up_r (by decide), h13]; exact key _ _
  refine loop (σ 5 7).toNat 0 σ (by omega) (by omega) Fr.rf ?_ ?_
  · funext k; exact (if_neg (by omega)).symm
  · funext k; exact (if_neg (by omega)).symm
