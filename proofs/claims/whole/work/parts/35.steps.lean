/-! ===== PURE HALF, by hand: sets of heads on the way; steps ===== -/
theorem iOr_assoc (a b c : Int) : iOr (iOr a b) c = iOr a (iOr b c) := by
  unfold iOr
  rw [iI_of, iI_of, Int32.or_assoc]
theorem iOr_z {a : Int} (h0 : 0 ≤ a) (h1 : a < 2147483648) : iOr a 0 = a := by
  rw [iOr_e h0 h1 (by decide) (by decide)]
  show ((a.toNat ||| 0 : Nat) : Int) = a
  rw [Nat.or_zero]
  omega
/-- a set's pages: some mark of its heads has the page -/
def tka (B : Sg) (set p : Int) : Nat → Bool
  | 0 => false
  | n + 1 => tka B set p n || (has set (B 7 n) && decide (B 9 n ≤ p ∧ p ≤ B 10 n))
theorem tka_iff {B : Sg} {set p : Int} : ∀ n : Nat, tka B set p n = true ↔ ∃ k : Nat, k < n ∧ has set (B 7 k) = true ∧ B 9 k ≤ p ∧ p ≤ B 10 k
  | 0 => by
    constructor
    · intro h; cases h
    · rintro ⟨k, h, _⟩; omega
  | n + 1 => by
    rw [tka, Bool.or_eq_true, tka_iff n, Bool.and_eq_true, decide_eq_true_iff]
    constructor
    · rintro (⟨k, h1, h2⟩ | h1)
      · exact ⟨k, by omega, h2⟩
      · exact ⟨n, by omega, h1⟩
    · rintro ⟨k, h1, h2⟩
      by_cases e : k = n
      · subst e; exact Or.inr h2
      · exact Or.inl ⟨k, by omega, h2⟩
theorem tka_out {B : Sg} (hW : WfB B) {set p : Int} (hp : p < 1 ∨ 99 < p) : ¬ tka B set p (B 0 7).toNat = true := fun z => by
  obtain ⟨k, h1, h2, h3, h4⟩ := (tka_iff _).1 z
  have := (hW.2.2.2.1 k (by omega) (by omega)).2.2.1
  omega
theorem c_headsWith {σ : Sg} {post : Po} {k : Nat} {p : Int} (hk : shp[k]? = some (0, 0, 14)) (hW : WfB (bk σ k)) (rp : rng p) (hp : ∀ z : Int, 0 ≤ z → z < 65536 → (∀ g : Int, 0 ≤ g → (has z g = true ↔ ∃ i : Nat, i < (σ k 7).toNat ∧ σ (k + 7) i = g ∧ σ (k + 9) i ≤ p ∧ p ≤ σ (k + 10) i)) → post (some (vi z)) σ) : Cl mX0_headsWith [vr k, vi p] σ post := by
  have wm := Wb_marks hW
  have wh := Wb_heads hW
  refine EX0_headsWith hk ?_
  have loop : ∀ (n j : Nat) (x : Int), (j : Int) + n = σ k 7 → 0 ≤ x → x < 65536 → (∀ g : Int, 0 ≤ g → (has x g = true ↔ ∃ i : Nat, i < j ∧ σ (k + 7) i = g ∧ σ (k + 9) i ≤ p ∧ p ≤ σ (k + 10) i)) → V mX0_headsWith 4 [some (vr k), some (vi p), some (vi x), some (vi (j : Int))] [] σ post := by
    intro n
    induction n with
    | zero =>
      intro j x hj x0 x1 hx
      have e : (σ k 7).toNat = j := by omega
      exact BX0_headsWith_4 hk ⟨by omega, by omega, fun _ => hp x x0 x1 (fun g g0 => by rw [hx g g0, e]), fun q => absurd (by omega) q⟩
    | succ n ih =>
      intro j x hj x0 x1 hx
      have w := Wb_m hW (i := j) (by omega) (by omega)
      have no : ¬ (σ (k + 9) j ≤ p ∧ p ≤ σ (k + 10) j) → V mX0_headsWith 4 [some (vr k), some (vi p), some (vi x), some (vi ((j : Int) + 1))] [] σ post := by
        intro hn
        refine ih (j + 1) x (by omega) x0 x1 (fun g g0 => ?_)
        rw [hx g g0]
        constructor
        · rintro ⟨i, h1, h2⟩; exact ⟨i, by omega, h2⟩
        · rintro ⟨i, h1, h2⟩
          by_cases e : i = j
          · subst e; exact absurd h2.2 hn
          · exact ⟨i, by omega, h2⟩
      refine BX0_headsWith_4 hk ⟨by omega, by omega, fun q => absurd q (by omega), fun _ => ⟨by omega, by omega, rp, fun q => no (by omega), fun q => ⟨by omega, fun q2 => no (by omega), fun q2 => ?_⟩⟩⟩
      have s := iShl1_lt (h := σ (k + 7) j) (n := 16) w.1.1 (by omega) (by decide)
      have o := iOr_lt (s := x) (t := iShl 1 (σ (k + 7) j)) (n := 16) (by decide) x0 x1 s.1 s.2
      refine ih (j + 1) _ (by omega) o.1 o.2 (fun g g0 => ?_)
      rw [has_or x0 (by omega) s.1 (by omega), has_shl w.1.1 (by omega) g0, Bool.or_eq_true, hx g g0, decide_eq_true_iff]
      constructor
      · rintro (⟨i, h1, h2⟩ | h1)
        · exact ⟨i, by omega, h2⟩
        · exact ⟨j, by omega, h1.symm, by omega, by omega⟩
      · rintro ⟨i, h1, h2⟩
        by_cases e : i = j
        · subst e; exact Or.inr h2.1.symm
        · exact Or.inl ⟨i, by omega, h2⟩
  exact loop (σ k 7).toNat 0 0 (by omega) (by omega) (by omega) (fun g g0 => by rw [has_0]; constructor; (intro z; cases z); (rintro ⟨i, h1, _⟩; omega))
/-- one step more, from the first n heads -/
def stN (B : Sg) (set : Int) : Nat → Int
  | 0 => set
  | n + 1 => if has set n = true then iOr (stN B set n) (iOr (B 5 n) (if B 4 n = -1 then 0 else iShl 1 (B 4 n))) else stN B set n
theorem stN_b {B : Sg} (hW : WfB B) {set : Int} (s0 : 0 ≤ set) (s1 : set < 65536) : ∀ n : Nat, (n : Int) ≤ B 0 0 → 0 ≤ stN B set n ∧ stN B set n < 65536
  | 0, _ => ⟨s0, s1⟩
  | n + 1, hn => by
    have ih := stN_b hW s0 s1 n (by omega)
    have wh := hW.1
    obtain ⟨_, w2, w3, _⟩ := hW.2.2.1 n (by omega) (by omega)
    rw [stN]
    split
    · have t : 0 ≤ (if B 4 n = -1 then 0 else iShl 1 (B 4 n)) ∧ (if B 4 n = -1 then 0 else iShl 1 (B 4 n)) < 2 ^ 16 := by
        by_cases e : B 4 n = -1
        · rw [if_pos e]; decide
        · rw [if_neg e]; exact iShl1_lt (by omega) (by omega) (by decide)
      have o := iOr_lt (s := B 5 n) (n := 16) (by decide) w3.1 w3.2.1 t.1 t.2
      exact iOr_lt (n := 16) (by decide) ih.1 ih.2 o.1 o.2
    · exact ih
theorem c_oneStepOn {σ : Sg} {post : Po} {k : Nat} {set : Int} (hk : shp[k]? = some (0, 0, 14)) (hW : WfB (bk σ k)) (s0 : 0 ≤ set) (s1 : set < 65536) (hp : post (some (vi (stN (bk σ k) set (σ k 0).toNat))) σ) : Cl mX0_oneStepOn [vr k, vi set] σ post := by
  have wh := Wb_heads hW
  refine EX0_oneStepOn hk ?_
  have loop : ∀ (n j : Nat) (x : Int), (j : Int) + n = σ k 0 → x = stN (bk σ k) set j → V mX0_oneStepOn 4 [some (vr k), some (vi set), some (vi x), some (vi (j : Int))] [] σ post := by
    intro n
    induction n with
    | zero =>
      intro j x hj hx
      have e : (σ k 0).toNat = j := by omega
      exact BX0_oneStepOn_4 hk ⟨by omega, by omega, fun _ => by rw [hx, ← e]; exact hp, fun q => absurd (by omega) q⟩
    | succ n ih =>
      intro j x hj hx
      have sb := stN_b hW s0 s1 j (show (j : Int) ≤ σ k 0 by omega)
      rw [← hx] at sb
      have w2 := Wb_see hW (i := j) (by omega) (by omega)
      have w3 := Wb_also hW (i := j) (by omega) (by omega)
      refine BX0_oneStepOn_4 hk ⟨by omega, by omega, fun q => absurd q (by omega), fun _ => c_isIn s0 (by omega) (by omega) (by omega) (fun q => ⟨_, rfl, b1' ⟨by omega, by omega, fun c => ?_, fun c => ?_⟩⟩) (fun q => ⟨_, rfl, b0' ?_⟩)⟩
      · refine ih (j + 1) _ (by omega) ?_
        rw [stN, if_pos q, ← hx, if_pos (show bk σ k 4 j = -1 from c), iOr_z (a := bk σ k 5 j) w3.1 (show bk σ k 5 j < 2147483648 from by show σ (k + 5) j < _; omega)]
        rfl
      · refine ih (j + 1) _ (by omega) ?_
        rw [stN, if_pos q, ← hx, if_neg (show ¬ bk σ k 4 j = -1 from c), iOr_assoc]
        rfl
      · refine ih (j + 1) _ (by omega) ?_
        rw [stN, if_neg q, ← hx]
  exact loop (σ k 0).toNat 0 set (by omega) rfl
theorem r_stepOn {σ B : Sg} {post : Po} {set : Int} (hW : WfB B) (hR : RA (bk σ 94) B) (s0 : 0 ≤ set) (s1 : set < 65536) (hp : post (some (vi (stN B set (B 0 0).toNat))) σ) : Cl mX12_stepOn [vr 94, vi set] σ post := by
  have wh := hW.1
  have eh : σ 94 0 = B 0 0 := Ra_heads hR
  refine EX12_stepOn ?_
  have loop : ∀ (n j : Nat) (x : Int), (j : Int) + n = B 0 0 → x = stN B set j → V mX12_stepOn 4 [some (vr 94), some (vi set), some (vi x), some (vi (j : Int))] [] σ post := by
    intro n
    induction n with
    | zero =>
      intro j x hj hx
      have e : (B 0 0).toNat = j := by omega
      exact BX12_stepOn_4 ⟨by omega, by omega, fun _ => by rw [hx, ← e]; exact hp, fun q => absurd (by omega) q⟩
    | succ n ih =>
      intro j x hj hx
      have sb := stN_b hW s0 s1 j (by omega)
      rw [← hx] at sb
      obtain ⟨_, w2, w3, _⟩ := hW.2.2.1 j (by omega) (by omega)
      have e8 : σ 98 j = B 4 j := Ra_see hR (by omega) (by omega)
      have e9 : σ 99 j = B 5 j := Ra_also hR (by omega) (by omega)
      refine BX12_stepOn_4 ⟨by omega, by omega, fun q => absurd q (by omega), fun _ => r_has s0 (by omega) (by omega) (by omega) (fun q => ⟨_, rfl, b1 ⟨by omega, by omega, fun c => ?_, fun c => ?_⟩⟩) (fun q => ⟨_, rfl, b0 ?_⟩)⟩
      · refine ih (j + 1) _ (by omega) ?_
        rw [stN, if_pos q, ← hx, if_pos (show B 4 j = -1 by omega), e9]
      · refine ih (j + 1) _ (by omega) ?_
        rw [stN, if_pos q, ← hx, if_neg (show ¬ B 4 j = -1 by omega), e9, e8]
      · refine ih (j + 1) _ (by omega) ?_
        rw [stN, if_neg q, ← hx, iOr_z sb.1 (by omega)]
  exact loop (B 0 0).toNat 0 set (by omega) rfl
theorem cnt_z {p : Int → Bool} : ∀ n : Nat, (∀ i : Nat, i < n → ¬ p i = true) → cnt p n = 0
  | 0, _ => rfl
  | n + 1, h => by rw [cnt_f (h n (by omega)), cnt_z n (fun i hi => h i (by omega))]
/-! counting where one place changes -/
theorem cnt_one {p q : Int → Bool} {x : Int} (x0 : 0 ≤ x) (hq : ∀ i : Int, 0 ≤ i → i ≠ x → q i = p i) (hx : q x = true) : ∀ n : Nat, x < n → cnt q n = cnt p n + (if p x = true then 0 else 1)
  | 0, h => by omega
  | n + 1, h => by
    rw [cnt_s, cnt_s]
    by_cases e : x = n
    · have e1 : cnt q n = cnt p n := cnt_congr n (fun i hi => hq i (by omega) (by omega))
      rw [e1, ← e, if_pos hx]
      by_cases c : p x = true
      · rw [if_pos c, if_pos c]; omega
      · rw [if_neg c, if_neg c]; omega
    · rw [cnt_one x0 hq hx n (by omega), hq n (by omega) (by omega)]
      omega
theorem r_tickAll {σ B : Sg} {post : Po} {set : Int} (hW : WfB B) (hR : RA (bk σ 94) B) (s0 : 0 ≤ set) (s1 : set < 65536) (hp : ∀ σ' : Sg, FrJ [107] [] σ σ' → (∀ p : Int, 0 ≤ p → p < 102 → σ' 107 p = if tka B set p (B 0 7).toNat = true then 1 else 0) → post (some (vi (cnt (fun p => tka B set p (B 0 7).toNat) 102))) σ') : Cl mX12_tickAll [vr 94, vi set] σ post := by
  have wm := hW.2.1
  have wh := hW.1
  refine EX12_tickAll ?_
  have outer : ∀ (n j : Nat) (x : Int) (τ : Sg), (j : Int) + n = B 0 7 → FrJ [107] [] σ τ → (∀ p : Int, 0 ≤ p → p < 102 → τ 107 p = if tka B set p j = true then 1 else 0) → x = cnt (fun p => tka B set p j) 102 → V mX12_tickAll 25 [some (vr 94), some (vi set), some (vi x), some (vi (j : Int)), none] [] τ post := by
    intro n
    induction n with
    | zero =>
      intro j x τ hj hF hT hx
      have e7 : τ 94 7 = B 0 7 := (hF.2 7 (by simp)).trans (Ra_marks hR)
      have ej : (B 0 7).toNat = j := by omega
      refine BX12_tickAll_25 ⟨by omega, by rw [e7]; omega, fun _ => ?_, fun z => absurd (by rw [e7]; omega) z⟩
      rw [hx]
      have := hp τ hF (by rw [ej]; exact hT)
      rw [ej] at this
      exact this
    | succ n ih =>
      intro j x τ hj hF hT hx
      have e7 : τ 94 7 = B 0 7 := (hF.2 7 (by simp)).trans (Ra_marks hR)
      have hR' : RA (bk τ 94) B := hR.fr hF (by simp) (by simp)
      obtain ⟨m1, m2, m3, m4, m5⟩ := Ra_m hR' (i := j) (by omega) (by omega)
      obtain ⟨w1, w2, w3, w4⟩ := hW.2.2.2.1 j (by omega) (by omega)
      have cb := cnt_b (fun p => tka B set p j) 102
      refine BX12_tickAll_25 ⟨by omega, by rw [e7]; omega, fun z => absurd z (by rw [e7]; omega), fun _ => ⟨by omega, ?_⟩⟩
      rw [m3]
      by_cases hm : has set (B 7 j) = true
      · have tks : ∀ p, tka B set p (j + 1) = (tka B set p j || decide (B 9 j ≤ p ∧ p ≤ B 10 j)) := fun p => by rw [tka, hm, Bool.true_and]
        have inner : ∀ (c : Nat) (y x : Int) (υ : Sg), B 9 j ≤ y → y + c = B 10 j + 1 → FrJ [107] [] σ υ → (∀ p : Int, 0 ≤ p → p < 102 → υ 107 p = if (tka B set p j || decide (B 9 j ≤ p ∧ p < y)) = true then 1 else 0) → x = cnt (fun p => tka B set p j || decide (B 9 j ≤ p ∧ p < y)) 102 → V mX12_tickAll 41 [some (vr 94), some (vi set), some (vi x), some (vi (j : Int)), some (vi y)] [] υ post := by
          intro c
          induction c with
          | zero =>
            intro y x υ y0 hy hF2 hU hx
            have hR2 : RA (bk υ 94) B := hR.fr hF2 (by simp) (by simp)
            have n4 := (Ra_m hR2 (i := j) (by omega) (by omega)).2.2.2.1
            have ey : ∀ p : Int, (tka B set p j || decide (B 9 j ≤ p ∧ p < y)) = tka B set p (j + 1) := fun p => by
              rw [tks]
              congr 1
              rw [decide_eq_decide]
              omega
            refine BX12_tickAll_41 ⟨by omega, by omega, by rw [n4]; omega, fun _ => ?_, fun z => absurd (by rw [n4]; omega) z⟩
            have := ih (j + 1) x υ (by omega) hF2 (fun p p0 p1 => by rw [hU p p0 p1, ey]) (by rw [hx]; exact cnt_congr 102 (fun i _ => ey i))
            exact this
          | succ c ihc =>
            intro y x υ y0 hy hF2 hU hx
            have hR2 : RA (bk υ 94) B := hR.fr hF2 (by simp) (by simp)
            obtain ⟨n1, n2, n3, n4, n5⟩ := Ra_m hR2 (i := j) (by omega) (by omega)
            have hy2 := hU y (by omega) (by omega)
            have py : (tka B set y j || decide (B 9 j ≤ y ∧ y < y)) = tka B set y j := by
              rw [decide_eq_false (by omega), Bool.or_false]
            rw [py] at hy2
            have one := cnt_one (p := fun p => tka B set p j || decide (B 9 j ≤ p ∧ p < y)) (q := fun p => tka B set p j || decide (B 9 j ≤ p ∧ p < y + 1)) (x := y) (by omega) (fun i i0 hi => by
              show (tka B set i j || decide (B 9 j ≤ i ∧ i < y + 1)) = (tka B set i j || decide (B 9 j ≤ i ∧ i < y))
              congr 1
              rw [decide_eq_decide]
              omega) (by
              show (tka B set y j || decide (B 9 j ≤ y ∧ y < y + 1)) = true
              rw [decide_eq_true (by omega), Bool.or_true]) 102 (by omega)
            have step : ∀ v : Int, v = x + (if tka B set y j = true then 0 else 1) → V mX12_tickAll 41 [some (vr 94), some (vi set), some (vi v), some (vi (j : Int)), some (vi (y + 1))] [] (up υ 107 y 1) post := by
              intro v hv
              refine ihc (y + 1) v (up υ 107 y 1) (by omega) (by omega) (hF2.u (by simp) (by decide)) (fun p p0 p1 => ?_) ?_
              · by_cases c : p = y
                · subst c
                  rw [up_s, decide_eq_true (by omega), Bool.or_true, if_pos rfl]
                · rw [up_f c, hU p p0 p1]
                  have e : decide (B 9 j ≤ p ∧ p < y) = decide (B 9 j ≤ p ∧ p < y + 1) := by rw [decide_eq_decide]; omega
                  rw [e]
              · rw [one, hv, hx]
                show _ = _ + (if (tka B set y j || decide (B 9 j ≤ y ∧ y < y)) = true then 0 else 1)
                rw [py]
            refine BX12_tickAll_41 ⟨by omega, by omega, by rw [n4]; omega, fun z => absurd z (by rw [n4]; omega), fun _ => ?_⟩
            rw [n1]
            refine r_has s0 (by omega) (by omega) (by omega) (fun _ => ⟨_, rfl, b1' ⟨by omega, ?_, fun c1 => r_one (by omega) ⟨_, rfl, step _ ?_⟩, fun c1 => r_one (by omega) ⟨_, rfl, step _ ?_⟩⟩⟩) (fun z => absurd hm z)
            · rw [hy2]; split <;> decide
            · rw [hy2] at c1
              by_cases e : tka B set y j = true
              · rw [if_pos e]
              · rw [if_neg e] at c1; exact absurd rfl c1
            · rw [hy2] at c1
              by_cases e : tka B set y j = true
              · rw [if_pos e] at c1; cases c1
              · rw [if_neg e]
        exact inner (B 10 j + 1 - B 9 j).toNat (B 9 j) x τ (by omega) (by omega) hF (fun p p0 p1 => by
          rw [hT p p0 p1, decide_eq_false (by omega), Bool.or_false]) (by
          rw [hx]
          exact cnt_congr 102 (fun i _ => by
            show tka B set i j = (tka B set i j || decide (B 9 j ≤ i ∧ (i : Int) < B 9 j))
            rw [decide_eq_false (by omega), Bool.or_false]))
      · have tks : ∀ p, tka B set p (j + 1) = tka B set p j := fun p => by
          rw [tka]
          cases h : has set (B 7 j)
          · rw [Bool.false_and, Bool.or_false]
          · exact absurd h hm
        refine BX12_tickAll_41 ⟨by omega, by omega, by rw [m4]; omega, fun z => absurd z (by rw [m4]; omega), fun _ => ?_⟩
        rw [m1]
        refine r_has s0 (by omega) (by omega) (by omega) (fun z => absurd z hm) (fun _ => ⟨_, rfl, b0' ?_⟩)
        have := ih (j + 1) x τ (by omega) hF (fun p p0 p1 => by rw [hT p p0 p1, tks]) (by rw [hx]; exact cnt_congr 102 (fun i _ => (tks i).symm))
        exact this
  have zero : ∀ (n : Nat) (x : Int) (τ : Sg), 0 ≤ x → x + n = 102 → FrJ [107] [] σ τ → (∀ p : Int, 0 ≤ p → p < x → τ 107 p = 0) → V mX12_tickAll 2 [some (vr 94), some (vi set), some (vi x), none, none] [] τ post := by
    intro n
    induction n with
    | zero =>
      intro x τ x0 hx hF hT
      refine BX12_tickAll_2 ⟨by omega, fun _ => ?_, fun z => absurd (by omega) z⟩
      have := outer (B 0 7).toNat 0 0 τ (by omega) hF (fun p p0 p1 => by rw [hT p p0 (by omega)]; rfl) (cnt_z (p := fun p => tka B set p 0) 102 (fun i _ z => by cases z)).symm
      exact this
    | succ n ih =>
      intro x τ x0 hx hF hT
      refine BX12_tickAll_2 ⟨by omega, fun z => absurd z (by omega), fun _ => ⟨by omega, ih (x + 1) _ (by omega) (by omega) (hF.u (by simp) (by decide)) (fun p p0 p1 => ?_)⟩⟩
      by_cases c : p = x
      · subst c; exact up_s
      · rw [up_f c]; exact hT p p0 (by omega)
  exact zero 102 0 σ (by omega) (by omega) FrJ.rf (fun p p0 p1 => by omega)
/-- sets that one comes to -/
def sq (B : Sg) (h : Int) : Nat → Int
  | 0 => iShl 1 h
  | n + 1 => stN B (sq B h n) (B 0 0).toNat
theorem sq_b {B : Sg} (hW : WfB B) {h : Int} (h0 : 0 ≤ h) (h1 : h < B 0 0) : ∀ n : Nat, 0 ≤ sq B h n ∧ sq B h n < 65536
  | 0 => by
    have wh := hW.1
    exact iShl1_lt (n := 16) h0 (by omega) (by decide)
  | n + 1 => by
    have ih := sq_b hW h0 h1 n
    have wh := hW.1
    exact stN_b hW ih.1 ih.2 _ (by omega)
theorem and_hit {s t : Int} (s0 : 0 ≤ s) (s1 : s < 65536) (t0 : 0 ≤ t) (t1 : t < 65536) : iAnd s t = 0 ↔ ∀ g : Int, 0 ≤ g → ¬ (has s g = true ∧ has t g = true) := by
  rw [iAnd_e s0 (by omega) t0 (by omega)]
  constructor
  · intro h g g0 ⟨a, b⟩
    have e : s.toNat &&& t.toNat = 0 := by omega
    unfold has at a b
    have : (s.toNat &&& t.toNat).testBit g.toNat = true := by rw [Nat.testBit_and, a, b]; rfl
    rw [e, Nat.zero_testBit] at this
    cases this
  · intro h
    have e : s.toNat &&& t.toNat = 0 := Nat.eq_of_testBit_eq (fun i => by
      rw [Nat.testBit_and, Nat.zero_testBit]
      have := h i (by omega)
      unfold has at this
      rw [Int.toNat_natCast] at this
      cases a : s.toNat.testBit i
      · rfl
      · cases b : t.toNat.testBit i
        · rfl
        · exact absurd ⟨a, b⟩ this)
    rw [e]; rfl
def hitB (B : Sg) (h p : Int) (n : Nat) : Bool := tka B (sq B h n) p (B 0 7).toNat
theorem s_steps : St_steps Inv := by
  intro σ h p rh rp hI
  have hI' := hI
  obtain ⟨⟨h1, h2, h3, h4, h5⟩, h6, h7, ⟨hW, hR⟩, ⟨h10, h11⟩, h12⟩ := hI
  have wh := Wb_heads hW
  have wm := Wb_marks hW
  have er : σ 94 0 = σ 5 0 := Ra_heads hR
  have no : ∀ z : Int, rng z → (¬ (0 ≤ h ∧ h < σ 5 0) → z = -1001) → (0 ≤ h ∧ h < σ 5 0 → ¬ (1 ≤ p ∧ p ≤ 99) ∧ z = -1002) → Cl mX12_steps [vr 94, vi h, vi p] σ (pI fun z2 σ2 => z = z2 ∧ rng z ∧ (Inv σ2 ∨ Inv (swp σ2))) := by
    intro z rz y1 y2
    refine EX12_steps (r_noHead rh (by omega) (fun a b => ⟨_, rfl, b0' (r_isPage rp (fun c d => ?_) (fun q => ⟨_, rfl, b0 ⟨_, rfl, (y2 (by omega)).2, rz, Or.inl hI'⟩⟩))⟩) (fun q => ⟨_, rfl, b1' ⟨_, rfl, y1 (by omega), rz, Or.inl hI'⟩⟩))
    have := y2 (by omega)
    omega
  refine EX11_steps ⟨h1.1, c_hasHead rfl rh (by omega) (fun a b => ⟨_, rfl, b1 (c_isPage rp (fun c d => ⟨_, rfl, b1 ⟨h1.1, ?_⟩⟩) (fun q => ⟨_, rfl, b0 ⟨_, rfl, no _ (by decide) (fun z => by omega) (fun _ => ⟨q, rfl⟩)⟩⟩))⟩) (fun q => ⟨_, rfl, b0 ⟨_, rfl, no _ (by decide) (fun _ => rfl) (fun z => absurd z q)⟩⟩)⟩
  refine c_headsWith rfl hW rp (fun w w0 w1 hw => ⟨_, rfl, ?_⟩)
  have bb : h < bk σ 5 0 0 := b
  have fin : ∀ σ' : Sg, FrJ [107] [] σ σ' → Inv σ' := fun σ' hF => hI'.fr (M := []) Fr.rf hF (by simp) (by unfold ic; decide) (by decide)
  have ref : ∀ z : Int, rng z → ((∃ n : Nat, n ≤ 16 ∧ hitB (bk σ 5) h p n = true ∧ (∀ m, m < n → ¬ hitB (bk σ 5) h p m = true) ∧ z = n) ∨ (z = -1 ∧ ∀ n, n ≤ 16 → ¬ hitB (bk σ 5) h p n = true)) → Cl mX12_steps [vr 94, vi h, vi p] σ (pI fun z2 σ2 => z = z2 ∧ rng z ∧ (Inv σ2 ∨ Inv (swp σ2))) := by
    intro z rz y
    refine EX12_steps (r_noHead rh (by omega) (fun _ _ => ⟨_, rfl, b0' (r_isPage rp (fun _ _ => ⟨_, rfl, b1 ?_⟩) (fun q => absurd ⟨c, d⟩ q))⟩) (fun q => absurd (by omega) q))
    have loop : ∀ (n j : Nat) (τ : Sg), j + n = 17 → FrJ [107] [] σ τ → (∀ m, m < j → ¬ hitB (bk σ 5) h p m = true) → V mX12_steps 30 [some (vr 94), none, some (vi p), some (vi (sq (bk σ 5) h j)), some (vi (j : Int)), none] [] τ (pI fun z2 σ2 => z = z2 ∧ rng z ∧ (Inv σ2 ∨ Inv (swp σ2))) := by
      intro n
      induction n with
      | zero =>
        intro j τ hj hF hno
        refine BX12_steps_30 ⟨by omega, fun _ => ⟨_, rfl, ?_, rz, Or.inl (fin τ hF)⟩, fun q => absurd (by omega) q⟩
        rcases y with ⟨n, n1, n2, _⟩ | ⟨y1, _⟩
        · exact absurd n2 (hno n (by omega))
        · exact y1
      | succ n ih =>
        intro j τ hj hF hno
        have sb := sq_b hW a bb j
        have hR' : RA (bk τ 94) (bk σ 5) := hR.fr hF (by simp) (by simp)
        refine BX12_steps_30 ⟨by omega, fun q => absurd q (by omega), fun _ => r_tickAll hW hR' sb.1 sb.2 (fun τ2 hF2 hT => ⟨_, rfl, by omega, ?_, fun q => ?_, fun q => ?_⟩)⟩
        · rw [hT p (by omega) (by omega)]; split <;> decide
        · rw [hT p (by omega) (by omega)] at q
          have nh : ¬ hitB (bk σ 5) h p j = true := fun z => by
            rw [if_pos (show tka (bk σ 5) (sq (bk σ 5) h j) p (bk σ 5 0 7).toNat = true from z)] at q
            omega
          have hR2 : RA (bk τ2 94) (bk σ 5) := hR'.fr hF2 (by simp) (by simp)
          refine r_stepOn hW hR2 sb.1 sb.2 ⟨_, rfl, ?_⟩
          refine ih (j + 1) τ2 (by omega) (hF.tr hF2) (fun m hm => ?_)
          by_cases e : m = j
          · rw [e]; exact nh
          · exact hno m (by omega)
        · rw [hT p (by omega) (by omega)] at q
          have ht : hitB (bk σ 5) h p j = true := by
            by_cases e : tka (bk σ 5) (sq (bk σ 5) h j) p (bk σ 5 0 7).toNat = true
            · exact e
            · rw [if_neg e] at q; omega
          refine ⟨_, rfl, ?_, rz, Or.inl (fin τ2 (hF.tr hF2))⟩
          rcases y with ⟨n, n1, n2, n3, n4⟩ | ⟨_, y2⟩
          · have e : n = j := by
              rcases Nat.lt_trichotomy n j with l | l | l
              · exact absurd n2 (hno n l)
              · exact l
              · exact absurd ht (n3 j l)
            rw [n4, e]
          · exact absurd ht (y2 j (by omega))
    exact loop 17 0 σ (by omega) FrJ.rf (fun m hm => by omega)
  have loop : ∀ (n j : Nat), j + n = 17 → (∀ m, m < j → ¬ hitB (bk σ 5) h p m = true) → V mX11_steps 43 [some (vr 0), none, none, some (vi w), some (vi (sq (bk σ 5) h j)), some (vi (j : Int))] [] σ (pI fun z σ1 => Cl mX12_steps [vr 94, vi h, vi p] σ1 (pI fun z2 σ2 => z = z2 ∧ rng z ∧ (Inv σ2 ∨ Inv (swp σ2)))) := by
    intro n
    induction n with
    | zero =>
      intro j hj hno
      exact BX11_steps_43 ⟨by omega, fun _ => ⟨_, rfl, ref _ (by decide) (Or.inr ⟨rfl, fun n hn => hno n (by omega)⟩)⟩, fun q => absurd (by omega) q⟩
    | succ n ih =>
      intro j hj hno
      have sb := sq_b hW a bb j
      have hh : hitB (bk σ 5) h p j = true ↔ ∃ g : Int, 0 ≤ g ∧ has (sq (bk σ 5) h j) g = true ∧ has w g = true := by
        unfold hitB
        rw [tka_iff]
        constructor
        · rintro ⟨k, k1, k2, k3⟩
          have wk := Wb_m hW (i := k) (by omega) (show (k : Int) < σ 5 7 from by have : (bk σ 5 0 7).toNat = (σ 5 7).toNat := rfl; omega)
          exact ⟨σ 12 k, wk.1.1, k2, (hw _ wk.1.1).2 ⟨k, k1, rfl, k3⟩⟩
        · rintro ⟨g, g0, g1, g2⟩
          obtain ⟨k, k1, k2, k3⟩ := (hw g g0).1 g2
          exact ⟨k, k1, by rw [show bk σ 5 7 k = g from k2]; exact g1, k3⟩
      refine BX11_steps_43 ⟨by omega, fun q => absurd q (by omega), fun _ => ⟨fun q => ⟨h1.1, ?_⟩, fun q => ⟨_, rfl, ref _ (by omega) (Or.inl ⟨j, by omega, ?_, hno, rfl⟩)⟩⟩⟩
      · have q2 := (and_hit sb.1 sb.2 w0 w1).1 q
        refine c_oneStepOn rfl hW sb.1 sb.2 ⟨_, rfl, ?_⟩
        refine ih (j + 1) (by omega) (fun m hm => ?_)
        by_cases e : m = j
        · rw [e, hh]
          rintro ⟨g, g0, g1, g2⟩
          exact q2 g g0 ⟨g1, g2⟩
        · exact hno m (by omega)
      · rw [hh]
        by_cases e : ∃ g : Int, 0 ≤ g ∧ has (sq (bk σ 5) h j) g = true ∧ has w g = true
        · exact e
        · exact absurd ((and_hit sb.1 sb.2 w0 w1).2 (fun g g0 gg => e ⟨g, g0, gg.1, gg.2⟩)) q
  exact loop 17 0 (by omega) (fun m hm => by omega)
