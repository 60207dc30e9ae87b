/-! ===== PURE HALF, by hand: stale, the reference; the step ===== -/
theorem r_tickOld {σ O : Sg} {post : Po} {x h s : Int} (x0 : 0 ≤ x) (x1 : x < 2) (hO : WfB O) (hRO : RA (kv σ x) O) (h0 : rng h) (s0 : -1 ≤ s ∧ s < 6) (hp : ∀ σ' : Sg, FrJ [136] [] σ σ' → (∀ p : Int, 0 ≤ p → p < 102 → σ' 136 p = if tk O h s p = 0 then 0 else 1) → post none σ') : Cl mX12_tickOld [vr 94, vi x, vi h, vi s] σ post := by
  have wm := hO.2.1
  have em : σ 129 x = O 0 7 := hRO.2.1
  refine EX12_tickOld ?_
  have outer : ∀ (n j : Nat) (τ : Sg), (j : Int) + n = O 0 7 → FrJ [136] [] σ τ → (∀ p : Int, 0 ≤ p → p < 102 → τ 136 p = if tkN O h s p j = 0 then 0 else 1) → V mX12_tickOld 30 [some (vr 94), some (vi x), some (vi h), some (vi s), some (vi (60 * x + (j : Int))), none, none] [] τ post := by
    intro n
    induction n with
    | zero =>
      intro j τ hj hF hT
      have e9 : τ 129 x = O 0 7 := by rw [hF.1 129 (by decide) (by decide)]; exact em
      refine BX12_tickOld_30 ⟨by omega, by omega, by rw [e9]; omega, fun _ => hp τ hF (fun p p0 p1 => ?_), fun z => absurd (by rw [e9]; omega) z⟩
      rw [hT p p0 p1]
      unfold tk
      rw [show (O 0 7).toNat = j by omega]
    | succ n ih =>
      intro j τ hj hF hT
      have e9 : τ 129 x = O 0 7 := by rw [hF.1 129 (by decide) (by decide)]; exact em
      obtain ⟨m7, m8, m9, m10, m11⟩ := hRO.2.2.2 j (by omega) (by omega)
      obtain ⟨w1, w2, w3, w4⟩ := hO.2.2.2.1 j (by omega) (by omega)
      have w5 := (hO.2.2.1 (O 7 j) w1.1 w1.2).1
      have w6 := hO.1
      have q7 : τ 130 (60 * x + (j : Int)) = O 7 j := by rw [hF.1 130 (by decide) (by decide)]; exact m7
      have q8 : τ 131 (60 * x + (j : Int)) = O 8 j := by rw [hF.1 131 (by decide) (by decide)]; exact m8
      have q9 : τ 132 (60 * x + (j : Int)) = O 9 j := by rw [hF.1 132 (by decide) (by decide)]; exact m9
      have q10 : τ 133 (60 * x + (j : Int)) = O 10 j := by rw [hF.1 133 (by decide) (by decide)]; exact m10
      have nx : ∀ υ : Sg, FrJ [136] [] σ υ → (∀ p : Int, 0 ≤ p → p < 102 → υ 136 p = if tkN O h s p (j + 1) = 0 then 0 else 1) → V mX12_tickOld 30 [some (vr 94), some (vi x), some (vi h), some (vi s), some (vi (60 * x + (j : Int) + 1)), none, none] [] υ post := by
        intro υ hG hU
        rw [show 60 * x + (j : Int) + 1 = 60 * x + ((j + 1 : Nat) : Int) by omega]
        exact ih (j + 1) υ (by omega) hG hU
      have no : ¬ isM O h s j = true → V mX12_tickOld 84 [some (vr 94), some (vi x), some (vi h), some (vi s), some (vi (60 * x + (j : Int))), some (vi 0), some (vi (τ 132 (60 * x + (j : Int))))] [] τ post := by
        intro hn
        have nn := nx τ hF (fun p p0 p1 => by rw [tk_f hn]; exact hT p p0 p1)
        exact BX12_tickOld_84 ⟨by omega, by rw [q9]; omega, by rw [q10]; omega, fun _ => nn, fun _ => ⟨by decide, fun _ => nn, fun z => absurd rfl z⟩⟩
      have yes : isM O h s j = true → V mX12_tickOld 84 [some (vr 94), some (vi x), some (vi h), some (vi s), some (vi (60 * x + (j : Int))), some (vi 1), some (vi (τ 132 (60 * x + (j : Int))))] [] τ post := by
        intro hn
        have inner : ∀ (m : Nat) (y : Int) (υ : Sg), O 9 j ≤ y → y + m = O 10 j + 1 → FrJ [136] [] σ υ → (∀ p : Int, 0 ≤ p → p < 102 → υ 136 p = if O 9 j ≤ p ∧ p < y then 1 else if tkN O h s p j = 0 then 0 else 1) → V mX12_tickOld 84 [some (vr 94), some (vi x), some (vi h), some (vi s), some (vi (60 * x + (j : Int))), some (vi 1), some (vi y)] [] υ post := by
          intro m
          induction m with
          | zero =>
            intro y υ y0 hy hG hU
            have q10' : υ 133 (60 * x + (j : Int)) = O 10 j := by rw [hG.1 133 (by decide) (by decide)]; exact m10
            refine BX12_tickOld_84 ⟨by omega, by omega, by rw [q10']; omega, fun _ => nx υ hG (fun p p0 p1 => ?_), fun z => absurd (by rw [q10']; omega) z⟩
            by_cases c : O 9 j ≤ p ∧ p ≤ O 10 j
            · have t1 : tkN O h s p (j + 1) ≠ 0 := by
                rw [tkN, if_pos ⟨hn, c⟩]
                split <;> decide
              rw [hU p p0 p1, if_neg t1, if_pos (show O 9 j ≤ p ∧ p < y by omega)]
            · have t1 : tkN O h s p (j + 1) = tkN O h s p j := by rw [tkN, if_neg (fun z => c z.2)]
              rw [hU p p0 p1, t1, if_neg (show ¬ (O 9 j ≤ p ∧ p < y) by omega)]
          | succ m ih2 =>
            intro y υ y0 hy hG hU
            have q10' : υ 133 (60 * x + (j : Int)) = O 10 j := by rw [hG.1 133 (by decide) (by decide)]; exact m10
            refine BX12_tickOld_84 ⟨by omega, by omega, by rw [q10']; omega, fun z => absurd z (by rw [q10']; omega), fun _ => ⟨by decide, fun z => absurd z (by decide), fun _ => ⟨by omega, ih2 (y + 1) _ (by omega) (by omega) (hG.u (by decide) (by decide)) (fun p p0 p1 => ?_)⟩⟩⟩
            by_cases c : p = y
            · rw [c, up_s, if_pos (by omega)]
            · rw [up_f c, hU p p0 p1]
              by_cases c2 : O 9 j ≤ p ∧ p < y
              · rw [if_pos c2, if_pos (by omega)]
              · rw [if_neg c2, if_neg (show ¬ (O 9 j ≤ p ∧ p < y + 1) by omega)]
        rw [q9]
        exact inner (O 10 j + 1 - O 9 j).toNat (O 9 j) τ (by omega) (by omega) hF (fun p p0 p1 => by rw [hT p p0 p1, if_neg (show ¬ (O 9 j ≤ p ∧ p < O 9 j) by omega)])
      refine BX12_tickOld_30 ⟨by omega, by omega, by rw [e9]; omega, fun z => absurd z (by rw [e9]; omega), fun _ => ⟨by omega, by rw [q7]; omega, h0, fun z => no (fun y => z (by rw [q7]; exact (isM_iff.1 y).1)), fun z => ⟨by rw [q8]; omega, by omega, fun z2 => no (fun y => z2 ?_), fun z2 => yes (isM_iff.2 ⟨by rw [← q7]; exact z, Or.inr (by rw [← q8]; exact z2)⟩)⟩⟩⟩
      rw [q8]
      rcases (isM_iff.1 y).2 with e | e
      · omega
      · exact e
  have first : ∀ (n : Nat) (j : Int) (τ : Sg), 0 ≤ j → j + n = 102 → FrJ [136] [] σ τ → (∀ p : Int, 0 ≤ p → p < j → τ 136 p = 0) → V mX12_tickOld 3 [some (vr 94), some (vi x), some (vi h), some (vi s), some (vi j), none, none] [] τ post := by
    intro n
    induction n with
    | zero =>
      intro j τ j0 hj hF hT
      refine BX12_tickOld_3 ⟨by omega, fun _ => ?_, fun z => absurd (by omega) z⟩
      have := outer (O 0 7).toNat 0 τ (by omega) hF (fun p p0 p1 => by rw [hT p p0 (by omega)]; exact (if_pos rfl).symm)
      rw [show 60 * x + ((0 : Nat) : Int) = 60 * x by omega] at this
      exact this
    | succ n ih =>
      intro j τ j0 hj hF hT
      refine BX12_tickOld_3 ⟨by omega, fun z => absurd z (by omega), fun _ => ⟨by omega, ih (j + 1) _ (by omega) (by omega) (hF.u (by decide) (by decide)) (fun p p0 p1 => ?_)⟩⟩
      by_cases c : p = j
      · rw [c, up_s]
      · rw [up_f c, hT p p0 (by omega)]
  exact first 102 0 σ (by omega) (by omega) FrJ.rf (fun p p0 p1 => by omega)
theorem r_staleRuns {σ : Sg} {post : Po} {T U : Int → Int} {R : List (Int × Int × Int)} (hT : ∀ x : Int, 0 ≤ x → x < 102 → σ 107 x = T x) (h3 : ∀ x, T x = 0 ∨ T x = 1 ∨ T x = 3) (hU : ∀ x : Int, 0 ≤ x → x < 102 → σ 136 x = if U x = 0 then 0 else 1) (hR : Rep U 1 R) (hU0 : U 100 = 0) (hp : post (some (vi (stl T R))) σ) : Cl mX12_staleRuns [vr 94] σ post := by
  refine EX12_staleRuns ?_
  have g0 : ∀ x : Int, 0 ≤ x → x < 102 → U x = 0 → σ 136 x = 0 := fun x a b e => by rw [hU x a b, if_pos e]
  have g1 : ∀ x : Int, 0 ≤ x → x < 102 → U x ≠ 0 → σ 136 x = 1 := fun x a b e => by rw [hU x a b, if_neg e]
  have outer : ∀ (n : Nat) (p c : Int) (R2 : List (Int × Int × Int)), 1 ≤ p → 101 ≤ p + n → p ≤ 101 → Rep U p R2 → c + stl T R2 = stl T R → V mX12_staleRuns 4 [some (vr 94), some (vi c), some (vi p), none, none, none] [] σ post := by
    intro n
    induction n with
    | zero =>
      intro p c R2 p0 p1 p2 hR2 hc
      refine BX12_staleRuns_4 ⟨by omega, fun _ => ?_, fun z => absurd (by omega) z⟩
      rcases R2 with _ | ⟨⟨a, b, m⟩, R2⟩
      · rw [stl] at hc
        rw [show c = stl T R by omega]
        exact hp
      · have := hR2.1; omega
    | succ n ih =>
      intro p c R2 p0 p1 p2 hR2 hc
      refine BX12_staleRuns_4 ⟨by omega, fun z => ?_, fun z => ?_⟩
      · rcases R2 with _ | ⟨⟨a, b, m⟩, R2⟩
        · rw [stl] at hc
          rw [show c = stl T R by omega]
          exact hp
        · have := hR2.1; omega
      · by_cases hz : U p = 0
        · have t1 := h3 (p - 1)
          have t2 := h3 p
          have fin : ∀ g : Int, (g = 0 ∨ g = 1) → V mX12_staleRuns 57 [some (vr 94), some (vi c), some (vi p), some (vi p), some (vi g), some (vi p)] [] σ post := by
            intro g hg
            refine BX12_staleRuns_57 ⟨by omega, by omega, fun _ => ⟨by omega, fun _ => r_one (by omega) ⟨_, rfl, ?_⟩, fun y => absurd (by omega) y⟩, fun y => absurd (by omega) y⟩
            exact ih (p + 1) (c + 0) R2 (by omega) (by omega) (by omega) (Rep_sh hz hR2) (by omega)
          refine BX12_staleRuns_12 ⟨by omega, by rw [g0 p (by omega) (by omega) hz]; decide, fun _ => ⟨by omega, by rw [hT _ (by omega) (by omega)]; omega, fun _ => fin 0 (by omega), fun _ => ⟨by rw [hT _ (by omega) (by omega)]; omega, fun _ => fin 0 (by omega), fun _ => fin 1 (by omega)⟩⟩, fun y => absurd (by rw [g0 p (by omega) (by omega) hz]; decide) y⟩
        · rcases R2 with _ | ⟨⟨a, b, m⟩, R2⟩
          · exact absurd (hR2 p (by omega) (by omega)) hz
          · obtain ⟨y1, y2, y3, y4, y5, y6⟩ := hR2
            have ea : a = p := by
              by_cases e : a = p
              · exact e
              · exact absurd (y2 p (by omega) (by omega)) hz
            subst ea
            have t1 := h3 (a - 1)
            have t2 := h3 (b + 1)
            rw [stl] at hc
            -- the second inner loop
            have last : ∀ (g : Int), (g = 0 ∧ ¬ HO T a b ∨ g = 1 ∧ HO T a b) → V mX12_staleRuns 57 [some (vr 94), some (vi c), some (vi a), some (vi (b + 1)), some (vi g), some (vi (b + 1))] [] σ post := by
              intro g hg
              refine BX12_staleRuns_57 ⟨by omega, by omega, fun _ => ⟨by omega, fun y => absurd y (by omega), fun _ => ⟨?_, fun y => r_one (by omega) ⟨_, rfl, ?_⟩, fun y => r_one (by omega) ⟨_, rfl, ?_⟩⟩⟩, fun y => absurd (by omega) y⟩
              · rcases hg with e | e
                · rw [e.1]; decide
                · rw [e.1]; decide
              · rcases hg with e | e
                · exact absurd e.1 y
                · rw [if_pos e.2] at hc
                  exact ih (b + 1 + 1) (c + 0) R2 (by omega) (by omega) (by omega) (Rep_sh y4 y6) (by omega)
              · rcases hg with e | e
                · rw [if_neg e.2] at hc
                  exact ih (b + 1 + 1) (c + 1) R2 (by omega) (by omega) (by omega) (Rep_sh y4 y6) (by omega)
                · exact absurd y (by rw [e.1]; decide)
            have inner : ∀ (k : Nat) (r g : Int), a ≤ r → r + k = b + 1 → (g = 0 ∧ ¬ HO T a b ∨ g = 1 ∧ T (a - 1) = 0 ∧ T (b + 1) = 0 ∧ ∀ x : Int, a ≤ x → x < r → T x ≠ 0) → V mX12_staleRuns 57 [some (vr 94), some (vi c), some (vi a), some (vi (b + 1)), some (vi g), some (vi r)] [] σ post := by
              intro k
              induction k with
              | zero =>
                intro r g r0 hr hg
                have e : r = b + 1 := by omega
                subst e
                refine last g ?_
                rcases hg with z | ⟨z1, z2, z3, z4⟩
                · exact Or.inl z
                · exact Or.inr ⟨z1, z2, z3, fun x x1 x2 => z4 x x1 (by omega)⟩
              | succ k ih2 =>
                intro r g r0 hr hg
                have t3 := h3 r
                refine BX12_staleRuns_57 ⟨by omega, by omega, fun y => absurd y (by omega), fun _ => ⟨?_, fun y => ?_, fun y => ⟨by omega, by rw [hT _ (by omega) (by omega)]; omega, fun y2 => ?_, fun y2 => ?_⟩⟩⟩
                · rcases hg with z | z
                  · rw [z.1]; decide
                  · rw [z.1]; decide
                · rcases hg with z | z
                  · exact ih2 (r + 1) 0 (by omega) (by omega) (Or.inl ⟨rfl, z.2⟩)
                  · exact absurd y (by rw [z.1]; decide)
                · rw [hT _ (by omega) (by omega)] at y2
                  refine ih2 (r + 1) 0 (by omega) (by omega) (Or.inl ⟨rfl, fun z => z.2.2 r r0 (by omega) (by omega)⟩)
                · rw [hT _ (by omega) (by omega)] at y2
                  rcases hg with z | ⟨z1, z2, z3, z4⟩
                  · exact absurd z.1 y
                  · refine ih2 (r + 1) 1 (by omega) (by omega) (Or.inr ⟨rfl, z2, z3, fun x x1 x2 => ?_⟩)
                    by_cases e : x = r
                    · rw [e]; omega
                    · exact z4 x x1 (by omega)
            have skip : ∀ (k : Nat) (q : Int), a ≤ q → q + k = b + 1 → V mX12_staleRuns 12 [some (vr 94), some (vi c), some (vi a), some (vi q), none, none] [] σ post := by
              intro k
              induction k with
              | zero =>
                intro q q0 hq
                have e : q = b + 1 := by omega
                subst e
                have e6 := g0 (b + 1) (by omega) (by omega) y4
                refine BX12_staleRuns_12 ⟨by omega, by rw [e6]; decide, fun _ => ⟨by omega, by rw [hT _ (by omega) (by omega)]; omega, fun z => ?_, fun z => ⟨by rw [hT _ (by omega) (by omega)]; omega, fun z2 => ?_, fun z2 => ?_⟩⟩, fun y => absurd (by rw [e6]; decide) y⟩
                · rw [hT _ (by omega) (by omega)] at z
                  exact inner (b + 1 - a).toNat a 0 (by omega) (by omega) (Or.inl ⟨rfl, fun y => z y.1⟩)
                · rw [hT _ (by omega) (by omega)] at z2
                  exact inner (b + 1 - a).toNat a 0 (by omega) (by omega) (Or.inl ⟨rfl, fun y => z2 y.2.1⟩)
                · rw [hT _ (by omega) (by omega)] at z z2
                  exact inner (b + 1 - a).toNat a 1 (by omega) (by omega) (Or.inr ⟨rfl, z, z2, fun x x1 x2 => by omega⟩)
              | succ k ih2 =>
                intro q q0 hq
                have e6 := g1 q (by omega) (by omega) (y3 q q0 (by omega))
                exact BX12_staleRuns_12 ⟨by omega, by rw [e6]; decide, fun y => absurd y (by rw [e6]; decide), fun _ => ih2 (q + 1) (by omega) (by omega)⟩
            exact skip (b + 1 - a).toNat a (by omega) (by omega)
  exact outer 100 1 0 R (by omega) (by omega) (by omega) hR (by omega)
/-! what is asked -/
noncomputable def slV (O N : Sg) (h s : Int) : Int :=
  if s = -1 then stl (tk N (hL N (O 1 h)) (-1)) (rL O h (-1))
  else stl (tk N (if sL N (hL N (O 1 h)) (O 3 (h * 6 + s)) = -1 then -1 else hL N (O 1 h)) (sL N (hL N (O 1 h)) (O 3 (h * 6 + s)))) (rL O h s)
noncomputable def slH (O N : Sg) (h : Int) (n : Nat) : Int := sumN (fun j => slV O N h (j - 1)) n
noncomputable def slA (O N : Sg) (n : Nat) : Int := sumN (fun h => slH O N h (O 2 h + 1).toNat) n
theorem slV_b {O : Sg} (N : Sg) (hO : WfB O) (h s : Int) : 0 ≤ slV O N h s ∧ slV O N h s ≤ 99 := by
  have key : ∀ (T : Int → Int) (s : Int), 0 ≤ stl T (rL O h s) ∧ stl T (rL O h s) ≤ 99 := by
    intro T s
    have h1 := stl_b T (rL O h s)
    have h2 := Rep_len _ 1 (by decide) (rL_Rep hO h s)
    omega
  unfold slV
  split
  · exact key _ _
  · exact key _ _
theorem sumN_b {f : Int → Int} {m : Int} (h : ∀ i, 0 ≤ f i ∧ f i ≤ m) : ∀ n : Nat, 0 ≤ sumN f n ∧ sumN f n ≤ n * m
  | 0 => by rw [sumN]; simp
  | n + 1 => by
    have h1 := sumN_b h n
    have h2 := h n
    have e : ((n + 1 : Nat) : Int) * m = n * m + m := by
      rw [show ((n + 1 : Nat) : Int) = (n : Int) + 1 by omega, Int.add_mul, Int.one_mul]
    rw [sumN, e]
    omega
theorem hL_b {N : Sg} (hN : WfB N) (c : Int) : -1 ≤ hL N c ∧ hL N c < N 0 0 ∧ hL N c < 16 := by
  have h1 := fnd_b (fun g => decide (N 1 g = c)) (N 0 0).toNat
  have h2 := hN.1
  unfold hL
  omega
theorem sL_b {N : Sg} (hN : WfB N) {g : Int} (hg : -1 ≤ g ∧ g < N 0 0) (c : Int) : -1 ≤ sL N g c ∧ sL N g c < 6 := by
  unfold sL
  split
  · omega
  · have h1 := fnd_b (fun s => decide (N 3 (g * 6 + s) = c)) (N 2 g).toNat
    have h2 := (hN.2.2.1 g (by omega) hg.2).1
    omega
theorem slA_b {O : Sg} (N : Sg) (hO : WfB O) : ∀ n : Nat, (n : Int) ≤ O 0 0 → 0 ≤ slA O N n ∧ slA O N n ≤ n * 693
  | 0, _ => by unfold slA; rw [sumN]; simp
  | n + 1, hn => by
    have h1 := slA_b N hO n (by omega)
    have h2 := (hO.2.2.1 n (by omega) (by omega)).1
    have h3 := sumN_b (fun j => slV_b N hO n (j - 1)) (O 2 n + 1).toNat
    unfold slA at h1 ⊢
    rw [sumN]
    unfold slH at h1 ⊢
    omega
theorem c_stale {σ : Sg} {post : Po} {k : Nat} (hk : shp[k]? = some (0, 0, 14)) (hk2 : k + 11 < 70) (h01 : σ 0 1 = 5) (hW : WfB (bk σ k)) (hW5 : WfB (bk σ 5)) (hp : ∀ σ' : Sg, Fr [70, 71, 72, 73, 74, 75, 76, 77] σ σ' → post (some (vi (slA (bk σ k) (bk σ 5) (σ k 0).toNat))) σ') : V mX11_stale 39 [some (vr 0), none, some (vr k), some (vi 0), some (vi 0), none, none, none] [] σ post := by
  have wh := Wb_heads hW
  have outer : ∀ (n j : Nat) (τ : Sg), (j : Int) + n = σ k 0 → Fr [70, 71, 72, 73, 74, 75, 76, 77] σ τ → V mX11_stale 39 [some (vr 0), none, some (vr k), some (vi (slA (bk σ k) (bk σ 5) j)), some (vi (j : Int)), none, none, none] [] τ post := by
    intro n
    induction n with
    | zero =>
      intro j τ hj hF
      have e0 : τ k = σ k := hF k (by simp; omega)
      refine BX11_stale_39 hk ⟨by omega, by rw [e0]; omega, fun _ => ?_, fun z => absurd (by rw [e0]; omega) z⟩
      rw [show j = (σ k 0).toNat by omega]
      exact hp τ hF
    | succ n ih =>
      intro j τ hj hF
      have e0 : τ k = σ k := hF k (by simp; omega)
      have e1 : τ (k + 1) = σ (k + 1) := hF _ (by simp; omega)
      have bK : ∀ υ : Sg, Fr [70, 71, 72, 73, 74, 75, 76, 77] σ υ → bk υ k = bk σ k := fun υ hG => bkf (fun a x y => hG a (by simp; omega))
      have b5 : ∀ υ : Sg, Fr [70, 71, 72, 73, 74, 75, 76, 77] σ υ → bk υ 5 = bk σ 5 := fun υ hG => bkf (fun a x y => hG a (by simp; omega))
      have ww := (Wb_wh hW (i := j) (by omega) (by omega)).1
      have hs := Wb_subs hW (i := j) (by omega) (by omega)
      have hb := hL_b hW5 (σ (k + 1) j)
      have inner : ∀ (m i : Nat) (υ : Sg), (i : Int) + m = σ (k + 2) j → Fr [70, 71, 72, 73, 74, 75, 76, 77] σ υ → V mX11_stale 81 [some (vr 0), none, some (vr k), some (vi (slA (bk σ k) (bk σ 5) j + slH (bk σ k) (bk σ 5) j (i + 1))), some (vi (j : Int)), some (vi (hL (bk σ 5) (σ (k + 1) j))), some (vi (i : Int)), none] [] υ post := by
        intro m
        induction m with
        | zero =>
          intro i υ hi hG
          have e2 : υ (k + 2) = σ (k + 2) := hG _ (by simp; omega)
          refine BX11_stale_81 hk ⟨by omega, by omega, by rw [e2]; omega, fun _ => ?_, fun z => absurd (by rw [e2]; omega) z⟩
          have e3 : slA (bk σ k) (bk σ 5) (j + 1) = slA (bk σ k) (bk σ 5) j + slH (bk σ k) (bk σ 5) j (i + 1) := by
            show slA (bk σ k) (bk σ 5) j + slH (bk σ k) (bk σ 5) j (σ (k + 2) j + 1).toNat = _
            rw [show (σ (k + 2) j + 1).toNat = i + 1 by omega]
          rw [← e3]
          exact ih (j + 1) υ (by omega) hG
        | succ m ih2 =>
          intro i υ hi hG
          have e2 : υ (k + 2) = σ (k + 2) := hG _ (by simp; omega)
          have e00 : υ k = σ k := hG k (by simp; omega)
          have wws := (Wb_ws hW (i := j) (s := i) (by omega) (by omega) (by omega) (by omega)).1
          have sb := sL_b hW5 ⟨hb.1, hb.2.1⟩ (σ (k + 3) ((j : Int) * 6 + i))
          have eW : ew (bk υ k) j i = σ (k + 3) ((j : Int) * 6 + i) := by
            rw [bK υ hG]
            exact if_neg (by omega)
          have st : ∀ ξ : Sg, Fr [70, 71, 72, 73, 74, 75, 76, 77] σ ξ → V mX11_stale 81 [some (vr 0), none, some (vr k), some (vi (slA (bk σ k) (bk σ 5) j + slH (bk σ k) (bk σ 5) j (i + 1) + slV (bk σ k) (bk σ 5) j i)), some (vi (j : Int)), some (vi (hL (bk σ 5) (σ (k + 1) j))), some (vi ((i : Int) + 1)), none] [] ξ post := by
            intro ξ hX
            have := ih2 (i + 1) ξ (by omega) hX
            have e5 : slH (bk σ k) (bk σ 5) j (i + 1 + 1) = slH (bk σ k) (bk σ 5) j (i + 1) + slV (bk σ k) (bk σ 5) j i := by
              show slH (bk σ k) (bk σ 5) j (i + 1) + slV (bk σ k) (bk σ 5) j (((i + 1 : Nat) : Int) - 1) = _
              rw [show ((i + 1 : Nat) : Int) - 1 = i by omega]
            rw [e5, ← Int.add_assoc] at this
            exact this
          have eV : slV (bk σ k) (bk σ 5) j i = stl (tk (bk σ 5) (if sL (bk σ 5) (hL (bk σ 5) (σ (k + 1) j)) (σ (k + 3) ((j : Int) * 6 + i)) = -1 then -1 else hL (bk σ 5) (σ (k + 1) j)) (sL (bk σ 5) (hL (bk σ 5) (σ (k + 1) j)) (σ (k + 3) ((j : Int) * 6 + i)))) (rL (bk σ k) j i) := if_neg (by omega)
          refine BX11_stale_81 hk ⟨by omega, by omega, by rw [e2]; omega, fun z => absurd z (by rw [e2]; omega), fun _ => ⟨by rw [hG 0 (by decide)]; exact h01, c_wordOf hk (by rw [bK υ hG]; exact hW) (by omega) (by rw [e00]; omega) (by omega) (by rw [e2]; omega) ⟨_, rfl, ?_⟩⟩⟩
          rw [eW]
          refine c_findSub rfl (by rw [b5 υ hG]; exact hW5) (by rw [hG 5 (by decide)]; exact ⟨hb.1, hb.2.1⟩) (by omega) ⟨_, rfl, ?_⟩
          rw [b5 υ hG]
          refine ⟨by omega, fun z => ?_, fun z => ?_⟩
          · refine c_staleRuns hk hk2 (by rw [hG 0 (by decide)]; exact h01) (by rw [bK υ hG]; exact hW) (by rw [b5 υ hG]; exact hW5) (by omega) (by omega) (by omega) (by omega) (fun ξ hX => ⟨_, rfl, ?_⟩)
            rw [b5 υ hG, bK υ hG]
            rw [if_neg z] at eV
            have := st ξ (hG.tr hX)
            rw [eV] at this
            exact this
          · refine c_staleRuns hk hk2 (by rw [hG 0 (by decide)]; exact h01) (by rw [bK υ hG]; exact hW) (by rw [b5 υ hG]; exact hW5) (by omega) (by omega) (by omega) (by omega) (fun ξ hX => ⟨_, rfl, ?_⟩)
            rw [b5 υ hG, bK υ hG]
            rw [if_pos z] at eV
            have := st ξ (hG.tr hX)
            rw [eV] at this
            exact this
      refine BX11_stale_39 hk ⟨by omega, by rw [e0]; omega, fun z => absurd z (by rw [e0]; omega), fun _ => ⟨by rw [hF 0 (by decide)]; exact h01, by omega, c_findHead rfl (by rw [b5 τ hF]; exact hW5) (by rw [e1]; omega) ⟨_, rfl, ?_⟩⟩⟩
      rw [b5 τ hF, e1]
      refine c_staleRuns hk hk2 (by rw [hF 0 (by decide)]; exact h01) (by rw [bK τ hF]; exact hW) (by rw [b5 τ hF]; exact hW5) (by omega) (by omega) (by omega) (by omega) (fun ξ hX => ⟨_, rfl, ?_⟩)
      rw [b5 τ hF, bK τ hF]
      have := inner (σ (k + 2) j).toNat 0 ξ (by omega) (hF.tr hX)
      have e5 : slH (bk σ k) (bk σ 5) j (0 + 1) = stl (tk (bk σ 5) (hL (bk σ 5) (σ (k + 1) j)) (-1)) (rL (bk σ k) j (-1)) := by
        show 0 + slV (bk σ k) (bk σ 5) j ((0 : Nat) - 1) = _
        rw [Int.zero_add]
        exact if_pos rfl
      rw [e5] at this
      exact this
  exact outer (σ k 0).toNat 0 σ (by omega) Fr.rf
theorem r_stale {σ O N : Sg} {post : Po} {x : Int} (x0 : 0 ≤ x) (x1 : x < 2) (hO : WfB O) (hRO : RA (kv σ x) O) (hN : WfB N) (hRN : RA (bk σ 94) N) (hp : ∀ σ' : Sg, FrJ [107, 136] [] σ σ' → post (some (vi (slA O N (O 0 0).toNat))) σ') : V mX12_stale 31 [some (vr 94), some (vi x), some (vi 0), some (vi 0), none, none, none] [] σ post := by
  have wh := hO.1
  have kO : ∀ υ : Sg, FrJ [107, 136] [] σ υ → RA (kv υ x) O := fun υ hG => by
    rw [kv_congr (σ := σ) (σ' := υ) x (fun a y z => hG.1 a (by simp; omega) (by omega))]; exact hRO
  have kN : ∀ υ : Sg, FrJ [107, 136] [] σ υ → RA (bk υ 94) N := fun υ hG => hRN.fr hG (by intro k hk; simp at hk; omega) (by intro j hj; simp at hj)
  have outer : ∀ (n j : Nat) (τ : Sg), (j : Int) + n = O 0 0 → FrJ [107, 136] [] σ τ → V mX12_stale 31 [some (vr 94), some (vi x), some (vi (slA O N j)), some (vi (j : Int)), none, none, none] [] τ post := by
    intro n
    induction n with
    | zero =>
      intro j τ hj hF
      have e0 : τ 122 x = O 0 0 := (kO τ hF).1
      refine BX12_stale_31 ⟨by omega, by omega, by rw [e0]; omega, fun _ => ?_, fun z => absurd (by rw [e0]; omega) z⟩
      rw [show j = (O 0 0).toNat by omega]
      exact hp τ hF
    | succ n ih =>
      intro j τ hj hF
      have e0 : τ 122 x = O 0 0 := (kO τ hF).1
      have hs := (hO.2.2.1 j (by omega) (by omega)).1
      have hb := hL_b hN (O 1 j)
      have inner : ∀ (m i : Nat) (υ : Sg), (i : Int) + m = O 2 j + 1 → FrJ [107, 136] [] σ υ → V mX12_stale 52 [some (vr 94), some (vi x), some (vi (slA O N j + slH O N j i)), some (vi (j : Int)), some (vi (hL N (O 1 j))), some (vi ((i : Int) - 1)), none] [] υ post := by
        intro m
        induction m with
        | zero =>
          intro i υ hi hG
          have e2 : υ 123 (16 * x + (j : Int)) = O 2 j := ((kO υ hG).2.2.1 j (by omega) (by omega)).1
          refine BX12_stale_52 ⟨by omega, by omega, by rw [e2]; omega, fun _ => ?_, fun z => absurd (by rw [e2]; omega) z⟩
          have e3 : slA O N (j + 1) = slA O N j + slH O N j i := by
            show slA O N j + slH O N j (O 2 j + 1).toNat = _
            rw [show (O 2 j + 1).toNat = i by omega]
          rw [← e3]
          exact ih (j + 1) υ (by omega) hG
        | succ m ih2 =>
          intro i υ hi hG
          have e2 : υ 123 (16 * x + (j : Int)) = O 2 j := ((kO υ hG).2.2.1 j (by omega) (by omega)).1
          have tail : ∀ (a b : Int), rng a → rng b → stl (tk N a b) (rL O j ((i : Int) - 1)) = slV O N j ((i : Int) - 1) → Cl mX12_tick [vr 94, vi a, vi b] υ (pV fun σ2 => Cl mX12_tickOld [vr 94, vi x, vi (j : Int), vi ((i : Int) - 1)] σ2 (pV fun σ3 => Cl mX12_staleRuns [vr 94] σ3 (pI fun z4 σ4 => V mX12_stale 52 [some (vr 94), some (vi x), some (vi (slA O N j + slH O N j i + z4)), some (vi (j : Int)), some (vi (hL N (O 1 j))), some (vi ((i : Int) - 1 + 1)), none] [] σ4 post))) := by
            intro a b ra rb hv
            refine r_tick hN (kN υ hG) ra rb (fun σ2 hF2 hT2 => ⟨rfl, ?_⟩)
            have hG2 : FrJ [107, 136] [] σ σ2 := hG.tr (hF2.mo (by decide) (by decide))
            refine r_tickOld x0 x1 hO (kO σ2 hG2) (by omega) (by omega) (fun σ3 hF3 hT3 => ⟨rfl, ?_⟩)
            have hG3 : FrJ [107, 136] [] σ σ3 := hG2.tr (hF3.mo (by decide) (by decide))
            refine r_staleRuns (T := tk N a b) (U := tk O j ((i : Int) - 1)) (R := rL O j ((i : Int) - 1)) (fun y y0 y1 => by rw [hF3.1 107 (by decide) (by decide)]; exact hT2 y y0 y1) (fun y => tk_3 N a b y _) hT3 (rL_Rep hO _ _) (tk_out hO _ _ (by omega) _ (by have := hO.2.1; omega)) ⟨_, rfl, ?_⟩
            rw [hv]
            show V mX12_stale 52 [some (vr 94), some (vi x), some (vi (slA O N j + slH O N j i + slV O N j ((i : Int) - 1))), some (vi (j : Int)), some (vi (hL N (O 1 j))), some (vi ((i : Int) - 1 + 1)), none] [] σ3 post
            rw [Int.add_assoc]
            have := ih2 (i + 1) σ3 (by omega) hG3
            rw [show ((i + 1 : Nat) : Int) - 1 = (i : Int) - 1 + 1 by omega] at this
            exact this
          have neg : ∀ (b : Int), hL N (O 1 j) < 0 → stl (tk N (-1) b) (rL O j ((i : Int) - 1)) = slV O N j ((i : Int) - 1) := by
            intro b hl
            have e1 : hL N (O 1 j) = -1 := by omega
            unfold slV
            rw [tk_neg hN (by decide) b]
            by_cases c : (i : Int) - 1 = -1
            · rw [if_pos c, e1, tk_neg hN (by decide), c]
            · have e3 : sL N (hL N (O 1 j)) (O 3 ((j : Int) * 6 + ((i : Int) - 1))) = -1 := by rw [e1]; exact if_pos rfl
              rw [if_neg c, if_pos e3, tk_neg hN (by decide)]
          refine BX12_stale_52 ⟨by omega, by omega, by rw [e2]; omega, fun z => absurd z (by rw [e2]; omega), fun _ => ⟨by omega, fun y => ⟨fun y2 => ?_, fun y2 => ⟨fun y3 => absurd y (by omega), fun _ => ?_⟩⟩, fun y => ⟨fun _ => tail (-1) (-2) (by decide) (by decide) (neg _ (by omega)), fun y3 => absurd (by omega) y⟩⟩⟩
          · have sb := sL_b hN ⟨hb.1, hb.2.1⟩ (O 3 ((j : Int) * 6 + ((i : Int) - 1)))
            have eV : slV O N j ((i : Int) - 1) = stl (tk N (if sL N (hL N (O 1 j)) (O 3 ((j : Int) * 6 + ((i : Int) - 1))) = -1 then -1 else hL N (O 1 j)) (sL N (hL N (O 1 j)) (O 3 ((j : Int) * 6 + ((i : Int) - 1))))) (rL O j ((i : Int) - 1)) := if_neg (by omega)
            refine r_subLike x0 x1 hO (kO υ hG) hN (kN υ hG) (by omega) (by omega) y2 (by omega) y hb.2.1 (fun e => ⟨_, rfl, fun y3 => absurd y (by omega), fun _ => ⟨by decide, fun y4 => absurd rfl y4, fun _ => tail (-1) (-2) (by decide) (by decide) ?_⟩⟩) (fun e => ⟨_, rfl, fun y3 => absurd y (by omega), fun _ => ⟨by omega, fun y4 => tail _ _ (by omega) (by omega) ?_, fun y4 => absurd e (by omega)⟩⟩)
            · rw [eV, if_pos e, tk_neg hN (by decide), tk_neg hN (by decide)]
            · rw [eV, if_neg (by omega)]
          · refine tail _ _ (by omega) (by decide) ?_
            have c : (i : Int) - 1 = -1 := by omega
            have eV : slV O N j (-1) = stl (tk N (hL N (O 1 j)) (-1)) (rL O j (-1)) := if_pos rfl
            rw [c, eV]
      refine BX12_stale_31 ⟨by omega, by omega, by rw [e0]; omega, fun z => absurd z (by rw [e0]; omega), fun _ => r_headLike x0 x1 hO (kO τ hF) hN (kN τ hF) (by omega) (by omega) ⟨_, rfl, ?_⟩⟩
      have := inner (O 2 j + 1).toNat 0 τ (by omega) hF
      rw [show slA O N j + slH O N j 0 = slA O N j from Int.add_zero _] at this
      exact this
  exact outer (O 0 0).toNat 0 σ (by omega) FrJ.rf
theorem s_stale : St_stale Inv := by
  intro σ x rx hI
  have hI' := hI
  obtain ⟨⟨h1, h2, h3, h4, h5⟩, h6, h7, ⟨hW, hR⟩, ⟨h10, h11⟩, h12⟩ := hI
  refine EX11_stale (c_isImage rx (fun a b => ⟨_, rfl, b1 ⟨by omega, ?_⟩⟩) (fun q => ⟨_, rfl, b0 ⟨_, rfl, EX12_stale ⟨rx, r_in (by omega) (by omega) (by omega) (fun a b => absurd (by omega) q) (fun _ => ⟨_, rfl, b0 ⟨_, rfl, rfl, by decide, Or.inl hI'⟩⟩)⟩⟩⟩))
  have main : ∀ (k : Nat), shp[k]? = some (0, 0, 14) → (k = 17 ∧ x = 0 ∨ k = 29 ∧ x = 1) → imT x.toNat = k → ImOK σ k x → (rng (σ (imT x.toNat) 13)) ∧ ((¬ (σ (imT x.toNat) 13) = 0 → V mX11_stale 39 [some (vr 0), none, some (vr (imT x.toNat)), some (vi 0), some (vi 0), none, none, none] [] σ (pI fun z σ1 => Cl mX12_stale [vr 94, vi x] σ1 (pI fun z2 σ2 => z = z2 ∧ rng z ∧ (Inv σ2 ∨ Inv (swp σ2))))) ∧ ((σ (imT x.toNat) 13) = 0 → (pI fun z σ1 => Cl mX12_stale [vr 94, vi x] σ1 (pI fun z2 σ2 => z = z2 ∧ rng z ∧ (Inv σ2 ∨ Inv (swp σ2)))) (some (vi (-1003))) σ)) := by
    intro k hk hkx ek hM
    rw [ek]
    obtain ⟨m1, m2, m3⟩ := hM
    refine ⟨by omega, fun q => ?_, fun q => ⟨_, rfl, ?_⟩⟩
    · obtain ⟨w, r⟩ := m3 (by omega)
      have sb := slA_b (bk σ 5) w (bk σ k 0 0).toNat (by have := w.1; omega)
      have wb := w.1
      refine c_stale hk (by omega) h1.1 w hW (fun τ hF => ⟨_, rfl, ?_⟩)
      have e135 : τ 135 = σ 135 := hF 135 (by decide)
      have kve : kv τ x = kv σ x := kv_congr x (fun a x y => hF a (by simp; omega))
      have b94 : bk τ 94 = bk σ 94 := bkf (fun a x y => hF a (by simp; omega))
      refine EX12_stale ⟨rx, r_in (by omega) (by omega) (by omega) (fun _ _ => ⟨_, rfl, b1 ⟨by omega, by rw [e135]; omega, fun _ => ?_, fun z => absurd z (by rw [e135]; omega)⟩⟩) (fun q => absurd (by omega) q)⟩
      refine r_stale a (by omega) w (by rw [kve]; exact r) hW (by rw [b94]; exact hR) (fun υ hG => ⟨_, rfl, rfl, ?_, Or.inl (hI'.fr hF hG (by unfold ic; decide) (by unfold ic; decide) (by decide))⟩)
      have e : slA (bk σ k) (bk σ 5) (σ k 0).toNat = slA (bk σ k) (bk σ 5) (bk σ k 0 0).toNat := rfl
      rw [e]
      omega
    · refine EX12_stale ⟨rx, r_in (by omega) (by omega) (by omega) (fun _ _ => ⟨_, rfl, b1 ⟨by omega, by omega, fun z => absurd (by omega) z, fun _ => ⟨_, rfl, rfl, by decide, Or.inl hI'⟩⟩⟩) (fun q => absurd (by omega) q)⟩
  have hx : x = 0 ∨ x = 1 := by omega
  rcases hx with rfl | rfl
  · exact main 17 rfl (by omega) rfl h10
  · exact main 29 rfl (by omega) rfl h11
