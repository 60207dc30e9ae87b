/-! ===== PURE HALF, by hand: drop, keep, goBack, feed ===== -/
/-- a mark is gone: both sides' rows from K + 7 on -/
def gone (f : Int → Int) (x p : Int) : Int → Int := fun i => if x ≤ i ∧ i < p then f (i + 1) else f i
theorem gone_0 {f : Int → Int} {x : Int} : gone f x x = f := by
  funext i
  unfold gone
  rw [if_neg (by omega)]
theorem gone_s {f : Int → Int} {x p : Int} (h : x ≤ p) : pt (gone f x p) p (gone f x p (p + 1)) = gone f x (p + 1) := by
  funext i
  by_cases e : i = p
  · subst e
    rw [pt_self]
    unfold gone
    rw [if_neg (by omega), if_pos (by omega)]
  · rw [pt_ne e]
    unfold gone
    by_cases c : x ≤ i ∧ i < p
    · rw [if_pos c, if_pos (by omega)]
    · rw [if_neg c, if_neg (by omega)]
theorem gone_lo {f : Int → Int} {x p i : Int} (h : i < x) : gone f x p i = f i := if_neg (by omega)
theorem gone_hi {f : Int → Int} {x p i : Int} (h : x ≤ i) (h2 : i < p) : gone f x p i = f (i + 1) := if_pos ⟨h, h2⟩
theorem c_moveMark {σ : Sg} {post : Po} {k : Nat} {x y : Int} (hk : shp[k]? = some (0, 0, 14)) (x0 : 0 ≤ x ∧ x < 60) (y0 : 0 ≤ y ∧ y < 60) (hm : σ (k + 11) x = 0 ∨ σ (k + 11) x = 1) (hp : ∀ σ' : Sg, (∀ a, a < k + 7 ∨ k + 11 < a → σ' a = σ a) → (∀ r, 7 ≤ r → r ≤ 11 → σ' (k + r) = pt (σ (k + r)) y (σ (k + r) x)) → post none σ') : Cl mX0_moveMark [vr k, vi x, vi y] σ post := by
  refine EX0_moveMark hk ⟨x0, y0, hm, ?_⟩
  obtain ⟨A1, A2, A3, A4, A5, A6⟩ := up5 (σ := σ) (a := k + 7) (b := k + 8) (c := k + 9) (d := k + 10) (e := k + 11) (by omega) (by omega) (by omega) (by omega) (i := y) (v1 := σ (k + 7) x) (v2 := σ (k + 8) x) (v3 := σ (k + 9) x) (v4 := σ (k + 10) x) (v5 := σ (k + 11) x)
  refine hp _ A6 (fun r r7 r11 => ?_)
  have : r = 7 ∨ r = 8 ∨ r = 9 ∨ r = 10 ∨ r = 11 := by omega
  rcases this with rfl | rfl | rfl | rfl | rfl
  · exact A1
  · exact A2
  · exact A3
  · exact A4
  · exact A5
theorem c_removeMark {σ : Sg} {post : Po} {k : Nat} {x : Int} (hk : shp[k]? = some (0, 0, 14)) (hW : WfB (bk σ k)) (x0 : 0 ≤ x) (x1 : x < σ k 7) (hp : ∀ σ' : Sg, (∀ a, a ≠ k → a < k + 7 ∨ k + 11 < a → σ' a = σ a) → (∀ j, j ≠ 7 → σ' k j = σ k j) → σ' k 7 = σ k 7 - 1 → (∀ r, 7 ≤ r → r ≤ 11 → σ' (k + r) = gone (σ (k + r)) x (σ k 7 - 1)) → post none σ') : Cl mX0_removeMark [vr k, vi x] σ post := by
  have wm := Wb_marks hW
  refine EX0_removeMark hk ?_
  have loop : ∀ (n : Nat) (p : Int) (τ : Sg), x + 1 ≤ p → p + n = σ k 7 → (∀ a, a < k + 7 ∨ k + 11 < a → τ a = σ a) → (∀ r, 7 ≤ r → r ≤ 11 → τ (k + r) = gone (σ (k + r)) x (p - 1)) → V mX0_removeMark 4 [some (vr k), none, some (vi p)] [] τ post := by
    intro n
    induction n with
    | zero =>
      intro p τ p0 hn hF hr
      have e0 : τ k = σ k := hF k (by omega)
      refine BX0_removeMark_4 hk ⟨by omega, by rw [e0]; omega, fun _ => ?_, fun z => absurd (by rw [e0]; omega) z⟩
      refine hp _ (fun a a1 a2 => by rw [up_r a1]; exact hF a a2) (fun j hj => by rw [up_f hj, e0]) (by rw [up_s, e0]) (fun r r7 r11 => ?_)
      rw [up_r (by omega), hr r r7 r11, show p - 1 = σ k 7 - 1 by omega]
    | succ n ih =>
      intro p τ p0 hn hF hr
      have e0 : τ k = σ k := hF k (by omega)
      have em : τ (k + 11) p = σ (k + 11) p := by rw [hr 11 (by decide) (by decide)]; unfold gone; rw [if_neg (by omega)]
      refine BX0_removeMark_4 hk ⟨by omega, by rw [e0]; omega, fun z => absurd z (by rw [e0]; omega), fun _ => ?_⟩
      refine c_moveMark hk (by omega) (by omega) (by rw [em]; exact (Wb_m hW (by omega) (by omega)).2.2.2) (fun σ' hF' hr' => ⟨rfl, ih (p + 1) σ' (by omega) (by omega) (fun a ha => (hF' a ha).trans (hF a ha)) (fun r r7 r11 => ?_)⟩)
      have e := gone_s (f := σ (k + r)) (x := x) (p := p - 1) (by omega)
      rw [hr' r r7 r11, hr r r7 r11, show p + 1 - 1 = p - 1 + 1 by omega, ← e, show p - 1 + 1 = p by omega]
  exact loop (σ k 7 - (x + 1)).toNat (x + 1) σ (by omega) (by omega) (fun _ _ => rfl) (fun r _ _ => by rw [show x + 1 - 1 = x by omega, gone_0])
theorem r_takeAway {σ : Sg} {post : Po} {x : Int} (x0 : 0 ≤ x) (x1 : x < σ 94 7) (hn : σ 94 7 ≤ 60) (hm : ∀ i : Int, 0 ≤ i → i < σ 94 7 → σ 105 i = 0 ∨ σ 105 i = 1) (hp : ∀ σ' : Sg, (∀ a, a ≠ 94 → a < 101 ∨ 105 < a → σ' a = σ a) → (∀ j, j ≠ 7 → σ' 94 j = σ 94 j) → σ' 94 7 = σ 94 7 - 1 → (∀ r, 7 ≤ r → r ≤ 11 → σ' (94 + r) = gone (σ (94 + r)) x (σ 94 7 - 1)) → post none σ') : Cl mX12_takeAway [vr 94, vi x] σ post := by
  refine EX12_takeAway ?_
  have loop : ∀ (n : Nat) (p : Int) (τ : Sg), x ≤ p → p + 1 + n = σ 94 7 → (∀ a, a < 101 ∨ 105 < a → τ a = σ a) → (∀ r, 7 ≤ r → r ≤ 11 → τ (94 + r) = gone (σ (94 + r)) x p) → V mX12_takeAway 2 [some (vr 94), none, some (vi p)] [] τ post := by
    intro n
    induction n with
    | zero =>
      intro p τ p0 hn hF hr
      have e0 : τ 94 = σ 94 := hF 94 (by omega)
      refine BX12_takeAway_2 ⟨by omega, by rw [e0]; omega, fun _ => ?_, fun z => absurd (by rw [e0]; omega) z⟩
      refine hp _ (fun a a1 a2 => by rw [up_r a1]; exact hF a a2) (fun j hj => by rw [up_f hj, e0]) (by rw [up_s, e0]) (fun r r7 r11 => ?_)
      rw [up_r (by omega), hr r r7 r11, show p = σ 94 7 - 1 by omega]
    | succ n ih =>
      intro p τ p0 hn hF hr
      have e0 : τ 94 = σ 94 := hF 94 (by omega)
      have em : τ 105 (p + 1) = σ 105 (p + 1) := by
        rw [show τ 105 = _ from hr 11 (by decide) (by decide)]; unfold gone; rw [if_neg (by omega)]
      refine BX12_takeAway_2 ⟨by omega, by rw [e0]; omega, fun z => absurd z (by rw [e0]; omega), fun _ => ⟨by omega, by omega, by rw [em]; exact hm _ (by omega) (by omega), ?_⟩⟩
      obtain ⟨A1, A2, A3, A4, A5, A6⟩ := up5 (σ := τ) (a := 101) (b := 102) (c := 103) (d := 104) (e := 105) (by omega) (by omega) (by omega) (by omega) (i := p) (v1 := τ 101 (p + 1)) (v2 := τ 102 (p + 1)) (v3 := τ 103 (p + 1)) (v4 := τ 104 (p + 1)) (v5 := τ 105 (p + 1))
      refine ih (p + 1) _ (by omega) (by omega) (fun a ha => (A6 a ha).trans (hF a ha)) (fun r r7 r11 => ?_)
      have key : ∀ r, 7 ≤ r → r ≤ 11 → pt (τ (94 + r)) p (τ (94 + r) (p + 1)) = gone (σ (94 + r)) x (p + 1) := fun r r7 r11 => by rw [hr r r7 r11, gone_s p0]
      have : r = 7 ∨ r = 8 ∨ r = 9 ∨ r = 10 ∨ r = 11 := by omega
      rcases this with rfl | rfl | rfl | rfl | rfl
      · exact A1.trans (key 7 (by decide) (by decide))
      · exact A2.trans (key 8 (by decide) (by decide))
      · exact A3.trans (key 9 (by decide) (by decide))
      · exact A4.trans (key 10 (by decide) (by decide))
      · exact A5.trans (key 11 (by decide) (by decide))
  exact loop (σ 94 7 - (x + 1)).toNat x σ (by omega) (by omega) (fun _ _ => rfl) (fun r _ _ => by rw [gone_0])
theorem s_drop : St_drop Inv := by
  intro σ x rx hI
  have hI' := hI
  obtain ⟨⟨h1, h2, h3, h4, h5⟩, h6, h7, ⟨hW, hR⟩, ⟨h10, h11⟩, h12⟩ := hI
  have wm := Wb_marks hW
  have em : σ 94 7 = σ 5 7 := Ra_marks hR
  refine EX11_drop ⟨h1.1, c_hasMark rfl rx (by omega) (fun a b => ⟨_, rfl, b1 ⟨h1.1, c_removeMark rfl hW a b (fun τ hF h57 e57 hr => ⟨rfl, ?_⟩)⟩⟩) (fun q => ⟨_, rfl, b0 ⟨_, rfl, EX12_drop ⟨rx, by omega, r_in (by omega) (by omega) (by omega) (fun a b => absurd ⟨a, by omega⟩ q) (fun _ => ⟨_, rfl, b0 ⟨_, rfl, rfl, by decide, Or.inl hI'⟩⟩)⟩⟩⟩)⟩
  refine ⟨by rw [hF 0 (by decide) (by omega)]; exact h1.1, ⟨_, rfl, ?_⟩⟩
  have t94 : up τ 0 9 0 94 = σ 94 := by rw [up_r (by decide), hF 94 (by decide) (by omega)]
  have t95 : ∀ k, 95 ≤ k → up τ 0 9 0 k = σ k := fun k hk => by rw [up_r (by omega), hF k (by omega) (by omega)]
  refine EX12_drop ⟨rx, by rw [t94]; omega, r_in (by omega) (by omega) (by rw [t94]; omega) (fun _ _ => ⟨_, rfl, b1 ?_⟩) (fun q => absurd (by rw [t94]; omega) q)⟩
  refine r_takeAway a (by rw [t94]; omega) (by rw [t94]; omega) (fun i i0 i1 => ?_) (fun υ gF g94 e947 gr => ⟨rfl, ⟨_, rfl, ?_, ?_, Or.inl ?_⟩⟩)
  · rw [t95 105 (by decide)]
    rw [t94] at i1
    have q1 := (Ra_m hR i0 (show i < σ 5 7 by omega)).2.2.2.2
    have q2 := (Wb_m hW i0 (show i < σ 5 7 by omega)).2.2.2
    rw [q1]
    exact q2
  · rw [e947, t94, e57]; omega
  · rw [e57]; omega
  · have uk : ∀ k, k ≠ 94 → k < 101 ∨ 105 < k → υ k = up τ 0 9 0 k := gF
    have u5 : υ 5 = τ 5 := by rw [uk 5 (by decide) (by omega), up_r (by decide)]
    have uM : ∀ r, 7 ≤ r → r ≤ 11 → υ (5 + r) = gone (σ (5 + r)) x (σ 5 7 - 1) := fun r r7 r11 => by rw [uk _ (by omega) (by omega), up_r (by omega), hr r r7 r11]
    have uN : ∀ r, 7 ≤ r → r ≤ 11 → υ (94 + r) = gone (σ (94 + r)) x (σ 5 7 - 1) := fun r r7 r11 => by rw [gr r r7 r11, t95 _ (by omega), t94, em]
    refine hI'.ma (fun k k1 k2 k3 k4 k5 _ => by rw [uk k k4 (by omega), up_r k1, hF k k2 (by omega)]) (fun j hj => by rw [uk 0 (by decide) (by omega), up_f hj, hF 0 (by decide) (by omega)]) (by rw [uk 0 (by decide) (by omega), up_s]) (by rw [u5, h57 0 (by decide)]) (fun j hj => by rw [g94 j (by simp at hj; omega), t94]) (by rw [e947, t94, u5, e57, em]) (by rw [u5, e57]; omega) (fun k k0 k1 => ?_)
    rw [u5, e57] at k1
    obtain ⟨k', k'0, k'1, hk'⟩ : ∃ k' : Int, 0 ≤ k' ∧ k' < σ 5 7 ∧ ∀ f : Int → Int, gone f x (σ 5 7 - 1) k = f k' := by
      by_cases c : k < x
      · exact ⟨k, k0, by omega, fun f => gone_lo c⟩
      · exact ⟨k + 1, by omega, by omega, fun f => gone_hi (by omega) (by omega)⟩
    have w := Wb_m hW k'0 k'1
    have g := Ra_m hR k'0 (show k' < σ 5 7 from k'1)
    have a12 : υ 12 k = σ 12 k' := by rw [show υ 12 = _ from uM 7 (by decide) (by decide)]; exact hk' _
    have a13 : υ 13 k = σ 13 k' := by rw [show υ 13 = _ from uM 8 (by decide) (by decide)]; exact hk' _
    have a14 : υ 14 k = σ 14 k' := by rw [show υ 14 = _ from uM 9 (by decide) (by decide)]; exact hk' _
    have a15 : υ 15 k = σ 15 k' := by rw [show υ 15 = _ from uM 10 (by decide) (by decide)]; exact hk' _
    have a16 : υ 16 k = σ 16 k' := by rw [show υ 16 = _ from uM 11 (by decide) (by decide)]; exact hk' _
    have c1 : υ 101 k = σ 101 k' := by rw [show υ 101 = _ from uN 7 (by decide) (by decide)]; exact hk' _
    have c2 : υ 102 k = σ 102 k' := by rw [show υ 102 = _ from uN 8 (by decide) (by decide)]; exact hk' _
    have c3 : υ 103 k = σ 103 k' := by rw [show υ 103 = _ from uN 9 (by decide) (by decide)]; exact hk' _
    have c4 : υ 104 k = σ 104 k' := by rw [show υ 104 = _ from uN 10 (by decide) (by decide)]; exact hk' _
    have c5 : υ 105 k = σ 105 k' := by rw [show υ 105 = _ from uN 11 (by decide) (by decide)]; exact hk' _
    have u7 : υ 7 = σ 7 := by rw [uk 7 (by decide) (by omega), up_r (by decide), hF 7 (by decide) (by omega)]
    refine ⟨?_, by rw [c1, a12]; exact g.1, by rw [c2, a13]; exact g.2.1, by rw [c3, a14]; exact g.2.2.1, by rw [c4, a15]; exact g.2.2.2.1, by rw [c5, a16]; exact g.2.2.2.2⟩
    show (0 ≤ υ 12 k ∧ υ 12 k < υ 5 0) ∧ (-1 ≤ υ 13 k ∧ υ 13 k < υ 7 (υ 12 k)) ∧ (1 ≤ υ 14 k ∧ υ 14 k ≤ υ 15 k ∧ υ 15 k ≤ 99) ∧ (υ 16 k = 0 ∨ υ 16 k = 1)
    rw [a12, a13, a14, a15, a16, u7, u5, h57 0 (by decide)]
    exact w
/-! the same book elsewhere -/
def Beq (B B' : Sg) : Prop := B' 0 0 = B 0 0 ∧ B' 0 7 = B 0 7 ∧ (∀ r, r = 1 ∨ r = 2 ∨ r = 4 ∨ r = 5 ∨ r = 6 → ∀ i : Int, 0 ≤ i → i < 16 → B' r i = B r i) ∧ (∀ i : Int, 0 ≤ i → i < 96 → B' 3 i = B 3 i) ∧ ∀ r, 7 ≤ r → r ≤ 11 → ∀ i : Int, 0 ≤ i → i < 60 → B' r i = B r i
theorem ew_eq {B B' : Sg} (h : Beq B B') {i s : Int} (i0 : 0 ≤ i) (i1 : i < 16) (s0 : -1 ≤ s) (s1 : s < 6) : ew B' i s = ew B i s := by
  unfold ew
  by_cases e : s = -1
  · rw [if_pos e, if_pos e]; exact h.2.2.1 1 (by omega) i i0 i1
  · rw [if_neg e, if_neg e]; exact h.2.2.2.1 _ (by omega) (by omega)
theorem sumN_congr {f g : Int → Int} : ∀ n : Nat, (∀ i : Nat, i < n → f i = g i) → sumN f n = sumN g n
  | 0, _ => rfl
  | n + 1, h => by
    unfold sumN
    rw [sumN_congr n (fun i hi => h i (by omega)), h n (by omega)]
theorem WfB.eq {B B' : Sg} (hW : WfB B) (h : Beq B B') : WfB B' := by
  obtain ⟨e0, e7, e1, e3, em⟩ := id h
  have w0 := hW.1
  have w7 := hW.2.1
  refine ⟨by rw [e0]; exact w0, by rw [e7]; exact w7, fun i a b => ?_, fun k a b => ?_, ?_⟩
  · rw [e0] at b
    obtain ⟨x1, x2, x3, x4, x5⟩ := hW.2.2.1 i a b
    have y2 := e1 2 (by omega) i a (by omega)
    refine ⟨by rw [y2]; exact x1, by rw [e1 4 (by omega) i a (by omega), e0]; exact x2, by rw [e1 5 (by omega) i a (by omega), e0]; exact x3, by rw [e1 6 (by omega) i a (by omega)]; exact x4, fun s s0 s1 => ?_⟩
    rw [y2] at s1
    rw [ew_eq h a (by omega) s0 (by omega)]
    exact x5 s s0 s1
  · rw [e7] at b
    obtain ⟨x1, x2, x3, x4⟩ := hW.2.2.2.1 k a b
    have y7 := em 7 (by decide) (by decide) k a (by omega)
    refine ⟨by rw [y7, e0]; exact x1, by rw [em 8 (by decide) (by decide) k a (by omega), y7, e1 2 (by omega) _ x1.1 (by omega)]; exact x2, by rw [em 9 (by decide) (by decide) k a (by omega), em 10 (by decide) (by decide) k a (by omega)]; exact x3, by rw [em 11 (by decide) (by decide) k a (by omega)]; exact x4⟩
  · have w := hW.2.2.2.2
    unfold alsoSum at w ⊢
    rw [e0]
    rw [sumN_congr (g := fun h => cnt (fun g => has (B 5 h) g) 16) _ (fun i hi => by rw [e1 5 (by omega) i (by omega) (by omega)])]
    exact w
/-- rows of the reference that say the same -/
def Keq (ρ ρ' : Sg) : Prop := ρ' 0 0 = ρ 0 0 ∧ ρ' 0 7 = ρ 0 7 ∧ (∀ r, r = 1 ∨ r = 4 ∨ r = 5 ∨ r = 6 → ∀ i : Int, 0 ≤ i → i < 16 → ρ' r i = ρ r i) ∧ (∀ i : Int, 0 ≤ i → i < 112 → ρ' 2 i = ρ 2 i) ∧ (∀ i : Int, 0 ≤ i → i < 1344 → ρ' 3 i = ρ 3 i) ∧ ∀ r, 7 ≤ r → r ≤ 11 → ∀ i : Int, 0 ≤ i → i < ρ 0 7 → i < 60 → ρ' r i = ρ r i
theorem RA.eq {ρ ρ' B B' : Sg} (hW : WfB B) (hR : RA ρ B) (h : Beq B B') (g : Keq ρ ρ') : RA ρ' B' := by
  obtain ⟨e0, e7, e1, e3, em⟩ := id h
  obtain ⟨f0, f7, f1, f2, f3, fm⟩ := id g
  have w0 := hW.1
  have w7 := hW.2.1
  refine ⟨by rw [e0, f0]; exact hR.1, by rw [e7, f7]; exact hR.2.1, fun i a b => ?_, fun k a b => ?_⟩
  · rw [e0] at b
    obtain ⟨x1, x2, x3, x4, x5⟩ := hR.2.2.1 i a b
    have y2 := e1 2 (by omega) i a (by omega)
    have ws := (hW.2.2.1 i a b).1
    refine ⟨by rw [y2, f1 1 (by omega) i a (by omega)]; exact x1, by rw [e1 4 (by omega) i a (by omega), f1 4 (by omega) i a (by omega)]; exact x2, by rw [e1 5 (by omega) i a (by omega), f1 5 (by omega) i a (by omega)]; exact x3, by rw [e1 6 (by omega) i a (by omega), f1 6 (by omega) i a (by omega)]; exact x4, fun s s0 s1 => ?_⟩
    rw [y2] at s1
    rw [ew_eq h a (by omega) s0 (by omega)]
    obtain ⟨z1, z2⟩ := x5 s s0 s1
    have wl := ((hW.2.2.1 i a b).2.2.2.2 s s0 s1).2.1
    exact ⟨by rw [f2 _ (by omega) (by omega)]; exact z1, fun j j0 j1 => by rw [f3 _ (by omega) (by omega)]; exact z2 j j0 j1⟩
  · rw [e7] at b
    obtain ⟨x1, x2, x3, x4, x5⟩ := hR.2.2.2 k a b
    have bb : k < ρ 0 7 := by rw [hR.2.1]; exact b
    exact ⟨by rw [em 7 (by decide) (by decide) k a (by omega), fm 7 (by decide) (by decide) k a bb (by omega)]; exact x1, by rw [em 8 (by decide) (by decide) k a (by omega), fm 8 (by decide) (by decide) k a bb (by omega)]; exact x2, by rw [em 9 (by decide) (by decide) k a (by omega), fm 9 (by decide) (by decide) k a bb (by omega)]; exact x3, by rw [em 10 (by decide) (by decide) k a (by omega), fm 10 (by decide) (by decide) k a bb (by omega)]; exact x4, by rw [em 11 (by decide) (by decide) k a (by omega), fm 11 (by decide) (by decide) k a bb (by omega)]; exact x5⟩
theorem Beq.rf {B : Sg} : Beq B B := ⟨rfl, rfl, fun _ _ _ _ _ => rfl, fun _ _ _ => rfl, fun _ _ _ _ _ _ => rfl⟩
theorem Keq.rf {B : Sg} : Keq B B := ⟨rfl, rfl, fun _ _ _ _ _ => rfl, fun _ _ _ => rfl, fun _ _ _ => rfl, fun _ _ _ _ _ _ _ => rfl⟩
theorem cpR_in {f g : Int → Int} {sp dp n b : Int} (h : dp ≤ b ∧ b < dp + n) : cpR f g sp dp n b = f (sp + (b - dp)) := if_pos h
theorem cpR_out {f g : Int → Int} {sp dp n b : Int} (h : ¬ (dp ≤ b ∧ b < dp + n)) : cpR f g sp dp n b = g b := if_neg h
theorem cpR_0 {f g : Int → Int} {sp dp : Int} : cpR f g sp dp 0 = g := by
  funext b
  exact cpR_out (by omega)
theorem cpR_s {f g : Int → Int} {sp dp n : Int} (h : 0 ≤ n) : pt (cpR f g sp dp n) (dp + n) (f (sp + n)) = cpR f g sp dp (n + 1) := by
  funext b
  by_cases e : b = dp + n
  · subst e
    rw [pt_self, cpR_in (by omega), show sp + (dp + n - dp) = sp + n by omega]
  · rw [pt_ne e]
    by_cases c : dp ≤ b ∧ b < dp + n
    · rw [cpR_in c, cpR_in (by omega)]
    · rw [cpR_out c, cpR_out (by omega)]
theorem c_copyFrom {σ : Sg} {post : Po} {k k1 : Nat} (hk : shp[k]? = some (0, 0, 14)) (hk1 : shp[k1]? = some (0, 0, 14)) (hd : k + 11 < k1 ∨ k1 + 11 < k) (hp : ∀ σ' : Sg, (∀ a, a < k ∨ k + 11 < a → σ' a = σ a) → (∀ j, j ≠ 0 → j ≠ 7 → σ' k j = σ k j) → Beq (bk σ k1) (bk σ' k) → post none σ') : Cl mX0_copyFrom [vr k, vr k1] σ post := by
  refine EX0_copyFrom hk hk1 (fun τ1 e1 τ2 e2 τ3 e3 τ4 e4 τ5 e5 τ6 e6 τ7 e7 τ8 e8 τ9 e9 τ10 e10 τ11 e11 => ?_)
  -- row by row
  have base : ∀ a, a < k ∨ k + 11 < a → τ11 a = σ a := fun a ha => by
    rw [e11, st_ne (by omega), e10, st_ne (by omega), e9, st_ne (by omega), e8, st_ne (by omega), e7, st_ne (by omega), up_r (by omega), e6, st_ne (by omega), e5, st_ne (by omega), e4, st_ne (by omega), e3, st_ne (by omega), e2, st_ne (by omega), e1, st_ne (by omega), up_r (by omega)]
  have c6 : ∀ a, a < k ∨ k + 6 < a → τ6 a = σ a := fun a ha => by
    rw [e6, st_ne (by omega), e5, st_ne (by omega), e4, st_ne (by omega), e3, st_ne (by omega), e2, st_ne (by omega), e1, st_ne (by omega), up_r (by omega)]
  have k6 : τ6 k = up σ k 0 (σ k1 0) k := by
    rw [e6, st_ne (by omega), e5, st_ne (by omega), e4, st_ne (by omega), e3, st_ne (by omega), e2, st_ne (by omega), e1, st_ne (by omega)]
  have k11 : τ11 k = pt (pt (σ k) 0 (σ k1 0)) 7 (σ k1 7) := by
    rw [e11, st_ne (by omega), e10, st_ne (by omega), e9, st_ne (by omega), e8, st_ne (by omega), e7, st_ne (by omega), up_k, k6, up_k, c6 k1 (by omega)]
  have src : ∀ r, 1 ≤ r → r ≤ 11 → True := fun _ _ _ => trivial
  have f1 : τ11 (k + 1) = cpR (σ (k1 + 1)) (σ (k + 1)) 0 0 16 := by
    rw [e11, st_ne (by omega), e10, st_ne (by omega), e9, st_ne (by omega), e8, st_ne (by omega), e7, st_ne (by omega), up_r (by omega), e6, st_ne (by omega), e5, st_ne (by omega), e4, st_ne (by omega), e3, st_ne (by omega), e2, st_ne (by omega), e1, st_self, up_r (by omega), up_r (by omega)]
  have f2 : τ11 (k + 2) = cpR (σ (k1 + 2)) (σ (k + 2)) 0 0 16 := by
    rw [e11, st_ne (by omega), e10, st_ne (by omega), e9, st_ne (by omega), e8, st_ne (by omega), e7, st_ne (by omega), up_r (by omega), e6, st_ne (by omega), e5, st_ne (by omega), e4, st_ne (by omega), e3, st_ne (by omega), e2, st_self, e1, st_ne (by omega), st_ne (by omega), up_r (by omega), up_r (by omega)]
  have f3 : τ11 (k + 3) = cpR (σ (k1 + 3)) (σ (k + 3)) 0 0 96 := by
    rw [e11, st_ne (by omega), e10, st_ne (by omega), e9, st_ne (by omega), e8, st_ne (by omega), e7, st_ne (by omega), up_r (by omega), e6, st_ne (by omega), e5, st_ne (by omega), e4, st_ne (by omega), e3, st_self, e2, st_ne (by omega), st_ne (by omega), e1, st_ne (by omega), st_ne (by omega), up_r (by omega), up_r (by omega)]
  have f4 : τ11 (k + 4) = cpR (σ (k1 + 4)) (σ (k + 4)) 0 0 16 := by
    rw [e11, st_ne (by omega), e10, st_ne (by omega), e9, st_ne (by omega), e8, st_ne (by omega), e7, st_ne (by omega), up_r (by omega), e6, st_ne (by omega), e5, st_ne (by omega), e4, st_self, e3, st_ne (by omega), st_ne (by omega), e2, st_ne (by omega), st_ne (by omega), e1, st_ne (by omega), st_ne (by omega), up_r (by omega), up_r (by omega)]
  have f5 : τ11 (k + 5) = cpR (σ (k1 + 5)) (σ (k + 5)) 0 0 16 := by
    rw [e11, st_ne (by omega), e10, st_ne (by omega), e9, st_ne (by omega), e8, st_ne (by omega), e7, st_ne (by omega), up_r (by omega), e6, st_ne (by omega), e5, st_self, e4, st_ne (by omega), st_ne (by omega), e3, st_ne (by omega), st_ne (by omega), e2, st_ne (by omega), st_ne (by omega), e1, st_ne (by omega), st_ne (by omega), up_r (by omega), up_r (by omega)]
  have f6 : τ11 (k + 6) = cpR (σ (k1 + 6)) (σ (k + 6)) 0 0 16 := by
    rw [e11, st_ne (by omega), e10, st_ne (by omega), e9, st_ne (by omega), e8, st_ne (by omega), e7, st_ne (by omega), up_r (by omega), e6, st_self, e5, st_ne (by omega), st_ne (by omega), e4, st_ne (by omega), st_ne (by omega), e3, st_ne (by omega), st_ne (by omega), e2, st_ne (by omega), st_ne (by omega), e1, st_ne (by omega), st_ne (by omega), up_r (by omega), up_r (by omega)]
  have f7 : τ11 (k + 7) = cpR (σ (k1 + 7)) (σ (k + 7)) 0 0 60 := by
    rw [e11, st_ne (by omega), e10, st_ne (by omega), e9, st_ne (by omega), e8, st_ne (by omega), e7, st_self, up_r (by omega), up_r (by omega), c6 _ (by omega), c6 _ (by omega)]
  have f8 : τ11 (k + 8) = cpR (σ (k1 + 8)) (σ (k + 8)) 0 0 60 := by
    rw [e11, st_ne (by omega), e10, st_ne (by omega), e9, st_ne (by omega), e8, st_self, e7, st_ne (by omega), st_ne (by omega), up_r (by omega), up_r (by omega), c6 _ (by omega), c6 _ (by omega)]
  have f9 : τ11 (k + 9) = cpR (σ (k1 + 9)) (σ (k + 9)) 0 0 60 := by
    rw [e11, st_ne (by omega), e10, st_ne (by omega), e9, st_self, e8, st_ne (by omega), st_ne (by omega), e7, st_ne (by omega), st_ne (by omega), up_r (by omega), up_r (by omega), c6 _ (by omega), c6 _ (by omega)]
  have f10 : τ11 (k + 10) = cpR (σ (k1 + 10)) (σ (k + 10)) 0 0 60 := by
    rw [e11, st_ne (by omega), e10, st_self, e9, st_ne (by omega), st_ne (by omega), e8, st_ne (by omega), st_ne (by omega), e7, st_ne (by omega), st_ne (by omega), up_r (by omega), up_r (by omega), c6 _ (by omega), c6 _ (by omega)]
  have f11 : τ11 (k + 11) = cpR (σ (k1 + 11)) (σ (k + 11)) 0 0 60 := by
    rw [e11, st_self, e10, st_ne (by omega), st_ne (by omega), e9, st_ne (by omega), st_ne (by omega), e8, st_ne (by omega), st_ne (by omega), e7, st_ne (by omega), st_ne (by omega), up_r (by omega), up_r (by omega), c6 _ (by omega), c6 _ (by omega)]
  refine hp τ11 base (fun j j0 j7 => by rw [k11, pt_ne j7, pt_ne j0]) ⟨?_, ?_, fun r hr i i0 i1 => ?_, fun i i0 i1 => ?_, fun r r7 r11 i i0 i1 => ?_⟩
  · show τ11 k 0 = σ k1 0
    rw [k11, pt_ne (by decide), pt_self]
  · show τ11 k 7 = σ k1 7
    rw [k11, pt_self]
  · have z : ∀ f g : Int → Int, cpR f g 0 0 16 i = f i := fun f g => by rw [cpR_in (by omega), show (0 : Int) + (i - 0) = i by omega]
    rcases hr with rfl | rfl | rfl | rfl | rfl
    · show τ11 (k + 1) i = σ (k1 + 1) i
      rw [f1, z]
    · show τ11 (k + 2) i = σ (k1 + 2) i
      rw [f2, z]
    · show τ11 (k + 4) i = σ (k1 + 4) i
      rw [f4, z]
    · show τ11 (k + 5) i = σ (k1 + 5) i
      rw [f5, z]
    · show τ11 (k + 6) i = σ (k1 + 6) i
      rw [f6, z]
  · show τ11 (k + 3) i = σ (k1 + 3) i
    rw [f3, cpR_in (by omega), show (0 : Int) + (i - 0) = i by omega]
  · have z : ∀ f g : Int → Int, cpR f g 0 0 60 i = f i := fun f g => by rw [cpR_in (by omega), show (0 : Int) + (i - 0) = i by omega]
    have : r = 7 ∨ r = 8 ∨ r = 9 ∨ r = 10 ∨ r = 11 := by omega
    rcases this with rfl | rfl | rfl | rfl | rfl
    · show τ11 (k + 7) i = σ (k1 + 7) i
      rw [f7, z]
    · show τ11 (k + 8) i = σ (k1 + 8) i
      rw [f8, z]
    · show τ11 (k + 9) i = σ (k1 + 9) i
      rw [f9, z]
    · show τ11 (k + 10) i = σ (k1 + 10) i
      rw [f10, z]
    · show τ11 (k + 11) i = σ (k1 + 11) i
      rw [f11, z]
