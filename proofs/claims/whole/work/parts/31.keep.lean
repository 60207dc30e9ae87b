/-! ===== PURE HALF, by hand: keep, goBack ===== -/
theorem kv_row {σ : Sg} {i : Int} {r : Nat} (r7 : 7 ≤ r) (r11 : r ≤ 11) (x : Int) : kv σ i r x = σ (r + 123) (60 * i + x) := by
  have : r = 7 ∨ r = 8 ∨ r = 9 ∨ r = 10 ∨ r = 11 := by omega
  rcases this with rfl | rfl | rfl | rfl | rfl <;> rfl
theorem r_keepAt {σ : Sg} {post : Po} {i : Int} (i0 : 0 ≤ i) (i1 : i ≤ 2) (hn : 0 ≤ σ 94 7 ∧ σ 94 7 ≤ 60) (hm : ∀ x : Int, 0 ≤ x → x < σ 94 7 → σ 105 x = 0 ∨ σ 105 x = 1) (hp : ∀ σ' : Sg, (∀ k, k < 122 ∨ 135 < k → σ' k = σ k) → Keq (bk σ 94) (kv σ' i) → (∀ j : Int, 0 ≤ j → j ≤ 2 → j ≠ i → Keq (kv σ j) (kv σ' j)) → σ' 135 = pt (σ 135) i 1 → post none σ') : Cl mX12_keepAt [vr 94, vi i] σ post := by
  refine EX12_keepAt ⟨by omega, ?_⟩
  have l4 : ∀ (υ : Sg), υ 94 7 = σ 94 7 → (∀ k, 101 ≤ k → k ≤ 105 → υ k = σ k) → (∀ τ : Sg, (∀ k, k < 130 ∨ 134 < k → τ k = υ k) → (∀ r, 7 ≤ r → r ≤ 11 → τ (r + 123) = cpR (σ (94 + r)) (υ (r + 123)) 0 (60 * i) (σ 94 7)) → post none (up τ 135 i 1)) → V mX12_keepAt 168 [some (vr 94), some (vi i), some (vi 0)] [] υ post := by
    intro υ e7 e101 K
    have loop : ∀ (n : Nat) (p : Int) (τ : Sg), 0 ≤ p → p + n = σ 94 7 → (∀ k, k < 130 ∨ 134 < k → τ k = υ k) → (∀ r, 7 ≤ r → r ≤ 11 → τ (r + 123) = cpR (σ (94 + r)) (υ (r + 123)) 0 (60 * i) p) → V mX12_keepAt 168 [some (vr 94), some (vi i), some (vi p)] [] τ post := by
      intro n
      induction n with
      | zero =>
        intro p τ p0 hpn hF hr
        have f7 : τ 94 7 = σ 94 7 := by rw [hF 94 (by omega)]; exact e7
        refine BX12_keepAt_168 ⟨by omega, by rw [f7]; omega, fun _ => ⟨by omega, K τ hF (fun r a b => ?_)⟩, fun z => absurd (by rw [f7]; omega) z⟩
        rw [hr r a b, show p = σ 94 7 by omega]
      | succ n ih =>
        intro p τ p0 hpn hF hr
        have f7 : τ 94 7 = σ 94 7 := by rw [hF 94 (by omega)]; exact e7
        have s5 : τ 105 p = σ 105 p := by rw [hF 105 (by omega), e101 105 (by omega) (by omega)]
        have s1 : τ 101 p = σ 101 p := by rw [hF 101 (by omega), e101 101 (by omega) (by omega)]
        have s2 : τ 102 p = σ 102 p := by rw [hF 102 (by omega), e101 102 (by omega) (by omega)]
        have s3 : τ 103 p = σ 103 p := by rw [hF 103 (by omega), e101 103 (by omega) (by omega)]
        have s4 : τ 104 p = σ 104 p := by rw [hF 104 (by omega), e101 104 (by omega) (by omega)]
        refine BX12_keepAt_168 ⟨by omega, by rw [f7]; omega, fun z => absurd z (by rw [f7]; omega), fun _ => ⟨by omega, by omega, by rw [s5]; exact hm p p0 (by omega), ?_⟩⟩
        obtain ⟨A1, A2, A3, A4, A5, A6⟩ := up5 (σ := τ) (a := 130) (b := 131) (c := 132) (d := 133) (e := 134) (by omega) (by omega) (by omega) (by omega) (i := 60 * i + p) (v1 := τ 101 p) (v2 := τ 102 p) (v3 := τ 103 p) (v4 := τ 104 p) (v5 := τ 105 p)
        refine ih (p + 1) _ (by omega) (by omega) (fun a ha => (A6 a ha).trans (hF a ha)) (fun r r7 r11 => ?_)
        have key : ∀ r v, 7 ≤ r → r ≤ 11 → v = σ (94 + r) p → pt (τ (r + 123)) (60 * i + p) v = cpR (σ (94 + r)) (υ (r + 123)) 0 (60 * i) (p + 1) := fun r v r7 r11 hv => by
          have := cpR_s (f := σ (94 + r)) (g := υ (r + 123)) (sp := 0) (dp := 60 * i) (n := p) p0
          rw [hr r r7 r11, hv, ← this, show (0 : Int) + p = p by omega]
        have : r = 7 ∨ r = 8 ∨ r = 9 ∨ r = 10 ∨ r = 11 := by omega
        rcases this with rfl | rfl | rfl | rfl | rfl
        · exact A1.trans (key 7 _ (by decide) (by decide) s1)
        · exact A2.trans (key 8 _ (by decide) (by decide) s2)
        · exact A3.trans (key 9 _ (by decide) (by decide) s3)
        · exact A4.trans (key 10 _ (by decide) (by decide) s4)
        · exact A5.trans (key 11 _ (by decide) (by decide) s5)
    exact loop (σ 94 7).toNat 0 υ (by omega) (by omega) (fun _ _ => rfl) (fun r _ _ => by rw [cpR_0])
  have l3 : ∀ (υ : Sg), (∀ τ : Sg, (∀ k, k ≠ 125 → τ k = υ k) → τ 125 = cpR (υ 97) (υ 125) 0 (1344 * i) 1344 → V mX12_keepAt 168 [some (vr 94), some (vi i), some (vi 0)] [] (up τ 129 i (τ 94 7)) post) → V mX12_keepAt 125 [some (vr 94), some (vi i), some (vi 0)] [] υ post := by
    intro υ K
    have loop : ∀ (n : Nat) (p : Int) (τ : Sg), 0 ≤ p → p + n = 1344 → (∀ k, k ≠ 125 → τ k = υ k) → τ 125 = cpR (υ 97) (υ 125) 0 (1344 * i) p → V mX12_keepAt 125 [some (vr 94), some (vi i), some (vi p)] [] τ post := by
      intro n
      induction n with
      | zero =>
        intro p τ p0 hpn hF hr
        refine BX12_keepAt_125 ⟨by omega, fun _ => ⟨by omega, K τ hF (by rw [hr, show p = 1344 by omega])⟩, fun z => absurd (by omega) z⟩
      | succ n ih =>
        intro p τ p0 hpn hF hr
        refine BX12_keepAt_125 ⟨by omega, fun z => absurd z (by omega), fun _ => ⟨by omega, by omega, ih (p + 1) _ (by omega) (by omega) (fun k hk => by rw [up_r hk]; exact hF k hk) ?_⟩⟩
        have := cpR_s (f := υ 97) (g := υ 125) (sp := 0) (dp := 1344 * i) (n := p) p0
        rw [up_k, hr, hF 97 (by decide), ← this, show (0 : Int) + p = p by omega]
    exact loop 1344 0 υ (by omega) (by omega) (fun _ _ => rfl) (by rw [cpR_0])
  have l2 : ∀ (υ : Sg), (∀ τ : Sg, (∀ k, k ≠ 124 → τ k = υ k) → τ 124 = cpR (υ 96) (υ 124) 0 (112 * i) 112 → V mX12_keepAt 125 [some (vr 94), some (vi i), some (vi 0)] [] τ post) → V mX12_keepAt 94 [some (vr 94), some (vi i), some (vi 0)] [] υ post := by
    intro υ K
    have loop : ∀ (n : Nat) (p : Int) (τ : Sg), 0 ≤ p → p + n = 112 → (∀ k, k ≠ 124 → τ k = υ k) → τ 124 = cpR (υ 96) (υ 124) 0 (112 * i) p → V mX12_keepAt 94 [some (vr 94), some (vi i), some (vi p)] [] τ post := by
      intro n
      induction n with
      | zero =>
        intro p τ p0 hpn hF hr
        refine BX12_keepAt_94 ⟨by omega, fun _ => K τ hF (by rw [hr, show p = 112 by omega]), fun z => absurd (by omega) z⟩
      | succ n ih =>
        intro p τ p0 hpn hF hr
        refine BX12_keepAt_94 ⟨by omega, fun z => absurd z (by omega), fun _ => ⟨by omega, by omega, ih (p + 1) _ (by omega) (by omega) (fun k hk => by rw [up_r hk]; exact hF k hk) ?_⟩⟩
        have := cpR_s (f := υ 96) (g := υ 124) (sp := 0) (dp := 112 * i) (n := p) p0
        rw [up_k, hr, hF 96 (by decide), ← this, show (0 : Int) + p = p by omega]
    exact loop 112 0 υ (by omega) (by omega) (fun _ _ => rfl) (by rw [cpR_0])
  have l1 : ∀ (υ : Sg), (∀ τ : Sg, (∀ k, k ≠ 123 → k ≠ 126 → k ≠ 127 → k ≠ 128 → τ k = υ k) → τ 123 = cpR (υ 95) (υ 123) 0 (16 * i) 16 → τ 126 = cpR (υ 98) (υ 126) 0 (16 * i) 16 → τ 127 = cpR (υ 99) (υ 127) 0 (16 * i) 16 → τ 128 = cpR (υ 100) (υ 128) 0 (16 * i) 16 → V mX12_keepAt 94 [some (vr 94), some (vi i), some (vi 0)] [] τ post) → V mX12_keepAt 12 [some (vr 94), some (vi i), some (vi 0)] [] υ post := by
    intro υ K
    have loop : ∀ (n : Nat) (p : Int) (τ : Sg), 0 ≤ p → p + n = 16 → (∀ k, k ≠ 123 → k ≠ 126 → k ≠ 127 → k ≠ 128 → τ k = υ k) → τ 123 = cpR (υ 95) (υ 123) 0 (16 * i) p → τ 126 = cpR (υ 98) (υ 126) 0 (16 * i) p → τ 127 = cpR (υ 99) (υ 127) 0 (16 * i) p → τ 128 = cpR (υ 100) (υ 128) 0 (16 * i) p → V mX12_keepAt 12 [some (vr 94), some (vi i), some (vi p)] [] τ post := by
      intro n
      induction n with
      | zero =>
        intro p τ p0 hpn hF r1 r2 r3 r4
        have e : p = 16 := by omega
        subst e
        refine BX12_keepAt_12 ⟨by omega, fun _ => K τ hF r1 r2 r3 r4, fun z => absurd (by omega) z⟩
      | succ n ih =>
        intro p τ p0 hpn hF r1 r2 r3 r4
        have key : ∀ (f g : Int → Int), pt (cpR f g 0 (16 * i) p) (16 * i + p) (f p) = cpR f g 0 (16 * i) (p + 1) := fun f g => by
          have := cpR_s (f := f) (g := g) (sp := 0) (dp := 16 * i) (n := p) p0
          rw [← this, show (0 : Int) + p = p by omega]
        refine BX12_keepAt_12 ⟨by omega, fun z => absurd z (by omega), fun _ => ⟨by omega, by omega, ih (p + 1) _ (by omega) (by omega) (fun k k1 k2 k3 k4 => by rw [up_r k4, up_r k3, up_r k2, up_r k1]; exact hF k k1 k2 k3 k4) ?_ ?_ ?_ ?_⟩⟩
        · rw [up_r (by decide), up_r (by decide), up_r (by decide), up_k, r1, hF 95 (by decide) (by decide) (by decide) (by decide), key]
        · rw [up_r (by decide), up_r (by decide), up_k, up_r (by decide), r2, hF 98 (by decide) (by decide) (by decide) (by decide), key]
        · rw [up_r (by decide), up_k, up_r (by decide), up_r (by decide), r3, hF 99 (by decide) (by decide) (by decide) (by decide), key]
        · rw [up_k, up_r (by decide), up_r (by decide), up_r (by decide), r4, hF 100 (by decide) (by decide) (by decide) (by decide), key]
    exact loop 16 0 υ (by omega) (by omega) (fun _ _ _ _ _ => rfl) (by rw [cpR_0]) (by rw [cpR_0]) (by rw [cpR_0]) (by rw [cpR_0])
  refine l1 _ (fun τ1 F1 a1 a2 a3 a4 => l2 _ (fun τ2 F2 b1 => l3 _ (fun τ3 F3 c1 => l4 _ ?_ (fun k x y => ?_) (fun τ4 F4 d1 => ?_))))
  · rw [up_r (by decide), F3 94 (by decide), F2 94 (by decide), F1 94 (by decide) (by decide) (by decide) (by decide), up_r (by decide)]
  · rw [up_r (by omega), F3 k (by omega), F2 k (by omega), F1 k (by omega) (by omega) (by omega) (by omega), up_r (by omega)]
  · -- all rows at the end
    have g0 : ∀ k, k < 122 ∨ 135 < k → up τ4 135 i 1 k = σ k := fun k hk => by rw [up_r (by omega), F4 k (by omega), up_r (by omega), F3 k (by omega), F2 k (by omega), F1 k (by omega) (by omega) (by omega) (by omega), up_r (by omega)]
    have t94 : τ3 94 = σ 94 := by rw [F3 94 (by decide), F2 94 (by decide), F1 94 (by decide) (by decide) (by decide) (by decide), up_r (by decide)]
    have g122 : up τ4 135 i 1 122 = pt (σ 122) i (σ 94 0) := by rw [up_r (by decide), F4 122 (by omega), up_r (by decide), F3 122 (by decide), F2 122 (by decide), F1 122 (by decide) (by decide) (by decide) (by decide), up_k]
    have g123 : up τ4 135 i 1 123 = cpR (σ 95) (σ 123) 0 (16 * i) 16 := by rw [up_r (by decide), F4 123 (by omega), up_r (by decide), F3 123 (by decide), F2 123 (by decide), a1, up_r (by decide), up_r (by decide)]
    have g124 : up τ4 135 i 1 124 = cpR (σ 96) (σ 124) 0 (112 * i) 112 := by rw [up_r (by decide), F4 124 (by omega), up_r (by decide), F3 124 (by decide), b1, F1 96 (by decide) (by decide) (by decide) (by decide), F1 124 (by decide) (by decide) (by decide) (by decide), up_r (by decide), up_r (by decide)]
    have g125 : up τ4 135 i 1 125 = cpR (σ 97) (σ 125) 0 (1344 * i) 1344 := by rw [up_r (by decide), F4 125 (by omega), up_r (by decide), c1, F2 97 (by decide), F2 125 (by decide), F1 97 (by decide) (by decide) (by decide) (by decide), F1 125 (by decide) (by decide) (by decide) (by decide), up_r (by decide), up_r (by decide)]
    have g126 : up τ4 135 i 1 126 = cpR (σ 98) (σ 126) 0 (16 * i) 16 := by rw [up_r (by decide), F4 126 (by omega), up_r (by decide), F3 126 (by decide), F2 126 (by decide), a2, up_r (by decide), up_r (by decide)]
    have g127 : up τ4 135 i 1 127 = cpR (σ 99) (σ 127) 0 (16 * i) 16 := by rw [up_r (by decide), F4 127 (by omega), up_r (by decide), F3 127 (by decide), F2 127 (by decide), a3, up_r (by decide), up_r (by decide)]
    have g128 : up τ4 135 i 1 128 = cpR (σ 100) (σ 128) 0 (16 * i) 16 := by rw [up_r (by decide), F4 128 (by omega), up_r (by decide), F3 128 (by decide), F2 128 (by decide), a4, up_r (by decide), up_r (by decide)]
    have g129 : up τ4 135 i 1 129 = pt (σ 129) i (σ 94 7) := by rw [up_r (by decide), F4 129 (by omega), up_k, t94, F3 129 (by decide), F2 129 (by decide), F1 129 (by decide) (by decide) (by decide) (by decide), up_r (by decide)]
    have g130 : ∀ r, 7 ≤ r → r ≤ 11 → up τ4 135 i 1 (r + 123) = cpR (σ (94 + r)) (σ (r + 123)) 0 (60 * i) (σ 94 7) := fun r x y => by rw [up_r (by omega), d1 r x y, up_r (by omega), F3 _ (by omega), F2 _ (by omega), F1 _ (by omega) (by omega) (by omega) (by omega), up_r (by omega)]
    have g135 : up τ4 135 i 1 135 = pt (σ 135) i 1 := by rw [up_k, F4 135 (by omega), up_r (by decide), F3 135 (by decide), F2 135 (by decide), F1 135 (by decide) (by decide) (by decide) (by decide), up_r (by decide)]
    obtain ⟨υ, eυ⟩ : ∃ υ : Sg, υ = up τ4 135 i 1 := ⟨_, rfl⟩
    rw [← eυ] at g0 g122 g123 g124 g125 g126 g127 g128 g129 g135 ⊢
    have g130 : ∀ r, 7 ≤ r → r ≤ 11 → υ (r + 123) = cpR (σ (94 + r)) (σ (r + 123)) 0 (60 * i) (σ 94 7) := fun r x y => by rw [eυ]; exact g130 r x y
    refine hp υ g0 ⟨?_, ?_, fun r hr x x0 x1 => ?_, fun x x0 x1 => ?_, fun x x0 x1 => ?_, fun r r7 r11 x x0 x1 x60 => ?_⟩ (fun j j0 j1 hj => ⟨?_, ?_, fun r hr x x0 x1 => ?_, fun x x0 x1 => ?_, fun x x0 x1 => ?_, fun r r7 r11 x x0 x1 x60 => ?_⟩) g135
    · show υ 122 i = σ 94 0
      rw [g122, pt_self]
    · show υ 129 i = σ 94 7
      rw [g129, pt_self]
    · have z : ∀ f g : Int → Int, cpR f g 0 (16 * i) 16 (16 * i + x) = f x := fun f g => by rw [cpR_in (by omega), show (0 : Int) + (16 * i + x - 16 * i) = x by omega]
      rcases hr with rfl | rfl | rfl | rfl
      · show υ 123 (16 * i + x) = σ 95 x
        rw [g123, z]
      · show υ 126 (16 * i + x) = σ 98 x
        rw [g126, z]
      · show υ 127 (16 * i + x) = σ 99 x
        rw [g127, z]
      · show υ 128 (16 * i + x) = σ 100 x
        rw [g128, z]
    · show υ 124 (112 * i + x) = σ 96 x
      rw [g124, cpR_in (by omega), show (0 : Int) + (112 * i + x - 112 * i) = x by omega]
    · show υ 125 (1344 * i + x) = σ 97 x
      rw [g125, cpR_in (by omega), show (0 : Int) + (1344 * i + x - 1344 * i) = x by omega]
    · have x1 : x < σ 94 7 := x1
      rw [kv_row r7 r11, g130 r r7 r11, cpR_in (by omega), show (0 : Int) + (60 * i + x - 60 * i) = x by omega, bk_row (by omega) (by omega)]
    · show υ 122 j = σ 122 j
      rw [g122, pt_ne hj]
    · show υ 129 j = σ 129 j
      rw [g129, pt_ne hj]
    · have z : ∀ f g : Int → Int, cpR f g 0 (16 * i) 16 (16 * j + x) = g (16 * j + x) := fun f g => cpR_out (by omega)
      rcases hr with rfl | rfl | rfl | rfl
      · show υ 123 (16 * j + x) = σ 123 (16 * j + x)
        rw [g123, z]
      · show υ 126 (16 * j + x) = σ 126 (16 * j + x)
        rw [g126, z]
      · show υ 127 (16 * j + x) = σ 127 (16 * j + x)
        rw [g127, z]
      · show υ 128 (16 * j + x) = σ 128 (16 * j + x)
        rw [g128, z]
    · show υ 124 (112 * j + x) = σ 124 (112 * j + x)
      rw [g124, cpR_out (by omega)]
    · show υ 125 (1344 * j + x) = σ 125 (1344 * j + x)
      rw [g125, cpR_out (by omega)]
    · rw [kv_row r7 r11, kv_row r7 r11, g130 r r7 r11]
      exact cpR_out (by omega)
theorem r_backTo {σ : Sg} {post : Po} {i : Int} (i0 : 0 ≤ i) (i1 : i ≤ 2) (hn : 0 ≤ σ 129 i ∧ σ 129 i ≤ 60) (hm : ∀ x : Int, 0 ≤ x → x < σ 129 i → σ 134 (60 * i + x) = 0 ∨ σ 134 (60 * i + x) = 1) (hp : ∀ σ' : Sg, (∀ k, k ≠ 94 → k < 95 ∨ 105 < k → σ' k = σ k) → (∀ j, j ≠ 0 → j ≠ 7 → σ' 94 j = σ 94 j) → Keq (kv σ i) (bk σ' 94) → post none σ') : Cl mX12_backTo [vr 94, vi i] σ post := by
  refine EX12_backTo ⟨by omega, ?_⟩
  have l4 : ∀ (υ : Sg), υ 94 7 = σ 129 i → (∀ k, 130 ≤ k → k ≤ 134 → υ k = σ k) → (∀ τ : Sg, (∀ k, k < 101 ∨ 105 < k → τ k = υ k) → (∀ r, 7 ≤ r → r ≤ 11 → τ (94 + r) = cpR (σ (r + 123)) (υ (94 + r)) (60 * i) 0 (σ 129 i)) → post none τ) → V mX12_backTo 168 [some (vr 94), some (vi i), some (vi 0)] [] υ post := by
    intro υ e7 e130 K
    have loop : ∀ (n : Nat) (p : Int) (τ : Sg), 0 ≤ p → p + n = σ 129 i → (∀ k, k < 101 ∨ 105 < k → τ k = υ k) → (∀ r, 7 ≤ r → r ≤ 11 → τ (94 + r) = cpR (σ (r + 123)) (υ (94 + r)) (60 * i) 0 p) → V mX12_backTo 168 [some (vr 94), some (vi i), some (vi p)] [] τ post := by
      intro n
      induction n with
      | zero =>
        intro p τ p0 hpn hF hr
        have f7 : τ 94 7 = σ 129 i := by rw [hF 94 (by omega)]; exact e7
        refine BX12_backTo_168 ⟨by omega, by rw [f7]; omega, fun _ => K τ hF (fun r a b => ?_), fun z => absurd (by rw [f7]; omega) z⟩
        rw [hr r a b, show p = σ 129 i by omega]
      | succ n ih =>
        intro p τ p0 hpn hF hr
        have f7 : τ 94 7 = σ 129 i := by rw [hF 94 (by omega)]; exact e7
        have s5 : τ 134 (60 * i + p) = σ 134 (60 * i + p) := by rw [hF 134 (by omega), e130 134 (by omega) (by omega)]
        have s1 : τ 130 (60 * i + p) = σ 130 (60 * i + p) := by rw [hF 130 (by omega), e130 130 (by omega) (by omega)]
        have s2 : τ 131 (60 * i + p) = σ 131 (60 * i + p) := by rw [hF 131 (by omega), e130 131 (by omega) (by omega)]
        have s3 : τ 132 (60 * i + p) = σ 132 (60 * i + p) := by rw [hF 132 (by omega), e130 132 (by omega) (by omega)]
        have s4 : τ 133 (60 * i + p) = σ 133 (60 * i + p) := by rw [hF 133 (by omega), e130 133 (by omega) (by omega)]
        refine BX12_backTo_168 ⟨by omega, by rw [f7]; omega, fun z => absurd z (by rw [f7]; omega), fun _ => ⟨by omega, by omega, by rw [s5]; exact hm p p0 (by omega), ?_⟩⟩
        obtain ⟨A1, A2, A3, A4, A5, A6⟩ := up5 (σ := τ) (a := 101) (b := 102) (c := 103) (d := 104) (e := 105) (by omega) (by omega) (by omega) (by omega) (i := p) (v1 := τ 130 (60 * i + p)) (v2 := τ 131 (60 * i + p)) (v3 := τ 132 (60 * i + p)) (v4 := τ 133 (60 * i + p)) (v5 := τ 134 (60 * i + p))
        refine ih (p + 1) _ (by omega) (by omega) (fun a ha => (A6 a ha).trans (hF a ha)) (fun r r7 r11 => ?_)
        have key : ∀ r v, 7 ≤ r → r ≤ 11 → v = σ (r + 123) (60 * i + p) → pt (τ (94 + r)) p v = cpR (σ (r + 123)) (υ (94 + r)) (60 * i) 0 (p + 1) := fun r v r7 r11 hv => by
          have := cpR_s (f := σ (r + 123)) (g := υ (94 + r)) (sp := 60 * i) (dp := 0) (n := p) p0
          rw [hr r r7 r11, hv, ← this, show (0 : Int) + p = p by omega]
        have : r = 7 ∨ r = 8 ∨ r = 9 ∨ r = 10 ∨ r = 11 := by omega
        rcases this with rfl | rfl | rfl | rfl | rfl
        · exact A1.trans (key 7 _ (by decide) (by decide) s1)
        · exact A2.trans (key 8 _ (by decide) (by decide) s2)
        · exact A3.trans (key 9 _ (by decide) (by decide) s3)
        · exact A4.trans (key 10 _ (by decide) (by decide) s4)
        · exact A5.trans (key 11 _ (by decide) (by decide) s5)
    exact loop (σ 129 i).toNat 0 υ (by omega) (by omega) (fun _ _ => rfl) (fun r _ _ => by rw [cpR_0])
  have l3 : ∀ (υ : Sg), (∀ τ : Sg, (∀ k, k ≠ 97 → τ k = υ k) → τ 97 = cpR (υ 125) (υ 97) (1344 * i) 0 1344 → V mX12_backTo 168 [some (vr 94), some (vi i), some (vi 0)] [] (up τ 94 7 (τ 129 i)) post) → V mX12_backTo 125 [some (vr 94), some (vi i), some (vi 0)] [] υ post := by
    intro υ K
    have loop : ∀ (n : Nat) (p : Int) (τ : Sg), 0 ≤ p → p + n = 1344 → (∀ k, k ≠ 97 → τ k = υ k) → τ 97 = cpR (υ 125) (υ 97) (1344 * i) 0 p → V mX12_backTo 125 [some (vr 94), some (vi i), some (vi p)] [] τ post := by
      intro n
      induction n with
      | zero =>
        intro p τ p0 hpn hF hr
        refine BX12_backTo_125 ⟨by omega, fun _ => ⟨by omega, K τ hF (by rw [hr, show p = 1344 by omega])⟩, fun z => absurd (by omega) z⟩
      | succ n ih =>
        intro p τ p0 hpn hF hr
        refine BX12_backTo_125 ⟨by omega, fun z => absurd z (by omega), fun _ => ⟨by omega, by omega, ih (p + 1) _ (by omega) (by omega) (fun k hk => by rw [up_r hk]; exact hF k hk) ?_⟩⟩
        have := cpR_s (f := υ 125) (g := υ 97) (sp := 1344 * i) (dp := 0) (n := p) p0
        rw [up_k, hr, hF 125 (by decide), ← this, show (0 : Int) + p = p by omega]
    exact loop 1344 0 υ (by omega) (by omega) (fun _ _ => rfl) (by rw [cpR_0])
  have l2 : ∀ (υ : Sg), (∀ τ : Sg, (∀ k, k ≠ 96 → τ k = υ k) → τ 96 = cpR (υ 124) (υ 96) (112 * i) 0 112 → V mX12_backTo 125 [some (vr 94), some (vi i), some (vi 0)] [] τ post) → V mX12_backTo 94 [some (vr 94), some (vi i), some (vi 0)] [] υ post := by
    intro υ K
    have loop : ∀ (n : Nat) (p : Int) (τ : Sg), 0 ≤ p → p + n = 112 → (∀ k, k ≠ 96 → τ k = υ k) → τ 96 = cpR (υ 124) (υ 96) (112 * i) 0 p → V mX12_backTo 94 [some (vr 94), some (vi i), some (vi p)] [] τ post := by
      intro n
      induction n with
      | zero =>
        intro p τ p0 hpn hF hr
        refine BX12_backTo_94 ⟨by omega, fun _ => K τ hF (by rw [hr, show p = 112 by omega]), fun z => absurd (by omega) z⟩
      | succ n ih =>
        intro p τ p0 hpn hF hr
        refine BX12_backTo_94 ⟨by omega, fun z => absurd z (by omega), fun _ => ⟨by omega, by omega, ih (p + 1) _ (by omega) (by omega) (fun k hk => by rw [up_r hk]; exact hF k hk) ?_⟩⟩
        have := cpR_s (f := υ 124) (g := υ 96) (sp := 112 * i) (dp := 0) (n := p) p0
        rw [up_k, hr, hF 124 (by decide), ← this, show (0 : Int) + p = p by omega]
    exact loop 112 0 υ (by omega) (by omega) (fun _ _ => rfl) (by rw [cpR_0])
  have l1 : ∀ (υ : Sg), (∀ τ : Sg, (∀ k, k ≠ 95 → k ≠ 98 → k ≠ 99 → k ≠ 100 → τ k = υ k) → τ 95 = cpR (υ 123) (υ 95) (16 * i) 0 16 → τ 98 = cpR (υ 126) (υ 98) (16 * i) 0 16 → τ 99 = cpR (υ 127) (υ 99) (16 * i) 0 16 → τ 100 = cpR (υ 128) (υ 100) (16 * i) 0 16 → V mX12_backTo 94 [some (vr 94), some (vi i), some (vi 0)] [] τ post) → V mX12_backTo 12 [some (vr 94), some (vi i), some (vi 0)] [] υ post := by
    intro υ K
    have loop : ∀ (n : Nat) (p : Int) (τ : Sg), 0 ≤ p → p + n = 16 → (∀ k, k ≠ 95 → k ≠ 98 → k ≠ 99 → k ≠ 100 → τ k = υ k) → τ 95 = cpR (υ 123) (υ 95) (16 * i) 0 p → τ 98 = cpR (υ 126) (υ 98) (16 * i) 0 p → τ 99 = cpR (υ 127) (υ 99) (16 * i) 0 p → τ 100 = cpR (υ 128) (υ 100) (16 * i) 0 p → V mX12_backTo 12 [some (vr 94), some (vi i), some (vi p)] [] τ post := by
      intro n
      induction n with
      | zero =>
        intro p τ p0 hpn hF r1 r2 r3 r4
        have e : p = 16 := by omega
        subst e
        refine BX12_backTo_12 ⟨by omega, fun _ => K τ hF r1 r2 r3 r4, fun z => absurd (by omega) z⟩
      | succ n ih =>
        intro p τ p0 hpn hF r1 r2 r3 r4
        have key : ∀ (f g : Int → Int), pt (cpR f g (16 * i) 0 p) p (f (16 * i + p)) = cpR f g (16 * i) 0 (p + 1) := fun f g => by
          have := cpR_s (f := f) (g := g) (sp := 16 * i) (dp := 0) (n := p) p0
          rw [← this, show (0 : Int) + p = p by omega]
        refine BX12_backTo_12 ⟨by omega, fun z => absurd z (by omega), fun _ => ⟨by omega, by omega, ih (p + 1) _ (by omega) (by omega) (fun k k1 k2 k3 k4 => by rw [up_r k4, up_r k3, up_r k2, up_r k1]; exact hF k k1 k2 k3 k4) ?_ ?_ ?_ ?_⟩⟩
        · rw [up_r (by decide), up_r (by decide), up_r (by decide), up_k, r1, hF 123 (by decide) (by decide) (by decide) (by decide), key]
        · rw [up_r (by decide), up_r (by decide), up_k, up_r (by decide), r2, hF 126 (by decide) (by decide) (by decide) (by decide), key]
        · rw [up_r (by decide), up_k, up_r (by decide), up_r (by decide), r3, hF 127 (by decide) (by decide) (by decide) (by decide), key]
        · rw [up_k, up_r (by decide), up_r (by decide), up_r (by decide), r4, hF 128 (by decide) (by decide) (by decide) (by decide), key]
    exact loop 16 0 υ (by omega) (by omega) (fun _ _ _ _ _ => rfl) (by rw [cpR_0]) (by rw [cpR_0]) (by rw [cpR_0]) (by rw [cpR_0])
  refine l1 _ (fun τ1 F1 a1 a2 a3 a4 => l2 _ (fun τ2 F2 b1 => l3 _ (fun τ3 F3 c1 => l4 _ ?_ (fun k x y => ?_) (fun τ4 F4 d1 => ?_))))
  · rw [up_s, F3 129 (by decide), F2 129 (by decide), F1 129 (by decide) (by decide) (by decide) (by decide), up_r (by decide)]
  · rw [up_r (by omega), F3 k (by omega), F2 k (by omega), F1 k (by omega) (by omega) (by omega) (by omega), up_r (by omega)]
  · have g0 : ∀ k, k ≠ 94 → k < 95 ∨ 105 < k → τ4 k = σ k := fun k k9 hk => by rw [F4 k (by omega), up_r k9, F3 k (by omega), F2 k (by omega), F1 k (by omega) (by omega) (by omega) (by omega), up_r k9]
    have t94 : τ4 94 = pt (pt (σ 94) 0 (σ 122 i)) 7 (σ 129 i) := by rw [F4 94 (by omega), up_k, F3 94 (by decide), F2 94 (by decide), F1 94 (by decide) (by decide) (by decide) (by decide), up_k, F3 129 (by decide), F2 129 (by decide), F1 129 (by decide) (by decide) (by decide) (by decide), up_r (by decide)]
    have g95 : τ4 95 = cpR (σ 123) (σ 95) (16 * i) 0 16 := by rw [F4 95 (by omega), up_r (by decide), F3 95 (by decide), F2 95 (by decide), a1, up_r (by decide), up_r (by decide)]
    have g96 : τ4 96 = cpR (σ 124) (σ 96) (112 * i) 0 112 := by rw [F4 96 (by omega), up_r (by decide), F3 96 (by decide), b1, F1 96 (by decide) (by decide) (by decide) (by decide), F1 124 (by decide) (by decide) (by decide) (by decide), up_r (by decide), up_r (by decide)]
    have g97 : τ4 97 = cpR (σ 125) (σ 97) (1344 * i) 0 1344 := by rw [F4 97 (by omega), up_r (by decide), c1, F2 97 (by decide), F2 125 (by decide), F1 97 (by decide) (by decide) (by decide) (by decide), F1 125 (by decide) (by decide) (by decide) (by decide), up_r (by decide), up_r (by decide)]
    have g98 : τ4 98 = cpR (σ 126) (σ 98) (16 * i) 0 16 := by rw [F4 98 (by omega), up_r (by decide), F3 98 (by decide), F2 98 (by decide), a2, up_r (by decide), up_r (by decide)]
    have g99 : τ4 99 = cpR (σ 127) (σ 99) (16 * i) 0 16 := by rw [F4 99 (by omega), up_r (by decide), F3 99 (by decide), F2 99 (by decide), a3, up_r (by decide), up_r (by decide)]
    have g100 : τ4 100 = cpR (σ 128) (σ 100) (16 * i) 0 16 := by rw [F4 100 (by omega), up_r (by decide), F3 100 (by decide), F2 100 (by decide), a4, up_r (by decide), up_r (by decide)]
    have g101 : ∀ r, 7 ≤ r → r ≤ 11 → τ4 (94 + r) = cpR (σ (r + 123)) (σ (94 + r)) (60 * i) 0 (σ 129 i) := fun r x y => by rw [d1 r x y, up_r (by omega), F3 _ (by omega), F2 _ (by omega), F1 _ (by omega) (by omega) (by omega) (by omega), up_r (by omega)]
    refine hp τ4 g0 (fun j j0 j7 => by rw [t94, pt_ne j7, pt_ne j0]) ⟨?_, ?_, fun r hr x x0 x1 => ?_, fun x x0 x1 => ?_, fun x x0 x1 => ?_, fun r r7 r11 x x0 x1 x60 => ?_⟩
    · show τ4 94 0 = σ 122 i
      rw [t94, pt_ne (by decide), pt_self]
    · show τ4 94 7 = σ 129 i
      rw [t94, pt_self]
    · have z : ∀ f g : Int → Int, cpR f g (16 * i) 0 16 x = f (16 * i + x) := fun f g => by rw [cpR_in (by omega), show (16 * i + (x - 0)) = 16 * i + x by omega]
      rcases hr with rfl | rfl | rfl | rfl
      · show τ4 95 x = σ 123 (16 * i + x)
        rw [g95, z]
      · show τ4 98 x = σ 126 (16 * i + x)
        rw [g98, z]
      · show τ4 99 x = σ 127 (16 * i + x)
        rw [g99, z]
      · show τ4 100 x = σ 128 (16 * i + x)
        rw [g100, z]
    · show τ4 96 x = σ 124 (112 * i + x)
      rw [g96, cpR_in (by omega), show 112 * i + (x - 0) = 112 * i + x by omega]
    · show τ4 97 x = σ 125 (1344 * i + x)
      rw [g97, cpR_in (by omega), show 1344 * i + (x - 0) = 1344 * i + x by omega]
    · have x1 : x < σ 129 i := x1
      rw [kv_row r7 r11, bk_row (by omega) (by omega), g101 r r7 r11, cpR_in (by omega), show 60 * i + (x - 0) = 60 * i + x by omega]
/-! the steps -/
theorem Inv.im {σ σ' : Sg} (h : Inv σ) (hc : ∀ k, k < 17 ∨ 40 < k → k < 122 ∨ 135 < k → σ' k = σ k) (i1 : ImOK σ' 17 0) (i2 : ImOK σ' 29 1) : Inv σ' := by
  obtain ⟨h1, h2, h3, ⟨h4, h5⟩, -, h12⟩ := h
  have b5 : bk σ' 5 = bk σ 5 := bk5 (fun k a b => hc k (by omega) (by omega))
  have e0 := hc 0 (by omega) (by omega)
  have e3 := hc 3 (by omega) (by omega)
  have e94 := hc 94 (by omega) (by omega)
  refine ⟨?_, h2.co (by rw [e3]) (by rw [e94]) (hc 4 (by omega) (by omega)) (hc 106 (by omega) (by omega)), h3.co (by rw [hc 90 (by omega) (by omega)]) (by rw [e94]) (hc 91 (by omega) (by omega)) (hc 92 (by omega) (by omega)) (hc 118 (by omega) (by omega)) (hc 119 (by omega) (by omega)), ⟨by rw [b5]; exact h4, by rw [b5, bk94 (σ := σ) (σ' := σ') (by rw [e94]) (by rw [e94]) (fun k a b => hc k (by omega) (by omega))]; exact h5⟩, ⟨i1, i2⟩, fun q => ?_⟩
  · unfold ScOK
    rw [e0, e3, e94]
    exact h1
  · rw [e0] at q
    exact (h12 q).co ⟨by rw [e0], by rw [e0]⟩ (hc 1 (by omega) (by omega)) b5 (by rw [hc 53 (by omega) (by omega)]) (hc 55 (by omega) (by omega)) ⟨by rw [hc 64 (by omega) (by omega)], by rw [hc 64 (by omega) (by omega)]⟩ (hc 65 (by omega) (by omega))
theorem bkf {σ σ' : Sg} {k : Nat} (h : ∀ a, k ≤ a → a ≤ k + 11 → σ' a = σ a) : bk σ' k = bk σ k :=
  bk_congr (by rw [h k (by omega) (by omega)]) (by rw [h k (by omega) (by omega)]) (fun j _ _ => h _ (by omega) (by omega))
theorem ImOK.oth {σ σ' : Sg} {k : Nat} {i : Int} (h : ImOK σ k i) (hk : ∀ a, k ≤ a → a ≤ k + 11 → σ' a = σ a) (h135 : σ' 135 i = σ 135 i) (hq : Keq (kv σ i) (kv σ' i)) : ImOK σ' k i := by
  obtain ⟨a1, a2, a3⟩ := h
  have e := hk k (by omega) (by omega)
  refine ⟨by rw [e, h135]; exact a1, by rw [e]; exact a2, fun q => ?_⟩
  rw [e] at q
  obtain ⟨w, r⟩ := a3 q
  rw [bkf hk]
  exact ⟨w, RA.eq w r Beq.rf hq⟩
theorem s_keep : St_keep Inv := by
  intro σ x rx hI
  have hI' := hI
  obtain ⟨⟨h1, h2, h3, h4, h5⟩, h6, h7, ⟨hW, hR⟩, ⟨h10, h11⟩, h12⟩ := hI
  have wm := Wb_marks hW
  have em : σ 94 7 = σ 5 7 := Ra_marks hR
  refine EX11_keep (c_isImage rx (fun a b => ⟨_, rfl, b1 ⟨by omega, h1.1, ?_⟩⟩) (fun q => ⟨_, rfl, b0 ⟨_, rfl, EX12_keep ⟨rx, r_in (by omega) (by omega) (by omega) (fun a b => absurd (by omega) q) (fun _ => ⟨_, rfl, b0 ⟨_, rfl, rfl, by decide, Or.inl hI'⟩⟩)⟩⟩⟩))
  have main : ∀ (k : Nat), shp[k]? = some (0, 0, 14) → (k = 17 ∧ x = 0 ∨ k = 29 ∧ x = 1) → imT x.toNat = k → Cl mX0_copyFrom [vr (imT x.toNat), vr 5] σ (pV fun σ2 => (pI fun z σ1 => Cl mX12_keep [vr 94, vi x] σ1 (pI fun z2 σ2 => z = z2 ∧ rng z ∧ (Inv σ2 ∨ Inv (swp σ2)))) (some (vi 1)) (up σ2 (imT x.toNat) 13 1)) := by
    intro k hk hkx ek
    rw [ek]
    refine c_copyFrom hk rfl (by omega) (fun τ hF hk0 hB => ⟨rfl, ⟨_, rfl, ?_⟩⟩)
    have t : ∀ a, a < k ∨ k + 11 < a → up τ k 13 1 a = σ a := fun a ha => by rw [up_r (by omega)]; exact hF a ha
    have t94 : up τ k 13 1 94 = σ 94 := t 94 (by omega)
    refine EX12_keep ⟨rx, r_in (by omega) (by omega) (by omega) (fun _ _ => ⟨_, rfl, b1 ?_⟩) (fun q => absurd (by omega) q)⟩
    refine r_keepAt a (by omega) (by rw [t94]; omega) (fun y y0 y1 => ?_) (fun υ gF g1 g2 g3 => ⟨rfl, ⟨_, rfl, rfl, by decide, Or.inl ?_⟩⟩)
    · rw [t 105 (by omega)]
      rw [t94] at y1
      have q1 := (Ra_m hR y0 (show y < σ 5 7 by omega)).2.2.2.2
      have q2 := (Wb_m hW y0 (show y < σ 5 7 by omega)).2.2.2
      rw [q1]
      exact q2
    · have b94 : bk (up τ k 13 1) 94 = bk σ 94 := bk94 (by rw [t94]) (by rw [t94]) (fun a x y => t a (by omega))
      rw [b94] at g1
      have bkk : bk υ k = bk τ k := by
        refine bk_congr ?_ ?_ (fun j j1 j2 => ?_)
        · rw [gF k (by omega), up_f (by decide)]
        · rw [gF k (by omega), up_f (by decide)]
        · rw [gF _ (by omega), up_r (by omega)]
      have me : ImOK υ k x := by
        refine ⟨?_, ?_, fun _ => ?_⟩
        · rw [gF k (by omega), up_s, g3, pt_self]
        · rw [gF k (by omega), up_s]; exact Or.inr rfl
        · rw [bkk]
          exact ⟨hW.eq hB, RA.eq hW hR hB g1⟩
      have ot : ∀ (k2 : Nat) (j : Int), (k2 = 17 ∧ j = 0 ∨ k2 = 29 ∧ j = 1) → k2 ≠ k → ImOK σ k2 j → ImOK υ k2 j := by
        intro k2 j hj hne h
        refine h.oth (fun a x y => by rw [gF a (by omega), t a (by omega)]) ?_ ?_
        · rw [g3, pt_ne (by omega), t 135 (by omega)]
        · have := g2 j (by omega) (by omega) (by omega)
          rw [kv_congr (σ := σ) (σ' := up τ k 13 1) j (fun a x y => t a (by omega))] at this
          exact this
      refine hI'.im (fun a x y => by rw [gF a y, t a (by omega)]) ?_ ?_
      · rcases hkx with ⟨rfl, rfl⟩ | ⟨rfl, rfl⟩
        · exact me
        · exact ot 17 0 (by omega) (by omega) h10
      · rcases hkx with ⟨rfl, rfl⟩ | ⟨rfl, rfl⟩
        · exact ot 29 1 (by omega) (by omega) h11
        · exact me
  have hx : x = 0 ∨ x = 1 := by omega
  rcases hx with rfl | rfl
  · exact main 17 rfl (by omega) rfl
  · exact main 29 rfl (by omega) rfl
theorem s_goBack : St_goBack Inv := by
  intro σ x rx hI
  have hI' := hI
  obtain ⟨⟨h1, h2, h3, h4, h5⟩, h6, h7, ⟨hW, hR⟩, ⟨h10, h11⟩, h12⟩ := hI
  refine EX11_goBack (c_isImage rx (fun a b => ⟨_, rfl, b1 ⟨by omega, ?_⟩⟩) (fun q => ⟨_, rfl, b0 ⟨_, rfl, EX12_goBack ⟨rx, r_in (by omega) (by omega) (by omega) (fun a b => absurd (by omega) q) (fun _ => ⟨_, rfl, b0 ⟨_, rfl, rfl, by decide, Or.inl hI'⟩⟩)⟩⟩⟩))
  have main : ∀ (k : Nat), shp[k]? = some (0, 0, 14) → (k = 17 ∧ x = 0 ∨ k = 29 ∧ x = 1) → imT x.toNat = k → ImOK σ k x → (rng (σ (imT x.toNat) 13)) ∧ ((¬ (σ (imT x.toNat) 13) = 0 → (σ 0 1 = 5) ∧ (Cl mX0_copyFrom [vr 5, vr (imT x.toNat)] σ (pV fun σ2 => (pI fun z σ1 => Cl mX12_goBack [vr 94, vi x] σ1 (pI fun z2 σ2 => z = z2 ∧ rng z ∧ (Inv σ2 ∨ Inv (swp σ2)))) (some (vi 1)) (up σ2 0 9 0)))) ∧ ((σ (imT x.toNat) 13) = 0 → (pI fun z σ1 => Cl mX12_goBack [vr 94, vi x] σ1 (pI fun z2 σ2 => z = z2 ∧ rng z ∧ (Inv σ2 ∨ Inv (swp σ2)))) (some (vi (-1003))) σ)) := by
    intro k hk hkx ek hM
    rw [ek]
    obtain ⟨m1, m2, m3⟩ := hM
    refine ⟨by omega, fun q => ⟨h1.1, ?_⟩, fun q => ⟨_, rfl, ?_⟩⟩
    · obtain ⟨w, r⟩ := m3 (by omega)
      refine c_copyFrom rfl hk (by omega) (fun τ hF hk0 hB => ⟨rfl, ⟨_, rfl, ?_⟩⟩)
      have t : ∀ a, a ≠ 0 → a < 5 ∨ 16 < a → up τ 0 9 0 a = σ a := fun a a0 ha => by rw [up_r a0]; exact hF a (by omega)
      refine EX12_goBack ⟨rx, r_in (by omega) (by omega) (by omega) (fun _ _ => ⟨_, rfl, b1 ⟨by omega, by rw [t 135 (by omega) (by omega)]; omega, fun _ => ?_, fun z => absurd z (by rw [t 135 (by omega) (by omega)]; omega)⟩⟩) (fun q => absurd (by omega) q)⟩
      have wm := Wb_marks w
      have e129 : σ 129 x = σ k 7 := r.2.1
      have kve : kv (up τ 0 9 0) x = kv σ x := kv_congr x (fun a x y => t a (by omega) (by omega))
      refine r_backTo a (by omega) (by rw [t 129 (by omega) (by omega)]; omega) (fun y y0 y1 => ?_) (fun υ gF g94 gK => ⟨rfl, ⟨_, rfl, rfl, by decide, Or.inl ?_⟩⟩)
      · rw [t 134 (by omega) (by omega)]
        rw [t 129 (by omega) (by omega)] at y1
        have q1 := (r.2.2.2 y y0 (show y < σ k 7 by omega)).2.2.2.2
        have q2 := (Wb_m w y0 (show y < σ k 7 by omega)).2.2.2
        have q3 : σ 134 (60 * x + y) = σ (k + 11) y := q1
        rw [q3]
        exact q2
      · rw [kve] at gK
        have b5 : bk υ 5 = bk τ 5 := bkf (fun a x y => by rw [gF a (by omega) (by omega), up_r (by omega)])
        have u0 : υ 0 = up τ 0 9 0 0 := gF 0 (by omega) (by omega)
        refine hI'.bo (fun a ha => by rw [gF a (by omega) (by omega), t a (by omega) (by omega)]) (fun j hj => by rw [u0, up_f hj, hF 0 (by omega)]) (fun j hj => by rw [g94 j (by simp at hj; omega) (by simp at hj; omega), t 94 (by omega) (by omega)]) (by rw [b5]; exact w.eq hB) (by rw [b5]; exact RA.eq w r hB gK) (by rw [u0, up_s]; exact Or.inl rfl) (fun z => by rw [u0, up_s] at z; cases z)
    · refine EX12_goBack ⟨rx, r_in (by omega) (by omega) (by omega) (fun _ _ => ⟨_, rfl, b1 ⟨by omega, by omega, fun z => absurd (by omega) z, fun _ => ⟨_, rfl, rfl, by decide, Or.inl hI'⟩⟩⟩) (fun q => absurd (by omega) q)⟩
  have hx : x = 0 ∨ x = 1 := by omega
  rcases hx with rfl | rfl
  · exact main 17 rfl (by omega) rfl h10
  · exact main 29 rfl (by omega) rfl h11
