/-! ===== counting bits: the two contracts ===== -/
theorem tn_sub {a b : Int} (h : tn b ≤ tn a) : tn (a - b) = tn a - tn b := by
  unfold tn at *
  omega
theorem tn_add (a b : Int) : tn (a + b) = (tn a + tn b) % 18446744073709551616 := by
  unfold tn
  omega
theorem tn_128 (z : Int) : z % 128 = ((tn z % 128 : Nat) : Int) := by
  unfold tn
  omega
theorem tn_lt (z : Int) : tn z < 18446744073709551616 := by
  unfold tn
  omega
theorem tm_sub {a b : Int} (h : tm b ≤ tm a) : tm (a - b) = tm a - tm b := by
  unfold tm at *
  omega
theorem tm_add (a b : Int) : tm (a + b) = (tm a + tm b) % 4294967296 := by
  unfold tm
  omega
theorem tm_64 (z : Int) : z % 64 = ((tm z % 64 : Nat) : Int) := by
  unfold tm
  omega
theorem tm_lt (z : Int) : tm z < 4294967296 := by
  unfold tm
  omega
theorem add_lt8 {a b : Nat} (ha : a ≤ 3689348814741910323) (hb : b ≤ 3689348814741910323) : a + b < 18446744073709551616 ∧ a + b ≤ 7378697629483820646 := by omega
theorem add_lt8b {a : Nat} (ha : a ≤ 7378697629483820646) : a + a / 16 < 18446744073709551616 := by omega
theorem add_lt4 {a b : Nat} (ha : a ≤ 858993459) (hb : b ≤ 858993459) : a + b < 4294967296 ∧ a + b ≤ 1717986918 := by omega
theorem add_lt4b {a : Nat} (ha : a ≤ 1717986918) : a + a / 16 < 4294967296 := by omega
theorem mk51_8 : mk8 51 8 = 3689348814741910323 := by decide +kernel
theorem mk51_4 : mk8 51 4 = 858993459 := by decide +kernel
theorem pcb8 (X : Nat) (hX : X < 18446744073709551616) : ∃ b0 b1 b2 b3 b4 b5 b6 b7 : Nat, (b0 ≤ 8 ∧ b1 ≤ 8 ∧ b2 ≤ 8 ∧ b3 ≤ 8 ∧ b4 ≤ 8 ∧ b5 ≤ 8 ∧ b6 ≤ 8 ∧ b7 ≤ 8) ∧ bf3 8 (bf2 8 (bf1 8 X)) = b0 + 256 * (b1 + 256 * (b2 + 256 * (b3 + 256 * (b4 + 256 * (b5 + 256 * (b6 + 256 * b7)))))) ∧ pcN X 64 = (b0 : Int) + (b1 : Int) + (b2 : Int) + (b3 : Int) + (b4 : Int) + (b5 : Int) + (b6 : Int) + (b7 : Int) := by
  have hm : X / 256 / 256 / 256 / 256 / 256 / 256 / 256 % 256 = X / 256 / 256 / 256 / 256 / 256 / 256 / 256 := Nat.mod_eq_of_lt (by omega)
  have g7 : bf3 8 (bf2 8 (bf1 8 (X))) = 256 * bf3 7 (bf2 7 (bf1 7 (X / 256))) + bf3 1 (bf2 1 (bf1 1 (X % 256))) := bG_s 7 (X)
  have g6 : bf3 7 (bf2 7 (bf1 7 (X / 256))) = 256 * bf3 6 (bf2 6 (bf1 6 (X / 256 / 256))) + bf3 1 (bf2 1 (bf1 1 (X / 256 % 256))) := bG_s 6 (X / 256)
  have g5 : bf3 6 (bf2 6 (bf1 6 (X / 256 / 256))) = 256 * bf3 5 (bf2 5 (bf1 5 (X / 256 / 256 / 256))) + bf3 1 (bf2 1 (bf1 1 (X / 256 / 256 % 256))) := bG_s 5 (X / 256 / 256)
  have g4 : bf3 5 (bf2 5 (bf1 5 (X / 256 / 256 / 256))) = 256 * bf3 4 (bf2 4 (bf1 4 (X / 256 / 256 / 256 / 256))) + bf3 1 (bf2 1 (bf1 1 (X / 256 / 256 / 256 % 256))) := bG_s 4 (X / 256 / 256 / 256)
  have g3 : bf3 4 (bf2 4 (bf1 4 (X / 256 / 256 / 256 / 256))) = 256 * bf3 3 (bf2 3 (bf1 3 (X / 256 / 256 / 256 / 256 / 256))) + bf3 1 (bf2 1 (bf1 1 (X / 256 / 256 / 256 / 256 % 256))) := bG_s 3 (X / 256 / 256 / 256 / 256)
  have g2 : bf3 3 (bf2 3 (bf1 3 (X / 256 / 256 / 256 / 256 / 256))) = 256 * bf3 2 (bf2 2 (bf1 2 (X / 256 / 256 / 256 / 256 / 256 / 256))) + bf3 1 (bf2 1 (bf1 1 (X / 256 / 256 / 256 / 256 / 256 % 256))) := bG_s 2 (X / 256 / 256 / 256 / 256 / 256)
  have g1 : bf3 2 (bf2 2 (bf1 2 (X / 256 / 256 / 256 / 256 / 256 / 256))) = 256 * bf3 1 (bf2 1 (bf1 1 (X / 256 / 256 / 256 / 256 / 256 / 256 / 256))) + bf3 1 (bf2 1 (bf1 1 (X / 256 / 256 / 256 / 256 / 256 / 256 % 256))) := bG_s 1 (X / 256 / 256 / 256 / 256 / 256 / 256)
  have p0 : pcN (X) 64 = ((bf3 1 (bf2 1 (bf1 1 (X % 256))) : Nat) : Int) + pcN (X / 256) 56 := pc_s (X) 56
  have p1 : pcN (X / 256) 56 = ((bf3 1 (bf2 1 (bf1 1 (X / 256 % 256))) : Nat) : Int) + pcN (X / 256 / 256) 48 := pc_s (X / 256) 48
  have p2 : pcN (X / 256 / 256) 48 = ((bf3 1 (bf2 1 (bf1 1 (X / 256 / 256 % 256))) : Nat) : Int) + pcN (X / 256 / 256 / 256) 40 := pc_s (X / 256 / 256) 40
  have p3 : pcN (X / 256 / 256 / 256) 40 = ((bf3 1 (bf2 1 (bf1 1 (X / 256 / 256 / 256 % 256))) : Nat) : Int) + pcN (X / 256 / 256 / 256 / 256) 32 := pc_s (X / 256 / 256 / 256) 32
  have p4 : pcN (X / 256 / 256 / 256 / 256) 32 = ((bf3 1 (bf2 1 (bf1 1 (X / 256 / 256 / 256 / 256 % 256))) : Nat) : Int) + pcN (X / 256 / 256 / 256 / 256 / 256) 24 := pc_s (X / 256 / 256 / 256 / 256) 24
  have p5 : pcN (X / 256 / 256 / 256 / 256 / 256) 24 = ((bf3 1 (bf2 1 (bf1 1 (X / 256 / 256 / 256 / 256 / 256 % 256))) : Nat) : Int) + pcN (X / 256 / 256 / 256 / 256 / 256 / 256) 16 := pc_s (X / 256 / 256 / 256 / 256 / 256) 16
  have p6 : pcN (X / 256 / 256 / 256 / 256 / 256 / 256) 16 = ((bf3 1 (bf2 1 (bf1 1 (X / 256 / 256 / 256 / 256 / 256 / 256 % 256))) : Nat) : Int) + pcN (X / 256 / 256 / 256 / 256 / 256 / 256 / 256) 8 := pc_s (X / 256 / 256 / 256 / 256 / 256 / 256) 8
  have p7 : pcN (X / 256 / 256 / 256 / 256 / 256 / 256 / 256) 8 = ((bf3 1 (bf2 1 (bf1 1 (X / 256 / 256 / 256 / 256 / 256 / 256 / 256 % 256))) : Nat) : Int) + pcN (X / 256 / 256 / 256 / 256 / 256 / 256 / 256 / 256) 0 := pc_s (X / 256 / 256 / 256 / 256 / 256 / 256 / 256) 0
  have pz : pcN (X / 256 / 256 / 256 / 256 / 256 / 256 / 256 / 256) 0 = 0 := rfl
  rw [hm] at p7
  have l0 := (bt4 (X % 256) (Nat.mod_lt _ (by decide))).1
  have l1 := (bt4 (X / 256 % 256) (Nat.mod_lt _ (by decide))).1
  have l2 := (bt4 (X / 256 / 256 % 256) (Nat.mod_lt _ (by decide))).1
  have l3 := (bt4 (X / 256 / 256 / 256 % 256) (Nat.mod_lt _ (by decide))).1
  have l4 := (bt4 (X / 256 / 256 / 256 / 256 % 256) (Nat.mod_lt _ (by decide))).1
  have l5 := (bt4 (X / 256 / 256 / 256 / 256 / 256 % 256) (Nat.mod_lt _ (by decide))).1
  have l6 := (bt4 (X / 256 / 256 / 256 / 256 / 256 / 256 % 256) (Nat.mod_lt _ (by decide))).1
  have l7 := (bt4 (X / 256 / 256 / 256 / 256 / 256 / 256 / 256) (by omega)).1
  refine ⟨_, _, _, _, _, _, _, _, ⟨l0, l1, l2, l3, l4, l5, l6, l7⟩, ?_, ?_⟩
  · show bf3 8 (bf2 8 (bf1 8 (X))) = _
    rw [g7, g6, g5, g4, g3, g2, g1]
    clear hX hm g1 g2 g3 g4 g5 g6 g7 p0 p1 p2 p3 p4 p5 p6 p7 pz l0 l1 l2 l3 l4 l5 l6 l7
    generalize bf3 1 (bf2 1 (bf1 1 (X % 256))) = c0
    generalize bf3 1 (bf2 1 (bf1 1 (X / 256 % 256))) = c1
    generalize bf3 1 (bf2 1 (bf1 1 (X / 256 / 256 % 256))) = c2
    generalize bf3 1 (bf2 1 (bf1 1 (X / 256 / 256 / 256 % 256))) = c3
    generalize bf3 1 (bf2 1 (bf1 1 (X / 256 / 256 / 256 / 256 % 256))) = c4
    generalize bf3 1 (bf2 1 (bf1 1 (X / 256 / 256 / 256 / 256 / 256 % 256))) = c5
    generalize bf3 1 (bf2 1 (bf1 1 (X / 256 / 256 / 256 / 256 / 256 / 256 % 256))) = c6
    generalize bf3 1 (bf2 1 (bf1 1 (X / 256 / 256 / 256 / 256 / 256 / 256 / 256))) = c7
    omega
  · rw [p0, p1, p2, p3, p4, p5, p6, p7, pz]
    clear hX hm g1 g2 g3 g4 g5 g6 g7 p0 p1 p2 p3 p4 p5 p6 p7 pz l0 l1 l2 l3 l4 l5 l6 l7
    generalize bf3 1 (bf2 1 (bf1 1 (X % 256))) = c0
    generalize bf3 1 (bf2 1 (bf1 1 (X / 256 % 256))) = c1
    generalize bf3 1 (bf2 1 (bf1 1 (X / 256 / 256 % 256))) = c2
    generalize bf3 1 (bf2 1 (bf1 1 (X / 256 / 256 / 256 % 256))) = c3
    generalize bf3 1 (bf2 1 (bf1 1 (X / 256 / 256 / 256 / 256 % 256))) = c4
    generalize bf3 1 (bf2 1 (bf1 1 (X / 256 / 256 / 256 / 256 / 256 % 256))) = c5
    generalize bf3 1 (bf2 1 (bf1 1 (X / 256 / 256 / 256 / 256 / 256 / 256 % 256))) = c6
    generalize bf3 1 (bf2 1 (bf1 1 (X / 256 / 256 / 256 / 256 / 256 / 256 / 256))) = c7
    omega
theorem pcb4 (X : Nat) (hX : X < 4294967296) : ∃ b0 b1 b2 b3 : Nat, (b0 ≤ 8 ∧ b1 ≤ 8 ∧ b2 ≤ 8 ∧ b3 ≤ 8) ∧ bf3 4 (bf2 4 (bf1 4 X)) = b0 + 256 * (b1 + 256 * (b2 + 256 * b3)) ∧ pcN X 32 = (b0 : Int) + (b1 : Int) + (b2 : Int) + (b3 : Int) := by
  have hm : X / 256 / 256 / 256 % 256 = X / 256 / 256 / 256 := Nat.mod_eq_of_lt (by omega)
  have g3 : bf3 4 (bf2 4 (bf1 4 (X))) = 256 * bf3 3 (bf2 3 (bf1 3 (X / 256))) + bf3 1 (bf2 1 (bf1 1 (X % 256))) := bG_s 3 (X)
  have g2 : bf3 3 (bf2 3 (bf1 3 (X / 256))) = 256 * bf3 2 (bf2 2 (bf1 2 (X / 256 / 256))) + bf3 1 (bf2 1 (bf1 1 (X / 256 % 256))) := bG_s 2 (X / 256)
  have g1 : bf3 2 (bf2 2 (bf1 2 (X / 256 / 256))) = 256 * bf3 1 (bf2 1 (bf1 1 (X / 256 / 256 / 256))) + bf3 1 (bf2 1 (bf1 1 (X / 256 / 256 % 256))) := bG_s 1 (X / 256 / 256)
  have p0 : pcN (X) 32 = ((bf3 1 (bf2 1 (bf1 1 (X % 256))) : Nat) : Int) + pcN (X / 256) 24 := pc_s (X) 24
  have p1 : pcN (X / 256) 24 = ((bf3 1 (bf2 1 (bf1 1 (X / 256 % 256))) : Nat) : Int) + pcN (X / 256 / 256) 16 := pc_s (X / 256) 16
  have p2 : pcN (X / 256 / 256) 16 = ((bf3 1 (bf2 1 (bf1 1 (X / 256 / 256 % 256))) : Nat) : Int) + pcN (X / 256 / 256 / 256) 8 := pc_s (X / 256 / 256) 8
  have p3 : pcN (X / 256 / 256 / 256) 8 = ((bf3 1 (bf2 1 (bf1 1 (X / 256 / 256 / 256 % 256))) : Nat) : Int) + pcN (X / 256 / 256 / 256 / 256) 0 := pc_s (X / 256 / 256 / 256) 0
  have pz : pcN (X / 256 / 256 / 256 / 256) 0 = 0 := rfl
  rw [hm] at p3
  have l0 := (bt4 (X % 256) (Nat.mod_lt _ (by decide))).1
  have l1 := (bt4 (X / 256 % 256) (Nat.mod_lt _ (by decide))).1
  have l2 := (bt4 (X / 256 / 256 % 256) (Nat.mod_lt _ (by decide))).1
  have l3 := (bt4 (X / 256 / 256 / 256) (by omega)).1
  refine ⟨_, _, _, _, ⟨l0, l1, l2, l3⟩, ?_, ?_⟩
  · show bf3 4 (bf2 4 (bf1 4 (X))) = _
    rw [g3, g2, g1]
    clear hX hm g1 g2 g3 p0 p1 p2 p3 pz l0 l1 l2 l3
    generalize bf3 1 (bf2 1 (bf1 1 (X % 256))) = c0
    generalize bf3 1 (bf2 1 (bf1 1 (X / 256 % 256))) = c1
    generalize bf3 1 (bf2 1 (bf1 1 (X / 256 / 256 % 256))) = c2
    generalize bf3 1 (bf2 1 (bf1 1 (X / 256 / 256 / 256))) = c3
    omega
  · rw [p0, p1, p2, p3, pz]
    clear hX hm g1 g2 g3 p0 p1 p2 p3 pz l0 l1 l2 l3
    generalize bf3 1 (bf2 1 (bf1 1 (X % 256))) = c0
    generalize bf3 1 (bf2 1 (bf1 1 (X / 256 % 256))) = c1
    generalize bf3 1 (bf2 1 (bf1 1 (X / 256 / 256 % 256))) = c2
    generalize bf3 1 (bf2 1 (bf1 1 (X / 256 / 256 / 256))) = c3
    omega
theorem lbit {x e1 e2 e3 e4 e5 : Int} (h1 : e1 = x - lAnd (lUshr x 1) 6148914691236517205) (h2 : e2 = lAnd e1 3689348814741910323 + lAnd (lUshr e1 2) 3689348814741910323) (h3 : e3 = lAnd (e2 + lUshr e2 4) 1085102592571150095) (h4 : e4 = e3 + lUshr e3 8) (h5 : e5 = e4 + lUshr e4 16) : iAnd (e5 + lUshr e5 32) 127 = pcN (tn x) 64 := by
  have m1 : tn 6148914691236517205 = mk8 85 8 := by decide +kernel
  have m2 : tn 3689348814741910323 = mk8 51 8 := by decide +kernel
  have m3 : tn 1085102592571150095 = mk8 15 8 := by decide +kernel
  have sh : ∀ (a : Int) (k : Nat), k < 64 → tn (lUshr a (k : Int)) = tn a / 2 ^ k := fun a k hk => tn_ushr a hk
  have v1 : tn e1 = bf1 8 (tn x) := by
    have a : tn (lAnd (lUshr x 1) 6148914691236517205) = (tn x / 2) &&& mk8 85 8 := by
      rw [tn_and, m1]
      exact congrArg (fun z : Nat => z &&& mk8 85 8) (sh x 1 (by decide))
    have b : tn (lAnd (lUshr x 1) 6148914691236517205) ≤ tn x := by
      rw [a]
      exact Nat.le_trans Nat.and_le_left (Nat.div_le_self _ _)
    rw [h1, tn_sub b, a]
    rfl
  have v2 : tn e2 = bf2 8 (tn e1) ∧ tn e2 ≤ 7378697629483820646 := by
    have a : tn (lAnd e1 3689348814741910323) = tn e1 &&& mk8 51 8 := by rw [tn_and, m2]
    have b : tn (lAnd (lUshr e1 2) 3689348814741910323) = (tn e1 / 4) &&& mk8 51 8 := by
      rw [tn_and, m2]
      exact congrArg (fun z : Nat => z &&& mk8 51 8) (sh e1 2 (by decide))
    have c1 : tn e1 &&& mk8 51 8 ≤ 3689348814741910323 := by
      rw [← mk51_8]
      exact Nat.and_le_right
    have c2 : (tn e1 / 4) &&& mk8 51 8 ≤ 3689348814741910323 := by
      rw [← mk51_8]
      exact Nat.and_le_right
    have c3 := add_lt8 c1 c2
    rw [h2, tn_add, a, b, Nat.mod_eq_of_lt c3.1]
    exact ⟨rfl, c3.2⟩
  have v3 : tn e3 = bf3 8 (tn e2) := by
    have a : tn (lUshr e2 4) = tn e2 / 16 := sh e2 4 (by decide)
    rw [h3, tn_and, m3, tn_add, a, Nat.mod_eq_of_lt (add_lt8b v2.2)]
    rfl
  obtain ⟨b0, b1, b2, b3, b4, b5, b6, b7, ⟨l0, l1, l2, l3, l4, l5, l6, l7⟩, q1, q2⟩ := pcb8 (tn x) (tn_lt x)
  have t3 : tn e3 = b0 + 256 * (b1 + 256 * (b2 + 256 * (b3 + 256 * (b4 + 256 * (b5 + 256 * (b6 + 256 * b7)))))) := by rw [v3, v2.1, v1, q1]
  have t4 : tn e4 = (tn e3 + tn e3 / 256) % 18446744073709551616 := by
    rw [h4, tn_add]
    exact congrArg (fun z : Nat => (tn e3 + z) % 18446744073709551616) (sh e3 8 (by decide))
  have t5 : tn e5 = (tn e4 + tn e4 / 65536) % 18446744073709551616 := by
    rw [h5, tn_add]
    exact congrArg (fun z : Nat => (tn e4 + z) % 18446744073709551616) (sh e4 16 (by decide))
  have t6 : tn (e5 + lUshr e5 32) = (tn e5 + tn e5 / 4294967296) % 18446744073709551616 := by
    rw [tn_add]
    exact congrArg (fun z : Nat => (tn e5 + z) % 18446744073709551616) (sh e5 32 (by decide))
  have f := fin8 l0 l1 l2 l3 l4 l5 l6 l7 t3 t4 t5 t6
  rw [iAnd_low _ 7 127 (by decide) (by decide), q2]
  show (e5 + lUshr e5 32) % 128 = _
  rw [tn_128, f]
  simp
theorem ibit {x e1 e2 e3 e4 : Int} (h1 : e1 = x - iAnd (iUshr x 1) 1431655765) (h2 : e2 = iAnd e1 858993459 + iAnd (iUshr e1 2) 858993459) (h3 : e3 = iAnd (e2 + iUshr e2 4) 252645135) (h4 : e4 = e3 + iUshr e3 8) : iAnd (e4 + iUshr e4 16) 63 = pcN (tm x) 32 := by
  have m1 : tm 1431655765 = mk8 85 4 := by decide +kernel
  have m2 : tm 858993459 = mk8 51 4 := by decide +kernel
  have m3 : tm 252645135 = mk8 15 4 := by decide +kernel
  have sh : ∀ (a : Int) (k : Nat), k < 32 → tm (iUshr a (k : Int)) = tm a / 2 ^ k := fun a k hk => tm_ushr a hk
  have v1 : tm e1 = bf1 4 (tm x) := by
    have a : tm (iAnd (iUshr x 1) 1431655765) = (tm x / 2) &&& mk8 85 4 := by
      rw [tm_and, m1]
      exact congrArg (fun z : Nat => z &&& mk8 85 4) (sh x 1 (by decide))
    have b : tm (iAnd (iUshr x 1) 1431655765) ≤ tm x := by
      rw [a]
      exact Nat.le_trans Nat.and_le_left (Nat.div_le_self _ _)
    rw [h1, tm_sub b, a]
    rfl
  have v2 : tm e2 = bf2 4 (tm e1) ∧ tm e2 ≤ 1717986918 := by
    have a : tm (iAnd e1 858993459) = tm e1 &&& mk8 51 4 := by rw [tm_and, m2]
    have b : tm (iAnd (iUshr e1 2) 858993459) = (tm e1 / 4) &&& mk8 51 4 := by
      rw [tm_and, m2]
      exact congrArg (fun z : Nat => z &&& mk8 51 4) (sh e1 2 (by decide))
    have c1 : tm e1 &&& mk8 51 4 ≤ 858993459 := by
      rw [← mk51_4]
      exact Nat.and_le_right
    have c2 : (tm e1 / 4) &&& mk8 51 4 ≤ 858993459 := by
      rw [← mk51_4]
      exact Nat.and_le_right
    have c3 := add_lt4 c1 c2
    rw [h2, tm_add, a, b, Nat.mod_eq_of_lt c3.1]
    exact ⟨rfl, c3.2⟩
  have v3 : tm e3 = bf3 4 (tm e2) := by
    have a : tm (iUshr e2 4) = tm e2 / 16 := sh e2 4 (by decide)
    rw [h3, tm_and, m3, tm_add, a, Nat.mod_eq_of_lt (add_lt4b v2.2)]
    rfl
  obtain ⟨b0, b1, b2, b3, ⟨l0, l1, l2, l3⟩, q1, q2⟩ := pcb4 (tm x) (tm_lt x)
  have t3 : tm e3 = b0 + 256 * (b1 + 256 * (b2 + 256 * b3)) := by rw [v3, v2.1, v1, q1]
  have t4 : tm e4 = (tm e3 + tm e3 / 256) % 4294967296 := by
    rw [h4, tm_add]
    exact congrArg (fun z : Nat => (tm e3 + z) % 4294967296) (sh e3 8 (by decide))
  have t5 : tm (e4 + iUshr e4 16) = (tm e4 + tm e4 / 65536) % 4294967296 := by
    rw [tm_add]
    exact congrArg (fun z : Nat => (tm e4 + z) % 4294967296) (sh e4 16 (by decide))
  have f := fin4 l0 l1 l2 l3 t3 t4 t5
  rw [iAnd_low _ 6 63 (by decide) (by decide), q2]
  show (e4 + iUshr e4 16) % 64 = _
  rw [tm_64, f]
  simp
theorem c_bitCountL {σ : Sg} {post : Po} {x : Int} (hp : post (some (vi (pcN (tn x) 64))) σ) : Cl mJ13_bitCount_95d88 [vl x] σ post :=
  EJ13_bitCount_95d88 (by rw [lbit rfl rfl rfl rfl rfl]; exact hp)
theorem c_bitCount {σ : Sg} {post : Po} {x : Int} (x0 : 0 ≤ x) (x1 : x < 65536) (hp : post (some (vi (cnt (fun i => has x i) 16))) σ) : Cl mJ6_bitCount_0f7a4 [vi x] σ post := by
  refine EJ6_bitCount_0f7a4 ?_
  rw [ibit rfl rfl rfl rfl]
  have e : pcN (tm x) 32 = cnt (fun i => has x i) 16 := by
    unfold pcN
    rw [show (32 : Nat) = 16 + 16 from rfl, cnt_add]
    have e2 : tm x = x.toNat := by unfold tm; omega
    have z : cnt (fun i => (tm x).testBit (((16 : Nat) : Int) + i).toNat) 16 = cnt (fun _ => false) 16 := cnt_congr 16 (fun i hi => by
      show (tm x).testBit (((16 : Nat) : Int) + (i : Int)).toNat = false
      rw [e2]
      apply Nat.testBit_lt_two_pow
      have : (2 : Nat) ^ 16 ≤ 2 ^ (((16 : Nat) : Int) + (i : Int)).toNat := Nat.pow_le_pow_right (by decide) (by omega)
      omega)
    rw [z, e2]
    have z0 : cnt (fun _ => false) 16 = 0 := by decide
    rw [z0]
    show cnt (fun i => x.toNat.testBit i.toNat) 16 + 0 = cnt (fun i => x.toNat.testBit i.toNat) 16
    omega
  rw [e]
  exact hp
