/-! ===== PURE HALF, by hand: pages as bits; finds ===== -/
def pg (B : Sg) (h p : Int) : Nat → Bool
  | 0 => false
  | n + 1 => pg B h p n || (decide (B 7 n = h) && decide (B 9 n ≤ p ∧ p ≤ B 10 n))
theorem pg_iff {B : Sg} {h p : Int} : ∀ n : Nat, pg B h p n = true ↔ ∃ k : Nat, k < n ∧ B 7 k = h ∧ B 9 k ≤ p ∧ p ≤ B 10 k
  | 0 => by
    constructor
    · intro h; cases h
    · rintro ⟨k, h, _⟩; omega
  | n + 1 => by
    rw [pg, Bool.or_eq_true, pg_iff n, Bool.and_eq_true, decide_eq_true_iff, decide_eq_true_iff]
    constructor
    · rintro (⟨k, h1, h2⟩ | h1)
      · exact ⟨k, by omega, h2⟩
      · exact ⟨n, by omega, h1⟩
    · rintro ⟨k, h1, h2⟩
      by_cases e : k = n
      · subst e; exact Or.inr h2
      · exact Or.inl ⟨k, by omega, h2⟩
theorem tn_or (a b : Int) : tn (lOr a b) = tn a ||| tn b := by
  unfold tn
  rw [← nB64, ← nB64, ← nB64]
  unfold lOr
  rw [lI_of, Int64.toBitVec_or, BitVec.toNat_or]
theorem tn_xor (a b : Int) : tn (lXor a b) = tn a ^^^ tn b := by
  unfold tn
  rw [← nB64, ← nB64, ← nB64]
  unfold lXor
  rw [lI_of, Int64.toBitVec_xor, BitVec.toNat_xor]
theorem tn_shl1 : ∀ n : Nat, n < 64 → tn (lShl 1 (n : Int)) = 2 ^ n := by decide +kernel
theorem tn_m1 : tn (-1) = 2 ^ 64 - 1 := by decide +kernel
theorem tn_inj {a b : Int} (ra : rngL a) (rb : rngL b) (h : tn a = tn b) : a = b := by
  unfold tn at h
  omega
theorem tn_bit {z : Int} {i : Nat} (hi : 64 ≤ i) : (tn z).testBit i = false := by
  apply Nat.testBit_lt_two_pow
  have h1 := tn_lt z
  have h2 : (2 : Nat) ^ 64 ≤ 2 ^ i := Nat.pow_le_pow_right (by decide) hi
  exact Nat.lt_of_lt_of_le (show tn z < 2 ^ 64 from h1) h2
/-- below(b): the bits 0 .. b - 1 -/
theorem c_below {σ : Sg} {post : Po} {b : Int} (rb : rng b) (hp : ∀ z : Int, (∀ i : Nat, i < 64 → (tn z).testBit i = decide ((i : Int) < b)) → post (some (vl z)) σ) : Cl mX2_below [vi b] σ post := by
  refine EX2_below ⟨rb, fun c => ⟨fun d => hp _ (fun i hi => ?_), fun d => hp _ (fun i hi => ?_)⟩, fun c => hp _ (fun i hi => ?_)⟩
  · obtain ⟨n, rfl⟩ : ∃ n : Nat, b = n := ⟨b.toNat, by omega⟩
    have h1 := tn_shl1 n (by omega)
    have h2 : tn 1 = 1 := by decide +kernel
    rw [tn_sub (by rw [h1, h2]; exact Nat.two_pow_pos n), h1, h2, Nat.testBit_two_pow_sub_one]
    rw [decide_eq_decide]
    omega
  · rw [tn_m1, Nat.testBit_two_pow_sub_one, decide_eq_true hi, decide_eq_true (by omega)]
  · have h2 : tn 0 = 0 := by decide +kernel
    rw [h2, Nat.zero_testBit, decide_eq_false (by omega)]
theorem span {z1 z2 q p : Int} (h1 : ∀ i : Nat, i < 64 → (tn z1).testBit i = decide ((i : Int) < q)) (h2 : ∀ i : Nat, i < 64 → (tn z2).testBit i = decide ((i : Int) < p)) {i : Nat} (hi : i < 64) : (tn (lAnd z1 (lXor z2 (-1)))).testBit i = decide (p ≤ i ∧ (i : Int) < q) := by
  rw [tn_and, tn_xor, tn_m1, Nat.testBit_and, Nat.testBit_xor, Nat.testBit_two_pow_sub_one, h1 i hi, h2 i hi, decide_eq_true hi]
  by_cases a : (i : Int) < q
  · by_cases b : (i : Int) < p
    · rw [decide_eq_true a, decide_eq_true b, decide_eq_false (by omega)]; rfl
    · rw [decide_eq_true a, decide_eq_false b, decide_eq_true (by omega)]; rfl
  · rw [decide_eq_false a, decide_eq_false (show ¬ (p ≤ i ∧ (i : Int) < q) by omega)]
    simp
def PgOK (σ : Sg) (B : Sg) (n : Nat) : Prop := ∀ h : Int, 0 ≤ h → h < 16 → (rngL (σ 79 h) ∧ rngL (σ 80 h)) ∧ ∀ i : Nat, i < 64 → (tn (σ 79 h)).testBit i = pg B h i n ∧ (tn (σ 80 h)).testBit i = pg B h (64 + i) n
theorem c_gatherP {σ : Sg} {post : Po} {k : Nat} (hk : shp[k]? = some (0, 0, 14)) (hk2 : k + 11 < 79) (hW : WfB (bk σ k)) (hp : ∀ σ' : Sg, Fr [79, 80] σ σ' → PgOK σ' (bk σ k) (σ k 7).toNat → post none σ') : Cl mX2_gather [vr 78, vr k] σ post := by
  have wm := Wb_marks hW
  have wh := Wb_heads hW
  refine EX2_gather hk ?_
  have marks : ∀ (n j : Nat) (τ : Sg), (j : Int) + n = σ k 7 → Fr [79, 80] σ τ → PgOK τ (bk σ k) j → V mX2_gather 30 [some (vr 78), some (vr k), some (vi (j : Int)), none, none] [] τ post := by
    intro n
    induction n with
    | zero =>
      intro j τ hj hF hP
      have e0 : τ k = σ k := hF k (by simp; omega)
      have ej : (σ k 7).toNat = j := by omega
      exact BX2_gather_30 hk ⟨by omega, by rw [e0]; omega, fun _ => hp τ hF (by rw [ej]; exact hP), fun z => absurd (by rw [e0]; omega) z⟩
    | succ n ih =>
      intro j τ hj hF hP
      have e0 : τ k = σ k := hF k (by simp; omega)
      have e7 : τ (k + 7) = σ (k + 7) := hF _ (by simp; omega)
      have e9 : τ (k + 9) = σ (k + 9) := hF _ (by simp; omega)
      have e10 : τ (k + 10) = σ (k + 10) := hF _ (by simp; omega)
      obtain ⟨w1, w2, w3, w4⟩ := Wb_m hW (i := j) (by omega) (by omega)
      have f7 : ∀ v, up τ 79 (σ (k + 7) j) v (k + 7) = σ (k + 7) := fun v => by rw [up_r (by omega), e7]
      refine BX2_gather_30 hk ⟨by omega, by rw [e0]; omega, fun z => absurd z (by rw [e0]; omega), fun _ => ⟨by omega, by rw [e7]; omega, ?_⟩⟩
      rw [e7, e9, e10]
      refine c_below (by omega) (fun z1 y1 => ⟨_, rfl, c_below (by omega) (fun z2 y2 => ⟨_, rfl, by rw [f7]; omega, ?_⟩)⟩)
      rw [f7]
      refine c_below (by omega) (fun z3 y3 => ⟨_, rfl, c_below (by omega) (fun z4 y4 => ⟨_, rfl, ?_⟩)⟩)
      refine ih (j + 1) _ (by omega) ((hF.u (by simp)).u (by simp)) (fun h h0 h16 => ?_)
      obtain ⟨⟨r1, r2⟩, hb⟩ := hP h h0 h16
      rw [up_r (by decide), up_k]
      by_cases e : h = σ (k + 7) j
      · subst e
        rw [pt_self, up_s]
        refine ⟨⟨rngL_of _, rngL_of _⟩, fun i hi => ?_⟩
        obtain ⟨b1, b2⟩ := hb i hi
        rw [tn_or, tn_or, Nat.testBit_or, Nat.testBit_or, b1, b2, span y1 y2 hi, span y3 y4 hi, pg, pg]
        rw [show bk σ k 7 j = σ (k + 7) j from rfl, decide_eq_true rfl, Bool.true_and, Bool.true_and]
        refine ⟨?_, ?_⟩
        · congr 1
          rw [decide_eq_decide]
          show σ (k + 9) j ≤ i ∧ (i : Int) < σ (k + 10) j + 1 ↔ σ (k + 9) j ≤ i ∧ (i : Int) ≤ σ (k + 10) j
          omega
        · congr 1
          rw [decide_eq_decide]
          show σ (k + 9) j - 64 ≤ i ∧ (i : Int) < σ (k + 10) j + 1 - 64 ↔ σ (k + 9) j ≤ 64 + i ∧ 64 + (i : Int) ≤ σ (k + 10) j
          omega
      · rw [pt_ne e, up_f e, up_r (show (80 : Nat) ≠ 79 by decide)]
        refine ⟨⟨r1, r2⟩, fun i hi => ?_⟩
        obtain ⟨b1, b2⟩ := hb i hi
        rw [b1, b2, pg, pg, show bk σ k 7 j = σ (k + 7) j from rfl, decide_eq_false (fun z => e z.symm), Bool.false_and, Bool.or_false, Bool.false_and, Bool.or_false]
        exact ⟨rfl, rfl⟩
  have zero : ∀ (n : Nat) (x : Int) (τ : Sg), 0 ≤ x → x + n = 16 → Fr [79, 80] σ τ → (∀ h : Int, 0 ≤ h → h < x → τ 79 h = 0 ∧ τ 80 h = 0) → V mX2_gather 2 [some (vr 78), some (vr k), some (vi x), none, none] [] τ post := by
    intro n
    induction n with
    | zero =>
      intro x τ x0 hx hF hT
      refine BX2_gather_2 hk ⟨by omega, fun _ => ?_, fun z => absurd (by omega) z⟩
      have := marks (σ k 7).toNat 0 τ (by omega) hF (fun h h0 h16 => by
        obtain ⟨a, b⟩ := hT h h0 (by omega)
        have z : tn 0 = 0 := by decide +kernel
        rw [a, b]
        exact ⟨⟨by decide, by decide⟩, fun i hi => by rw [z, Nat.zero_testBit]; exact ⟨rfl, rfl⟩⟩)
      exact this
    | succ n ih =>
      intro x τ x0 hx hF hT
      refine BX2_gather_2 hk ⟨by omega, fun z => absurd z (by omega), fun _ => ⟨by omega, ih (x + 1) _ (by omega) (by omega) ((hF.u (by simp)).u (by simp)) (fun h h0 h1 => ?_)⟩⟩
      rw [up_r (by decide), up_k, up_k, up_r (by decide)]
      by_cases c : h = x
      · rw [c, pt_self, pt_self]; exact ⟨rfl, rfl⟩
      · rw [pt_ne c, pt_ne c]; exact hT h h0 (by omega)
  exact zero 16 0 σ (by omega) (by omega) Fr.rf (fun p p0 p1 => by omega)
/-- pages of the heads of a set, up to head m -/
def pgs (B : Sg) (set p : Int) (n : Nat) : Nat → Bool
  | 0 => false
  | m + 1 => pgs B set p n m || (has set m && pg B m p n)
theorem pgs_iff {B : Sg} {set p : Int} {n : Nat} : ∀ m : Nat, pgs B set p n m = true ↔ ∃ h : Nat, h < m ∧ has set h = true ∧ pg B h p n = true
  | 0 => by
    constructor
    · intro h; cases h
    · rintro ⟨k, h, _⟩; omega
  | m + 1 => by
    rw [pgs, Bool.or_eq_true, pgs_iff m, Bool.and_eq_true]
    constructor
    · rintro (⟨k, h1, h2⟩ | h1)
      · exact ⟨k, by omega, h2⟩
      · exact ⟨m, by omega, h1⟩
    · rintro ⟨k, h1, h2⟩
      by_cases e : k = m
      · subst e; exact Or.inr h2
      · exact Or.inl ⟨k, by omega, h2⟩
theorem pgs_tka {B : Sg} (hW : WfB B) {set p : Int} : pgs B set p (B 0 7).toNat 16 = tka B set p (B 0 7).toNat := by
  rw [Bool.eq_iff_iff, pgs_iff, tka_iff]
  constructor
  · rintro ⟨h, h1, h2, h3⟩
    obtain ⟨k, k1, k2, k3⟩ := (pg_iff _).1 h3
    exact ⟨k, k1, by rw [k2]; exact h2, k3⟩
  · rintro ⟨k, k1, k2, k3⟩
    have w := (hW.2.2.2.1 k (by omega) (by omega)).1
    have w0 := hW.1
    refine ⟨(B 7 k).toNat, by omega, ?_, (pg_iff _).2 ⟨k, k1, by omega, k3⟩⟩
    rw [show (((B 7 k).toNat : Nat) : Int) = B 7 k by omega]
    exact k2
theorem c_sizeOf {σ B : Sg} {post : Po} {set : Int} (hW : WfB B) (hP : PgOK σ B (B 0 7).toNat) (s0 : 0 ≤ set) (s1 : set < 65536) (hp : post (some (vi (cnt (fun p => tka B set p (B 0 7).toNat) 102))) σ) : Cl mX2_sizeOf [vr 78, vi set] σ post := by
  refine EX2_sizeOf ?_
  have loop : ∀ (n j : Nat) (x y : Int), j + n = 16 → (∀ i : Nat, i < 64 → (tn x).testBit i = pgs B set i (B 0 7).toNat j ∧ (tn y).testBit i = pgs B set (64 + i) (B 0 7).toNat j) → V mX2_sizeOf 8 [some (vr 78), some (vi set), some (vl x), none, some (vl y), none, some (vi (j : Int))] [] σ post := by
    intro n
    induction n with
    | zero =>
      intro j x y hj hx
      have ej : j = 16 := by omega
      subst ej
      refine BX2_sizeOf_8 ⟨by omega, fun _ => c_bitCountL ⟨_, rfl, c_bitCountL ⟨_, rfl, ?_⟩⟩, fun q => absurd (by omega) q⟩
      have e : pcN (tn x) 64 + pcN (tn y) 64 = cnt (fun p => tka B set p (B 0 7).toNat) 102 := by
        have e1 : pcN (tn x) 64 = cnt (fun p => tka B set p (B 0 7).toNat) 64 := cnt_congr 64 (fun i hi => by
          show (tn x).testBit (i : Int).toNat = tka B set i (B 0 7).toNat
          rw [Int.toNat_natCast, (hx i hi).1, pgs_tka hW])
        have e2 : pcN (tn y) 64 = cnt (fun p => tka B set ((64 : Nat) + p) (B 0 7).toNat) 64 := cnt_congr 64 (fun i hi => by
          show (tn y).testBit (i : Int).toNat = tka B set (((64 : Nat) : Int) + i) (B 0 7).toNat
          rw [Int.toNat_natCast, (hx i hi).2, pgs_tka hW]
          rfl)
        have e3 := cnt_add (fun p => tka B set p (B 0 7).toNat) 64 64
        have e4 := cnt_add (fun p => tka B set p (B 0 7).toNat) 102 26
        have e5 : cnt (fun i => tka B set ((102 : Nat) + i) (B 0 7).toNat) 26 = 0 := cnt_z 26 (fun i hi => tka_out hW (by omega))
        rw [e1, e2, ← e3, show 64 + 64 = 102 + 26 from rfl, e4]
        show _ + cnt (fun i => tka B set ((102 : Nat) + i) (B 0 7).toNat) 26 = _
        rw [e5]
        omega
      show post (some (vi (pcN (tn x) 64 + pcN (tn y) 64))) σ
      rw [e]
      exact hp
    | succ n ih =>
      intro j x y hj hx
      refine BX2_sizeOf_8 ⟨by omega, fun q => absurd q (by omega), fun _ => c_isIn s0 (by omega) (by omega) (by omega) (fun q => ⟨_, rfl, b1' ⟨by omega, ?_⟩⟩) (fun q => ⟨_, rfl, b0' ?_⟩)⟩
      · refine ih (j + 1) _ _ (by omega) (fun i hi => ?_)
        obtain ⟨b1, b2⟩ := (hP j (by omega) (by omega)).2 i hi
        rw [tn_or, tn_or, Nat.testBit_or, Nat.testBit_or, (hx i hi).1, (hx i hi).2, b1, b2, pgs, pgs, q, Bool.true_and, Bool.true_and]
        exact ⟨rfl, rfl⟩
      · refine ih (j + 1) x y (by omega) (fun i hi => ?_)
        rw [(hx i hi).1, (hx i hi).2, pgs, pgs]
        cases h : has set j
        · rw [Bool.false_and, Bool.false_and, Bool.or_false, Bool.or_false]; exact ⟨rfl, rfl⟩
        · exact absurd h q
  have := loop 16 0 0 0 (by omega) (fun i hi => by
    have z : tn 0 = 0 := by decide +kernel
    rw [z, Nat.zero_testBit]; exact ⟨rfl, rfl⟩)
  exact this
theorem s_finds : St_finds Inv := by
  intro σ h w rh rw hI
  have hI' := hI
  obtain ⟨⟨h1, h2, h3, h4, h5⟩, h6, h7, ⟨hW, hR⟩, ⟨h10, h11⟩, h12⟩ := hI
  have wh := Wb_heads hW
  have er : σ 94 0 = σ 5 0 := Ra_heads hR
  have no : ∀ z : Int, rng z → (¬ (0 ≤ h ∧ h < σ 5 0) → z = -1001) → (0 ≤ h ∧ h < σ 5 0 → ¬ (0 ≤ w ∧ w ≤ 9) ∧ z = -1002) → Cl mX12_finds [vr 94, vi h, vi w] σ (pI fun z2 σ2 => z = z2 ∧ rng z ∧ (Inv σ2 ∨ Inv (swp σ2))) := by
    intro z rz y1 y2
    refine EX12_finds (r_noHead rh (by omega) (fun a b => ⟨_, rfl, b0' ⟨rw, r_in (by omega) (by omega) (by omega) (fun c d => ?_) (fun q => ⟨_, rfl, b0 ⟨_, rfl, (y2 (by omega)).2, rz, Or.inl hI'⟩⟩)⟩⟩) (fun q => ⟨_, rfl, b1' ⟨_, rfl, y1 (by omega), rz, Or.inl hI'⟩⟩))
    have := y2 (by omega)
    omega
  refine EX11_finds ⟨h1.1, c_hasHead rfl rh (by omega) (fun a b => ⟨_, rfl, b1 ⟨rw, fun c => ⟨_, rfl, no _ (by decide) (fun z => by omega) (fun _ => ⟨by omega, rfl⟩)⟩, fun c => ⟨fun d => ?_, fun d => ⟨_, rfl, no _ (by decide) (fun z => by omega) (fun _ => ⟨by omega, rfl⟩)⟩⟩⟩⟩) (fun q => ⟨_, rfl, b0 ⟨_, rfl, no _ (by decide) (fun _ => rfl) (fun z => absurd z q)⟩⟩)⟩
  obtain ⟨m, rfl⟩ : ∃ m : Nat, w = m := ⟨w.toNat, by omega⟩
  have bb : h < bk σ 5 0 0 := b
  have loop : ∀ (n j : Nat), j + n = m → V mX11_finds 36 [some (vr 0), none, some (vi (m : Int)), some (vi (sq (bk σ 5) h j)), some (vi (j : Int))] [] σ (pI fun z σ1 => Cl mX12_finds [vr 94, vi h, vi (m : Int)] σ1 (pI fun z2 σ2 => z = z2 ∧ rng z ∧ (Inv σ2 ∨ Inv (swp σ2)))) := by
    intro n
    induction n with
    | zero =>
      intro j hj
      have ej : j = m := by omega
      subst ej
      have sb := sq_b hW a bb j
      refine BX11_finds_36 ⟨by omega, by omega, fun _ => ⟨h1.1, c_gatherP rfl (by decide) hW (fun τ hF hP => ⟨rfl, ?_⟩)⟩, fun q => absurd (by omega) q⟩
      refine c_sizeOf hW hP sb.1 sb.2 ⟨_, rfl, ⟨_, rfl, ?_⟩⟩
      have e94 : τ 94 = σ 94 := hF 94 (by decide)
      have hR1 : RA (bk τ 94) (bk σ 5) := by
        rw [bk94 (σ := σ) (σ' := τ) (by rw [e94]) (by rw [e94]) (fun k a b => hF k (by simp; omega))]; exact hR
      have cb := cnt_b (fun p => tka (bk σ 5) (sq (bk σ 5) h j) p (bk σ 5 0 7).toNat) 102
      refine EX12_finds (r_noHead rh (by rw [e94]; omega) (fun _ _ => ⟨_, rfl, b0' ⟨rw, r_in (by omega) (by omega) (by omega) (fun _ _ => ⟨_, rfl, b1 ?_⟩) (fun q => absurd (by omega) q)⟩⟩) (fun q => absurd (by rw [e94]; omega) q))
      have rl : ∀ (n i : Nat), i + n = j → V mX12_finds 35 [some (vr 94), none, some (vi (j : Int)), some (vi (sq (bk σ 5) h i)), some (vi (i : Int))] [] τ (pI fun z2 σ2 => cnt (fun p => tka (bk σ 5) (sq (bk σ 5) h j) p (bk σ 5 0 7).toNat) 102 = z2 ∧ rng (cnt (fun p => tka (bk σ 5) (sq (bk σ 5) h j) p (bk σ 5 0 7).toNat) 102) ∧ (Inv σ2 ∨ Inv (swp σ2))) := by
        intro n
        induction n with
        | zero =>
          intro i hi
          have ei : i = j := by omega
          subst ei
          exact BX12_finds_35 ⟨by omega, by omega, fun _ => r_tickAll hW hR1 sb.1 sb.2 (fun τ2 hF2 _ => ⟨_, rfl, ⟨_, rfl, rfl, by omega, Or.inl (hI'.fr hF hF2 (by unfold ic; decide) (by unfold ic; decide) (by decide))⟩⟩), fun q => absurd (by omega) q⟩
        | succ n ih =>
          intro i hi
          have si := sq_b hW a bb i
          exact BX12_finds_35 ⟨by omega, by omega, fun q => absurd q (by omega), fun _ => r_stepOn hW hR1 si.1 si.2 ⟨_, rfl, ih (i + 1) (by omega)⟩⟩
      exact rl j 0 (by omega)
    | succ n ih =>
      intro j hj
      have sb := sq_b hW a bb j
      exact BX11_finds_36 ⟨by omega, by omega, fun q => absurd q (by omega), fun _ => ⟨h1.1, c_oneStepOn rfl hW sb.1 sb.2 ⟨_, rfl, ih (j + 1) (by omega)⟩⟩⟩
  exact loop m 0 (by omega)
