/-! ===== PURE HALF, by hand: bits, sets, counts ===== -/
theorem pw32 : ((2 ^ 32 : Nat) : Int) = 4294967296 := by decide
theorem pw64 : ((2 ^ 64 : Nat) : Int) = 18446744073709551616 := by decide
theorem tI32 {x : Int32} {n : Nat} (h : x.toBitVec.toNat = n) (hn : n < 2147483648) : x.toInt = (n : Int) := by
  show x.toBitVec.toInt = _
  rw [BitVec.toInt_eq_toNat_of_lt (by rw [h]; omega), h]
theorem tI64 {x : Int64} {n : Nat} (h : x.toBitVec.toNat = n) (hn : n < 9223372036854775808) : x.toInt = (n : Int) := by
  show x.toBitVec.toInt = _
  rw [BitVec.toInt_eq_toNat_of_lt (by rw [h]; omega), h]
theorem nB32 (a : Int) : (iI a).toBitVec.toNat = (a % 4294967296).toNat := by
  show (BitVec.ofInt 32 a).toNat = _
  rw [BitVec.toNat_ofInt, pw32]
theorem nB64 (a : Int) : (lI a).toBitVec.toNat = (a % 18446744073709551616).toNat := by
  show (BitVec.ofInt 64 a).toNat = _
  rw [BitVec.toNat_ofInt, pw64]
theorem iAnd_e {a b : Int} (ha : 0 ≤ a) (ha2 : a < 2147483648) (hb : 0 ≤ b) (hb2 : b < 2147483648) : iAnd a b = ((a.toNat &&& b.toNat : Nat) : Int) := by
  have h1 : a.toNat &&& b.toNat ≤ a.toNat := Nat.and_le_left
  refine tI32 ?_ (by omega)
  rw [Int32.toBitVec_and, BitVec.toNat_and, nB32, nB32, Int.emod_eq_of_lt ha (by omega), Int.emod_eq_of_lt hb (by omega)]
theorem iOr_e {a b : Int} (ha : 0 ≤ a) (ha2 : a < 2147483648) (hb : 0 ≤ b) (hb2 : b < 2147483648) : iOr a b = ((a.toNat ||| b.toNat : Nat) : Int) := by
  have h1 : a.toNat ||| b.toNat < 2 ^ 31 := Nat.or_lt_two_pow (by omega) (by omega)
  refine tI32 ?_ (by omega)
  rw [Int32.toBitVec_or, BitVec.toNat_or, nB32, nB32, Int.emod_eq_of_lt ha (by omega), Int.emod_eq_of_lt hb (by omega)]
theorem lAnd_e {a b : Int} (ha : 0 ≤ a) (ha2 : a < 9223372036854775808) (hb : 0 ≤ b) (hb2 : b < 9223372036854775808) : lAnd a b = ((a.toNat &&& b.toNat : Nat) : Int) := by
  have h1 : a.toNat &&& b.toNat ≤ a.toNat := Nat.and_le_left
  refine tI64 ?_ (by omega)
  rw [Int64.toBitVec_and, BitVec.toNat_and, nB64, nB64, Int.emod_eq_of_lt ha (by omega), Int.emod_eq_of_lt hb (by omega)]
theorem lOr_e {a b : Int} (ha : 0 ≤ a) (ha2 : a < 9223372036854775808) (hb : 0 ≤ b) (hb2 : b < 9223372036854775808) : lOr a b = ((a.toNat ||| b.toNat : Nat) : Int) := by
  have h1 : a.toNat ||| b.toNat < 2 ^ 63 := Nat.or_lt_two_pow (by omega) (by omega)
  refine tI64 ?_ (by omega)
  rw [Int64.toBitVec_or, BitVec.toNat_or, nB64, nB64, Int.emod_eq_of_lt ha (by omega), Int.emod_eq_of_lt hb (by omega)]
theorem sh_tab : ∀ n : Nat, n < 32 → ((iI (n : Int) &&& 31).toBitVec.smod 32).toNat = n := by decide +kernel
theorem shL_tab : ∀ n : Nat, n < 64 → (((iI (n : Int)).toInt64 &&& 63).toBitVec.smod 64).toNat = n := by decide +kernel
theorem ushL_tab : ∀ n : Nat, n < 64 → (((iI (n : Int)).toInt64.toUInt64 &&& Int64.toUInt64 63).toBitVec % 64).toNat = n := by decide +kernel
theorem iShr_e {a b : Int} (ra : rng a) (h0 : 0 ≤ b) (h1 : b < 32) : iShr a b = a / 2 ^ b.toNat := by
  obtain ⟨n, rfl⟩ : ∃ n : Nat, b = n := ⟨b.toNat, by omega⟩
  unfold iShr
  rw [pk_shr _ _ n (sh_tab n (by omega)), iI_toInt ra, Int.shiftRight_eq_div_pow]
  simp
theorem iShl1 : ∀ n : Nat, n < 31 → iShl 1 (n : Int) = ((2 ^ n : Nat) : Int) := by decide +kernel
theorem iShl0 : ∀ n : Nat, n < 31 → iShl 0 (n : Int) = 0 := by decide +kernel
theorem iShl1_e {h : Int} (h0 : 0 ≤ h) (h1 : h < 31) : iShl 1 h = ((2 ^ h.toNat : Nat) : Int) := by
  obtain ⟨n, rfl⟩ : ∃ n : Nat, h = n := ⟨h.toNat, by omega⟩
  exact iShl1 n (by omega)
theorem iShl0_e {h : Int} (h0 : 0 ≤ h) (h1 : h < 31) : iShl 0 h = 0 := by
  obtain ⟨n, rfl⟩ : ∃ n : Nat, h = n := ⟨h.toNat, by omega⟩
  exact iShl0 n (by omega)
theorem lUshr_e {a b : Int} (h0 : 0 ≤ a) (h1 : a < 9223372036854775808) (hb0 : 0 ≤ b) (hb1 : b < 64) : lUshr a b = a / 2 ^ b.toNat := by
  obtain ⟨n, rfl⟩ : ∃ n : Nat, b = n := ⟨b.toNat, by omega⟩
  obtain ⟨m, rfl⟩ : ∃ m : Nat, a = m := ⟨a.toNat, by omega⟩
  have hs := ushL_tab n (by omega)
  have e : ((lI (m : Int)).toUInt64 >>> ((iI (n : Int)).toInt64.toUInt64 &&& Int64.toUInt64 63)).toInt64.toBitVec = (lI (m : Int)).toBitVec >>> n := by
    have h2 := UInt64.toBitVec_shiftRight (lI (m : Int)).toUInt64 ((iI (n : Int)).toInt64.toUInt64 &&& Int64.toUInt64 63)
    exact h2.trans (congrArg (fun z : Nat => (lI (m : Int)).toBitVec >>> z) hs)
  have hd : m / 2 ^ n ≤ m := Nat.div_le_self _ _
  have h3 := tI64 (x := ((lI (m : Int)).toUInt64 >>> ((iI (n : Int)).toInt64.toUInt64 &&& Int64.toUInt64 63)).toInt64) (n := m / 2 ^ n) (by
    rw [e, BitVec.toNat_ushiftRight, Nat.shiftRight_eq_div_pow, nB64, Int.emod_eq_of_lt (by omega) (by omega), Int.toNat_natCast]) (by omega)
  unfold lUshr
  rw [h3]
  simp
theorem lShl_e {a b : Int} (h0 : 0 ≤ a) (hb0 : 0 ≤ b) (hb1 : b < 64) (h1 : a * 2 ^ b.toNat < 9223372036854775808) : lShl a b = a * 2 ^ b.toNat := by
  obtain ⟨n, rfl⟩ : ∃ n : Nat, b = n := ⟨b.toNat, by omega⟩
  obtain ⟨m, rfl⟩ : ∃ m : Nat, a = m := ⟨a.toNat, by omega⟩
  have h2 : m * 2 ^ n < 9223372036854775808 := by
    have e : ((m * 2 ^ n : Nat) : Int) = (m : Int) * 2 ^ (n : Int).toNat := by simp
    omega
  have h3 : m ≤ m * 2 ^ n := Nat.le_mul_of_pos_right _ (Nat.two_pow_pos n)
  have hs := shL_tab n (by omega)
  have h4 := tI64 (x := lI (m : Int) <<< ((iI (n : Int)).toInt64 &&& 63)) (n := m * 2 ^ n) (by
    rw [Int64.toBitVec_shiftLeft, BitVec.shiftLeft_eq', hs, BitVec.toNat_shiftLeft, nB64, Int.emod_eq_of_lt (by omega) (by omega), Int.toNat_natCast, Nat.shiftLeft_eq, Nat.mod_eq_of_lt (by omega)]) h2
  unfold lShl
  rw [h4]
  simp
/-- a number's lowest bits -/
theorem iAnd_low (z : Int) (k : Nat) (m : Int) (hk : k ≤ 30) (hm : m = 2 ^ k - 1) : iAnd z m = z % 2 ^ k := by
  have hp : (2 : Nat) ^ k ≤ 2 ^ 30 := Nat.pow_le_pow_right (by omega) hk
  have hp0 : 0 < (2 : Nat) ^ k := Nat.two_pow_pos k
  have e : ((2 ^ k : Nat) : Int) = 2 ^ k := by simp
  have hm2 : (iI m).toBitVec.toNat = 2 ^ k - 1 := by
    rw [nB32, Int.emod_eq_of_lt (by omega) (by omega)]
    omega
  have h1 := tI32 (x := iI z &&& iI m) (n := (z % 4294967296).toNat % 2 ^ k) (by
    rw [Int32.toBitVec_and, BitVec.toNat_and, nB32, hm2, Nat.and_two_pow_sub_one_eq_mod]) (by
    have := Nat.mod_lt (z % 4294967296).toNat hp0
    omega)
  unfold iAnd
  rw [h1]
  have h2 : (2 : Int) ^ k ∣ 4294967296 := by
    refine ⟨2 ^ (32 - k), ?_⟩
    rw [← Int.pow_add, show k + (32 - k) = 32 by omega]
    decide
  have h3 : (((z % 4294967296).toNat % 2 ^ k : Nat) : Int) = (z % 4294967296) % 2 ^ k := by
    rw [Int.natCast_emod, e, Int.toNat_of_nonneg (Int.emod_nonneg _ (by decide))]
  rw [h3, Int.emod_emod_of_dvd _ h2]
/-! sets: bit h of a number -/
def has (s h : Int) : Bool := s.toNat.testBit h.toNat
theorem has_e {s h : Int} (s0 : 0 ≤ s) (s1 : s < 2147483648) (h0 : 0 ≤ h) (h1 : h < 32) : iAnd (iShr s h) 1 = if has s h = true then 1 else 0 := by
  obtain ⟨m, rfl⟩ : ∃ m : Nat, s = m := ⟨s.toNat, by omega⟩
  rw [iShr_e ⟨by omega, by omega⟩ h0 h1, iAnd_low _ 1 1 (by decide) (by decide)]
  unfold has
  rw [Nat.testBit_eq_decide_div_mod_eq, Int.toNat_natCast]
  have e : ((m / 2 ^ h.toNat % 2 : Nat) : Int) = (m : Int) / 2 ^ h.toNat % 2 ^ 1 := by simp
  rw [← e]
  have h2 := Nat.mod_lt (m / 2 ^ h.toNat) (show 0 < 2 by decide)
  by_cases hq : m / 2 ^ h.toNat % 2 = 1
  · rw [hq, if_pos (by simp)]; rfl
  · rw [show m / 2 ^ h.toNat % 2 = 0 by omega, if_neg (by simp)]; rfl
theorem has_ext {s t : Int} (s0 : 0 ≤ s) (t0 : 0 ≤ t) (h : ∀ i : Int, 0 ≤ i → has s i = has t i) : s = t := by
  have e : s.toNat = t.toNat := Nat.eq_of_testBit_eq (fun i => by
    have := h i (by omega)
    unfold has at this
    simpa using this)
  omega
theorem has_0 (h : Int) : has 0 h = false := by unfold has; simp
theorem has_lt {s h : Int} {n : Nat} (s1 : s < 2 ^ n) (hh : has s h = true) : h < n := by
  by_cases q : h < n
  · exact q
  · exfalso
    unfold has at hh
    have h2 := Nat.ge_two_pow_of_testBit hh
    have h3 : (2 : Nat) ^ n ≤ 2 ^ h.toNat := Nat.pow_le_pow_right (by decide) (by omega)
    have e : ((2 ^ n : Nat) : Int) = 2 ^ n := by simp
    have h4 := Nat.two_pow_pos n
    omega
theorem has_or {s t h : Int} (s0 : 0 ≤ s) (s1 : s < 2147483648) (t0 : 0 ≤ t) (t1 : t < 2147483648) : has (iOr s t) h = (has s h || has t h) := by
  unfold has
  rw [iOr_e s0 s1 t0 t1, Int.toNat_natCast, Nat.testBit_or]
theorem iOr_lt {s t : Int} {n : Nat} (hn : n ≤ 31) (s0 : 0 ≤ s) (s1 : s < 2 ^ n) (t0 : 0 ≤ t) (t1 : t < 2 ^ n) : 0 ≤ iOr s t ∧ iOr s t < 2 ^ n := by
  have e : ((2 ^ n : Nat) : Int) = 2 ^ n := by simp
  have hp : (2 : Nat) ^ n ≤ 2 ^ 31 := Nat.pow_le_pow_right (by omega) hn
  have h1 : s.toNat ||| t.toNat < 2 ^ n := Nat.or_lt_two_pow (by omega) (by omega)
  rw [iOr_e s0 (by omega) t0 (by omega)]
  omega
theorem has_shl {h i : Int} (h0 : 0 ≤ h) (h1 : h < 31) (i0 : 0 ≤ i) : has (iShl 1 h) i = decide (i = h) := by
  unfold has
  rw [iShl1_e h0 h1, Int.toNat_natCast, Nat.testBit_two_pow]
  by_cases q : i = h
  · subst q; simp
  · rw [decide_eq_false (by omega), decide_eq_false q]
theorem iShl1_lt {h : Int} {n : Nat} (h0 : 0 ≤ h) (h1 : h < n) (hn : n ≤ 31) : 0 ≤ iShl 1 h ∧ iShl 1 h < 2 ^ n := by
  rw [iShl1_e h0 (by omega)]
  have h2 : (2 : Nat) ^ h.toNat < 2 ^ n := Nat.pow_lt_pow_right (by decide) (by omega)
  have e : ((2 ^ n : Nat) : Int) = 2 ^ n := by simp
  obtain ⟨a, ha⟩ : ∃ a : Nat, a = 2 ^ h.toNat := ⟨_, rfl⟩
  rw [← ha] at h2 ⊢
  omega
theorem iAndN {a b : Int} (ha : 0 ≤ a) (ha2 : a < 2147483648) (hb : 0 ≤ b) (hb2 : b < 2147483648) : 0 ≤ iAnd a (iXor b (-1)) ∧ iAnd a (iXor b (-1)) ≤ a ∧ ∀ i : Int, 0 ≤ i → has (iAnd a (iXor b (-1))) i = (has a i && !has b i) := by
  have e : iAnd a (iXor b (-1)) = (iI a &&& (iI b ^^^ iI (-1))).toInt := by
    unfold iAnd iXor
    rw [iI_of]
  have h1 : a.toNat &&& (b.toNat ^^^ 4294967295) ≤ a.toNat := Nat.and_le_left
  have h2 := tI32 (x := iI a &&& (iI b ^^^ iI (-1))) (n := a.toNat &&& (b.toNat ^^^ 4294967295)) (by
    rw [Int32.toBitVec_and, BitVec.toNat_and, Int32.toBitVec_xor, BitVec.toNat_xor, nB32, nB32, nB32, Int.emod_eq_of_lt ha (by omega), Int.emod_eq_of_lt hb (by omega)]
    rfl) (by omega)
  rw [e, h2]
  refine ⟨by omega, by omega, fun i hi => ?_⟩
  unfold has
  rw [Int.toNat_natCast, Nat.testBit_and, Nat.testBit_xor, show (4294967295 : Nat) = 2 ^ 32 - 1 by decide, Nat.testBit_two_pow_sub_one]
  by_cases q : i.toNat < 32
  · rw [decide_eq_true q]; simp
  · rw [Nat.testBit_lt_two_pow (x := a.toNat) (by
      have : (2 : Nat) ^ 32 ≤ 2 ^ i.toNat := Nat.pow_le_pow_right (by decide) (by omega)
      omega)]
    simp
/-! counts -/
def cnt (p : Int → Bool) : Nat → Int
  | 0 => 0
  | n + 1 => cnt p n + (if p n = true then 1 else 0)
theorem cnt_s (p : Int → Bool) (n : Nat) : cnt p (n + 1) = cnt p n + (if p n = true then 1 else 0) := rfl
theorem cnt_b (p : Int → Bool) : ∀ n : Nat, 0 ≤ cnt p n ∧ cnt p n ≤ n
  | 0 => by simp [cnt]
  | n + 1 => by
    have := cnt_b p n
    unfold cnt
    split <;> omega
theorem cnt_congr {p q : Int → Bool} : ∀ n : Nat, (∀ i : Nat, i < n → p i = q i) → cnt p n = cnt q n
  | 0, _ => rfl
  | n + 1, h => by
    unfold cnt
    rw [cnt_congr n (fun i hi => h i (by omega)), h n (by omega)]
theorem cnt_t {p : Int → Bool} {j : Nat} (h : p j = true) : cnt p (j + 1) = cnt p j + 1 := by rw [cnt_s, if_pos h]
theorem cnt_f {p : Int → Bool} {j : Nat} (h : ¬ p j = true) : cnt p (j + 1) = cnt p j := by rw [cnt_s, if_neg h]; omega
theorem cnt_pos {p : Int → Bool} : ∀ n : Nat, 0 < cnt p n ↔ ∃ i : Nat, i < n ∧ p i = true
  | 0 => by simp [cnt]
  | n + 1 => by
    have h1 := cnt_pos (p := p) n
    have h2 := cnt_b p n
    by_cases q : p n = true
    · rw [cnt_t q]
      exact ⟨fun _ => ⟨n, by omega, q⟩, fun _ => by omega⟩
    · rw [cnt_f q, h1]
      constructor
      · rintro ⟨i, hi, hp⟩; exact ⟨i, by omega, hp⟩
      · rintro ⟨i, hi, hp⟩
        by_cases hin : i = n
        · subst hin; exact absurd hp q
        · exact ⟨i, by omega, hp⟩
theorem cnt_mono {p q : Int → Bool} : ∀ n : Nat, (∀ i : Nat, i < n → p i = true → q i = true) → cnt p n ≤ cnt q n
  | 0, _ => by simp [cnt]
  | n + 1, h => by
    have h1 := cnt_mono n (fun i hi => h i (by omega))
    have h2 := h n (by omega)
    rw [cnt_s, cnt_s]
    by_cases hp : p n = true
    · rw [if_pos hp, if_pos (h2 hp)]; omega
    · rw [if_neg hp]; split <;> omega
