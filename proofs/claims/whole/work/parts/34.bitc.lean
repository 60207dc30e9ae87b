/-! ===== PURE HALF, by hand: counting bits, as Integer and Long do it ===== -/
theorem andS {a b c d : Nat} (hb : b < 256) (hd : d < 256) : (256 * a + b) &&& (256 * c + d) = 256 * (a &&& c) + (b &&& d) := by
  have hbd : b &&& d < 2 ^ 8 := Nat.and_lt_two_pow b hd
  apply Nat.eq_of_testBit_eq
  intro i
  rw [Nat.testBit_and, show (256 : Nat) = 2 ^ 8 from rfl, Nat.testBit_two_pow_mul_add a hb, Nat.testBit_two_pow_mul_add c hd, Nat.testBit_two_pow_mul_add (a &&& c) hbd]
  by_cases h : i < 8
  · rw [if_pos h, if_pos h, if_pos h, Nat.testBit_and]
  · rw [if_neg h, if_neg h, if_neg h, Nat.testBit_and]
def mk8 (c : Nat) : Nat → Nat
  | 0 => 0
  | n + 1 => 256 * mk8 c n + c
def bf1 (n x : Nat) : Nat := x - ((x / 2) &&& mk8 85 n)
def bf2 (n y : Nat) : Nat := (y &&& mk8 51 n) + ((y / 4) &&& mk8 51 n)
def bf3 (n z : Nat) : Nat := (z + z / 16) &&& mk8 15 n
theorem bt1 : ∀ r : Nat, r < 256 → ∀ b : Nat, b < 2 → ((128 * b + r / 2) &&& 85) = ((r / 2) &&& 85) := by decide +kernel
theorem bt1b : ∀ r : Nat, r < 256 → ((r / 2) &&& 85) ≤ r := by decide +kernel
theorem bt2 : ∀ r : Nat, r < 256 → ∀ b : Nat, b < 4 → ((64 * b + r / 4) &&& 51) = ((r / 4) &&& 51) := by decide +kernel
theorem bt2b : ∀ r : Nat, r < 256 → bf2 1 (bf1 1 r) ≤ 68 ∧ bf2 1 (bf1 1 r) % 16 ≤ 4 := by decide +kernel
theorem bt3 : ∀ r : Nat, r < 69 → ∀ b : Nat, b < 5 → ((r + 16 * b + r / 16) &&& 15) = ((r + r / 16) &&& 15) := by decide +kernel
theorem bt4 : ∀ r : Nat, r < 256 → bf3 1 (bf2 1 (bf1 1 r)) ≤ 8 ∧ ((bf3 1 (bf2 1 (bf1 1 r)) : Nat) : Int) = cnt (fun i => r.testBit i.toNat) 8 := by decide +kernel
theorem bf1_s (n x : Nat) : bf1 (n + 1) x = 256 * bf1 n (x / 256) + bf1 1 (x % 256) := by
  obtain ⟨q, hq⟩ : ∃ q, q = x / 256 := ⟨_, rfl⟩
  obtain ⟨r, hr⟩ : ∃ r, r = x % 256 := ⟨_, rfl⟩
  have hr2 : r < 256 := by omega
  rw [← hq, ← hr]
  have e : x / 2 = 256 * (q / 2) + (128 * (q % 2) + r / 2) := by omega
  unfold bf1
  show x - (x / 2 &&& (256 * mk8 85 n + 85)) = 256 * (q - (q / 2 &&& mk8 85 n)) + (r - (r / 2 &&& (256 * 0 + 85)))
  rw [e, andS (by omega) (by decide), bt1 r hr2 (q % 2) (by omega)]
  have h1 : q / 2 &&& mk8 85 n ≤ q / 2 := Nat.and_le_left
  have h2 := bt1b r hr2
  show x - (256 * (q / 2 &&& mk8 85 n) + (r / 2 &&& 85)) = 256 * (q - (q / 2 &&& mk8 85 n)) + (r - (r / 2 &&& 85))
  omega
theorem bf1_le (n x : Nat) : bf1 n x ≤ x := Nat.sub_le _ _
theorem bf2_s (n q r : Nat) (hr : r < 256) : bf2 (n + 1) (256 * q + r) = 256 * bf2 n q + bf2 1 r := by
  have e : (256 * q + r) / 4 = 256 * (q / 4) + (64 * (q % 4) + r / 4) := by omega
  unfold bf2
  show ((256 * q + r) &&& (256 * mk8 51 n + 51)) + ((256 * q + r) / 4 &&& (256 * mk8 51 n + 51)) = 256 * ((q &&& mk8 51 n) + (q / 4 &&& mk8 51 n)) + ((r &&& (256 * 0 + 51)) + (r / 4 &&& (256 * 0 + 51)))
  rw [e, andS hr (by decide), andS (by omega) (by decide), bt2 r hr (q % 4) (by omega)]
  show 256 * (q &&& mk8 51 n) + (r &&& 51) + (256 * (q / 4 &&& mk8 51 n) + (r / 4 &&& 51)) = 256 * ((q &&& mk8 51 n) + (q / 4 &&& mk8 51 n)) + ((r &&& 51) + (r / 4 &&& 51))
  omega
theorem bF_s (n x : Nat) : bf2 (n + 1) (bf1 (n + 1) x) = 256 * bf2 n (bf1 n (x / 256)) + bf2 1 (bf1 1 (x % 256)) := by
  rw [bf1_s, bf2_s]
  have := bf1_le 1 (x % 256)
  omega
theorem bF_16 (n x : Nat) : bf2 n (bf1 n x) % 16 ≤ 4 := by
  cases n with
  | zero =>
    have : bf2 0 (bf1 0 x) = 0 := by
      unfold bf2
      show (bf1 0 x &&& 0) + (bf1 0 x / 4 &&& 0) = 0
      rw [Nat.and_zero, Nat.and_zero]
    rw [this]; decide
  | succ n =>
    rw [bF_s]
    have := (bt2b (x % 256) (by omega)).2
    omega
theorem bG_s (n x : Nat) : bf3 (n + 1) (bf2 (n + 1) (bf1 (n + 1) x)) = 256 * bf3 n (bf2 n (bf1 n (x / 256))) + bf3 1 (bf2 1 (bf1 1 (x % 256))) := by
  rw [bF_s]
  have h1 := bF_16 n (x / 256)
  have h2 := bt2b (x % 256) (by omega)
  obtain ⟨q, hq⟩ : ∃ q, q = bf2 n (bf1 n (x / 256)) := ⟨_, rfl⟩
  obtain ⟨r, hr⟩ : ∃ r, r = bf2 1 (bf1 1 (x % 256)) := ⟨_, rfl⟩
  rw [← hq] at h1 ⊢
  rw [← hr] at h2 ⊢
  have e : 256 * q + r + (256 * q + r) / 16 = 256 * (q + q / 16) + (r + 16 * (q % 16) + r / 16) := by omega
  unfold bf3
  show (256 * q + r + (256 * q + r) / 16) &&& (256 * mk8 15 n + 15) = 256 * ((q + q / 16) &&& mk8 15 n) + ((r + r / 16) &&& (256 * 0 + 15))
  rw [e, andS (by omega) (by decide), bt3 r (by omega) (q % 16) (by omega)]
theorem bG_0 (x : Nat) : bf3 0 (bf2 0 (bf1 0 x)) = 0 := by
  unfold bf3
  show _ &&& 0 = 0
  rw [Nat.and_zero]
theorem cnt_add (p : Int → Bool) (a : Nat) : ∀ b : Nat, cnt p (a + b) = cnt p a + cnt (fun i => p (a + i)) b
  | 0 => by simp [cnt]
  | b + 1 => by
    rw [show a + (b + 1) = (a + b) + 1 by omega, cnt_s, cnt_add p a b, cnt_s, show ((a + b : Nat) : Int) = (a : Int) + (b : Int) by omega]
    omega
def pcN (x n : Nat) : Int := cnt (fun i => x.testBit i.toNat) n
theorem pc_s (x n : Nat) : pcN x (8 + n) = ((bf3 1 (bf2 1 (bf1 1 (x % 256))) : Nat) : Int) + pcN (x / 256) n := by
  unfold pcN
  rw [cnt_add, (bt4 (x % 256) (by omega)).2]
  have e1 : cnt (fun i => x.testBit i.toNat) 8 = cnt (fun i => (x % 256).testBit i.toNat) 8 := cnt_congr 8 (fun i hi => by
    show x.testBit (i : Int).toNat = (x % 2 ^ 8).testBit (i : Int).toNat
    rw [Int.toNat_natCast, Nat.testBit_mod_two_pow, decide_eq_true hi, Bool.true_and])
  have e2 : cnt (fun i => x.testBit ((8 : Nat) + i : Int).toNat) n = cnt (fun i => (x / 256).testBit i.toNat) n := cnt_congr n (fun i hi => by
    show x.testBit (((8 : Nat) : Int) + (i : Int)).toNat = (x / 2 ^ 8).testBit (i : Int).toNat
    rw [Int.toNat_natCast, Nat.testBit_div_two_pow, show (((8 : Nat) : Int) + (i : Int)).toNat = i + 8 by omega])
  rw [e1, e2]
/-- numbers as they lie in 64 bits, in 32 bits -/
def tn (z : Int) : Nat := (z % 18446744073709551616).toNat
def tm (z : Int) : Nat := (z % 4294967296).toNat
theorem tn_and (a b : Int) : tn (lAnd a b) = tn a &&& tn b := by
  unfold tn
  rw [← nB64, ← nB64, ← nB64]
  unfold lAnd
  rw [lI_of, Int64.toBitVec_and, BitVec.toNat_and]
theorem tn_ushr (a : Int) {n : Nat} (hn : n < 64) : tn (lUshr a (n : Int)) = tn a / 2 ^ n := by
  unfold tn
  rw [← nB64]
  unfold lUshr
  rw [lI_of, lUshr_n a hn]
theorem tm_and (a b : Int) : tm (iAnd a b) = tm a &&& tm b := by
  unfold tm
  rw [← nB32, ← nB32, ← nB32]
  unfold iAnd
  rw [iI_of, Int32.toBitVec_and, BitVec.toNat_and]
theorem ush_tab : ∀ n : Nat, n < 32 → (((iI (n : Int)).toUInt32 &&& Int32.toUInt32 31).toBitVec % 32).toNat = n := by decide +kernel
theorem tm_ushr (a : Int) {n : Nat} (hn : n < 32) : tm (iUshr a (n : Int)) = tm a / 2 ^ n := by
  unfold tm
  rw [← nB32]
  unfold iUshr
  rw [iI_of, pk_ushr _ _ n (ush_tab n hn), nB32]
theorem and_le_r {a b : Nat} : a &&& b ≤ b := Nat.and_le_right
