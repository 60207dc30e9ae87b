/-! ===== PURE HALF, by hand: words (five bits a byte) ===== -/
def cd (c i : Int) : Int := c / 32 ^ (11 - i).toNat % 32
theorem p32 (n : Nat) : (2 : Int) ^ (5 * n) = 32 ^ n := by
  rw [Int.pow_mul]
  rfl
theorem p32_pos (n : Nat) : (0 : Int) < 32 ^ n := Int.pow_pos (by decide)
theorem cd_b (c i : Int) : 0 ≤ cd c i ∧ cd c i < 32 := by
  unfold cd
  exact ⟨Int.emod_nonneg _ (by decide), Int.emod_lt_of_pos _ (by decide)⟩
theorem codeOf_e {c i : Int} (h0 : 0 ≤ c) (h1 : c < 1152921504606846976) (i0 : 0 ≤ i) (i1 : i < 12) : iAnd (lUshr c ((11 - i) * 5)) 31 = cd c i := by
  rw [lUshr_e h0 (by omega) (by omega) (by omega), iAnd_low _ 5 31 (by decide) (by decide)]
  unfold cd
  rw [show ((11 - i) * 5).toNat = 5 * (11 - i).toNat by omega, p32]
  rfl
theorem c_codeOf {σ : Sg} {post : Po} {c i : Int} (h0 : 0 ≤ c) (h1 : c < 1152921504606846976) (i0 : 0 ≤ i) (i1 : i < 12) (hp : post (some (vi (cd c i))) σ) : Cl mX10_codeOf [vl c, vi i] σ post :=
  EX10_codeOf (by rw [codeOf_e h0 h1 i0 i1]; exact hp)
theorem p32_le {m n : Nat} (h : m ≤ n) : (32 : Int) ^ m ≤ 32 ^ n := by
  have h1 : (32 : Nat) ^ m ≤ 32 ^ n := Nat.pow_le_pow_right (by decide) h
  have e1 : ((32 ^ m : Nat) : Int) = 32 ^ m := by simp
  have e2 : ((32 ^ n : Nat) : Int) = 32 ^ n := by simp
  rw [← e1, ← e2]
  exact Int.ofNat_le.mpr h1
theorem codeAt_e {d i : Int} (h0 : 0 ≤ d) (h1 : d < 32) (i0 : 0 ≤ i) (i1 : i < 12) : lShl d ((11 - i) * 5) = d * 32 ^ (11 - i).toNat := by
  have e : (2 : Int) ^ ((11 - i) * 5).toNat = 32 ^ (11 - i).toNat := by
    rw [show ((11 - i) * 5).toNat = 5 * (11 - i).toNat by omega, p32]
  have h2 : (32 : Int) ^ (11 - i).toNat ≤ 32 ^ 11 := p32_le (by omega)
  have h3 := p32_pos (11 - i).toNat
  have h4 : d * 32 ^ (11 - i).toNat ≤ 31 * 32 ^ (11 - i).toNat := Int.mul_le_mul_of_nonneg_right (by omega) (by omega)
  rw [lShl_e h0 (by omega) (by omega) (by rw [e]; omega), e]
theorem c_codeAt {σ : Sg} {post : Po} {b i : Int} (h0 : 94 ≤ b) (h1 : b < 126) (i0 : 0 ≤ i) (i1 : i < 12) (hp : post (some (vl ((b - 94) * 32 ^ (11 - i).toNat))) σ) : Cl mX10_codeAt [vi b, vi i] σ post :=
  EX10_codeAt ⟨by omega, by rw [codeAt_e (by omega) (by omega) i0 i1]; exact hp⟩
/-- a word's length, its digits up to there -/
def wlen (c : Int) : Int := cnt (fun i => decide (cd c i ≠ 0)) 12
def WW (c : Int) : Prop := (0 ≤ c ∧ c < 1152921504606846976) ∧ (1 ≤ wlen c ∧ wlen c ≤ 12) ∧ ∀ i : Int, 0 ≤ i → i < 12 → (i < wlen c ↔ cd c i ≠ 0) ∧ cd c i ≤ 28
theorem c_lengthOf {σ : Sg} {post : Po} {c n : Int} (h0 : 0 ≤ c) (h1 : c < 1152921504606846976) (n0 : 0 ≤ n) (n1 : n ≤ 12) (hc : ∀ i : Int, 0 ≤ i → i < 12 → (i < n ↔ cd c i ≠ 0)) (hp : post (some (vi n)) σ) : Cl mX10_lengthOf [vl c] σ post := by
  refine EX10_lengthOf ?_
  have loop : ∀ (m : Nat) (j : Int), 0 ≤ j → j + m = n → V mX10_lengthOf 2 [some (vl c), none, some (vi j)] [] σ post := by
    intro m
    induction m with
    | zero =>
      intro j hj hm
      have e : j = n := by omega
      subst e
      refine BX10_lengthOf_2 ⟨by omega, fun _ => hp, fun q => c_codeOf h0 h1 hj (by omega) ⟨_, rfl, ?_, fun _ => hp, fun q2 => ?_⟩⟩
      · have := cd_b c j; omega
      · have := (hc j hj (by omega)).2 q2; omega
    | succ m ih =>
      intro j hj hm
      refine BX10_lengthOf_2 ⟨by omega, fun q => absurd q (by omega), fun q => c_codeOf h0 h1 hj (by omega) ⟨_, rfl, ?_, fun q2 => ?_, fun _ => ih (j + 1) (by omega) (by omega)⟩⟩
      · have := cd_b c j; omega
      · exact absurd q2 ((hc j hj (by omega)).1 (by omega))
  exact loop n.toNat 0 (by omega) (by omega)
theorem c_byteOf {σ : Sg} {post : Po} {c i : Int} (h0 : 0 ≤ c) (h1 : c < 1152921504606846976) (ri : rng i) (ht : 0 ≤ i → i < 12 → cd c i ≠ 0 → post (some (vi (cd c i + 94))) σ) (hf : ¬ (0 ≤ i ∧ i < 12 ∧ cd c i ≠ 0) → post (some (vi (-1))) σ) : Cl mX10_byteOf [vl c, vi i] σ post := by
  refine EX10_byteOf ⟨ri, fun q => hf (by omega), fun q => ⟨fun q2 => hf (by omega), fun q2 => c_codeOf h0 h1 (by omega) (by omega) ⟨_, rfl, ?_, fun q3 => ?_, fun q3 => hf (fun z => z.2.2 q3)⟩⟩⟩
  · have := cd_b c i; omega
  · exact c_codeOf h0 h1 (by omega) (by omega) ⟨_, rfl, ht (by omega) (by omega) q3⟩
theorem WW.len {c : Int} (h : WW c) {σ : Sg} {post : Po} (hp : post (some (vi (wlen c))) σ) : Cl mX10_lengthOf [vl c] σ post :=
  c_lengthOf h.1.1 h.1.2 (by have := h.2.1; omega) h.2.1.2 (fun i a b => (h.2.2 i a b).1) hp
/-! digits tell the number -/
theorem cd_nat {c i : Nat} (hi : i < 12) : cd (c : Int) ((11 - i : Nat) : Int) = ((c / 32 ^ i % 32 : Nat) : Int) := by
  unfold cd
  rw [show ((11 : Int) - ((11 - i : Nat) : Int)).toNat = i by omega]
  simp
theorem cd_ext {c d : Int} (c0 : 0 ≤ c) (c1 : c < 1152921504606846976) (d0 : 0 ≤ d) (d1 : d < 1152921504606846976) (h : ∀ i : Int, 0 ≤ i → i < 12 → cd c i = cd d i) : c = d := by
  obtain ⟨m, rfl⟩ : ∃ m : Nat, c = m := ⟨c.toNat, by omega⟩
  obtain ⟨n, rfl⟩ : ∃ n : Nat, d = n := ⟨d.toNat, by omega⟩
  have key : ∀ k : Nat, k ≤ 12 → m % 32 ^ k = n % 32 ^ k := by
    intro k
    induction k with
    | zero => intro _; simp [Nat.mod_one]
    | succ k ih =>
      intro hk
      have h1 := h ((11 - k : Nat) : Int) (by omega) (by omega)
      rw [cd_nat (by omega), cd_nat (by omega)] at h1
      rw [Nat.mod_pow_succ, Nat.mod_pow_succ, ih (by omega)]
      have h2 : m / 32 ^ k % 32 = n / 32 ^ k % 32 := by omega
      rw [h2]
  have h2 := key 12 (by omega)
  have e : (32 : Nat) ^ 12 = 1152921504606846976 := by decide
  rw [e, Nat.mod_eq_of_lt (by omega), Nat.mod_eq_of_lt (by omega)] at h2
  omega
/-- digits alike up to i: the same beginning -/
theorem cd_pre {c d : Int} (c0 : 0 ≤ c) (c1 : c < 1152921504606846976) (d0 : 0 ≤ d) (d1 : d < 1152921504606846976) : ∀ i : Nat, i ≤ 12 → (∀ j : Int, 0 ≤ j → j < i → cd c j = cd d j) → c / 32 ^ (12 - i) = d / 32 ^ (12 - i) := by
  intro i
  induction i with
  | zero =>
    intro _ _
    have e : (32 : Int) ^ (12 - 0) = 1152921504606846976 := by decide
    rw [e, Int.ediv_eq_zero_of_lt c0 c1, Int.ediv_eq_zero_of_lt d0 d1]
  | succ i ih =>
    intro hi hj
    have h1 := ih (by omega) (fun j a b => hj j a (by omega))
    have h2 := hj i (by omega) (by omega)
    unfold cd at h2
    rw [show ((11 : Int) - (i : Int)).toNat = 12 - (i + 1) by omega] at h2
    have e : (32 : Int) ^ (12 - i) = 32 ^ (12 - (i + 1)) * 32 := by
      rw [← Int.pow_succ, show (12 - (i + 1)).succ = 12 - i by omega]
    rw [e, ← Int.ediv_ediv_of_nonneg (by have := p32_pos (12 - (i + 1)); omega), ← Int.ediv_ediv_of_nonneg (by have := p32_pos (12 - (i + 1)); omega)] at h1
    omega
theorem cd_lt {c d : Int} (c0 : 0 ≤ c) (c1 : c < 1152921504606846976) (d0 : 0 ≤ d) (d1 : d < 1152921504606846976) {i : Int} (i0 : 0 ≤ i) (i1 : i < 12) (hj : ∀ j : Int, 0 ≤ j → j < i → cd c j = cd d j) (h : cd c i < cd d i) : c < d := by
  obtain ⟨n, rfl⟩ : ∃ n : Nat, i = n := ⟨i.toNat, by omega⟩
  have h1 := cd_pre c0 c1 d0 d1 n (by omega) hj
  unfold cd at h
  rw [show ((11 : Int) - (n : Int)).toNat = 12 - (n + 1) by omega] at h
  have e : (32 : Int) ^ (12 - n) = 32 ^ (12 - (n + 1)) * 32 := by
    rw [← Int.pow_succ, show (12 - (n + 1)).succ = 12 - n by omega]
  have hp := p32_pos (12 - (n + 1))
  rw [e, ← Int.ediv_ediv_of_nonneg (by omega), ← Int.ediv_ediv_of_nonneg (by omega)] at h1
  have h2 : c / 32 ^ (12 - (n + 1)) < d / 32 ^ (12 - (n + 1)) := by omega
  refine Int.not_le.mp (fun q => ?_)
  have := Int.ediv_le_ediv hp q
  omega
