/-! ===== PURE HALF, by hand: words without underlines; places in an order ===== -/
theorem p32s (n : Nat) : (32 : Int) ^ (n + 1) = 32 ^ n * 32 := Int.pow_succ 32 n
theorem lets_b (c : Int) : ∀ n : Nat, (lets c n).length ≤ n ∧ ∀ d ∈ lets c n, 1 < d ∧ d < 32
  | 0 => ⟨Nat.le_refl _, fun d h => by cases h⟩
  | n + 1 => by
    obtain ⟨h1, h2⟩ := lets_b c n
    rw [lets]
    split
    · next h =>
      refine ⟨by rw [List.length_append]; simp; omega, fun d hd => ?_⟩
      rcases List.mem_append.1 hd with hd | hd
      · exact h2 d hd
      · have : d = cd c n := by simpa using hd
        rw [this]
        exact ⟨h, (cd_b c n).2⟩
    · exact ⟨by omega, h2⟩
theorem pkL_b : ∀ (l : List Int), (∀ d ∈ l, 0 ≤ d ∧ d < 32) → 0 ≤ pkL l ∧ pkL l < 1152921504606846976
  | [], _ => by decide
  | d :: l, h => by
    have ih := pkL_b l (fun x hx => h x (List.mem_cons_of_mem _ hx))
    have hd := h d List.mem_cons_self
    rw [pkL]
    omega
theorem pkL_app : ∀ (l : List Int) (d : Int), l.length ≤ 11 → pkL (l ++ [d]) = pkL l + d * 32 ^ (11 - l.length)
  | [], d, _ => by
    show d * 36028797018963968 + pkL [] / 32 = pkL [] + d * 32 ^ 11
    rw [show pkL [] = 0 from rfl, show (32 : Int) ^ 11 = 36028797018963968 by decide]
    omega
  | a :: l, d, h => by
    rw [List.length_cons] at h
    have ih := pkL_app l d (by omega)
    show a * 36028797018963968 + pkL (l ++ [d]) / 32 = a * 36028797018963968 + pkL l / 32 + d * 32 ^ (11 - (l.length + 1))
    rw [ih, show 11 - l.length = (11 - (l.length + 1)) + 1 by omega, p32s, ← Int.mul_assoc]
    obtain ⟨y, hy⟩ : ∃ y, y = d * 32 ^ (11 - (l.length + 1)) := ⟨_, rfl⟩
    rw [← hy]
    omega
theorem pkL_dvd : ∀ (l : List Int), l.length ≤ 12 → ∃ q : Int, pkL l = 32 ^ (12 - l.length) * q
  | [], _ => ⟨0, by rw [show pkL [] = 0 from rfl]; simp⟩
  | a :: l, h => by
    rw [List.length_cons] at h
    obtain ⟨q, hq⟩ := pkL_dvd l (by omega)
    refine ⟨a * 32 ^ l.length + q, ?_⟩
    rw [pkL, hq, List.length_cons]
    have e1 : (36028797018963968 : Int) = 32 ^ (12 - (l.length + 1)) * 32 ^ l.length := by
      rw [← Int.pow_add, show 12 - (l.length + 1) + l.length = 11 by omega]
      decide
    have e2 : (32 : Int) ^ (12 - l.length) * q / 32 = 32 ^ (12 - (l.length + 1)) * q := by
      rw [show 12 - l.length = (12 - (l.length + 1)) + 1 by omega, p32s, Int.mul_assoc, Int.mul_comm 32 q, ← Int.mul_assoc]
      exact Int.mul_ediv_cancel _ (by decide)
    rw [e2, e1, Int.mul_add]
    congr 1
    rw [← Int.mul_assoc, Int.mul_comm a, Int.mul_assoc, Int.mul_comm a]
theorem cd_pkL : ∀ (l : List Int) (i : Nat), (∀ d ∈ l, 0 ≤ d ∧ d < 32) → i < 12 → cd (pkL l) i = l.getD i 0
  | [], i, _, _ => by
    rw [show pkL [] = 0 from rfl]
    unfold cd
    simp
  | a :: l, 0, h, _ => by
    have ih := pkL_b l (fun x hx => h x (List.mem_cons_of_mem _ hx))
    have hd := h a List.mem_cons_self
    show cd (a * 36028797018963968 + pkL l / 32) 0 = a
    unfold cd
    rw [show ((11 : Int) - 0).toNat = 11 from rfl, show (32 : Int) ^ 11 = 36028797018963968 by decide]
    omega
  | a :: l, i + 1, h, hi => by
    have ih := cd_pkL l i (fun x hx => h x (List.mem_cons_of_mem _ hx)) (by omega)
    show cd (a * 36028797018963968 + pkL l / 32) ((i + 1 : Nat) : Int) = l.getD i 0
    rw [← ih]
    unfold cd
    rw [show ((11 : Int) - ((i + 1 : Nat) : Int)).toNat = 10 - i by omega, show ((11 : Int) - (i : Int)).toNat = (10 - i) + 1 by omega, p32s]
    have e1 : (36028797018963968 : Int) = 32 ^ (10 - i) * 32 ^ (i + 1) := by
      rw [← Int.pow_add, show 10 - i + (i + 1) = 11 by omega]
      decide
    have hp := p32_pos (10 - i)
    rw [e1, Int.mul_comm a, Int.mul_assoc, Int.add_comm, Int.add_mul_ediv_left _ _ (by omega), Int.mul_comm (32 ^ (10 - i)) 32, ← Int.ediv_ediv_of_nonneg (by decide), p32s, Int.mul_comm (32 ^ i) 32, Int.mul_assoc]
    omega
theorem lOr_app {l : List Int} {d : Int} (hl : l.length ≤ 11) (hb : ∀ x ∈ l, 0 ≤ x ∧ x < 32) (d0 : 0 ≤ d) (d1 : d < 32) : lOr (pkL l) (d * 32 ^ (11 - (l.length : Int)).toNat) = pkL (l ++ [d]) := by
  have pb := pkL_b l hb
  have pb2 := pkL_b (l ++ [d]) (fun x hx => by
    rcases List.mem_append.1 hx with hx | hx
    · exact hb x hx
    · have : x = d := by simpa using hx
      rw [this]; exact ⟨d0, d1⟩)
  have app := pkL_app l d hl
  rw [show ((11 : Int) - (l.length : Int)).toNat = 11 - l.length by omega]
  have hp := p32_pos (11 - l.length)
  have t0 : 0 ≤ d * 32 ^ (11 - l.length) := Int.mul_nonneg d0 (by omega)
  rw [lOr_e pb.1 (by omega) t0 (by omega), app]
  obtain ⟨q, hq⟩ := pkL_dvd l (by omega)
  -- in Nat
  have hq0 : 0 ≤ q := by
    have hp2 := p32_pos (12 - l.length)
    by_cases c : 0 ≤ q
    · exact c
    · have : 32 ^ (12 - l.length) * q < 0 := Int.mul_neg_of_pos_of_neg hp2 (by omega)
      omega
  obtain ⟨Q, rfl⟩ : ∃ Q : Nat, q = Q := ⟨q.toNat, by omega⟩
  obtain ⟨D, rfl⟩ : ∃ D : Nat, d = D := ⟨d.toNat, by omega⟩
  have n1 : (pkL l).toNat = 2 ^ (5 * (12 - l.length)) * Q := by
    have : ((2 ^ (5 * (12 - l.length)) * Q : Nat) : Int) = pkL l := by
      rw [hq]
      have := p32 (12 - l.length)
      rw [Int.natCast_mul, ← this]
      simp
    omega
  have n2 : ((D : Int) * 32 ^ (11 - l.length)).toNat = D * 32 ^ (11 - l.length) := by
    have : ((D * 32 ^ (11 - l.length) : Nat) : Int) = (D : Int) * 32 ^ (11 - l.length) := by
      rw [Int.natCast_mul]
      simp
    omega
  have n3 : D * 32 ^ (11 - l.length) < 2 ^ (5 * (12 - l.length)) := by
    rw [Nat.pow_mul, show (2 : Nat) ^ 5 = 32 from rfl, show 12 - l.length = (11 - l.length) + 1 by omega, Nat.pow_succ, Nat.mul_comm D]
    exact Nat.mul_lt_mul_of_pos_left (by omega) (Nat.pow_pos (by decide))
  rw [n1, n2, ← Nat.two_pow_add_eq_or_of_lt n3, ← n1, ← n2]
  omega
theorem c_withoutLines {σ : Sg} {post : Po} {c : Int} (h0 : 0 ≤ c) (h1 : c < 1152921504606846976) (hp : post (some (vl (pkL (lets c 12)))) σ) : Cl mX10_withoutLines [vl c] σ post := by
  refine EX10_withoutLines ?_
  have loop : ∀ (n j : Nat), j + n = 12 → V mX10_withoutLines 8 [some (vl c), none, some (vl (pkL (lets c j))), none, some (vi ((lets c j).length : Int)), some (vi (j : Int)), none] [] σ post := by
    intro n
    induction n with
    | zero =>
      intro j hj
      have ej : j = 12 := by omega
      subst ej
      exact BX10_withoutLines_8 ⟨by omega, fun _ => hp, fun q => absurd (by omega) q⟩
    | succ n ih =>
      intro j hj
      have lb := lets_b c j
      have db := cd_b c j
      refine BX10_withoutLines_8 ⟨by omega, fun q => absurd q (by omega), fun _ => c_codeOf h0 h1 (by omega) (by omega) ⟨_, rfl, by omega, fun q => ?_, fun q => ?_⟩⟩
      · have := ih (j + 1) (by omega)
        rw [lets, if_neg (by omega)] at this
        exact this
      · refine c_codeAt (by omega) (by omega) (by omega) (by omega) ⟨_, rfl, ?_⟩
        have key := lOr_app (l := lets c j) (d := cd c j) (by omega) (fun x hx => by have := lb.2 x hx; omega) db.1 db.2
        show V mX10_withoutLines 8 [some (vl c), none, some (vl (lOr (pkL (lets c j)) ((cd c j + 94 - 94) * 32 ^ (11 - ((lets c j).length : Int)).toNat))), none, some (vi (((lets c j).length : Int) + 1)), some (vi ((j : Int) + 1)), none] [] σ post
        rw [show cd c j + 94 - 94 = cd c j by omega, key]
        have := ih (j + 1) (by omega)
        rw [lets, if_pos (by omega), List.length_append] at this
        exact this
  exact loop 12 0 (by omega)
theorem key_b {how c : Int} (h0 : 0 ≤ c) (h1 : c < 1152921504606846976) : 0 ≤ keyOf how c ∧ keyOf how c < 1152921504606846976 := by
  unfold keyOf
  split
  · exact ⟨h0, h1⟩
  · exact pkL_b _ (fun x hx => by have := (lets_b c 12).2 x hx; omega)
/-! places -/
theorem cnt_lt {p q : Int → Bool} : ∀ n : Nat, (∀ i : Nat, i < n → p i = true → q i = true) → (∃ i : Nat, i < n ∧ q i = true ∧ ¬ p i = true) → cnt p n < cnt q n
  | 0, _, h => by obtain ⟨i, h, _⟩ := h; omega
  | n + 1, h, hx => by
    have m := cnt_mono n (fun i hi => h i (by omega))
    obtain ⟨i, i1, i2, i3⟩ := hx
    rw [cnt_s, cnt_s]
    by_cases e : i = n
    · subst e
      rw [if_pos i2, if_neg i3]; omega
    · have := cnt_lt n (fun i hi => h i (by omega)) ⟨i, by omega, i2, i3⟩
      have h2 := h n (by omega)
      by_cases hp : p n = true
      · rw [if_pos hp, if_pos (h2 hp)]; omega
      · rw [if_neg hp]; split <;> omega
def bef (key : Int → Int) (l j : Int) : Prop := key l < key j ∨ key l = key j ∧ l < j
theorem plc_lt {key : Int → Int} {n : Nat} {j k : Int} (j0 : 0 ≤ j) (j1 : j < n) (h : bef key j k) : plc key n j < plc key n k := by
  unfold plc
  refine cnt_lt n (fun i hi hp => ?_) ⟨j.toNat, by omega, ?_, ?_⟩
  · rw [decide_eq_true_iff] at hp ⊢
    unfold bef at h
    omega
  · rw [decide_eq_true_iff, show ((j.toNat : Nat) : Int) = j by omega]
    exact h
  · rw [decide_eq_true_iff, show ((j.toNat : Nat) : Int) = j by omega]
    omega
theorem plc_inj {key : Int → Int} {n : Nat} {j k : Int} (j0 : 0 ≤ j) (j1 : j < n) (k0 : 0 ≤ k) (k1 : k < n) (h : plc key n j = plc key n k) : j = k := by
  by_cases e : j = k
  · exact e
  · have : bef key j k ∨ bef key k j := by unfold bef; omega
    rcases this with a | a
    · have := plc_lt j0 j1 a; omega
    · have := plc_lt k0 k1 a; omega
theorem plc_b {key : Int → Int} {n : Nat} {j : Int} (j0 : 0 ≤ j) (j1 : j < n) : 0 ≤ plc key n j ∧ plc key n j < n := by
  have a := cnt_b (fun l => decide (key l < key j ∨ key l = key j ∧ l < j)) n
  have b : plc key n j < cnt (fun _ => true) n := by
    unfold plc
    refine cnt_lt n (fun _ _ _ => rfl) ⟨j.toNat, by omega, rfl, ?_⟩
    rw [decide_eq_true_iff, show ((j.toNat : Nat) : Int) = j by omega]
    omega
  have c := cnt_b (fun _ => true) n
  have e : plc key n j = cnt (fun l => decide (key l < key j ∨ key l = key j ∧ l < j)) n := rfl
  omega
theorem plc_surj {key : Int → Int} {n : Nat} {i : Int} (i0 : 0 ≤ i) (i1 : i < n) : ∃ j : Int, 0 ≤ j ∧ j < n ∧ plc key n j = i := by
  by_cases hx : ∃ j : Int, 0 ≤ j ∧ j < n ∧ plc key n j = i
  · exact hx
  · have ne : ∀ j : Nat, j < n → plc key n j ≠ i := fun j hj e => hx ⟨j, by omega, by omega, e⟩
    have := pigeon (n - 1) (n - 1) (fun j => if i < plc key n j then plc key n j - 1 else plc key n j) (fun j hj => by
      have b := plc_b (key := key) (n := n) (j := j) (by omega) (by omega)
      have := ne j (by omega)
      show 0 ≤ (if i < plc key n j then plc key n j - 1 else plc key n j) ∧ (if i < plc key n j then plc key n j - 1 else plc key n j) < ((n - 1 : Nat) : Int)
      split <;> omega) (fun a b ha hb e => by
      have na := ne a (by omega)
      have nb := ne b (by omega)
      have e : (if i < plc key n a then plc key n a - 1 else plc key n a) = (if i < plc key n b then plc key n b - 1 else plc key n b) := e
      have : plc key n a = plc key n b := by
        by_cases c : i < plc key n a
        · rw [if_pos c] at e
          by_cases d : i < plc key n b
          · rw [if_pos d] at e; omega
          · rw [if_neg d] at e; omega
        · rw [if_neg c] at e
          by_cases d : i < plc key n b
          · rw [if_pos d] at e; omega
          · rw [if_neg d] at e; omega
      have := plc_inj (key := key) (n := n) (j := a) (k := b) (by omega) (by omega) (by omega) (by omega) this
      omega)
    omega
theorem fnd_b (p : Int → Bool) : ∀ n : Nat, -1 ≤ fnd p n ∧ fnd p n < n
  | 0 => by rw [fnd]; omega
  | n + 1 => by
    have := fnd_b p n
    rw [fnd]
    split
    · omega
    · split <;> omega
theorem fnd_none {p : Int → Bool} : ∀ n : Nat, (∀ i : Nat, i < n → ¬ p i = true) → fnd p n = -1
  | 0, _ => rfl
  | n + 1, h => by
    have := fnd_none n (fun i hi => h i (by omega))
    rw [fnd, this, if_neg (by decide), if_neg (h n (by omega))]
theorem fnd_some {p : Int → Bool} : ∀ (n : Nat) (j : Nat), j < n → p j = true → (∀ i : Nat, i < j → ¬ p i = true) → fnd p n = j
  | 0, j, h, _, _ => by omega
  | n + 1, j, h, hp, hn => by
    rw [fnd]
    by_cases e : j = n
    · subst e
      have : fnd p j = -1 := fnd_none j hn
      rw [this, if_neg (by decide), if_pos hp]
    · rw [fnd_some n j (by omega) hp hn, if_pos (by omega)]
theorem ord_plc {key : Int → Int} {n : Nat} {j : Int} (j0 : 0 ≤ j) (j1 : j < n) : ord key n (plc key n j) = j := by
  unfold ord
  have := fnd_some (p := fun k => decide (plc key n k = plc key n j)) n j.toNat (by omega) (by
    rw [decide_eq_true_iff, show ((j.toNat : Nat) : Int) = j by omega]) (fun i hi z => by
    rw [decide_eq_true_iff] at z
    have := plc_inj (key := key) (n := n) (by omega) (by omega) j0 j1 z
    omega)
  rw [this]
  omega
theorem ord_b {key : Int → Int} {n : Nat} {i : Int} (i0 : 0 ≤ i) (i1 : i < n) : (0 ≤ ord key n i ∧ ord key n i < n) ∧ plc key n (ord key n i) = i := by
  obtain ⟨j, j0, j1, e⟩ := plc_surj (key := key) i0 i1
  rw [← e, ord_plc j0 j1]
  exact ⟨⟨j0, j1⟩, rfl⟩
/-- a row that has each at its place is the order -/
theorem ord_row {key f : Int → Int} {n : Nat} (h : ∀ j : Int, 0 ≤ j → j < n → f (plc key n j) = j) {i : Int} (i0 : 0 ≤ i) (i1 : i < n) : f i = ord key n i := by
  obtain ⟨⟨a, b⟩, e⟩ := ord_b (key := key) i0 i1
  have := h _ a b
  rw [e] at this
  exact this
theorem ord_out {key : Int → Int} {n : Nat} {i : Int} (h : ¬ (0 ≤ i ∧ i < n)) : ord key n i = -1 := by
  unfold ord
  refine fnd_none n (fun j hj z => ?_)
  rw [decide_eq_true_iff] at z
  have := plc_b (key := key) (n := n) (j := j) (by omega) (by omega)
  omega
