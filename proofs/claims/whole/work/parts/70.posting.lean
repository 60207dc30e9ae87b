/-! ===== PURE HALF, by hand: sums over a pick; the best pick on both sides ===== -/
def Gs (f : Int → Int) : Nat → Nat → Nat → Int
  | 0, _, _ => 0
  | m + 1, k, q => (if q % 2 = 1 then f k else 0) + Gs f m (k + 1) (q / 2)
theorem Gs_b {f : Int → Int} {K : Int} (K0 : 0 ≤ K) : ∀ (m k q : Nat), (∀ i : Nat, i < k + m → -K ≤ f i ∧ f i ≤ K) → -(K * m) ≤ Gs f m k q ∧ Gs f m k q ≤ K * m
  | 0, k, q, _ => by rw [Gs]; simp
  | m + 1, k, q, h => by
    have ih := Gs_b K0 m (k + 1) (q / 2) (fun i hi => h i (by omega))
    have hk := h k (by omega)
    rw [Gs, show ((m + 1 : Nat) : Int) = (m : Int) + 1 by omega, Int.mul_add, Int.mul_one]
    split <;> omega
theorem Gs_congr {f g : Int → Int} : ∀ (m k q : Nat), (∀ i : Nat, i < k + m → f i = g i) → Gs f m k q = Gs g m k q
  | 0, _, _, _ => rfl
  | m + 1, k, q, h => by rw [Gs, Gs, h k (by omega), Gs_congr m (k + 1) (q / 2) (fun i hi => h i (by omega))]
theorem Gs_even {f : Int → Int} {m k q : Nat} (h : q % 2 = 0) (hq : 1 ≤ q) : Gs f (m + 1) k (q - 1) = f k + Gs f m (k + 1) (q / 2 - 1) := by
  rw [Gs, if_pos (by omega), show (q - 1) / 2 = q / 2 - 1 by omega]
theorem Gs_odd {f : Int → Int} {m k q : Nat} (h : q % 2 = 1) : Gs f (m + 1) k q = Gs f (m + 1) k (q - 1) + f k := by
  rw [Gs, Gs, if_pos h, if_neg (by omega), show (q - 1) / 2 = q / 2 by omega]
  omega
theorem Gs_shift {f : Int → Int} {m : Nat} : ∀ (j k q : Nat), Gs f (j + m) k (2 ^ j * q) = Gs f m (k + j) q
  | 0, k, q => by rw [Nat.zero_add, Nat.pow_zero, Nat.one_mul, Nat.add_zero]
  | j + 1, k, q => by
    have e : 2 ^ (j + 1) * q = 2 * (2 ^ j * q) := by rw [Nat.pow_succ, Nat.mul_comm (2 ^ j) 2, Nat.mul_assoc]
    rw [show j + 1 + m = (j + m) + 1 by omega, Gs, e, if_neg (by omega), show 2 * (2 ^ j * q) / 2 = 2 ^ j * q by omega, Gs_shift j (k + 1) q, show k + 1 + j = k + (j + 1) by omega]
    omega
theorem has_pow {k q : Nat} : has ((2 ^ k * q : Nat) : Int) (k : Int) = decide (q % 2 = 1) := by
  unfold has
  rw [Int.toNat_natCast, Int.toNat_natCast, Nat.testBit_eq_decide_div_mod_eq, Nat.mul_div_cancel_left _ (Nat.two_pow_pos k)]
theorem has_div {p k : Nat} : has (p : Int) (k : Int) = decide (p / 2 ^ k % 2 = 1) := by
  unfold has
  rw [Int.toNat_natCast, Int.toNat_natCast, Nat.testBit_eq_decide_div_mod_eq]
def bst (fB fS fL : Int → Int) (m : Nat) (base n : Int) : Nat → Int × Int × Int
  | 0 => (0, 0, base)
  | p + 1 => if base + Gs fL m 0 (p + 1) ≤ n ∧ ((bst fB fS fL m base n p).2.1 < Gs fS m 0 (p + 1) ∨ Gs fS m 0 (p + 1) = (bst fB fS fL m base n p).2.1 ∧ base + Gs fL m 0 (p + 1) < (bst fB fS fL m base n p).2.2) then (Gs fB m 0 (p + 1), Gs fS m 0 (p + 1), base + Gs fL m 0 (p + 1)) else bst fB fS fL m base n p
def okF (f : Int → Int) (m : Nat) : Prop := ∀ i : Nat, i < m → -70000 ≤ f i ∧ f i ≤ 70000
theorem okF_b {f : Int → Int} {m k q : Nat} (h : okF f (k + m)) (hm : m ≤ 10) : -700000 ≤ Gs f m k q ∧ Gs f m k q ≤ 700000 := by
  have := Gs_b (K := 70000) (by decide) m k q h
  omega
theorem bst_b {fB fS fL : Int → Int} {m : Nat} {base n : Int} (hm : m ≤ 10) (b0 : 0 ≤ base) (b1 : base ≤ 3000) (hB : okF fB m) (hS : okF fS m) (hL : okF fL m) : ∀ p : Nat, (-1000000 ≤ (bst fB fS fL m base n p).1 ∧ (bst fB fS fL m base n p).1 ≤ 1000000) ∧ (-1000000 ≤ (bst fB fS fL m base n p).2.1 ∧ (bst fB fS fL m base n p).2.1 ≤ 1000000) ∧ (-1000000 ≤ (bst fB fS fL m base n p).2.2 ∧ (bst fB fS fL m base n p).2.2 ≤ 1000000)
  | 0 => by
    show (-1000000 ≤ (0 : Int) ∧ (0 : Int) ≤ 1000000) ∧ (-1000000 ≤ (0 : Int) ∧ (0 : Int) ≤ 1000000) ∧ (-1000000 ≤ base ∧ base ≤ 1000000)
    omega
  | p + 1 => by
    have ih := bst_b (n := n) hm b0 b1 hB hS hL p
    have g1 := okF_b (k := 0) (q := p + 1) (by rw [Nat.zero_add]; exact hB) hm
    have g2 := okF_b (k := 0) (q := p + 1) (by rw [Nat.zero_add]; exact hS) hm
    have g3 := okF_b (k := 0) (q := p + 1) (by rw [Nat.zero_add]; exact hL) hm
    rw [bst]
    split
    · show (-1000000 ≤ Gs fB m 0 (p + 1) ∧ Gs fB m 0 (p + 1) ≤ 1000000) ∧ (-1000000 ≤ Gs fS m 0 (p + 1) ∧ Gs fS m 0 (p + 1) ≤ 1000000) ∧ (-1000000 ≤ base + Gs fL m 0 (p + 1) ∧ base + Gs fL m 0 (p + 1) ≤ 1000000)
      omega
    · exact ih
theorem c_choose {σ : Sg} {post : Po} {fB fS fL : Int → Int} {m : Nat} {base n : Int} (hm : m ≤ 10) (h3 : σ 81 3 = m) (e2 : ∀ i : Nat, i < m → σ 82 i = fB i) (e3 : ∀ i : Nat, i < m → σ 83 i = fS i) (e4 : ∀ i : Nat, i < m → σ 84 i = fL i) (bs0 : 0 ≤ base) (bs1 : base ≤ 3000) (rn : rng n) (hB : okF fB m) (hS : okF fS m) (hL : okF fL m) (hp : ∀ σ' : Sg, Fr [81] σ σ' → σ' 81 0 = (bst fB fS fL m base n (2 ^ m - 1)).1 → σ' 81 1 = (bst fB fS fL m base n (2 ^ m - 1)).2.1 → σ' 81 2 = (bst fB fS fL m base n (2 ^ m - 1)).2.2 → post none σ') : Cl mX3_choose [vr 81, vi base, vi n] σ post := by
  refine EX3_choose ?_
  have p1024 : 2 ^ m ≤ 1024 := by
    have : (2 : Nat) ^ m ≤ 2 ^ 10 := Nat.pow_le_pow_right (by decide) hm
    omega
  have ppos := Nat.two_pow_pos m
  have e1 : iShl 1 ((m : Nat) : Int) = ((2 ^ m : Nat) : Int) := iShl1 m (by omega)
  have outer : ∀ (d p : Nat) (τ : Sg), p + 1 + d = 2 ^ m → Fr [81] σ τ → τ 81 3 = m → τ 81 0 = (bst fB fS fL m base n p).1 → τ 81 1 = (bst fB fS fL m base n p).2.1 → τ 81 2 = (bst fB fS fL m base n p).2.2 → V mX3_choose 26 [some (vr 81), none, some (vi n), some (vi (Gs fB m 0 p)), some (vi (Gs fS m 0 p)), some (vi (base + Gs fL m 0 p)), some (vi ((p + 1 : Nat) : Int)), none] [] τ post := by
    intro d
    induction d with
    | zero =>
      intro p τ hd hF q3 s0 s1 s2
      refine BX3_choose_26 ⟨by omega, fun _ => ?_, fun z => absurd (by rw [q3, e1]; omega) z⟩
      rw [show p = 2 ^ m - 1 by omega] at s0 s1 s2
      exact hp τ hF s0 s1 s2
    | succ d ih =>
      intro p τ hd hF q3 s0 s1 s2
      have bb := bst_b (n := n) hm bs0 bs1 hB hS hL p
      have f2 : τ 82 = σ 82 := hF 82 (by decide)
      have f3 : τ 83 = σ 83 := hF 83 (by decide)
      have f4 : τ 84 = σ 84 := hF 84 (by decide)
      have g2 := okF_b (k := 0) (q := p + 1) (by rw [Nat.zero_add]; exact hS) hm
      have g3 := okF_b (k := 0) (q := p + 1) (by rw [Nat.zero_add]; exact hL) hm
      refine BX3_choose_26 ⟨by omega, fun z => absurd z (by rw [q3, e1]; omega), fun _ => ?_⟩
      -- what is done when the bit is found
      have take : ∀ (x3 x4 x5 : Int), x3 = Gs fB m 0 (p + 1) → x4 = Gs fS m 0 (p + 1) → x5 = base + Gs fL m 0 (p + 1) → ((rng x5) ∧ ((rng n) ∧ ((n < x5 → V mX3_choose 26 [some (vr 81), none, some (vi n), some (vi x3), some (vi x4), some (vi x5), some (vi (((p + 1 : Nat) : Int) + 1)), none] [] τ post) ∧ (¬ n < x5 → (rng x4) ∧ ((rng (τ 81 1)) ∧ (((τ 81 1) < x4 → V mX3_choose 26 [some (vr 81), none, some (vi n), some (vi x3), some (vi x4), some (vi x5), some (vi (((p + 1 : Nat) : Int) + 1)), none] [] (up (up (up τ 81 0 x3) 81 1 x4) 81 2 x5) post) ∧ (¬ (τ 81 1) < x4 → (¬ x4 = (τ 81 1) → V mX3_choose 26 [some (vr 81), none, some (vi n), some (vi x3), some (vi x4), some (vi x5), some (vi (((p + 1 : Nat) : Int) + 1)), none] [] τ post) ∧ (x4 = (τ 81 1) → (rng (τ 81 2)) ∧ (((τ 81 2) ≤ x5 → V mX3_choose 26 [some (vr 81), none, some (vi n), some (vi x3), some (vi x4), some (vi x5), some (vi (((p + 1 : Nat) : Int) + 1)), none] [] τ post) ∧ (¬ (τ 81 2) ≤ x5 → V mX3_choose 26 [some (vr 81), none, some (vi n), some (vi x3), some (vi x4), some (vi x5), some (vi (((p + 1 : Nat) : Int) + 1)), none] [] (up (up (up τ 81 0 x3) 81 1 x4) 81 2 x5) post)))))))))) := by
        intro x3 x4 x5 y3 y4 y5
        subst y3 y4 y5
        have bs : bst fB fS fL m base n (p + 1) = if base + Gs fL m 0 (p + 1) ≤ n ∧ ((bst fB fS fL m base n p).2.1 < Gs fS m 0 (p + 1) ∨ Gs fS m 0 (p + 1) = (bst fB fS fL m base n p).2.1 ∧ base + Gs fL m 0 (p + 1) < (bst fB fS fL m base n p).2.2) then (Gs fB m 0 (p + 1), Gs fS m 0 (p + 1), base + Gs fL m 0 (p + 1)) else bst fB fS fL m base n p := rfl
        have no : ¬ (base + Gs fL m 0 (p + 1) ≤ n ∧ ((bst fB fS fL m base n p).2.1 < Gs fS m 0 (p + 1) ∨ Gs fS m 0 (p + 1) = (bst fB fS fL m base n p).2.1 ∧ base + Gs fL m 0 (p + 1) < (bst fB fS fL m base n p).2.2)) → V mX3_choose 26 [some (vr 81), none, some (vi n), some (vi (Gs fB m 0 (p + 1))), some (vi (Gs fS m 0 (p + 1))), some (vi (base + Gs fL m 0 (p + 1))), some (vi (((p + 1 : Nat) : Int) + 1)), none] [] τ post := fun c => by
          rw [if_neg c] at bs
          exact ih (p + 1) τ (by omega) hF q3 (by rw [bs]; exact s0) (by rw [bs]; exact s1) (by rw [bs]; exact s2)
        have yes : (base + Gs fL m 0 (p + 1) ≤ n ∧ ((bst fB fS fL m base n p).2.1 < Gs fS m 0 (p + 1) ∨ Gs fS m 0 (p + 1) = (bst fB fS fL m base n p).2.1 ∧ base + Gs fL m 0 (p + 1) < (bst fB fS fL m base n p).2.2)) → V mX3_choose 26 [some (vr 81), none, some (vi n), some (vi (Gs fB m 0 (p + 1))), some (vi (Gs fS m 0 (p + 1))), some (vi (base + Gs fL m 0 (p + 1))), some (vi (((p + 1 : Nat) : Int) + 1)), none] [] (up (up (up τ 81 0 (Gs fB m 0 (p + 1))) 81 1 (Gs fS m 0 (p + 1))) 81 2 (base + Gs fL m 0 (p + 1))) post := fun c => by
          rw [if_pos c] at bs
          refine ih (p + 1) _ (by omega) (((hF.u (by simp)).u (by simp)).u (by simp)) ?_ ?_ ?_ ?_
          · rw [up_f (by decide), up_f (by decide), up_f (by decide)]; exact q3
          · rw [up_f (by decide), up_f (by decide), up_s, bs]
          · rw [up_f (by decide), up_s, bs]
          · rw [up_s, bs]
        rw [s1, s2]
        refine ⟨by omega, rn, fun c => no (by omega), fun c => ⟨by omega, by omega, fun c2 => yes ⟨by omega, Or.inl c2⟩, fun c2 => ⟨fun c3 => no (fun z => ?_), fun c3 => ⟨by omega, fun c4 => no (by omega), fun c4 => yes ⟨by omega, Or.inr ⟨c3, by omega⟩⟩⟩⟩⟩⟩
        rcases z.2 with y | y
        · exact c2 y
        · exact c3 y.1
      have inner : ∀ (e k q : Nat) (x3 x4 x5 : Int), k + e + 1 = m → p + 1 = 2 ^ k * q → x3 = Gs fB (e + 1) k (q - 1) → x4 = Gs fS (e + 1) k (q - 1) → x5 = base + Gs fL (e + 1) k (q - 1) → V mX3_choose 40 [some (vr 81), none, some (vi n), some (vi x3), some (vi x4), some (vi x5), some (vi ((p + 1 : Nat) : Int)), some (vi (k : Int))] [] τ post := by
        intro e
        induction e with
        | zero =>
          intro k q x3 x4 x5 hk hq y3 y4 y5
          have hm2 : 2 ^ m = 2 ^ k * 2 := by rw [← hk]; exact Nat.pow_succ _ _
          have kp := Nat.two_pow_pos k
          have q1 : q = 1 := by
            have a : 2 ^ k * q < 2 ^ k * 2 := by omega
            have b : q < 2 := Nat.lt_of_mul_lt_mul_left a
            rcases Nat.eq_zero_or_pos q with z | z
            · subst z; omega
            · omega
          subst q1
          have tot : ∀ f : Int → Int, Gs f (0 + 1) k (1 - 1) + f k = Gs f m 0 (p + 1) := fun f => by
            have a := Gs_odd (f := f) (m := 0) (k := k) (q := 1) (by decide)
            have b := Gs_shift (f := f) (m := 1) k 0 1
            rw [show k + 1 = m by omega, ← hq, Nat.zero_add] at b
            rw [b]
            exact a.symm
          have t3 := tot fB
          have t4 := tot fS
          have t5 := tot fL
          have E := take (x3 + τ 82 k) (x4 + τ 83 k) (x5 + τ 84 k) (by rw [f2, e2 k (by omega)]; omega) (by rw [f3, e3 k (by omega)]; omega) (by rw [f4, e4 k (by omega)]; omega)
          exact BX3_choose_40 ⟨by omega, by rw [q3]; omega, fun _ => ⟨by omega, E⟩, fun z => absurd (by rw [q3]; omega) z⟩
        | succ e ihe =>
          intro k q x3 x4 x5 hk hq y3 y4 y5
          have hh : has ((p + 1 : Nat) : Int) (k : Int) = decide (q % 2 = 1) := by rw [hq]; exact has_pow
          have q1 : 1 ≤ q := by
            rcases Nat.eq_zero_or_pos q with z | z
            · subst z; omega
            · exact z
          refine BX3_choose_40 ⟨by omega, by rw [q3]; omega, fun z => absurd z (by rw [q3]; omega), fun _ => c_isIn (by omega) (by omega) (by omega) (by omega) (fun hy => ⟨_, rfl, b1 ⟨by omega, ?_⟩⟩) (fun hy => ⟨_, rfl, b0 ⟨by omega, ?_⟩⟩)⟩
          · rw [hh, decide_eq_true_iff] at hy
            have tot : ∀ f : Int → Int, Gs f (e + 1 + 1) k (q - 1) + f k = Gs f m 0 (p + 1) := fun f => by
              have a := Gs_odd (f := f) (m := e + 1) (k := k) (q := q) hy
              have b := Gs_shift (f := f) (m := e + 1 + 1) k 0 q
              rw [show k + (e + 1 + 1) = m by omega, ← hq, Nat.zero_add] at b
              rw [b]
              exact a.symm
            have t3 := tot fB
            have t4 := tot fS
            have t5 := tot fL
            exact take (x3 + τ 82 k) (x4 + τ 83 k) (x5 + τ 84 k) (by rw [f2, e2 k (by omega)]; omega) (by rw [f3, e3 k (by omega)]; omega) (by rw [f4, e4 k (by omega)]; omega)
          · rw [hh, decide_eq_true_iff] at hy
            have st : ∀ f : Int → Int, Gs f (e + 1 + 1) k (q - 1) - f k = Gs f (e + 1) (k + 1) (q / 2 - 1) := fun f => by
              have := Gs_even (f := f) (m := e + 1) (k := k) (q := q) (by omega) q1
              omega
            have t3 := st fB
            have t4 := st fS
            have t5 := st fL
            refine ihe (k + 1) (q / 2) _ _ _ (by omega) ?_ (by rw [f2, e2 k (by omega)]; omega) (by rw [f3, e3 k (by omega)]; omega) (by rw [f4, e4 k (by omega)]; omega)
            rw [hq, Nat.pow_succ, Nat.mul_assoc, show 2 * (q / 2) = q by omega]
      have m1 : 1 ≤ m := by
        rcases Nat.eq_zero_or_pos m with z | z
        · subst z; omega
        · exact z
      refine inner (m - 1) 0 (p + 1) _ _ _ (by omega) (by rw [Nat.pow_zero, Nat.one_mul]) ?_ ?_ ?_
      · rw [show m - 1 + 1 = m by omega]; rfl
      · rw [show m - 1 + 1 = m by omega]; rfl
      · rw [show m - 1 + 1 = m by omega]; rfl
  have z0 : ∀ f : Int → Int, ∀ (m k : Nat), Gs f m k 0 = 0 := by
    intro f m
    induction m with
    | zero => intro k; rfl
    | succ m ih => intro k; rw [Gs, if_neg (by decide), show 0 / 2 = 0 from rfl, ih]; rfl
  have go := outer (2 ^ m - 1) 0 (up (up (up σ 81 0 0) 81 1 0) 81 2 base) (by omega) (((Fr.rf.u (by simp)).u (by simp)).u (by simp)) (by rw [up_f (by decide), up_f (by decide), up_f (by decide)]; exact h3) (by rw [up_f (by decide), up_f (by decide), up_s]; rfl) (by rw [up_f (by decide), up_s]; rfl) (by rw [up_s]; rfl)
  rw [z0, z0, z0, Int.add_zero] at go
  exact go
