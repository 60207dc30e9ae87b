/-! ===== PURE HALF, by hand: counting, the class's Book ===== -/
def cnt (p : Int → Bool) : Nat → Int
  | 0 => 0
  | n + 1 => cnt p n + (if p n = true then 1 else 0)
theorem cnt_nonneg (p : Int → Bool) : ∀ n : Nat, 0 ≤ cnt p n ∧ cnt p n ≤ n
  | 0 => by simp [cnt]
  | n + 1 => by
    have := cnt_nonneg p n
    unfold cnt
    split <;> omega
theorem cnt_congr {p q : Int → Bool} : ∀ n : Nat, (∀ i : Nat, i < n → p i = q i) → cnt p n = cnt q n
  | 0, _ => rfl
  | n + 1, h => by
    unfold cnt
    rw [cnt_congr n (fun i hi => h i (by omega)), h n (by omega)]
theorem c_X0_hasHead {σ : Sg} {post : Po} {k : Nat} {h : Int} (hk : shp[k]? = some (0, 0, 14)) (rh : rng h) (rn : rng (σ k 0)) (hp : post (some (vi (if 0 ≤ h ∧ h < σ k 0 then 1 else 0))) σ) : Cl mX0_hasHead [vr k, vi h] σ post := by
  refine Cl_of [some (vr k), some (vi h)] (by decide) (SubL_s (SubL_s SubL_0)) (fun ad => Nat.le_refl _) ?_
  refine BX0_hasHead_0 hk ⟨rh, fun q => ?_, fun q => ⟨rn, fun q2 => ?_, fun q2 => ?_⟩⟩
  · rw [if_neg (by omega)] at hp; exact hp
  · rw [if_neg (by omega)] at hp; exact hp
  · rw [if_pos (by omega)] at hp; exact hp
theorem c_X0_marksOf {σ : Sg} {post : Po} {k : Nat} {h : Int} (hk : shp[k]? = some (0, 0, 14)) (hn : 0 ≤ σ k 7 ∧ σ k 7 ≤ 60) (hr : ∀ i : Int, 0 ≤ i → i < σ k 7 → rng (σ (k + 7) i)) (rh : rng h) (hp : post (some (vi (cnt (fun i => decide (σ (k + 7) i = h)) (σ k 7).toNat))) σ) : Cl mX0_marksOf [vr k, vi h] σ post := by
  refine Cl_of [some (vr k), some (vi h), none, none] (by decide) (SubL_s (SubL_s (SubL_e (SubL_e SubL_0)))) (fun ad => Nat.le_of_ble_eq_true rfl) ?_
  refine BX0_marksOf_0 hk ?_
  have loop : ∀ (n : Nat) (j : Nat) (x2 : Int), (j : Int) + n = σ k 7 → x2 = cnt (fun i => decide (σ (k + 7) i = h)) j → V mX0_marksOf 4 [some (vr k), some (vi h), some (vi x2), some (vi (j : Int))] [] σ post := by
    intro n
    induction n with
    | zero =>
      intro j x2 hj hx
      refine BX0_marksOf_4 hk ⟨by omega, by omega, fun _ => ?_, fun q => absurd (by omega) q⟩
      have e : (σ k 7).toNat = j := by omega
      rw [hx, ← e]
      exact hp
    | succ n ih =>
      intro j x2 hj hx
      have hc := cnt_nonneg (fun i => decide (σ (k + 7) i = h)) j
      refine BX0_marksOf_4 hk ⟨by omega, by omega, fun q => absurd q (by omega), fun _ => ⟨by omega, hr _ (by omega) (by omega), rh, fun q => ?_, fun q => ?_⟩⟩
      · refine ih (j + 1) x2 (by omega) ?_
        unfold cnt
        rw [if_neg (by simpa using q)]
        omega
      · refine ih (j + 1) (x2 + 1) (by omega) ?_
        unfold cnt
        rw [if_pos (by simpa using q)]
        omega
  exact loop (σ k 7).toNat 0 0 (by omega) rfl
