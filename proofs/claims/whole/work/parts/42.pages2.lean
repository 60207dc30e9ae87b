/-! ===== PURE HALF, by hand: putIn, takeOut ===== -/
theorem c_lastPageAbove {σ : Sg} {post : Po} {k : Nat} {p : Int} (hk : shp[k]? = some (0, 0, 14)) (hW : WfB (bk σ k)) (rp : rng p) (hp : ∀ z : Int, (0 ≤ z ∧ z ≤ 99) → (∀ i : Int, 0 ≤ i → i < σ k 7 → p < σ (k + 10) i → σ (k + 10) i ≤ z) → (z = 0 ∨ ∃ i : Int, 0 ≤ i ∧ i < σ k 7 ∧ p < σ (k + 10) i ∧ z = σ (k + 10) i) → post (some (vi z)) σ) : Cl mX0_lastPageAbove [vr k, vi p] σ post := by
  have wm := Wb_marks hW
  refine EX0_lastPageAbove hk ?_
  have loop : ∀ (n : Nat) (j x : Int), 0 ≤ j → j + n = σ k 7 → (0 ≤ x ∧ x ≤ 99) → (∀ i : Int, 0 ≤ i → i < j → p < σ (k + 10) i → σ (k + 10) i ≤ x) → (x = 0 ∨ ∃ i : Int, 0 ≤ i ∧ i < j ∧ p < σ (k + 10) i ∧ x = σ (k + 10) i) → V mX0_lastPageAbove 4 [some (vr k), some (vi p), some (vi x), some (vi j)] [] σ post := by
    intro n
    induction n with
    | zero =>
      intro j x j0 hj hx h1 h2
      have ej : j = σ k 7 := by clear h2; omega
      subst ej
      exact BX0_lastPageAbove_4 hk ⟨by clear h2; omega, by clear h2; omega, fun _ => hp x hx h1 h2, fun q => absurd (Int.le_refl _) q⟩
    | succ n ih =>
      intro j x j0 hj hx h1 h2
      have w := (Wb_m hW (i := j) j0 (by clear h2; omega)).2.2.1
      refine BX0_lastPageAbove_4 hk ⟨by clear h2; omega, by clear h2; omega, fun q => absurd q (by clear h2; omega), fun _ => ⟨by clear h2; omega, by clear h2; omega, rp, fun q => ?_, fun q => c_max (by clear h2; omega) (by clear h2; omega) (fun z hz => ⟨_, rfl, ?_⟩)⟩⟩
      · refine ih (j + 1) x (by clear h2; omega) (by clear h2; omega) hx (fun i a b c => ?_) ?_
        · by_cases e : i = j
          · subst e; clear h2; omega
          · exact h1 i a (by clear h2; omega) c
        · rcases h2 with e | ⟨i, a, b, c, d⟩
          · exact Or.inl e
          · exact Or.inr ⟨i, a, by omega, c, d⟩
      · refine ih (j + 1) z (by clear h2; omega) (by clear h2; omega) (by clear h2; omega) (fun i a b c => ?_) ?_
        · by_cases e : i = j
          · subst e; clear h2; omega
          · have := h1 i a (by clear h2; omega) c
            clear h2; omega
        · rcases hz with ⟨e, d⟩ | ⟨e, d⟩
          · rcases h2 with e2 | ⟨i, a, b, c, d2⟩
            · left; omega
            · exact Or.inr ⟨i, a, by omega, c, by omega⟩
          · exact Or.inr ⟨j, j0, by clear h2; omega, by clear h2; omega, e⟩
  exact loop (σ k 7).toNat 0 0 (by omega) (by omega) (by omega) (fun i a b => by omega) (Or.inl rfl)
/-- n more, if above p -/
def psh (p n x : Int) : Int := if p < x then x + n else x
def cpu (f : Int → Int) (p : Int) : Nat → Int := cnt (fun i => decide (p < f i))
theorem c_pushPages {σ : Sg} {post : Po} {k : Nat} {p m : Int} (hk : shp[k]? = some (0, 0, 14)) (hW : WfB (bk σ k)) (rp : rng p) (hp : ∀ σ' : Sg, (∀ a, a ≠ k + 9 → a ≠ k + 10 → σ' a = σ a) → (∀ i : Int, 0 ≤ i → i < σ k 7 → σ' (k + 9) i = psh p m (σ (k + 9) i) ∧ σ' (k + 10) i = psh p m (σ (k + 10) i)) → post (some (vi (cpu (σ (k + 10)) p (σ k 7).toNat))) σ') : Cl mX0_pushPages [vr k, vi p, vi m] σ post := by
  have wm := Wb_marks hW
  refine EX0_pushPages hk ?_
  have loop : ∀ (n j : Nat) (x : Int) (τ : Sg), (j : Int) + n = σ k 7 → x = cpu (σ (k + 10)) p j → (∀ a, a ≠ k + 9 → a ≠ k + 10 → τ a = σ a) → (∀ i : Int, 0 ≤ i → i < j → τ (k + 9) i = psh p m (σ (k + 9) i) ∧ τ (k + 10) i = psh p m (σ (k + 10) i)) → (∀ i : Int, (j : Int) ≤ i → τ (k + 9) i = σ (k + 9) i ∧ τ (k + 10) i = σ (k + 10) i) → V mX0_pushPages 5 [some (vr k), some (vi p), some (vi m), some (vi x), some (vi (j : Int))] [] τ post := by
    intro n
    induction n with
    | zero =>
      intro j x τ hj hx hF h1 h2
      have e0 : τ k = σ k := hF k (by omega) (by omega)
      have ej : (σ k 7).toNat = j := by omega
      refine BX0_pushPages_5 hk ⟨by omega, by rw [e0]; omega, fun _ => ?_, fun q => absurd (by rw [e0]; omega) q⟩
      rw [hx, ← ej]
      exact hp τ hF (fun i a b => h1 i a (by omega))
    | succ n ih =>
      intro j x τ hj hx hF h1 h2
      have e0 : τ k = σ k := hF k (by omega) (by omega)
      have w := (Wb_m hW (i := j) (by omega) (by omega)).2.2.1
      obtain ⟨e9, e10⟩ := h2 j (by omega)
      have step : ∀ (y : Int) (υ : Sg), y = cpu (σ (k + 10)) p (j + 1) → (∀ a, a ≠ k + 9 → a ≠ k + 10 → υ a = σ a) → (∀ i : Int, i ≠ j → υ (k + 9) i = τ (k + 9) i ∧ υ (k + 10) i = τ (k + 10) i) → (υ (k + 9) j = psh p m (σ (k + 9) j) ∧ υ (k + 10) j = psh p m (σ (k + 10) j)) → V mX0_pushPages 5 [some (vr k), some (vi p), some (vi m), some (vi y), some (vi ((j : Int) + 1))] [] υ post := by
        intro y υ hy hF2 g1 g2
        refine ih (j + 1) y υ (by omega) hy hF2 (fun i a b => ?_) (fun i a => ?_)
        · by_cases e : i = j
          · rw [e]; exact g2
          · rw [(g1 i e).1, (g1 i e).2]; exact h1 i a (by omega)
        · rw [(g1 i (by omega)).1, (g1 i (by omega)).2]; exact h2 i (by omega)
      refine BX0_pushPages_5 hk ⟨by omega, by rw [e0]; omega, fun q => absurd q (by rw [e0]; omega), fun _ => ?_⟩
      rw [e9, e10]
      refine ⟨by omega, by omega, rp, fun q => ?_, fun q => ⟨by omega, fun q2 => ?_, fun q2 => ?_⟩⟩
      · refine step x τ ?_ hF (fun i _ => ⟨rfl, rfl⟩) ⟨?_, ?_⟩
        · rw [hx]; exact (cnt_f (by rw [decide_eq_true_iff]; omega)).symm
        · rw [e9]; unfold psh; rw [if_neg (by omega)]
        · rw [e10]; unfold psh; rw [if_neg (by omega)]
      · refine step (x + 1) _ ?_ (fun a a1 a2 => by rw [up_r a2]; exact hF a a1 a2) (fun i hi => ⟨by rw [up_r (by omega)], by rw [up_f hi]⟩) ⟨?_, ?_⟩
        · rw [hx]; exact (cnt_t (by rw [decide_eq_true_iff]; omega)).symm
        · rw [up_r (by omega), e9]; unfold psh; rw [if_neg (by omega)]
        · rw [up_s]; unfold psh; rw [if_pos (by omega)]
      · refine step (x + 1) _ ?_ (fun a a1 a2 => by rw [up_r a1, up_r a2]; exact hF a a1 a2) (fun i hi => ⟨by rw [up_f hi, up_r (by omega)], by rw [up_r (by omega), up_f hi]⟩) ⟨?_, ?_⟩
        · rw [hx]; exact (cnt_t (by rw [decide_eq_true_iff]; omega)).symm
        · rw [up_s]; unfold psh; rw [if_pos (by omega)]
        · rw [up_r (by omega), up_s]; unfold psh; rw [if_pos (by omega)]
  exact loop (σ k 7).toNat 0 0 σ (by omega) rfl (fun _ _ _ => rfl) (fun i a b => by omega) (fun _ _ => ⟨rfl, rfl⟩)
theorem s_putIn : St_putIn Inv := by
  intro σ p m rp rm hI
  have hI' := hI
  obtain ⟨⟨h1, h2, h3, h4, h5⟩, h6, h7, ⟨hW, hR⟩, ⟨h10, h11⟩, h12⟩ := hI
  have wm := Wb_marks hW
  have em : σ 94 7 = σ 5 7 := Ra_marks hR
  have r9 : ∀ i : Int, 0 ≤ i → i < σ 5 7 → σ 103 i = σ 14 i ∧ σ 104 i = σ 15 i := fun i a b => ⟨(Ra_m hR a b).2.2.1, (Ra_m hR a b).2.2.2.1⟩
  have wp : ∀ i : Int, 0 ≤ i → i < σ 5 7 → 1 ≤ σ 14 i ∧ σ 14 i ≤ σ 15 i ∧ σ 15 i ≤ 99 := fun i a b => (Wb_m hW a b).2.2.1
  have no : ¬ ((0 ≤ p ∧ p ≤ 99) ∧ 1 ≤ m ∧ m ≤ 9) → Cl mX12_putIn [vr 94, vi p, vi m] σ (pI fun z2 σ2 => -1002 = z2 ∧ rng (-1002) ∧ (Inv σ2 ∨ Inv (swp σ2))) := fun hn =>
    EX12_putIn ⟨rp, r_in (by omega) (by omega) (by omega) (fun a b => ⟨_, rfl, b1' ⟨rm, r_in (by omega) (by omega) (by omega) (fun c d => absurd ⟨⟨a, b⟩, c, d⟩ hn) (fun _ => ⟨_, rfl, b0 ⟨_, rfl, rfl, by decide, Or.inl hI'⟩⟩)⟩⟩) (fun _ => ⟨_, rfl, b0' ⟨_, rfl, rfl, by decide, Or.inl hI'⟩⟩)⟩
  refine EX11_putIn ⟨rp, fun q => ⟨_, rfl, no (by omega)⟩, fun q => ⟨fun q2 => ⟨_, rfl, no (by omega)⟩, fun q2 => ⟨rm, fun q3 => ⟨_, rfl, no (by omega)⟩, fun q3 => ⟨fun q4 => ⟨h1.1, ?_⟩, fun q4 => ⟨_, rfl, no (by omega)⟩⟩⟩⟩⟩
  refine c_lastPageAbove rfl hW rp (fun z hz z1 z2 => ⟨_, rfl, by clear z2; omega, fun c => ⟨h1.1, ?_⟩, fun c => ⟨_, rfl, ?_⟩⟩)
  · -- pages are put in
    clear z2
    have wf : WfB (bk (up σ 0 9 0) 5) := by rw [bk5 (σ := σ) (σ' := up σ 0 9 0) (fun k a b => up_r (by omega))]; exact hW
    have z1 : ∀ i : Int, 0 ≤ i → i < σ 5 7 → p < σ 15 i → σ 15 i ≤ z := z1
    have cb := cnt_b (fun i => decide (p < σ 15 i)) (σ 5 7).toNat
    refine c_pushPages rfl wf rp (fun τ hF hT => ⟨_, rfl, ⟨_, rfl, ?_⟩⟩)
    have u5 : up σ 0 9 0 5 = σ 5 := up_r (by decide)
    rw [u5] at hT
    rw [u5, show up σ 0 9 0 (5 + 10) = σ 15 from up_r (by decide)]
    have hT : ∀ i : Int, 0 ≤ i → i < σ 5 7 → τ 14 i = psh p m (σ 14 i) ∧ τ 15 i = psh p m (σ 15 i) := fun i a b => by
      have := hT i a b
      rw [show up σ 0 9 0 (5 + 9) = σ 14 from up_r (by decide), show up σ 0 9 0 (5 + 10) = σ 15 from up_r (by decide)] at this
      exact this
    have tk : ∀ a, a ≠ 0 → a ≠ 14 → a ≠ 15 → τ a = σ a := fun a a0 a1 a2 => by rw [hF a a1 a2, up_r a0]
    refine EX12_putIn ⟨rp, r_in (by omega) (by omega) (by omega) (fun _ _ => ⟨_, rfl, b1' ⟨rm, r_in (by omega) (by omega) (by omega) (fun _ _ => ⟨_, rfl, b1 ?_⟩) (fun y => absurd (by omega) y)⟩⟩) (fun y => absurd (by omega) y)⟩
    have t947 : τ 94 7 = σ 5 7 := by rw [tk 94 (by decide) (by decide) (by decide)]; exact em
    have l2 : ∀ (n j : Nat) (x : Int) (υ : Sg), (j : Int) + n = σ 5 7 → x = cpu (σ 15) p j → (∀ a, a ≠ 103 → a ≠ 104 → υ a = τ a) → (∀ i : Int, 0 ≤ i → i < j → υ 103 i = psh p m (σ 14 i) ∧ υ 104 i = psh p m (σ 15 i)) → (∀ i : Int, (j : Int) ≤ i → υ 103 i = σ 103 i ∧ υ 104 i = σ 104 i) → V mX12_putIn 76 [some (vr 94), some (vi p), some (vi m), some (vi x), some (vi (j : Int))] [] υ (pI fun z2 σ2 => cpu (σ 15) p (σ 5 7).toNat = z2 ∧ rng (cpu (σ 15) p (σ 5 7).toNat) ∧ (Inv σ2 ∨ Inv (swp σ2))) := by
      intro n
      induction n with
      | zero =>
        intro j x υ hj hx gF g1 g2
        have e7 : υ 94 7 = σ 5 7 := by rw [gF 94 (by decide) (by decide)]; exact t947
        have ej : (σ 5 7).toNat = j := by omega
        have cb2 : 0 ≤ cpu (σ 15) p (σ 5 7).toNat ∧ cpu (σ 15) p (σ 5 7).toNat ≤ 60 := by
          have : cpu (σ 15) p (σ 5 7).toNat = cnt (fun i => decide (p < σ 15 i)) (σ 5 7).toNat := rfl
          omega
        refine BX12_putIn_76 ⟨by omega, by rw [e7]; omega, fun _ => ⟨_, rfl, by rw [hx, ej], by omega, Or.inl ?_⟩, fun q => absurd (by rw [e7]; omega) q⟩
        have v : ∀ a, a ≠ 0 → a ≠ 14 → a ≠ 15 → a ≠ 103 → a ≠ 104 → υ a = σ a := fun a a0 a1 a2 a3 a4 => by rw [gF a a3 a4, tk a a0 a1 a2]
        have v0 : υ 0 = up σ 0 9 0 0 := by rw [gF 0 (by decide) (by decide), hF 0 (by decide) (by decide)]
        have v5 : υ 5 = σ 5 := v 5 (by decide) (by decide) (by decide) (by decide) (by decide)
        refine hI'.ma (fun k k1 k2 k3 k4 k5 _ => v k k1 (by omega) (by omega) (by omega) (by omega)) (fun j hj => by rw [v0, up_f hj]) (by rw [v0, up_s]) (by rw [v5]) (fun j hj => by rw [v 94 (by decide) (by decide) (by decide) (by decide) (by decide)]) (by rw [e7, v5]) (by rw [v5]; omega) (fun k k0 k1 => ?_)
        rw [v5] at k1
        have w := Wb_m hW k0 k1
        have g := Ra_m hR k0 k1
        have a14 : υ 14 k = psh p m (σ 14 k) := by rw [gF 14 (by decide) (by decide)]; exact (hT k k0 k1).1
        have a15 : υ 15 k = psh p m (σ 15 k) := by rw [gF 15 (by decide) (by decide)]; exact (hT k k0 k1).2
        have b1 := g1 k k0 (by omega)
        refine ⟨?_, by rw [v 101 (by decide) (by decide) (by decide) (by decide) (by decide), v 12 (by decide) (by decide) (by decide) (by decide) (by decide)]; exact g.1, by rw [v 102 (by decide) (by decide) (by decide) (by decide) (by decide), v 13 (by decide) (by decide) (by decide) (by decide) (by decide)]; exact g.2.1, by rw [b1.1, a14], by rw [b1.2, a15], by rw [v 105 (by decide) (by decide) (by decide) (by decide) (by decide), v 16 (by decide) (by decide) (by decide) (by decide) (by decide)]; exact g.2.2.2.2⟩
        show (0 ≤ υ 12 k ∧ υ 12 k < υ 5 0) ∧ (-1 ≤ υ 13 k ∧ υ 13 k < υ 7 (υ 12 k)) ∧ (1 ≤ υ 14 k ∧ υ 14 k ≤ υ 15 k ∧ υ 15 k ≤ 99) ∧ (υ 16 k = 0 ∨ υ 16 k = 1)
        rw [v 12 (by decide) (by decide) (by decide) (by decide) (by decide), v 13 (by decide) (by decide) (by decide) (by decide) (by decide), v 7 (by decide) (by decide) (by decide) (by decide) (by decide), v 16 (by decide) (by decide) (by decide) (by decide) (by decide), v5, a14, a15]
        refine ⟨w.1, w.2.1, ?_, w.2.2.2⟩
        have w3 := wp k k0 k1
        have w4 := z1 k k0 k1
        unfold psh
        by_cases c1 : p < σ 15 k
        · rw [if_pos c1]
          have := w4 c1
          by_cases c2 : p < σ 14 k
          · rw [if_pos c2]; omega
          · rw [if_neg c2]; omega
        · rw [if_neg c1, if_neg (by omega)]; omega
      | succ n ih =>
        intro j x υ hj hx gF g1 g2
        have e7 : υ 94 7 = σ 5 7 := by rw [gF 94 (by decide) (by decide)]; exact t947
        obtain ⟨q1, q2⟩ := r9 j (by omega) (by omega)
        obtain ⟨f1, f2⟩ := g2 j (by omega)
        have w3 := wp j (by omega) (by omega)
        have step : ∀ (y a b : Int), y = cpu (σ 15) p (j + 1) → a = psh p m (σ 14 j) → b = psh p m (σ 15 j) → V mX12_putIn 76 [some (vr 94), some (vi p), some (vi m), some (vi y), some (vi ((j : Int) + 1))] [] (up (up υ 103 j a) 104 j b) (pI fun z2 σ2 => cpu (σ 15) p (σ 5 7).toNat = z2 ∧ rng (cpu (σ 15) p (σ 5 7).toNat) ∧ (Inv σ2 ∨ Inv (swp σ2))) := by
          intro y a b hy ha hb
          refine ih (j + 1) y _ (by omega) hy (fun c c1 c2 => by rw [up_r c2, up_r c1]; exact gF c c1 c2) (fun i i0 i1 => ?_) (fun i i0 => ?_)
          · rw [up_r (by decide), up_k, up_k, up_r (by decide)]
            by_cases e : i = j
            · rw [e, pt_self, pt_self]; exact ⟨ha, hb⟩
            · rw [pt_ne e, pt_ne e]; exact g1 i i0 (by omega)
          · rw [up_r (by decide), up_k, up_k, up_r (by decide), pt_ne (by omega), pt_ne (by omega)]
            exact g2 i (by omega)
        have cT : p < σ 15 j → cpu (σ 15) p (j + 1) = cpu (σ 15) p j + 1 := fun h => cnt_t (by rw [decide_eq_true_iff]; exact h)
        have cF : ¬ p < σ 15 j → cpu (σ 15) p (j + 1) = cpu (σ 15) p j := fun h => cnt_f (by rw [decide_eq_true_iff]; exact h)
        have pT : ∀ x, p < x → psh p m x = x + m := fun x h => by unfold psh; rw [if_pos h]
        have pF : ∀ x, ¬ p < x → psh p m x = x + 0 := fun x h => by unfold psh; rw [if_neg h]; omega
        refine BX12_putIn_76 ⟨by omega, by rw [e7]; omega, fun q => absurd q (by rw [e7]; omega), fun _ => ⟨by omega, ?_⟩⟩
        rw [f2, q2]
        refine ⟨by omega, rp, fun c1 => r_one (by omega) ⟨_, rfl, ?_⟩, fun c1 => r_one (by omega) ⟨_, rfl, ?_⟩⟩
        · show (rng (υ 103 j)) ∧ ((υ 103 j ≤ p → (rng (υ 104 j)) ∧ ((υ 104 j ≤ p → V mX12_putIn 76 [some (vr 94), some (vi p), some (vi m), some (vi (x + 0)), some (vi ((j : Int) + 1))] [] (up (up υ 103 j (υ 103 j + 0)) 104 j (υ 104 j + 0)) _) ∧ (¬ υ 104 j ≤ p → V mX12_putIn 76 [some (vr 94), some (vi p), some (vi m), some (vi (x + 0)), some (vi ((j : Int) + 1))] [] (up (up υ 103 j (υ 103 j + 0)) 104 j (υ 104 j + m)) _))) ∧ (¬ υ 103 j ≤ p → (rng (υ 104 j)) ∧ ((υ 104 j ≤ p → V mX12_putIn 76 [some (vr 94), some (vi p), some (vi m), some (vi (x + 0)), some (vi ((j : Int) + 1))] [] (up (up υ 103 j (υ 103 j + m)) 104 j (υ 104 j + 0)) _) ∧ (¬ υ 104 j ≤ p → V mX12_putIn 76 [some (vr 94), some (vi p), some (vi m), some (vi (x + 0)), some (vi ((j : Int) + 1))] [] (up (up υ 103 j (υ 103 j + m)) 104 j (υ 104 j + m)) _))))
          rw [f1, f2, q1, q2]
          exact ⟨by omega, fun c2 => ⟨by omega, fun c3 => step _ _ _ (by rw [hx, cF (by omega)]; omega) (pF _ (by omega)).symm (pF _ (by omega)).symm, fun c3 => absurd c1 c3⟩, fun c2 => absurd (by omega) c2⟩
        · show (rng (υ 103 j)) ∧ ((υ 103 j ≤ p → (rng (υ 104 j)) ∧ ((υ 104 j ≤ p → V mX12_putIn 76 [some (vr 94), some (vi p), some (vi m), some (vi (x + 1)), some (vi ((j : Int) + 1))] [] (up (up υ 103 j (υ 103 j + 0)) 104 j (υ 104 j + 0)) _) ∧ (¬ υ 104 j ≤ p → V mX12_putIn 76 [some (vr 94), some (vi p), some (vi m), some (vi (x + 1)), some (vi ((j : Int) + 1))] [] (up (up υ 103 j (υ 103 j + 0)) 104 j (υ 104 j + m)) _))) ∧ (¬ υ 103 j ≤ p → (rng (υ 104 j)) ∧ ((υ 104 j ≤ p → V mX12_putIn 76 [some (vr 94), some (vi p), some (vi m), some (vi (x + 1)), some (vi ((j : Int) + 1))] [] (up (up υ 103 j (υ 103 j + m)) 104 j (υ 104 j + 0)) _) ∧ (¬ υ 104 j ≤ p → V mX12_putIn 76 [some (vr 94), some (vi p), some (vi m), some (vi (x + 1)), some (vi ((j : Int) + 1))] [] (up (up υ 103 j (υ 103 j + m)) 104 j (υ 104 j + m)) _))))
          rw [f1, f2, q1, q2]
          exact ⟨by omega, fun c2 => ⟨by omega, fun c3 => absurd c3 c1, fun c3 => step _ _ _ (by rw [hx, cT (by omega)]) (pF _ (by omega)).symm (pT _ (by omega)).symm⟩, fun c2 => ⟨by omega, fun c3 => absurd c3 c1, fun c3 => step _ _ _ (by rw [hx, cT (by omega)]) (pT _ (by omega)).symm (pT _ (by omega)).symm⟩⟩
    have l1 : ∀ (n : Nat) (j : Int), 0 ≤ j → j + n = σ 5 7 → V mX12_putIn 30 [some (vr 94), some (vi p), some (vi m), some (vi j), none] [] τ (pI fun z2 σ2 => cpu (σ 15) p (σ 5 7).toNat = z2 ∧ rng (cpu (σ 15) p (σ 5 7).toNat) ∧ (Inv σ2 ∨ Inv (swp σ2))) := by
      intro n
      induction n with
      | zero =>
        intro j j0 hj
        refine BX12_putIn_30 ⟨by omega, by rw [t947]; omega, fun _ => ?_, fun y => absurd (by rw [t947]; omega) y⟩
        exact l2 (σ 5 7).toNat 0 0 τ (by omega) rfl (fun _ _ _ => rfl) (fun i a b => by omega) (fun i _ => by rw [tk 103 (by decide) (by decide) (by decide), tk 104 (by decide) (by decide) (by decide)]; exact ⟨rfl, rfl⟩)
      | succ n ih =>
        intro j j0 hj
        obtain ⟨q1, q2'⟩ := r9 j j0 (by omega)
        have w3 := wp j j0 (by omega)
        have w4 := z1 j j0 (by omega)
        have e4 : τ 104 j = σ 15 j := by rw [tk 104 (by decide) (by decide) (by decide)]; exact q2'
        refine BX12_putIn_30 ⟨by omega, by rw [t947]; omega, fun y => absurd y (by rw [t947]; omega), fun _ => ⟨by omega, ?_⟩⟩
        rw [e4]
        refine ⟨by omega, rp, fun y => ih (j + 1) (by omega) (by omega), fun y => ⟨by omega, fun y2 => ih (j + 1) (by omega) (by omega), fun y2 => ?_⟩⟩
        have := w4 (by omega)
        omega
    exact l1 (σ 5 7).toNat 0 (by omega) (by omega)
  · -- some page would be above 99
    obtain ⟨i, a, b, d, e⟩ : ∃ i : Int, 0 ≤ i ∧ i < σ 5 7 ∧ p < σ 15 i ∧ z = σ 15 i := by
      rcases z2 with y | y
      · omega
      · exact y
    refine EX12_putIn ⟨rp, r_in (by omega) (by omega) (by omega) (fun _ _ => ⟨_, rfl, b1' ⟨rm, r_in (by omega) (by omega) (by omega) (fun _ _ => ⟨_, rfl, b1 ?_⟩) (fun y => absurd (by omega) y)⟩⟩) (fun y => absurd (by omega) y)⟩
    have l1 : ∀ (n : Nat) (j : Int), 0 ≤ j → j ≤ i → j + n = σ 5 7 → V mX12_putIn 30 [some (vr 94), some (vi p), some (vi m), some (vi j), none] [] σ (pI fun z2 σ2 => -1003 = z2 ∧ rng (-1003) ∧ (Inv σ2 ∨ Inv (swp σ2))) := by
      intro n
      induction n with
      | zero => intro j j0 j1 hj; omega
      | succ n ih =>
        intro j j0 j1 hj
        obtain ⟨q1, q2'⟩ := r9 j j0 (by omega)
        have w3 := wp j j0 (by omega)
        refine BX12_putIn_30 ⟨by omega, by omega, fun y => absurd y (by omega), fun _ => ⟨by omega, ?_⟩⟩
        rw [q2']
        refine ⟨by omega, rp, fun y => ih (j + 1) (by omega) ?_ (by omega), fun y => ⟨by omega, fun y2 => ih (j + 1) (by omega) ?_ (by omega), fun y2 => ⟨_, rfl, rfl, by decide, Or.inl hI'⟩⟩⟩
        · by_cases ej : j = i
          · subst ej; omega
          · omega
        · by_cases ej : j = i
          · subst ej; omega
          · omega
    exact l1 (σ 5 7).toNat 0 (by omega) (by omega) (by omega)
