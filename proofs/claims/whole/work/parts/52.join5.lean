/-! ===== PURE HALF, by hand: join, the step ===== -/
theorem j_n6 {B : Sg} {a b : Int} (hW : WfB B) (a0 : 0 ≤ a) (a1 : a < B 0 0) (b0 : 0 ≤ b) (b1 : b < B 0 0) (h6 : B 2 a + jm B a b (B 2 b).toNat ≤ 6) (i : Nat) (hi : (i : Int) ≤ B 2 b) : 0 ≤ jn B a b i ∧ jn B a b i ≤ 6 := by
  have o := (j_ok hW a0 a1 b0 b1 i hi).1
  have wa := (hW.2.2.1 a a0 a1).1
  have m : jm B a b i ≤ jm B a b (B 2 b).toNat := cnt_le _ (by omega)
  omega
theorem r_join {σ B : Sg} {post : Po} {a b z : Int} (hW : WfB B) (hR : RA (bk σ 94) B) (a0 : 0 ≤ a) (a1 : a < B 0 0) (bz0 : 0 ≤ b) (bz1 : b < B 0 0) (hab : a ≠ b) (hz : (z = B 6 a + B 6 b ∧ B 6 a + B 6 b ≤ 99) ∨ (z = 99 ∧ ¬ B 6 a + B 6 b ≤ 99)) (hs : ¬ B 4 a < 0 → post (some (vi (-1003))) σ) (hf : B 4 a < 0 → ¬ B 2 a + jm B a b (B 2 b).toNat ≤ 6 → post (some (vi (-1004))) σ) (hp : B 4 a < 0 → B 2 a + jm B a b (B 2 b).toNat ≤ 6 → ∀ ξ : Sg, FrJ [95, 96, 97, 98, 99, 100, 101, 102, 121] [] σ ξ → RA (bk ξ 94) (jF B a b z) → post (some (vi (nM (jF B a b z) a (-2)))) ξ) : Cl mX12_join [vr 94, vi a, vi b] σ post := by
  have wh := hW.1
  have wa := hW.2.2.1 a a0 a1
  have wb := hW.2.2.1 b bz0 bz1
  have wa1 := wa.1
  have wa2 := wa.2.1
  have wb1 := wb.1
  have eh : σ 94 0 = B 0 0 := Ra_heads hR
  have e98 : σ 98 a = B 4 a := Ra_see hR a0 a1
  have e95b : σ 95 b = B 2 b := Ra_subs hR bz0 bz1
  have e95a : σ 95 a = B 2 a := Ra_subs hR a0 a1
  have hwa : ∀ s : Int, 0 ≤ s → s < B 2 a → WW (B 3 (a * 6 + s)) ∧ RW (σ 96) (σ 97) (7 * a + 1 + s) (B 3 (a * 6 + s)) := by
    intro s s0 s1
    refine ⟨Wws hW a0 a1 s0 s1, ?_⟩
    have := Ra_w hR a0 a1 (s := s) (by omega) s1
    unfold ew at this
    rw [if_neg (by omega)] at this
    exact this
  have jb0 := cnt_b (fun j => decide (sL B a (B 3 (b * 6 + j)) = -1))
  have main : B 4 a < 0 → V mX12_join 43 [some (vr 94), some (vi a), some (vi b), some (vi 0), some (vi 0)] [] σ post := by
    intro h4
    have loop : ∀ (n i : Nat), (i : Int) + n = B 2 b → V mX12_join 43 [some (vr 94), some (vi a), some (vi b), some (vi (jm B a b i)), some (vi (i : Int))] [] σ post := by
      intro n
      induction n with
      | zero =>
        intro i hi
        have ei : i = (B 2 b).toNat := by omega
        have jbi : 0 ≤ jm B a b i ∧ jm B a b i ≤ i := jb0 i
        refine BX12_join_43 ⟨by omega, by omega, by rw [e95b]; omega, fun _ => ⟨by omega, by rw [e95a]; omega, fun y => ?_, fun y => ?_⟩, fun y => absurd (by rw [e95b]; omega) y⟩
        · rw [e95a, ei] at y
          refine r_joinSubs hW hR a0 a1 bz0 bz1 hab (j_n6 hW a0 a1 bz0 bz1 y) (fun υ hJ => r_joinEnd hW hR a0 a1 bz0 bz1 hab (j_n6 hW a0 a1 bz0 bz1 y _ (by omega)).2 hz hJ (hp h4 y))
        · rw [e95a, ei] at y
          exact hf h4 y
      | succ n ih =>
        intro i hi
        have ww := Wws hW bz0 bz1 (s := i) (by omega) (by omega)
        have rwb : RW (σ 96) (σ 97) (7 * b + 1 + (i : Int)) (B 3 (b * 6 + i)) := by
          have := Ra_w hR bz0 bz1 (s := i) (by omega) (by omega)
          unfold ew at this
          rw [if_neg (by omega)] at this
          exact this
        have es : sL B a (B 3 (b * 6 + i)) = fnd (fun s => decide (B 3 (a * 6 + s) = B 3 (b * 6 + i))) (B 2 a).toNat := if_neg (by omega)
        have zb := fnd_b (fun s => decide (B 3 (a * 6 + s) = B 3 (b * 6 + i))) (B 2 a).toNat
        have em : jm B a b (i + 1) = jm B a b i + (if decide (sL B a (B 3 (b * 6 + i)) = -1) = true then 1 else 0) := cnt_s _ _
        refine BX12_join_43 ⟨by omega, by omega, by rw [e95b]; omega, fun y => absurd y (by rw [e95b]; omega), fun _ => r_slot ⟨_, rfl, r_likeSub (w := fun s => B 3 (a * 6 + s)) a0 (by omega) (by omega) (by omega) e95a wa1.1 wa1.2 hwa ww rwb ⟨_, rfl, by omega, fun y => r_one (by decide) ⟨_, rfl, ?_⟩, fun y => r_one (by decide) ⟨_, rfl, ?_⟩⟩⟩⟩
        · rw [if_neg (fun q => by have := of_decide_eq_true q; omega)] at em
          have := ih (i + 1) (by omega)
          rw [em] at this
          exact this
        · rw [if_pos (decide_eq_true (by omega))] at em
          have := ih (i + 1) (by omega)
          rw [em] at this
          exact this
    exact loop (B 2 b).toNat 0 (by omega)
  refine EX12_join (r_noHead (by omega) (by omega) (fun _ _ => ⟨_, rfl, b0 (r_noHead (by omega) (by omega) (fun _ _ => ⟨_, rfl, b0 ⟨by omega, by omega, fun _ => ⟨by omega, by rw [e98]; omega, fun y => main (by rw [e98] at y; exact y), fun y => hs (by rw [e98] at y; exact y)⟩, fun y => absurd y hab⟩⟩) (fun q => absurd ⟨bz0, by omega⟩ q))⟩) (fun q => absurd ⟨a0, by omega⟩ q))
theorem s_join : St_join Inv := by
  intro σ a b ra rb hI
  have hI' := hI
  obtain ⟨⟨h1, h2, h3, h4, h5⟩, h6, h7, ⟨hW, hR⟩, ⟨h10, h11⟩, h12⟩ := hI
  have wh := Wb_heads hW
  have eh : σ 94 0 = σ 5 0 := Ra_heads hR
  have hk : shp[5]? = some (0, 0, 14) := rfl
  refine EX11_join (c_areTwoHeads h1.1 hW ra rb (fun ha hb hab => ⟨_, rfl, b1 ⟨h1.1, by omega, ?_⟩⟩) (fun q => ⟨_, rfl, b0 ⟨_, rfl, ?_⟩⟩))
  · have wa := Wb_subs hW ha.1 ha.2
    have wa' : 0 ≤ σ 7 a ∧ σ 7 a ≤ 6 := wa
    have wb' : 0 ≤ σ 7 b ∧ σ 7 b ≤ 6 := Wb_subs hW hb.1 hb.2
    have ws : -1 ≤ σ 9 a ∧ σ 9 a < σ 5 0 := Wb_see hW ha.1 ha.2
    have a6 : 0 ≤ σ 11 a ∧ σ 11 a ≤ 99 := Wb_ask hW ha.1 ha.2
    have b6 : 0 ≤ σ 11 b ∧ σ 11 b ≤ 99 := Wb_ask hW hb.1 hb.2
    have jb0 : 0 ≤ jm (bk σ 5) a b (σ 7 b).toNat ∧ jm (bk σ 5) a b (σ 7 b).toNat ≤ (σ 7 b).toNat := cnt_b _ _
    obtain ⟨z0, hz0⟩ : ∃ z : Int, (z = σ 11 a + σ 11 b ∧ σ 11 a + σ 11 b ≤ 99) ∨ (z = 99 ∧ ¬ σ 11 a + σ 11 b ≤ 99) := by
      by_cases c : σ 11 a + σ 11 b ≤ 99
      · exact ⟨_, Or.inl ⟨rfl, c⟩⟩
      · exact ⟨_, Or.inr ⟨rfl, c⟩⟩
    refine ⟨show rng (σ 9 a) by omega, fun y => c_subsMissing hW ha.1 ha.2 hb.1 hb.2 ⟨_, rfl, show rng (σ 7 a + jm (bk σ 5) a b (σ 7 b).toNat) by omega, fun y6 => ⟨h1.1, ?_⟩, fun y6 => ⟨_, rfl, ?_⟩⟩, fun y => ⟨_, rfl, ?_⟩⟩
    · have y9 : σ 9 a = -1 := y
      have y6' : σ 7 a + jm (bk σ 5) a b (σ 7 b).toNat ≤ 6 := y6
      refine c_joinMarks hW ha.1 ha.2 hb.1 hb.2 hab y6' (fun τ hF hB => ⟨rfl, by rw [up_r (by decide), hF 0 (by decide)]; exact h1.1, ?_⟩)
      have t : ∀ q : Nat, q ≠ 7 → q ≠ 8 → q ≠ 12 → q ≠ 13 → up τ 7 b 0 q = σ q := fun q h7 h8 h12 h13 => by rw [up_r h7]; exact hF q (by simp; omega)
      have t10 := t 10 (by decide) (by decide) (by decide) (by decide)
      have t11 := t 11 (by decide) (by decide) (by decide) (by decide)
      refine EX0_joinRest hk ⟨by omega, by omega, ?_⟩
      show Cl mJ9_min_7cf53 [vi (up τ 7 b 0 11 a + up τ 7 b 0 11 b), vi 99] (up (up (up τ 7 b 0) 10 a (iOr (up τ 7 b 0 10 a) (iAnd (up τ 7 b 0 10 b) (iXor (iShl 1 a) (-1))))) 10 b 0) _
      rw [t10, t11]
      refine c_min (by omega) (by decide) (fun z hz => ⟨_, rfl, rfl, ?_⟩)
      have ez : z = z0 := by omega
      subst ez
      have eA : iOr (σ 10 a) (iAnd (σ 10 b) (iXor (iShl 1 a) (-1))) = jA (bk σ 5) a b := rfl
      rw [eA]
      show ((up (up (up (up (up (up τ 7 b 0) 10 a (jA (bk σ 5) a b)) 10 b 0) 11 a z) 11 b 0) 9 b a 0 1) = 5) ∧ (Cl mX0_marksOf [vr 5, vi a] (up (up (up (up (up (up (up τ 7 b 0) 10 a (jA (bk σ 5) a b)) 10 b 0) 11 a z) 11 b 0) 9 b a) 0 9 0) _)
      generalize hζ : (up (up (up (up (up (up τ 7 b 0) 10 a (jA (bk σ 5) a b)) 10 b 0) 11 a z) 11 b 0) 9 b a) = ζ
      have f7 : ζ 7 = pt (τ 7) b 0 := by subst hζ; rfl
      have f9 : ζ 9 = pt (τ 9) b a := by subst hζ; rfl
      have f10 : ζ 10 = pt (pt (τ 10) a (jA (bk σ 5) a b)) b 0 := by subst hζ; rfl
      have f11 : ζ 11 = pt (pt (τ 11) a z) b 0 := by subst hζ; rfl
      have fo : ∀ q : Nat, q ≠ 7 → q ≠ 9 → q ≠ 10 → q ≠ 11 → ζ q = τ q := fun q g1 g2 g3 g4 => by
        subst hζ
        rw [up_r g2, up_r g4, up_r g4, up_r g3, up_r g3, up_r g1]
      have z00 : ζ 0 = σ 0 := (fo 0 (by decide) (by decide) (by decide) (by decide)).trans (hF 0 (by decide))
      have eB : bk (up ζ 0 9 0) 5 = jF (bk σ 5) a b z := by
        funext j
        by_cases c2 : j = 2
        · subst c2
          show up ζ 0 9 0 7 = pt (jB (bk σ 5) a b (σ 7 b).toNat 2) b 0
          rw [up_r (by decide), f7, ← hB]
          rfl
        by_cases c4 : j = 4
        · subst c4
          show up ζ 0 9 0 9 = pt (σ 9) b a
          rw [up_r (by decide), f9, hF 9 (by decide)]
        by_cases c5 : j = 5
        · subst c5
          show up ζ 0 9 0 10 = pt (pt (σ 10) a (jA (bk σ 5) a b)) b 0
          rw [up_r (by decide), f10, hF 10 (by decide)]
        by_cases c6 : j = 6
        · subst c6
          show up ζ 0 9 0 11 = pt (pt (σ 11) a z) b 0
          rw [up_r (by decide), f11, hF 11 (by decide)]
        have ej : jF (bk σ 5) a b z j = jB (bk σ 5) a b (σ 7 b).toNat j := by
          unfold jF
          rw [if_neg c2, if_neg c4, if_neg c5, if_neg c6]
          rfl
        rw [ej, ← hB]
        unfold bk
        by_cases e : j = 0
        · rw [if_pos e, if_pos e, up_r (by decide), fo 5 (by decide) (by decide) (by decide) (by decide)]
        · rw [if_neg e, if_neg e]
          by_cases e2 : j < 12
          · rw [if_pos e2, if_pos e2, up_r (by omega), fo (5 + j) (by omega) (by omega) (by omega) (by omega)]
          · rw [if_neg e2, if_neg e2]
      have n6 := j_n6 hW ha.1 ha.2 hb.1 hb.2 y6' (σ 7 b).toNat (show (((σ 7 b).toNat : Nat) : Int) ≤ σ 7 b by omega)
      have wF : WfB (jF (bk σ 5) a b z) := jF_wf hW ha.1 ha.2 hb.1 hb.2 hab n6.2 (by omega) (by omega)
      refine ⟨by rw [z00]; exact h1.1, c_marksOf hk (by rw [eB]; exact wF) (by omega) ⟨_, rfl, ⟨_, rfl, ?_⟩⟩⟩
      rw [eB]
      have g : ∀ q : Nat, 13 < q → up ζ 0 9 0 q = σ q := fun q hq => by rw [up_r (by omega), fo q (by omega) (by omega) (by omega) (by omega)]; exact hF q (by simp; omega)
      have b94 : bk (up ζ 0 9 0) 94 = bk σ 94 := bkf (fun q x y => g q (by omega))
      have nb := cnt_b (isM (jF (bk σ 5) a b z) a (-2)) (jF (bk σ 5) a b z 0 7).toNat
      have nb2 := wF.2.1
      refine r_join (z := z) hW (by rw [b94]; exact hR) ha.1 ha.2 hb.1 hb.2 hab hz0 (fun q => absurd (show σ 9 a < 0 by omega) q) (fun _ q => absurd y6' q) (fun _ _ ξ hG hX => ⟨_, rfl, rfl, ?_, Or.inl ?_⟩)
      · unfold nM
        omega
      · have b5 : bk ξ 5 = jF (bk σ 5) a b z := (bkf (fun q x y => hG.1 q (by simp; omega) (by omega))).trans eB
        have u0 : ξ 0 = up ζ 0 9 0 0 := hG.1 0 (by decide) (by decide)
        have k34 : ∀ q : Nat, q = 3 ∨ q = 4 → up ζ 0 9 0 q = σ q := fun q hq => by rw [up_r (by omega), fo q (by omega) (by omega) (by omega) (by omega)]; exact hF q (by simp; omega)
        refine hI'.bo (fun q hq => ?_) (fun j hj => by rw [u0, up_f hj, z00]) (fun j hj => by rw [hG.2 j (by simp), g 94 (by decide)]) (by rw [b5]; exact wF) (by rw [b5]; exact hX) (by rw [u0, up_s]; exact Or.inl rfl) (fun e => by rw [u0, up_s] at e; exact absurd e (by decide))
        rw [hG.1 q (by simp; omega) (by omega)]
        by_cases c : q = 3 ∨ q = 4
        · exact k34 q c
        · exact g q (by omega)
    · have y9 : σ 9 a = -1 := y
      exact r_join (z := z0) hW hR ha.1 ha.2 hb.1 hb.2 hab hz0 (fun q => absurd (show σ 9 a < 0 by omega) q) (fun _ q => ⟨_, rfl, rfl, by decide, Or.inl hI'⟩) (fun _ q => absurd q y6)
    · exact r_join (z := z0) hW hR ha.1 ha.2 hb.1 hb.2 hab hz0 (fun q => ⟨_, rfl, rfl, by decide, Or.inl hI'⟩) (fun q => absurd (show σ 9 a = -1 from by have q' : σ 9 a < 0 := q; omega) y) (fun q => absurd (show σ 9 a = -1 from by have q' : σ 9 a < 0 := q; omega) y)
  · have un : V mX12_join 21 [none, none, none, none, none] [] σ (pI fun z2 σ2 => (-1001 : Int) = z2 ∧ rng (-1001) ∧ (Inv σ2 ∨ Inv (swp σ2))) := BX12_join_21 ⟨_, rfl, rfl, by decide, Or.inl hI'⟩
    refine EX12_join (r_noHead ra (by omega) (fun p1 p2 => ⟨_, rfl, b0 (r_noHead rb (by omega) (fun p3 p4 => ⟨_, rfl, b0 ⟨ra, rb, fun e => absurd ⟨⟨p1, by omega⟩, ⟨p3, by omega⟩, e⟩ q, fun _ => un⟩⟩) (fun _ => ⟨_, rfl, b1 un⟩))⟩) (fun _ => ⟨_, rfl, b1 un⟩))
