/-! ===== PURE HALF, by hand: join, the book joined ===== -/
theorem sumN_two {f g : Int → Int} {a b : Int} (a0 : 0 ≤ a) (b0 : 0 ≤ b) (hab : a ≠ b) (h : ∀ i : Int, i ≠ a → i ≠ b → g i = f i) : ∀ n : Nat, sumN g n = sumN f n + (if a < n then g a - f a else 0) + (if b < n then g b - f b else 0)
  | 0 => by rw [sumN, sumN, if_neg (by omega), if_neg (by omega)]; rfl
  | n + 1 => by
    rw [sumN, sumN, sumN_two a0 b0 hab h n]
    by_cases c : (n : Int) = a
    · subst c
      rw [if_neg (show ¬ (n : Int) < (n : Int) by omega), if_pos (show (n : Int) < ((n + 1 : Nat) : Int) by omega)]
      by_cases d : b < n
      · rw [if_pos d, if_pos (show b < ((n + 1 : Nat) : Int) by omega)]; omega
      · rw [if_neg d, if_neg (show ¬ b < ((n + 1 : Nat) : Int) by omega)]; omega
    · by_cases c2 : (n : Int) = b
      · subst c2
        rw [if_neg (show ¬ (n : Int) < (n : Int) by omega), if_pos (show (n : Int) < ((n + 1 : Nat) : Int) by omega)]
        by_cases d : a < n
        · rw [if_pos d, if_pos (show a < ((n + 1 : Nat) : Int) by omega)]; omega
        · rw [if_neg d, if_neg (show ¬ a < ((n + 1 : Nat) : Int) by omega)]; omega
      · rw [h n c c2]
        have e1 : (if a < ((n + 1 : Nat) : Int) then g a - f a else 0) = if a < n then g a - f a else 0 := by
          by_cases d : a < n
          · rw [if_pos d, if_pos (by omega)]
          · rw [if_neg d, if_neg (by omega)]
        have e2 : (if b < ((n + 1 : Nat) : Int) then g b - f b else 0) = if b < n then g b - f b else 0 := by
          by_cases d : b < n
          · rw [if_pos d, if_pos (by omega)]
          · rw [if_neg d, if_neg (by omega)]
        rw [e1, e2]
        omega
theorem cnt_or {p q r : Int → Bool} : ∀ n : Nat, (∀ i : Nat, i < n → p i = true → q i = true ∨ r i = true) → cnt p n ≤ cnt q n + cnt r n
  | 0, _ => by rw [cnt, cnt, cnt]; decide
  | n + 1, h => by
    have h1 := cnt_or n (fun i hi => h i (by omega))
    have h2 := h n (by omega)
    rw [cnt_s, cnt_s, cnt_s]
    by_cases c : p n = true
    · rcases h2 c with d | d
      · rw [if_pos c, if_pos d]
        split <;> omega
      · rw [if_pos c, if_pos d]
        split <;> omega
    · rw [if_neg c]
      split <;> split <;> omega
def jA (B : Sg) (a b : Int) : Int := iOr (B 5 a) (iAnd (B 5 b) (iXor (iShl 1 a) (-1)))
theorem jA_b {B : Sg} {a b : Int} (hW : WfB B) (a0 : 0 ≤ a) (a1 : a < B 0 0) (b0 : 0 ≤ b) (b1 : b < B 0 0) : (0 ≤ jA B a b ∧ jA B a b < 65536) ∧ ∀ g : Int, 0 ≤ g → has (jA B a b) g = true → has (B 5 a) g = true ∨ has (B 5 b) g = true := by
  have wa := (hW.2.2.1 a a0 a1).2.2.1
  have wb := (hW.2.2.1 b b0 b1).2.2.1
  have wh := hW.1
  have hs := iShl1_lt (h := a) (n := 16) a0 (by omega) (by decide)
  have e16 : (2 : Int) ^ 16 = 65536 := by decide
  rw [e16] at hs
  obtain ⟨n1, n2, n3⟩ := iAndN (a := B 5 b) (b := iShl 1 a) (by omega) (by omega) (by omega) (by omega)
  have l := iOr_lt (s := B 5 a) (t := iAnd (B 5 b) (iXor (iShl 1 a) (-1))) (n := 16) (by decide) (by omega) (by rw [e16]; omega) n1 (by rw [e16]; omega)
  rw [e16] at l
  refine ⟨l, fun g g0 hg => ?_⟩
  unfold jA at hg
  rw [has_or (by omega) (by omega) n1 (by omega), n3 g g0] at hg
  rcases (Bool.or_eq_true _ _).mp hg with z | z
  · exact Or.inl z
  · exact Or.inr ((Bool.and_eq_true _ _).mp z).1
def jF (B : Sg) (a b z : Int) : Sg := fun j => if j = 2 then pt (jB B a b (B 2 b).toNat 2) b 0 else if j = 4 then pt (B 4) b a else if j = 5 then pt (pt (B 5) a (jA B a b)) b 0 else if j = 6 then pt (pt (B 6) a z) b 0 else jB B a b (B 2 b).toNat j
theorem jB_nb {B : Sg} {a b : Int} (hW : WfB B) (hab : a ≠ b) (b0 : 0 ≤ b) (b1 : b < B 0 0) {k : Int} (k0 : 0 ≤ k) (k1 : k < B 0 7) : jB B a b (B 2 b).toNat 7 k ≠ b := by
  have wm := hW.2.2.2.1 k k0 k1
  have wb := (hW.2.2.1 b b0 b1).1
  by_cases c : jK B b (B 2 b).toNat k
  · have e7 : jB B a b (B 2 b).toNat 7 k = a := jT_y c
    rw [e7]; exact hab
  · have e7 : jB B a b (B 2 b).toNat 7 k = B 7 k := jT_n c
    rw [e7]
    intro z
    have := wm.2.1.2
    rw [z] at this
    exact c ⟨⟨k0, k1⟩, z, by omega⟩
theorem jF_wf {B : Sg} {a b z : Int} (hW : WfB B) (a0 : 0 ≤ a) (a1 : a < B 0 0) (b0 : 0 ≤ b) (b1 : b < B 0 0) (hab : a ≠ b) (h6 : jn B a b (B 2 b).toNat ≤ 6) (z0 : 0 ≤ z) (z1 : z ≤ 99) : WfB (jF B a b z) := by
  have hW' := hW
  have wb := (hW.2.2.1 b b0 b1).1
  have w := jB_wf hW a0 a1 b0 b1 (B 2 b).toNat (by omega) h6
  obtain ⟨A1, A2⟩ := jA_b hW a0 a1 b0 b1
  have wa5 := (hW.2.2.1 a a0 a1).2.2.1
  have wb5 := (hW.2.2.1 b b0 b1).2.2.1
  refine ⟨hW.1, hW.2.1, fun h h0 h1 => ?_, fun k k0 k1 => ?_, ?_⟩
  · obtain ⟨q1, q2, q3, q4, q5⟩ := w.2.2.1 h h0 h1
    by_cases cb : h = b
    · subst cb
      have e2 : jF B a h z 2 h = 0 := pt_self
      have e4 : jF B a h z 4 h = a := pt_self
      have e5 : jF B a h z 5 h = 0 := pt_self
      have e6 : jF B a h z 6 h = 0 := pt_self
      unfold WfH
      rw [e2, e4, e5, e6]
      refine ⟨by omega, ⟨by omega, a1⟩, ⟨by omega, by omega, fun g g0 hg => ?_⟩, by omega, fun s s0 s1 => ?_⟩
      · rw [has_0] at hg; exact absurd hg (by decide)
      · have e : s = -1 := by omega
        subst e
        exact (hW.2.2.1 h h0 h1).2.2.2.2 (-1) (by decide) (by omega)
    · have e2 : jF B a b z 2 h = jB B a b (B 2 b).toNat 2 h := pt_ne cb
      have e4 : jF B a b z 4 h = B 4 h := pt_ne cb
      have ee : ∀ s : Int, ew (jF B a b z) h s = ew (jB B a b (B 2 b).toNat) h s := fun s => rfl
      by_cases ca : h = a
      · subst ca
        have e5 : jF B h b z 5 h = jA B h b := (pt_ne cb).trans pt_self
        have e6 : jF B h b z 6 h = z := (pt_ne cb).trans pt_self
        unfold WfH
        rw [e2, e4, e5, e6]
        refine ⟨q1, q2, ⟨A1.1, A1.2, fun g g0 hg => ?_⟩, by omega, fun s s0 s1 => q5 s s0 s1⟩
        rcases A2 g g0 hg with y | y
        · exact wa5.2.2 g g0 y
        · exact wb5.2.2 g g0 y
      · have e5 : jF B a b z 5 h = B 5 h := (pt_ne cb).trans (pt_ne ca)
        have e6 : jF B a b z 6 h = B 6 h := (pt_ne cb).trans (pt_ne ca)
        unfold WfH
        rw [e2, e4, e5, e6]
        exact ⟨q1, q2, q3, q4, fun s s0 s1 => q5 s s0 s1⟩
  · obtain ⟨q1, q2, q3, q4⟩ := w.2.2.2.1 k k0 k1
    refine ⟨q1, ⟨q2.1, ?_⟩, q3, q4⟩
    have nb := jB_nb hW' hab b0 b1 (a := a) k0 k1
    have e2 : jF B a b z 2 (jF B a b z 7 k) = jB B a b (B 2 b).toNat 2 (jB B a b (B 2 b).toNat 7 k) := pt_ne nb
    rw [e2]
    exact q2.2
  · have h8 := hW.2.2.2.2
    unfold alsoSum at h8 ⊢
    have e := sumN_two (f := fun h => cnt (fun g => has (B 5 h) g) 16) (g := fun h => cnt (fun g => has (jF B a b z 5 h) g) 16) a0 b0 hab (fun i ia ib => by
      have e5 : jF B a b z 5 i = B 5 i := (pt_ne ib).trans (pt_ne ia)
      rw [e5]) (B 0 0).toNat
    have e5a : jF B a b z 5 a = jA B a b := (pt_ne hab).trans pt_self
    have e5b : jF B a b z 5 b = 0 := pt_self
    have e0 : (jF B a b z 0 0).toNat = (B 0 0).toNat := rfl
    rw [e0, e, if_pos (by omega), if_pos (by omega), e5a, e5b]
    have c1 := cnt_or (p := fun g => has (jA B a b) g) (q := fun g => has (B 5 a) g) (r := fun g => has (B 5 b) g) 16 (fun i hi hp => A2 i (by omega) hp)
    have c2 : cnt (fun g => has 0 g) 16 = 0 := cnt_z 16 (fun i hi => by rw [has_0]; decide)
    rw [c2]
    omega
/-! the reference's last passes -/
theorem r_joinEnd {σ υ B : Sg} {post : Po} {a b z : Int} (hW : WfB B) (hR : RA (bk σ 94) B) (a0 : 0 ≤ a) (a1 : a < B 0 0) (b0 : 0 ≤ b) (b1 : b < B 0 0) (hab : a ≠ b) (h6 : jn B a b (B 2 b).toNat ≤ 6) (hz : (z = B 6 a + B 6 b ∧ B 6 a + B 6 b ≤ 99) ∨ (z = 99 ∧ ¬ B 6 a + B 6 b ≤ 99)) (hJ : JR σ υ B a b (B 2 b).toNat) (hp : ∀ ξ : Sg, FrJ [95, 96, 97, 98, 99, 100, 101, 102, 121] [] σ ξ → RA (bk ξ 94) (jF B a b z) → post (some (vi (nM (jF B a b z) a (-2)))) ξ) : V mX12_join 196 [some (vr 94), some (vi a), some (vi b), none, some (vi 0)] [] υ post := by
  obtain ⟨hF, h95, hw, hb⟩ := hJ
  have wh := hW.1
  have wm := hW.2.1
  have wa := hW.2.2.1 a a0 a1
  have wb := hW.2.2.1 b b0 b1
  have ok := j_ok hW a0 a1 b0 b1 (B 2 b).toNat (by have := wb.1; omega)
  have z0 : 0 ≤ z ∧ z ≤ 99 := by have := wa.2.2.2.1; have := wb.2.2.2.1; omega
  have wF := jF_wf hW a0 a1 b0 b1 hab h6 z0.1 z0.2
  have loop : ∀ (n j : Nat) (ξ : Sg), (j : Int) + n = B 0 7 → FrJ [101, 102] [] υ ξ → (∀ k : Int, 0 ≤ k → k < B 0 7 → ξ 101 k = (if k < j then jB B a b (B 2 b).toNat 7 k else B 7 k) ∧ ξ 102 k = (if k < j then jB B a b (B 2 b).toNat 8 k else B 8 k)) → V mX12_join 196 [some (vr 94), some (vi a), some (vi b), none, some (vi (j : Int))] [] ξ post := by
    intro n
    induction n with
    | zero =>
      intro j ξ hj hG hM
      have e7 : ξ 94 7 = B 0 7 := (hG.2 7 (by simp)).trans ((hF.2 7 (by simp)).trans (Ra_marks hR))
      have t : ∀ q : Nat, q ≠ 94 → q ≠ 101 → q ≠ 102 → ξ q = υ q := fun q h1 h2 h3 => hG.1 q (by simp; omega) h1
      have e98 : ξ 98 = σ 98 := (t 98 (by decide) (by decide) (by decide)).trans (hF.1 98 (by decide) (by decide))
      have e99 : ξ 99 = σ 99 := (t 99 (by decide) (by decide) (by decide)).trans (hF.1 99 (by decide) (by decide))
      have e100 : ξ 100 = σ 100 := (t 100 (by decide) (by decide) (by decide)).trans (hF.1 100 (by decide) (by decide))
      have q99a : ξ 99 a = B 5 a := by rw [e99]; exact Ra_also hR a0 a1
      have q99b : ξ 99 b = B 5 b := by rw [e99]; exact Ra_also hR b0 b1
      have q100a : ξ 100 a = B 6 a := by rw [e100]; exact Ra_ask hR a0 a1
      have q100b : ξ 100 b = B 6 b := by rw [e100]; exact Ra_ask hR b0 b1
      have fin : ∀ zz : Int, zz = z → Cl mX12_marksOf [vr 94, vi a, vi (-2)] (up (up (up (up (up (up ξ 99 a (iOr (ξ 99 a) (iAnd (ξ 99 b) (iXor (iShl 1 a) (-1))))) 100 a zz) 98 b a) 95 b 0) 99 b 0) 100 b 0) (pI fun z1 σ1 => post (some (vi z1)) σ1) := by
        intro zz hzz
        subst hzz
        have eA : iOr (ξ 99 a) (iAnd (ξ 99 b) (iXor (iShl 1 a) (-1))) = jA B a b := by rw [q99a, q99b]; rfl
        rw [eA]
        generalize hζ : (up (up (up (up (up (up ξ 99 a (jA B a b)) 100 a zz) 98 b a) 95 b 0) 99 b 0) 100 b 0) = ζ
        have f95 : ζ 95 = pt (ξ 95) b 0 := by subst hζ; rfl
        have f98 : ζ 98 = pt (ξ 98) b a := by subst hζ; rfl
        have f99 : ζ 99 = pt (pt (ξ 99) a (jA B a b)) b 0 := by subst hζ; rfl
        have f100 : ζ 100 = pt (pt (ξ 100) a zz) b 0 := by subst hζ; rfl
        have fo : ∀ q : Nat, q ≠ 95 → q ≠ 98 → q ≠ 99 → q ≠ 100 → ζ q = ξ q := fun q h1 h2 h3 h4 => by
          subst hζ
          rw [up_r h4, up_r h3, up_r h1, up_r h2, up_r h4, up_r h3]
        have hFr : FrJ [95, 96, 97, 98, 99, 100, 101, 102, 121] [] σ ζ := by
          refine (hF.mo (by decide) (by decide)).tr ((hG.mo (by decide) (by decide)).tr ⟨fun q hq h94 => ?_, fun j _ => by rw [fo 94 (by decide) (by decide) (by decide) (by decide)]⟩)
          simp at hq
          exact fo q (by omega) (by omega) (by omega) (by omega)
        have hRA : RA (bk ζ 94) (jF B a b zz) := by
          refine ⟨?_, ?_, fun h h0 h1 => ?_, fun k k0 k1 => ?_⟩
          · show ζ 94 0 = B 0 0
            rw [hFr.2 0 (by simp)]; exact Ra_heads hR
          · show ζ 94 7 = B 0 7
            rw [hFr.2 7 (by simp)]; exact Ra_marks hR
          · have h1' : h < B 0 0 := h1
            have r2 : ζ 95 h = jF B a b zz 2 h := by
              rw [f95, t 95 (by decide) (by decide) (by decide), h95]
              show pt (pt (σ 95) a (jn B a b (B 2 b).toNat)) b 0 h = pt (pt (B 2) a (jn B a b (B 2 b).toNat)) b 0 h
              by_cases c : h = b
              · rw [c, pt_self, pt_self]
              · rw [pt_ne c, pt_ne c]
                by_cases d : h = a
                · rw [d, pt_self, pt_self]
                · rw [pt_ne d, pt_ne d]; exact Ra_subs hR h0 h1'
            have r4 : ζ 98 h = jF B a b zz 4 h := by
              rw [f98, e98]
              show pt (σ 98) b a h = pt (B 4) b a h
              by_cases c : h = b
              · rw [c, pt_self, pt_self]
              · rw [pt_ne c, pt_ne c]; exact Ra_see hR h0 h1'
            have r5 : ζ 99 h = jF B a b zz 5 h := by
              rw [f99, e99]
              show pt (pt (σ 99) a (jA B a b)) b 0 h = pt (pt (B 5) a (jA B a b)) b 0 h
              by_cases c : h = b
              · rw [c, pt_self, pt_self]
              · rw [pt_ne c, pt_ne c]
                by_cases d : h = a
                · rw [d, pt_self, pt_self]
                · rw [pt_ne d, pt_ne d]; exact Ra_also hR h0 h1'
            have r6 : ζ 100 h = jF B a b zz 6 h := by
              rw [f100, e100]
              show pt (pt (σ 100) a zz) b 0 h = pt (pt (B 6) a zz) b 0 h
              by_cases c : h = b
              · rw [c, pt_self, pt_self]
              · rw [pt_ne c, pt_ne c]
                by_cases d : h = a
                · rw [d, pt_self, pt_self]
                · rw [pt_ne d, pt_ne d]; exact Ra_ask hR h0 h1'
            refine ⟨r2, r4, r5, r6, fun s s0 s1 => ?_⟩
            show RW (ζ 96) (ζ 97) (7 * h + 1 + s) (ew (jS B a b (B 2 b).toNat) h s)
            rw [fo 96 (by decide) (by decide) (by decide) (by decide), fo 97 (by decide) (by decide) (by decide) (by decide), t 96 (by decide) (by decide) (by decide), t 97 (by decide) (by decide) (by decide)]
            refine hw h s h0 h1' s0 ?_
            have s1' : s < pt (jS B a b (B 2 b).toNat 2) b 0 h := s1
            by_cases c : h = b
            · rw [c, pt_self] at s1'
              have : jS B a b (B 2 b).toNat 2 b = B 2 b := pt_ne (fun y => hab y.symm)
              rw [c, this]
              have := wb.1
              omega
            · rw [pt_ne c] at s1'
              exact s1'
          · have k1' : k < B 0 7 := k1
            obtain ⟨m7, m8, m9, m10, m11⟩ := Ra_m hR k0 k1'
            have M := hM k k0 k1'
            rw [if_pos (by omega), if_pos (by omega)] at M
            refine ⟨?_, ?_, ?_, ?_, ?_⟩
            · show ζ 101 k = jB B a b (B 2 b).toNat 7 k
              rw [fo 101 (by decide) (by decide) (by decide) (by decide)]; exact M.1
            · show ζ 102 k = jB B a b (B 2 b).toNat 8 k
              rw [fo 102 (by decide) (by decide) (by decide) (by decide)]; exact M.2
            · show ζ 103 k = B 9 k
              rw [hFr.1 103 (by decide) (by decide)]; exact m9
            · show ζ 104 k = B 10 k
              rw [hFr.1 104 (by decide) (by decide)]; exact m10
            · show ζ 105 k = B 11 k
              rw [hFr.1 105 (by decide) (by decide)]; exact m11
        exact r_marksOf wF hRA (by omega) (by decide) ⟨_, rfl, hp ζ hFr hRA⟩
      have a6 := wa.2.2.2.1
      have b6 := wb.2.2.2.1
      refine BX12_join_196 ⟨by omega, by rw [e7]; omega, fun _ => ⟨by omega, by omega, by rw [q100a, q100b]; omega, fun y => fin _ ?_, fun y => fin _ ?_⟩, fun y => absurd (by rw [e7]; omega) y⟩
      · rw [q100a, q100b] at y ⊢; omega
      · rw [q100a, q100b] at y; omega
    | succ n ih =>
      intro j ξ hj hG hM
      have e7 : ξ 94 7 = B 0 7 := (hG.2 7 (by simp)).trans ((hF.2 7 (by simp)).trans (Ra_marks hR))
      obtain ⟨M1, M2⟩ := hM j (by omega) (by omega)
      rw [if_neg (by omega)] at M1 M2
      obtain ⟨w1, w2, w3, w4⟩ := hW.2.2.2.1 j (by omega) (by omega)
      have w5 := (hW.2.2.1 (B 7 j) w1.1 w1.2).1
      have nx : ∀ ζ : Sg, FrJ [101, 102] [] υ ζ → (∀ k : Int, k ≠ j → ζ 101 k = ξ 101 k ∧ ζ 102 k = ξ 102 k) → ζ 101 j = jB B a b (B 2 b).toNat 7 j → ζ 102 j = jB B a b (B 2 b).toNat 8 j → V mX12_join 196 [some (vr 94), some (vi a), some (vi b), none, some (vi ((j : Int) + 1))] [] ζ post := by
        intro ζ hX ho h1 h2
        refine ih (j + 1) ζ (by omega) hX (fun k k0 k1 => ?_)
        by_cases c : k = j
        · rw [c, if_pos (by omega), if_pos (by omega)]; exact ⟨h1, h2⟩
        · rw [(ho k c).1, (ho k c).2, (hM k k0 k1).1, (hM k k0 k1).2]
          by_cases d : k < j
          · rw [if_pos d, if_pos d, if_pos (by omega), if_pos (by omega)]; exact ⟨rfl, rfl⟩
          · rw [if_neg d, if_neg d, if_neg (by omega), if_neg (by omega)]; exact ⟨rfl, rfl⟩
      refine BX12_join_196 ⟨by omega, by rw [e7]; omega, fun y => absurd y (by rw [e7]; omega), fun _ => ⟨by omega, by rw [M1]; omega, by omega, fun y => ?_, fun y => ?_⟩⟩
      · rw [M1] at y
        have hK : ¬ jK B b (B 2 b).toNat j := fun c => y c.2.1
        have e7' : jB B a b (B 2 b).toNat 7 j = B 7 j := jT_n hK
        have e8' : jB B a b (B 2 b).toNat 8 j = B 8 j := jT_n hK
        exact BX12_join_257 (nx ξ hG (fun k hk => ⟨rfl, rfl⟩) (by rw [e7']; exact M1) (by rw [e8']; exact M2))
      · rw [M1] at y
        have w2' := w2
        rw [y] at w2'
        have hK : jK B b (B 2 b).toNat j := ⟨⟨by omega, by omega⟩, y, by omega⟩
        have e7' : jB B a b (B 2 b).toNat 7 j = a := jT_y hK
        have e8' : jB B a b (B 2 b).toNat 8 j = jb B a b (B 2 b).toNat (B 8 j) := jT_y hK
        have wb1 := wb.1
        refine ⟨by rw [M2]; omega, fun y2 => ⟨by rw [M2] at y2 ⊢; omega, ?_⟩, fun y2 => ?_⟩
        · rw [M2] at y2
          refine BX12_join_257 (nx _ ((hG.u (by decide) (by decide)).u (by decide) (by decide)) (fun k hk => ⟨by rw [up_r (by decide), up_f hk], by rw [up_f hk, up_r (by decide)]⟩) (by rw [up_r (by decide), up_s, e7']) ?_)
          rw [up_s, e8', M2, hG.1 121 (by decide) (by decide)]
          exact hb _ y2 (by omega)
        · rw [M2] at y2
          refine BX12_join_257 (nx _ ((hG.u (by decide) (by decide)).u (by decide) (by decide)) (fun k hk => ⟨by rw [up_r (by decide), up_f hk], by rw [up_f hk, up_r (by decide)]⟩) (by rw [up_r (by decide), up_s, e7']) ?_)
          rw [up_s, e8', ok.2.2.2.1 _ (by omega)]
  refine loop (B 0 7).toNat 0 υ (by omega) FrJ.rf (fun k k0 k1 => ?_)
  obtain ⟨m7, m8, _⟩ := Ra_m hR k0 k1
  rw [if_neg (by omega), if_neg (by omega), hF.1 101 (by decide) (by decide), hF.1 102 (by decide) (by decide)]
  exact ⟨m7, m8⟩
