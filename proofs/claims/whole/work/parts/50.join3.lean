/-! ===== PURE HALF, by hand: join, the reference ===== -/
theorem r_likeSub {σ : Sg} {post : Po} {a v c n : Int} {w : Int → Int} (a0 : 0 ≤ a) (a1 : a < 16) (v0 : 0 ≤ v) (v1 : v < 112) (hn : σ 95 a = n) (n0 : 0 ≤ n) (n6 : n ≤ 6) (hw : ∀ s : Int, 0 ≤ s → s < n → WW (w s) ∧ RW (σ 96) (σ 97) (7 * a + 1 + s) (w s)) (hc : WW c) (hv : RW (σ 96) (σ 97) v c) (hp : post (some (vi (fnd (fun s => decide (w s = c)) n.toNat))) σ) : Cl mX12_likeSub [vr 94, vi a, vi v] σ post := by
  have lv : σ 96 v = wlen c := hv.1
  have cl := hc.2.1
  refine EX12_likeSub ?_
  have loop : ∀ (m j : Nat), (j : Int) + m = n → (∀ i : Nat, i < j → ¬ (decide (w i = c)) = true) → V mX12_likeSub 2 [some (vr 94), some (vi a), some (vi v), some (vi (j : Int)), none, none, none] [] σ post := by
    intro m
    induction m with
    | zero =>
      intro j hj hno
      refine BX12_likeSub_2 ⟨by omega, by omega, by rw [hn]; omega, fun _ => ?_, fun z => absurd (by rw [hn]; omega) z⟩
      rw [fnd_none _ (fun i hi => hno i (by omega))] at hp
      exact hp
    | succ m ih =>
      intro j hj hno
      obtain ⟨hd, hu⟩ := hw j (by omega) (by omega)
      have lu : σ 96 (7 * a + 1 + (j : Int)) = wlen (w j) := hu.1
      have dl := hd.2.1
      have nx : ¬ w j = c → V mX12_likeSub 2 [some (vr 94), some (vi a), some (vi v), some (vi ((j : Int) + 1)), none, none, none] [] σ post := fun hne => by
        refine ih (j + 1) (by omega) (fun i hi => ?_)
        by_cases e : i = j
        · rw [e, decide_eq_true_iff]; exact hne
        · exact hno i (by omega)
      have zero : ¬ w j = c → ∀ l : Int, 0 ≤ l → l ≤ 12 → V mX12_likeSub 45 [some (vr 94), some (vi a), some (vi v), some (vi (j : Int)), some (vi (7 * a + 1 + (j : Int))), some (vi 0), some (vi l)] [] σ post := by
        intro hne l l0 l1
        exact BX12_likeSub_45 ⟨by omega, by omega, by rw [lv]; omega, fun _ => ⟨by decide, fun _ => nx hne, fun z => absurd rfl z⟩, fun _ => ⟨by decide, fun _ => ⟨fun _ => nx hne, fun z => absurd rfl z⟩, fun z => absurd rfl z⟩⟩
      refine BX12_likeSub_2 ⟨by omega, by omega, by rw [hn]; omega, fun z => absurd z (by rw [hn]; omega), fun _ => r_slot ⟨_, rfl, by omega, by omega, by rw [lu]; omega, by rw [lv]; omega, fun z => zero (fun e => z (by rw [lu, lv, e])) 0 (by omega) (by omega), fun z => ?_⟩⟩
      rw [lu, lv] at z
      have inner : ∀ (q : Nat) (l : Int), 0 ≤ l → l + q = wlen c → (∀ i : Int, 0 ≤ i → i < l → cd (w j) i = cd c i) → V mX12_likeSub 45 [some (vr 94), some (vi a), some (vi v), some (vi (j : Int)), some (vi (7 * a + 1 + (j : Int))), some (vi 1), some (vi l)] [] σ post := by
        intro q
        induction q with
        | zero =>
          intro l l0 hl hs
          have e : w j = c := WW_ext hd hc z (fun i i0 i1 => hs i i0 (by omega))
          refine BX12_likeSub_45 ⟨by omega, by omega, by rw [lv]; omega, fun _ => ⟨by decide, fun y => absurd y (by decide), fun _ => ?_⟩, fun y => absurd (by rw [lv]; omega) y⟩
          rw [fnd_some (p := fun s => decide (w s = c)) n.toNat j (by omega) (decide_eq_true e) hno] at hp
          exact hp
        | succ q ih2 =>
          intro l l0 hl hs
          have c1 : σ 97 (12 * (7 * a + 1 + (j : Int)) + l) = cd (w j) l + 94 := hu.2 l l0 (by omega)
          have c2 : σ 97 (12 * v + l) = cd c l + 94 := hv.2 l l0 (by omega)
          have q1 := cd_b (w j) l
          have q2 := cd_b c l
          refine BX12_likeSub_45 ⟨by omega, by omega, by rw [lv]; omega, fun y => absurd y (by rw [lv]; omega), fun _ => ⟨by decide, fun y => absurd y (by decide), fun _ => ⟨by omega, by omega, by rw [c1]; omega, by rw [c2]; omega, fun y => ?_, fun y => ?_⟩⟩⟩
          · rw [c1, c2] at y
            exact zero (fun e => y (by rw [e])) (l + 1) (by omega) (by omega)
          · rw [c1, c2] at y
            refine ih2 (l + 1) (by omega) (by omega) (fun i i0 i1 => ?_)
            by_cases e : i = l
            · rw [e]; omega
            · exact hs i i0 (by omega)
      exact inner (wlen c).toNat 0 (by omega) (by omega) (fun i i0 i1 => by omega)
  exact loop n.toNat 0 (by omega) (fun i hi => by omega)
theorem r_copyWord {σ : Sg} {post : Po} {v u : Int} (v0 : 0 ≤ v) (v1 : v < 112) (u0 : 0 ≤ u) (u1 : u < 112) (huv : u ≠ v) (hp : ∀ σ' : Sg, FrJ [96, 97] [] σ σ' → σ' 96 = pt (σ 96) u (σ 96 v) → (∀ y : Int, ¬ (12 * u ≤ y ∧ y < 12 * u + 12) → σ' 97 y = σ 97 y) → (∀ i : Int, 0 ≤ i → i < 12 → σ' 97 (12 * u + i) = σ 97 (12 * v + i)) → post none σ') : Cl mX12_copyWord [vr 94, vi v, vi u] σ post := by
  refine EX12_copyWord ⟨by omega, by omega, ?_⟩
  have loop : ∀ (n : Nat) (j : Int) (τ : Sg), 0 ≤ j → j + n = 12 → FrJ [96, 97] [] σ τ → τ 96 = pt (σ 96) u (σ 96 v) → (∀ y : Int, ¬ (12 * u ≤ y ∧ y < 12 * u + 12) → τ 97 y = σ 97 y) → (∀ i : Int, 0 ≤ i → i < j → τ 97 (12 * u + i) = σ 97 (12 * v + i)) → V mX12_copyWord 14 [some (vr 94), some (vi v), some (vi u), some (vi j)] [] τ post := by
    intro n
    induction n with
    | zero =>
      intro j τ j0 hj hF h96 ho hi
      exact BX12_copyWord_14 ⟨by omega, fun _ => hp τ hF h96 ho (fun i i0 i1 => hi i i0 (by omega)), fun z => absurd (by omega) z⟩
    | succ n ih =>
      intro j τ j0 hj hF h96 ho hi
      refine BX12_copyWord_14 ⟨by omega, fun z => absurd z (by omega), fun _ => ⟨by omega, by omega, ih (j + 1) _ (by omega) (by omega) (hF.u (by decide) (by decide)) (by rw [up_r (by decide)]; exact h96) (fun y hy => ?_) (fun i i0 i1 => ?_)⟩⟩
      · rw [up_f (by omega)]; exact ho y hy
      · by_cases c : i = j
        · rw [c, up_s]; exact ho _ (by omega)
        · rw [up_f (by omega)]; exact hi i i0 (by omega)
  exact loop 12 0 _ (by omega) (by omega) (FrJ.rf.u (by decide) (by decide)) rfl (fun y hy => by rw [up_r (by decide)]) (fun i i0 i1 => by omega)
/-- what the reference holds of the words, i subs joined -/
def JR (σ υ B : Sg) (a b : Int) (i : Nat) : Prop :=
  FrJ [95, 96, 97, 121] [] σ υ ∧ υ 95 = pt (σ 95) a (jn B a b i) ∧ (∀ h s : Int, 0 ≤ h → h < B 0 0 → -1 ≤ s → s < jS B a b i 2 h → RW (υ 96) (υ 97) (7 * h + 1 + s) (ew (jS B a b i) h s)) ∧ ∀ j : Int, 0 ≤ j → j < i → υ 121 j = jb B a b i j
theorem r_joinSubs {σ B : Sg} {post : Po} {a b : Int} (hW : WfB B) (hR : RA (bk σ 94) B) (a0 : 0 ≤ a) (a1 : a < B 0 0) (b0 : 0 ≤ b) (b1 : b < B 0 0) (hab : a ≠ b) (n6 : ∀ i : Nat, (i : Int) ≤ B 2 b → 0 ≤ jn B a b i ∧ jn B a b i ≤ 6) (hp : ∀ υ : Sg, JR σ υ B a b (B 2 b).toNat → V mX12_join 196 [some (vr 94), some (vi a), some (vi b), none, some (vi 0)] [] υ post) : V mX12_join 105 [some (vr 94), some (vi a), some (vi b), none, some (vi 0)] [] σ post := by
  have wh := hW.1
  have wb := (hW.2.2.1 b b0 b1).1
  have s95b : σ 95 b = B 2 b := Ra_subs hR b0 b1
  have s95a : σ 95 a = B 2 a := Ra_subs hR a0 a1
  have loop : ∀ (n i : Nat) (υ : Sg), (i : Int) + n = B 2 b → JR σ υ B a b i → V mX12_join 105 [some (vr 94), some (vi a), some (vi b), none, some (vi (i : Int))] [] υ post := by
    intro n
    induction n with
    | zero =>
      intro i υ hi hJ
      have e95 : υ 95 b = B 2 b := by rw [hJ.2.1, pt_ne (fun z => hab z.symm)]; exact s95b
      have ei : (B 2 b).toNat = i := by omega
      rw [ei] at hp
      exact BX12_join_105 ⟨by omega, by omega, by rw [e95]; omega, fun _ => hp υ hJ, fun z => absurd (by rw [e95]; omega) z⟩
    | succ n ih =>
      intro i υ hi hJ
      have hJ' := hJ
      obtain ⟨hF, h95, hw, hb⟩ := hJ
      have e95 : υ 95 b = B 2 b := by rw [h95, pt_ne (fun z => hab z.symm)]; exact s95b
      have e95a : υ 95 a = jn B a b i := by rw [h95, pt_self]
      have N := n6 i (by omega)
      have N2 := n6 (i + 1) (by omega)
      have ok := j_ok hW a0 a1 b0 b1 i (by omega)
      have ww := Wws hW b0 b1 (s := i) (by omega) (by omega)
      have jSb : jS B a b i 2 b = B 2 b := pt_ne (fun z => hab z.symm)
      have jSa : ∀ m : Nat, jS B a b m 2 a = jn B a b m := fun m => pt_self
      have eWb : ew (jS B a b i) b i = B 3 (b * 6 + i) := by
        rw [jS_ew (by omega) (by omega) (fun z => hab z.1.symm)]
        exact if_neg (by omega)
      have rwb := hw b i b0 b1 (by omega) (by rw [jSb]; omega)
      rw [eWb] at rwb
      have hwa : ∀ s : Int, 0 ≤ s → s < jn B a b i → WW (jv B a b i s) ∧ RW (υ 96) (υ 97) (7 * a + 1 + s) (jv B a b i s) := by
        intro s s0 s1
        refine ⟨ok.2.2.1 s s0 s1, ?_⟩
        have := hw a s a0 a1 (by omega) (by rw [jSa]; exact s1)
        rw [jS_ewa s0 (by omega)] at this
        exact this
      have zb : -1 ≤ jz B a b i ∧ jz B a b i < (jn B a b i).toNat := fnd_b (fun s => decide (jv B a b i s = B 3 (b * 6 + i))) (jn B a b i).toNat
      refine BX12_join_105 ⟨by omega, by omega, by rw [e95]; omega, fun z => absurd z (by rw [e95]; omega), fun _ => r_slot ⟨_, rfl, r_likeSub a0 (by omega) (by omega) (by omega) e95a N.1 N.2 hwa ww rwb ⟨_, rfl, ?_⟩⟩⟩
      show (0 ≤ (i : Int) ∧ (i : Int) < 6) ∧ ((rng (jz B a b i)) ∧ ((0 ≤ jz B a b i → V mX12_join 187 [some (vr 94), some (vi a), some (vi b), none, some (vi (i : Int))] [] (up υ 121 i (jz B a b i)) post) ∧ (¬ 0 ≤ jz B a b i → (0 ≤ a ∧ a < 16) ∧ (Cl mX12_slot [vi b, vi (i : Int)] (up (up υ 121 i (jz B a b i)) 121 i (υ 95 a)) (pI fun z3 σ3 => Cl mX12_slot [vi a, vi (σ3 95 a)] σ3 (pI fun z4 σ4 => Cl mX12_copyWord [vr 94, vi z3, vi z4] σ4 (pV fun σ5 => V mX12_join 187 [some (vr 94), some (vi a), some (vi b), none, some (vi (i : Int))] [] (up σ5 95 a ((σ5 95 a) + 1)) post)))))))
      refine ⟨by omega, by omega, fun z => ?_, fun z => ⟨by omega, r_slot ⟨_, rfl, ?_⟩⟩⟩
      · obtain ⟨y1, y2, y3⟩ := j_n (B := B) (a := a) (b := b) (i := i) (by omega)
        have e3 : ∀ h s : Int, ew (jS B a b (i + 1)) h s = ew (jS B a b i) h s := fun h s => by
          show (if s = -1 then B 1 h else jS B a b (i + 1) 3 (h * 6 + s)) = if s = -1 then B 1 h else jS B a b i 3 (h * 6 + s)
          rw [← jS_3n (B := B) (a := a) (b := b) (i := i) (by omega)]
        have e2 : jS B a b (i + 1) 2 = jS B a b i 2 := by
          show pt (B 2) a (jn B a b (i + 1)) = pt (B 2) a (jn B a b i)
          rw [y1]
        refine BX12_join_187 (ih (i + 1) _ (by omega) ⟨hF.u (by decide) (by decide), ?_, fun h s h0 h1 s0 s1 => ?_, fun j j0 j1 => ?_⟩)
        · rw [up_r (by decide), h95, y1]
        · rw [up_r (by decide), up_r (by decide), e3]
          rw [e2] at s1
          exact hw h s h0 h1 s0 s1
        · rw [y3]
          by_cases c : j = i
          · rw [c, up_s, pt_self]
          · rw [up_f c, pt_ne c]; exact hb j j0 (by omega)
      · have hz : jz B a b i = -1 := by omega
        obtain ⟨y1, y2, y3⟩ := j_y hz
        have t : ∀ k : Nat, k ≠ 121 → up (up υ 121 i (jz B a b i)) 121 i (υ 95 a) k = υ k := fun k hk => by rw [up_r hk, up_r hk]
        refine r_slot ⟨_, rfl, ?_⟩
        rw [t 95 (by decide), e95a]
        rw [e95a] at t
        refine r_copyWord (by omega) (by omega) (by omega) (by omega) (by omega) (fun ξ hG g96 go gi => ⟨rfl, BX12_join_187 (ih (i + 1) _ (by omega) ⟨?_, ?_, fun h s h0 h1 s0 s1 => ?_, fun j j0 j1 => ?_⟩)⟩)
        · exact (((hF.u (by decide) (by decide)).u (by decide) (by decide)).tr (hG.mo (by decide) (by decide))).u (by decide) (by decide)
        · show pt (ξ 95) a (ξ 95 a + 1) = _
          rw [hG.1 95 (by decide) (by decide), t 95 (by decide), e95a, y1, h95]
          funext x
          by_cases c : x = a
          · rw [c, pt_self, pt_self]
          · rw [pt_ne c, pt_ne c, pt_ne c]
        · rw [up_r (by decide), up_r (by decide)]
          rw [t 96 (by decide)] at g96
          rw [t 97 (by decide)] at go gi
          by_cases c : h = a ∧ s = jn B a b i
          · obtain ⟨rfl, rfl⟩ := c
            rw [jS_ewa (by omega) (by omega), y2, pt_self]
            refine ⟨?_, fun l l0 l1 => ?_⟩
            · rw [g96, pt_self]; exact rwb.1
            · have := ww.2.1
              rw [gi l l0 (by omega)]; exact rwb.2 l l0 l1
          · have sb : s < jS B a b i 2 h ∧ s < 6 ∧ ew (jS B a b (i + 1)) h s = ew (jS B a b i) h s := by
              by_cases d : h = a
              · subst d
                rw [jSa, y1] at s1
                refine ⟨by rw [jSa]; omega, by omega, ?_⟩
                by_cases f : 0 ≤ s
                · rw [jS_ewa f (by omega), jS_ewa f (by omega), y2, pt_ne (by omega)]
                · rw [jS_ew s0 (by omega) (by omega), jS_ew s0 (by omega) (by omega)]
              · have q1 := (hW.2.2.1 h h0 h1).1
                have q2 : ∀ m : Nat, jS B a b m 2 h = B 2 h := fun m => pt_ne d
                rw [q2] at s1
                refine ⟨by rw [q2]; exact s1, by omega, ?_⟩
                rw [jS_ew s0 (by omega) (fun z => d z.1), jS_ew s0 (by omega) (fun z => d z.1)]
            have old := hw h s h0 h1 s0 sb.1
            rw [sb.2.2]
            have ne : 7 * h + 1 + s ≠ 7 * a + 1 + jn B a b i := by
              have := sb.2.1
              intro z
              exact c (by omega)
            refine ⟨?_, fun l l0 l1 => ?_⟩
            · rw [g96, pt_ne ne]; exact old.1
            · have l2 : l < 12 := by
                have q : wlen (ew (jS B a b i) h s) ≤ 12 := (cnt_b _ 12).2
                omega
              rw [go _ (by omega)]
              exact old.2 l l0 l1
        · rw [up_r (by decide), hG.1 121 (by decide) (by decide), y3]
          by_cases c : j = i
          · rw [c, up_s, pt_self]
          · rw [up_f c, up_f c, pt_ne c]; exact hb j j0 (by omega)
  refine loop (B 2 b).toNat 0 σ (by omega) ⟨FrJ.rf, ?_, fun h s h0 h1 s0 s1 => ?_, fun j j0 j1 => by omega⟩
  · funext x
    by_cases c : x = a
    · rw [c, pt_self]; exact s95a
    · rw [pt_ne c]
  · rw [jS_0.1] at s1
    have e : ew (jS B a b 0) h s = ew B h s := by
      show (if s = -1 then B 1 h else jS B a b 0 3 (h * 6 + s)) = if s = -1 then B 1 h else B 3 (h * 6 + s)
      rw [jS_0.2]
    rw [e]
    exact Ra_w hR h0 h1 s0 s1
