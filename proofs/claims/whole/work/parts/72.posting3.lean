/-! ===== PURE HALF, by hand: the reference's tryPosting; posting ===== -/
def rbs (f g h : Int → Int) (m : Nat) (base n : Int) : Nat → Int × Int × Int
  | 0 => (-1, -1, -1)
  | p + 1 => bst f g h m base n p
theorem Gs_0 (f : Int → Int) : ∀ (m k : Nat), Gs f m k 0 = 0
  | 0, _ => rfl
  | m + 1, k => by rw [Gs, if_neg (by decide), show 0 / 2 = 0 from rfl, Gs_0 f m (k + 1)]; rfl
theorem rbs_s {f g h : Int → Int} {m : Nat} {base n : Int} (b0 : 0 ≤ base) (hb : base ≤ n) : ∀ p : Nat, rbs f g h m base n (p + 1) = if base + Gs h m 0 p ≤ n ∧ ((rbs f g h m base n p).2.1 < Gs g m 0 p ∨ Gs g m 0 p = (rbs f g h m base n p).2.1 ∧ base + Gs h m 0 p < (rbs f g h m base n p).2.2) then (Gs f m 0 p, Gs g m 0 p, base + Gs h m 0 p) else rbs f g h m base n p
  | 0 => by
    rw [Gs_0, Gs_0, Gs_0, Int.add_zero, if_pos ⟨hb, Or.inl (by show (-1 : Int) < 0; decide)⟩]
    rfl
  | p + 1 => rfl
theorem rbs_b {f g h : Int → Int} {m : Nat} {base n : Int} (hm : m ≤ 10) (b0 : 0 ≤ base) (b1 : base ≤ 3000) (hB : okF f m) (hS : okF g m) (hL : okF h m) (p : Nat) : (-1000000 ≤ (rbs f g h m base n p).2.1 ∧ (rbs f g h m base n p).2.1 ≤ 1000000) ∧ (-1000000 ≤ (rbs f g h m base n p).2.2 ∧ (rbs f g h m base n p).2.2 ≤ 1000000) := by
  cases p with
  | zero =>
    show (-1000000 ≤ (-1 : Int) ∧ (-1 : Int) ≤ 1000000) ∧ (-1000000 ≤ (-1 : Int) ∧ (-1 : Int) ≤ 1000000)
    decide
  | succ p => exact (bst_b (n := n) hm b0 b1 hB hS hL p).2
theorem r_tryPosting {σ B : Sg} {post : Po} {how w n : Int} (hW : WfB B) (hR : RA (bk σ 94) B) (hh : how = 0 ∨ how = 1) (h27 : σ 94 27 = how) (h28 : σ 94 28 = w) (w0 : 0 ≤ w ∧ w ≤ 80) (n0 : 0 ≤ n) (n1 : n ≤ 999) (hp : ∀ σ' : Sg, FrJ Mq Jq σ σ' → (n < sumN (lin B how w 0) (B 0 0).toNat → σ' 94 38 = -1 ∧ σ' 94 39 = -1 ∧ σ' 94 40 = -1) → (sumN (lin B how w 0) (B 0 0).toNat ≤ n → ∀ b : Int × Int × Int, b = bst (fB B (B 0 0).toNat) (fS B (B 0 0).toNat) (fL B how w (B 0 0).toNat) (pl B (B 0 0).toNat).length (sumN (lin B how w 0) (B 0 0).toNat) n (2 ^ (pl B (B 0 0).toNat).length - 1) → σ' 94 38 = b.1 ∧ σ' 94 39 = b.2.1 ∧ σ' 94 40 = b.2.2) → post none σ') : Cl mX12_tryPosting [vr 94, vi n] σ post := by
  have wh := hW.1
  have al := all_len hW how w
  have tb := tens_nn (allB B how w (B 0 0).toNat)
  rw [tens_sum] at tb
  have ml := pl_len (B := B) (B 0 0).toNat
  have okB := ok_B (B := B) (n := (B 0 0).toNat) (by omega)
  have okS := ok_S hW (n := (B 0 0).toNat) (by omega)
  have okL := ok_L hW (how := how) (w := w) (n := (B 0 0).toNat) (by omega)
  have pin := fun i hi => pl_in (B := B) (B 0 0).toNat i hi
  have pic := fun i hi => pl_inc (B := B) (B 0 0).toNat i hi
  refine EX12_tryPosting (r_linesOfAll hW hR hh h27 h28 w0 (by decide) (by decide) (fun h _ _ z => by rw [has_0] at z; exact absurd z (by decide)) (fun σ1 hF1 => ⟨_, rfl, ?_⟩))
  have F1 : FrJ Mq Jq σ σ1 := hF1.mo (by decide) (by decide)
  generalize ebase : sumN (lin B how w 0) (B 0 0).toNat = base at hp tb ⊢
  have b0 : 0 ≤ base ∧ base ≤ 2372 := by omega
  clear tb al
  -- the picks, one by one
  have picks : ∀ τ : Sg, FrJ Mq Jq σ τ → PM τ B how w (B 0 0).toNat → V mX12_tryPosting 117 [some (vr 94), some (vi n), some (vi base), some (vi ((pl B (B 0 0).toNat).length : Int)), some (vi 0), none, none, none, none] [] (up (up (up τ 94 38 (-1)) 94 39 (-1)) 94 40 (-1)) post := by
    intro τ hF hM
    have F2 : FrJ Mq Jq σ (up (up (up τ 94 38 (-1)) 94 39 (-1)) 94 40 (-1)) := ((hF.j (by decide)).j (by decide)).j (by decide)
    have M2 : PM (up (up (up τ 94 38 (-1)) 94 39 (-1)) 94 40 (-1)) B how w (B 0 0).toNat := hM.fr (M := []) (J := [38, 39, 40]) (((FrJ.rf.j (by decide)).j (by decide)).j (by decide)) (by simp)
    have s38 : up (up (up τ 94 38 (-1)) 94 39 (-1)) 94 40 (-1) 94 38 = -1 := by rw [up_f (by decide), up_f (by decide), up_s]
    have s39 : up (up (up τ 94 38 (-1)) 94 39 (-1)) 94 40 (-1) 94 39 = -1 := by rw [up_f (by decide), up_s]
    have s40 : up (up (up τ 94 38 (-1)) 94 39 (-1)) 94 40 (-1) 94 40 = -1 := up_s
    generalize up (up (up τ 94 38 (-1)) 94 39 (-1)) 94 40 (-1) = υ at F2 M2 s38 s39 s40
    unfold PM at M2
    have eB : ∀ k : Nat, fB B (B 0 0).toNat k = iShl 1 ((pl B (B 0 0).toNat).getD k 0) := fun k => rfl
    have eS : ∀ k : Nat, fS B (B 0 0).toNat k = svO B ((pl B (B 0 0).toNat).getD k 0) := fun k => rfl
    have eL : ∀ k : Nat, fL B how w (B 0 0).toNat k = mrO B how w ((pl B (B 0 0).toNat).getD k 0) := fun k => rfl
    generalize em : (pl B (B 0 0).toNat).length = m at *
    have p1024 : 2 ^ m ≤ 1024 := by
      have : (2 : Nat) ^ m ≤ 2 ^ 10 := Nat.pow_le_pow_right (by decide) ml
      omega
    have ppos := Nat.two_pow_pos m
    have e1 : iShl 1 ((m : Nat) : Int) = ((2 ^ m : Nat) : Int) := iShl1 m (by omega)
    by_cases hb : n < base
    · exact BX12_tryPosting_117 ⟨by decide, fun z => absurd z (by rw [e1]; omega), fun _ => ⟨by omega, by omega, fun _ => hp υ F2 (fun _ => ⟨s38, s39, s40⟩) (fun z => by omega), fun z => absurd hb z⟩⟩
    have outer : ∀ (d p : Nat) (τ : Sg), p + d = 2 ^ m → FrJ [] [38, 39, 40] υ τ → τ 94 38 = (rbs (fB B (B 0 0).toNat) (fS B (B 0 0).toNat) (fL B how w (B 0 0).toNat) m base n p).1 → τ 94 39 = (rbs (fB B (B 0 0).toNat) (fS B (B 0 0).toNat) (fL B how w (B 0 0).toNat) m base n p).2.1 → τ 94 40 = (rbs (fB B (B 0 0).toNat) (fS B (B 0 0).toNat) (fL B how w (B 0 0).toNat) m base n p).2.2 → V mX12_tryPosting 117 [some (vr 94), some (vi n), some (vi base), some (vi (m : Int)), some (vi (p : Int)), none, none, none, none] [] τ post := by
      intro d
      induction d with
      | zero =>
        intro p τ hd hG t38 t39 t40
        refine BX12_tryPosting_117 ⟨by omega, fun _ => hp τ (F2.tr (hG.mo (by decide) (by decide))) (fun z => absurd z hb) (fun _ b hb => ?_), fun z => absurd (by rw [e1]; omega) z⟩
        rw [show p = (2 ^ m - 1) + 1 by omega] at t38 t39 t40
        rw [hb]
        exact ⟨t38, t39, t40⟩
      | succ d ih =>
        intro p τ hd hG t38 t39 t40
        have g1 := rbs_b (n := n) ml b0.1 (by omega) okB okS okL p
        have g2 := okF_b (k := 0) (q := p) (by rw [Nat.zero_add]; exact okS) ml
        have g3 := okF_b (k := 0) (q := p) (by rw [Nat.zero_add]; exact okL) ml
        have bs := rbs_s (f := fB B (B 0 0).toNat) (g := fS B (B 0 0).toNat) (h := fL B how w (B 0 0).toNat) (m := m) (n := n) b0.1 (show base ≤ n by omega) p
        generalize er : rbs (fB B (B 0 0).toNat) (fS B (B 0 0).toNat) (fL B how w (B 0 0).toNat) m base n p = r at *
        have q112 : τ 112 = υ 112 := hG.1 112 (by decide) (by decide)
        have q113 : τ 113 = υ 113 := hG.1 113 (by decide) (by decide)
        have q114 : τ 114 = υ 114 := hG.1 114 (by decide) (by decide)
        refine BX12_tryPosting_117 ⟨by omega, fun z => absurd z (by rw [e1]; omega), fun _ => ⟨by omega, by omega, fun z => absurd z hb, fun _ => ?_⟩⟩
        have inner : ∀ (e k : Nat) (x5 x6 x7 : Int), k + e = m → 0 ≤ x5 → x5 < 65536 → (k < m → x5 < iShl 1 ((pl B (B 0 0).toNat).getD k 0)) → x5 + Gs (fB B (B 0 0).toNat) e k (p / 2 ^ k) = Gs (fB B (B 0 0).toNat) m 0 p → x6 + Gs (fL B how w (B 0 0).toNat) e k (p / 2 ^ k) = base + Gs (fL B how w (B 0 0).toNat) m 0 p → x7 + Gs (fS B (B 0 0).toNat) e k (p / 2 ^ k) = Gs (fS B (B 0 0).toNat) m 0 p → V mX12_tryPosting 142 [some (vr 94), some (vi n), some (vi base), some (vi (m : Int)), some (vi (p : Int)), some (vi x5), some (vi x6), some (vi x7), some (vi (k : Int))] [] τ post := by
          intro e
          induction e with
          | zero =>
            intro k x5 x6 x7 hk y0 y1 y2 y5 y6 y7
            rw [Gs, Int.add_zero] at y5 y6 y7
            subst y5 y6 y7
            have no : ¬ (base + Gs (fL B how w (B 0 0).toNat) m 0 p ≤ n ∧ (r.2.1 < Gs (fS B (B 0 0).toNat) m 0 p ∨ Gs (fS B (B 0 0).toNat) m 0 p = r.2.1 ∧ base + Gs (fL B how w (B 0 0).toNat) m 0 p < r.2.2)) → V mX12_tryPosting 117 [some (vr 94), some (vi n), some (vi base), some (vi (m : Int)), some (vi ((p : Int) + 1)), none, none, none, none] [] τ post := fun c => by
              rw [if_neg c] at bs
              exact ih (p + 1) τ (by omega) hG (by rw [bs]; exact t38) (by rw [bs]; exact t39) (by rw [bs]; exact t40)
            have yes : (base + Gs (fL B how w (B 0 0).toNat) m 0 p ≤ n ∧ (r.2.1 < Gs (fS B (B 0 0).toNat) m 0 p ∨ Gs (fS B (B 0 0).toNat) m 0 p = r.2.1 ∧ base + Gs (fL B how w (B 0 0).toNat) m 0 p < r.2.2)) → V mX12_tryPosting 117 [some (vr 94), some (vi n), some (vi base), some (vi (m : Int)), some (vi ((p : Int) + 1)), none, none, none, none] [] (up (up (up τ 94 38 (Gs (fB B (B 0 0).toNat) m 0 p)) 94 39 (Gs (fS B (B 0 0).toNat) m 0 p)) 94 40 (base + Gs (fL B how w (B 0 0).toNat) m 0 p)) post := fun c => by
              rw [if_pos c] at bs
              refine ih (p + 1) _ (by omega) (((hG.j (by decide)).j (by decide)).j (by decide)) ?_ ?_ ?_
              · rw [up_f (by decide), up_f (by decide), up_s, bs]
              · rw [up_f (by decide), up_s, bs]
              · rw [up_s, bs]
            refine BX12_tryPosting_142 ⟨by omega, by omega, fun _ => ?_, fun z => absurd (by omega) z⟩
            rw [t39, t40]
            refine ⟨by omega, by omega, fun c => no (by omega), fun c => ⟨by omega, by omega, fun c2 => yes ⟨by omega, Or.inl c2⟩, fun c2 => ⟨fun c3 => no (fun z => ?_), fun c3 => ⟨by omega, fun c4 => no (by omega), fun c4 => yes ⟨by omega, Or.inr ⟨c3, by omega⟩⟩⟩⟩⟩⟩
            rcases z.2 with y | y
            · exact c2 y
            · exact c3 y.1
          | succ e ihe =>
            intro k x5 x6 x7 hk y0 y1 y2 y5 y6 y7
            have hd2 : p / 2 ^ k / 2 = p / 2 ^ (k + 1) := by rw [Nat.div_div_eq_div_mul, Nat.pow_succ]
            have hk2 : has (p : Int) (k : Int) = decide (p / 2 ^ k % 2 = 1) := has_div
            obtain ⟨m1, m2, m3⟩ := M2 k (by omega)
            have pb := (pin k (by omega)).1
            rw [← q112] at m1
            rw [← q113] at m2
            rw [← q114] at m3
            rw [Gs, hd2] at y5 y6 y7
            have hx : ∀ post' : Po, (has (p : Int) (k : Int) = true → post' (some (vi 1)) τ) → (¬ has (p : Int) (k : Int) = true → post' (some (vi 0)) τ) → Cl mX12_has [vi (p : Int), vi (k : Int)] τ post' := fun post' a b => r_has (by omega) (by omega) (by omega) (by omega) a b
            refine BX12_tryPosting_142 ⟨by omega, by omega, fun z => absurd z (by omega), fun _ => hx _ (fun hy => ⟨_, rfl, b1' ⟨by omega, hx _ (fun _ => ⟨_, rfl, b1' (hx _ (fun _ => ⟨_, rfl, b1' ?_⟩) (fun z => absurd hy z))⟩) (fun z => absurd hy z)⟩⟩) (fun hy => ⟨_, rfl, b0' (hx _ (fun z => absurd z hy) (fun _ => ⟨_, rfl, b0' (hx _ (fun z => absurd z hy) (fun _ => ⟨_, rfl, b0' ?_⟩))⟩))⟩)⟩
            · rw [hk2, decide_eq_true_iff] at hy
              rw [if_pos hy] at y5 y6 y7
              have sh := iShl1_lt (h := (pl B (B 0 0).toNat).getD k 0) (n := 16) pb.1 (by omega) (by decide)
              have two := iShl1_mono (a := (pl B (B 0 0).toNat).getD k 0) (b := 16) pb.1 (by omega) (by decide)
              have e16 : iShl 1 16 = 65536 := by decide +kernel
              have y2' := y2 (by omega)
              rw [m1, m2, m3, iOr_p y0 pb.1 (by omega) y2']
              refine ihe (k + 1) _ _ _ (by omega) (by omega) (by omega) (fun hk3 => ?_) (by rw [eB] at y5; omega) (by rw [eL] at y6; omega) (by rw [eS] at y7; omega)
              have pb2 := (pin (k + 1) (by omega)).1
              have two2 := iShl1_mono (a := (pl B (B 0 0).toNat).getD k 0) (b := (pl B (B 0 0).toNat).getD (k + 1) 0) pb.1 (pic k (by omega)) (by omega)
              omega
            · rw [hk2, decide_eq_true_iff] at hy
              rw [if_neg hy] at y5 y6 y7
              rw [iOr_z y0 (by omega), Int.add_zero, Int.add_zero]
              refine ihe (k + 1) _ _ _ (by omega) y0 y1 (fun hk3 => ?_) (by omega) (by omega) (by omega)
              have y2' := y2 (by omega)
              have pb2 := (pin (k + 1) (by omega)).1
              have two2 := iShl1_mono (a := (pl B (B 0 0).toNat).getD k 0) (b := (pl B (B 0 0).toNat).getD (k + 1) 0) pb.1 (pic k (by omega)) (by omega)
              omega
        have pos0 : 0 < m → 0 < iShl 1 ((pl B (B 0 0).toNat).getD 0 0) := fun z => by
          have pb := (pin 0 (by omega)).1
          rw [iShl1_e pb.1 (by omega)]
          have := Nat.two_pow_pos ((pl B (B 0 0).toNat).getD 0 0).toNat
          omega
        exact inner m 0 0 base 0 (by omega) (by decide) (by decide) pos0 (by rw [Nat.pow_zero, Nat.div_one]; omega) (by rw [Nat.pow_zero, Nat.div_one]) (by rw [Nat.pow_zero, Nat.div_one]; omega)
    exact outer (2 ^ m) 0 υ (by omega) FrJ.rf s38 s39 s40
  -- what may be posted
  have loop : ∀ (d j : Nat) (τ : Sg), (j : Int) + d = B 0 0 → FrJ Mq Jq σ τ → PM τ B how w j → V mX12_tryPosting 11 [some (vr 94), some (vi n), some (vi base), some (vi ((pl B j).length : Int)), some (vi (j : Int)), none, none, none, none] [] τ post := by
    intro d
    induction d with
    | zero =>
      intro j τ hj hF hM
      have q0 : τ 94 0 = B 0 0 := (hF.2 0 (by decide)).trans (Ra_heads hR)
      have l := pl_len (B := B) j
      refine BX12_tryPosting_11 ⟨by omega, by rw [q0]; omega, fun _ => ?_, fun z => absurd (by rw [q0]; omega) z⟩
      rw [show j = (B 0 0).toNat by omega] at hM ⊢
      exact picks τ hF hM
    | succ d ih =>
      intro j τ hj hF hM
      have q0 : τ 94 0 = B 0 0 := (hF.2 0 (by decide)).trans (Ra_heads hR)
      have hR' : RA (bk τ 94) B := hR.fr hF (by decide) (by decide)
      have l := pl_len (B := B) j
      refine BX12_tryPosting_11 ⟨by omega, by rw [q0]; omega, fun z => absurd z (by rw [q0]; omega), fun _ => ⟨by omega, fun c => ?_, fun c => ?_⟩⟩
      · have e := pl_full (B := B) (n := j) (by omega) ((B 0 0).toNat - j)
        rw [show j + ((B 0 0).toNat - j) = (B 0 0).toNat by omega] at e
        unfold PM at hM
        rw [← e] at hM ⊢
        exact picks τ hF hM
      · refine r_canPost hW hR' (by omega) (by omega) (fun hpo σ2 hF2 => ⟨_, rfl, b1' ⟨by omega, ?_⟩⟩) (fun hpo σ2 hF2 => ⟨_, rfl, b0' ?_⟩)
        · obtain ⟨nf, v, hv⟩ := id hpo
          have G2 : FrJ Mq Jq σ (up σ2 112 ((pl B j).length : Int) j) := (hF.tr (hF2.mo (by decide) (by decide))).u (by decide) (by decide)
          have R2 : RA (bk (up σ2 112 ((pl B j).length : Int) j) 94) B := hR.fr G2 (by decide) (by decide)
          refine r_linesOf (how := how) (w := w) (src := psr B j) (fold := 0) hW R2 hh (by rw [G2.2 27 (by decide)]; exact h27) (by rw [G2.2 28 (by decide)]; exact h28) w0 (by omega) (by omega) (Or.inr (Or.inr ⟨rfl, rfl, nf, v, hv, psr_e hv⟩)) (Or.inr (post_prd hW (by omega) (by omega) hpo)) (fun σ3 hF3 => ⟨_, rfl, ?_⟩)
          have G3 : FrJ Mq Jq σ σ3 := G2.tr (hF3.mo (by decide) (by decide))
          refine r_linesOf (how := how) (w := w) (src := j) (fold := 0) hW (hR.fr G3 (by decide) (by decide)) hh (by rw [G3.2 27 (by decide)]; exact h27) (by rw [G3.2 28 (by decide)]; exact h28) w0 (by omega) (by omega) (Or.inl ⟨rfl, rfl, rfl⟩) (Or.inl rfl) (fun σ4 hF4 => ⟨_, rfl, ?_⟩)
          have G4 : FrJ Mq Jq σ (up σ4 113 ((pl B j).length : Int) (tens (hdB B how w j (psr B j) 0) - tens (hdB B how w j j 0))) := (G3.tr (hF4.mo (by decide) (by decide))).u (by decide) (by decide)
          refine r_foundFrom hW (hR.fr G4 (by decide) (by decide)) (by omega) (by omega) (fun v2 σ5 v15 hv2 hF5 e36 => ⟨_, rfl, by omega, ?_⟩) (fun hno => absurd hv (hno v))
          have G5 : FrJ Mq Jq σ σ5 := G4.tr (hF5.mo (by decide) (by decide))
          have ea : σ5 100 j = B 6 j := Ra_ask (hR.fr G5 (by decide) (by decide)) (by omega) (by omega)
          have es : σ5 100 j * σ5 94 36 = svO B j := by
            unfold svO
            rw [ea, e36, stp_e hv2]
          rw [es]
          have pt' := pl_t (B := B) (n := j) ⟨hpo, by omega⟩
          have step := ih (j + 1) (up σ5 114 ((pl B j).length : Int) (svO B j)) (by omega) (G5.u (by decide) (by decide))
          unfold PM at step
          rw [pt', List.length_append] at step
          refine step (fun i hi => ?_)
          have hi : i < (pl B j).length + 1 := hi
          have k112 : up σ5 114 ((pl B j).length : Int) (svO B j) 112 = pt (τ 112) ((pl B j).length : Int) j := by
            rw [up_r (by decide), hF5.1 112 (by decide) (by decide), up_r (by decide), hF4.1 112 (by decide) (by decide), hF3.1 112 (by decide) (by decide), up_k, hF2.1 112 (by decide) (by decide)]
          have k113 : up σ5 114 ((pl B j).length : Int) (svO B j) 113 = pt (τ 113) ((pl B j).length : Int) (mrO B how w j) := by
            rw [up_r (by decide), hF5.1 113 (by decide) (by decide), up_k, hF4.1 113 (by decide) (by decide), hF3.1 113 (by decide) (by decide), up_r (by decide), hF2.1 113 (by decide) (by decide)]
            rfl
          have k114 : up σ5 114 ((pl B j).length : Int) (svO B j) 114 = pt (τ 114) ((pl B j).length : Int) (svO B j) := by
            rw [up_k, hF5.1 114 (by decide) (by decide), up_r (by decide), hF4.1 114 (by decide) (by decide), hF3.1 114 (by decide) (by decide), up_r (by decide), hF2.1 114 (by decide) (by decide)]
          rw [k112, k113, k114]
          by_cases c2 : i < (pl B j).length
          · rw [gd_l c2, pt_ne (by omega), pt_ne (by omega), pt_ne (by omega)]
            exact hM i c2
          · have ei : i = (pl B j).length := by omega
            rw [gd_r (by omega), ei, Nat.sub_self, pt_self, pt_self, pt_self]
            exact ⟨rfl, rfl, rfl⟩
        · have pf' := pl_f (B := B) (n := j) (fun z => hpo z.1)
          have step := ih (j + 1) σ2 (by omega) (hF.tr (hF2.mo (by decide) (by decide)))
          unfold PM at step
          rw [pf'] at step
          exact step (hM.fr hF2 (by simp))
  exact loop (B 0 0).toNat 0 σ1 (by omega) F1 (fun i hi => by rw [pl] at hi; simp at hi)
theorem s_posting : St_posting Inv := by
  intro σ n x rn rx hI
  have ref : ∀ (z : Int) (τ : Sg), rng z → Inv τ → (¬ (0 ≤ n ∧ n ≤ 999 ∧ 0 ≤ x ∧ x ≤ 2) → z = -1002) → ((0 ≤ n ∧ n ≤ 999 ∧ 0 ≤ x ∧ x ≤ 2) → n < sumN (lin (bk τ 5) (τ 0 3) (τ 0 4) 0) (τ 5 0).toNat → z = -1) → ((0 ≤ n ∧ n ≤ 999 ∧ 0 ≤ x ∧ x ≤ 2) → sumN (lin (bk τ 5) (τ 0 3) (τ 0 4) 0) (τ 5 0).toNat ≤ n → ∀ b : Int × Int × Int, b = bst (fB (bk τ 5) (τ 5 0).toNat) (fS (bk τ 5) (τ 5 0).toNat) (fL (bk τ 5) (τ 0 3) (τ 0 4) (τ 5 0).toNat) (pl (bk τ 5) (τ 5 0).toNat).length (sumN (lin (bk τ 5) (τ 0 3) (τ 0 4) 0) (τ 5 0).toNat) n (2 ^ (pl (bk τ 5) (τ 5 0).toNat).length - 1) → z = if x = 0 then b.1 else if x = 1 then b.2.1 else b.2.2) → Cl mX12_posting [vr 94, vi n, vi x] τ (pI fun z2 σ2 => z = z2 ∧ rng z ∧ (Inv σ2 ∨ Inv (swp σ2))) := by
    intro z τ rz hIt y1 y2 y3
    obtain ⟨⟨k1, k2, ⟨k3, k3'⟩, k4, k5⟩, k6, k7, ⟨kW, kR⟩, ⟨k10, k11⟩, k12⟩ := id hIt
    refine EX12_posting ⟨rn, r_in (by omega) (by decide) (by decide) (fun a b => ⟨_, rfl, b1' ⟨rx, r_in (by omega) (by decide) (by decide) (fun a2 b2 => ⟨_, rfl, b1 ?_⟩) (fun q => ⟨_, rfl, b0 ⟨_, rfl, y1 (by omega), rz, Or.inl hIt⟩⟩)⟩⟩) (fun q => ⟨_, rfl, b0' ⟨_, rfl, y1 (by omega), rz, Or.inl hIt⟩⟩)⟩
    refine r_tryPosting (how := τ 0 3) (w := τ 0 4) kW kR k3' k3.symm k4.1.symm (by omega) a b (fun σ2 hF2 u1 u2 => ⟨rfl, ?_⟩)
    have fin : Inv σ2 := hIt.fr (M := []) Fr.rf hF2 (by simp) (by unfold ic; decide) (by decide)
    have key : ∃ b : Int × Int × Int, (σ2 94 38 = b.1 ∧ σ2 94 39 = b.2.1 ∧ σ2 94 40 = b.2.2) ∧ z = if x = 0 then b.1 else if x = 1 then b.2.1 else b.2.2 := by
      by_cases c : n < sumN (lin (bk τ 5) (τ 0 3) (τ 0 4) 0) (τ 5 0).toNat
      · refine ⟨(-1, -1, -1), u1 c, ?_⟩
        rw [y2 ⟨a, b, a2, b2⟩ c]
        split
        · rfl
        · split <;> rfl
      · exact ⟨_, u2 (by show sumN (lin (bk τ 5) (τ 0 3) (τ 0 4) 0) (τ 5 0).toNat ≤ n; omega) _ rfl, y3 ⟨a, b, a2, b2⟩ (by omega) _ rfl⟩
    obtain ⟨b3, ⟨v1, v2, v3⟩, v4⟩ := key
    refine ⟨fun c => ⟨fun c2 => ⟨_, rfl, ?_, rz, Or.inl fin⟩, fun c2 => ⟨_, rfl, ?_, rz, Or.inl fin⟩⟩, fun c => ⟨_, rfl, ?_, rz, Or.inl fin⟩⟩
    · rw [v4, if_neg c, if_neg c2, v3]
    · rw [v4, if_neg c, if_pos c2, v2]
    · rw [v4, if_pos c, v1]
  have out : ¬ (0 ≤ n ∧ n ≤ 999 ∧ 0 ≤ x ∧ x ≤ 2) → Cl mX12_posting [vr 94, vi n, vi x] σ (pI fun z2 σ2 => (-1002 : Int) = z2 ∧ rng (-1002) ∧ (Inv σ2 ∨ Inv (swp σ2))) := fun q => ref (-1002) σ (by decide) hI (fun _ => rfl) (fun z => absurd z q) (fun z => absurd z q)
  refine EX11_posting ⟨rn, fun c => ⟨_, rfl, out (by omega)⟩, fun c => ⟨fun c2 => ⟨_, rfl, out (by omega)⟩, fun c2 => ⟨rx, fun c3 => ⟨_, rfl, out (by omega)⟩, fun c3 => ⟨fun c4 => ?_, fun c4 => ⟨_, rfl, out (by omega)⟩⟩⟩⟩⟩
  refine c_printAll hI (fun τ hF hj e9 pr hI2 => ⟨rfl, ?_⟩)
  obtain ⟨⟨k1, k2, ⟨k3, k3'⟩, k4, k5⟩, k6, k7, ⟨kW, kR⟩, ⟨k10, k11⟩, k12⟩ := id hI2
  have wh := Wb_heads kW
  have al := all_len kW (τ 0 3) (τ 0 4)
  have tb := tens_nn (allB (bk τ 5) (τ 0 3) (τ 0 4) (bk τ 5 0 0).toNat)
  have e : τ 64 2 = tens (allB (bk τ 5) (τ 0 3) (τ 0 4) (bk τ 5 0 0).toNat) := pr.2.1.2.1
  rw [tens_sum] at e tb
  have e : τ 64 2 = sumN (lin (bk τ 5) (τ 0 3) (τ 0 4) 0) (τ 5 0).toNat := e
  have tb : 0 ≤ sumN (lin (bk τ 5) (τ 0 3) (τ 0 4) 0) (τ 5 0).toNat ∧ sumN (lin (bk τ 5) (τ 0 3) (τ 0 4) 0) (τ 5 0).toNat ≤ ((allB (bk τ 5) (τ 0 3) (τ 0 4) (bk τ 5 0 0).toNat).length : Int) := tb
  refine ⟨by rw [e]; omega, fun c5 => ?_, fun c5 => ⟨_, rfl, ref (-1) τ (by decide) hI2 (fun q => absurd ⟨by omega, by omega, by omega, by omega⟩ q) (fun _ _ => rfl) (fun _ q => by omega)⟩⟩
  refine c_offerPosts hI2 pr (fun υ hG hB => ⟨rfl, ?_⟩)
  have e64 : υ 64 2 = sumN (lin (bk τ 5) (τ 0 3) (τ 0 4) 0) (τ 5 0).toNat := by rw [hG 64 (by decide)]; exact e
  show Cl mX3_choose [vr 81, vi (υ 64 2), vi n] υ _
  rw [e64]
  have okB := ok_B (B := bk τ 5) (n := (τ 5 0).toNat) (by omega)
  have okS := ok_S kW (n := (τ 5 0).toNat) (by show (((τ 5 0).toNat : Nat) : Int) ≤ τ 5 0; omega)
  have okL := ok_L kW (how := τ 0 3) (w := τ 0 4) (n := (τ 5 0).toNat) (by show (((τ 5 0).toNat : Nat) : Int) ≤ τ 5 0; omega)
  refine c_choose (fB := fB (bk τ 5) (τ 5 0).toNat) (fS := fS (bk τ 5) (τ 5 0).toNat) (fL := fL (bk τ 5) (τ 0 3) (τ 0 4) (τ 5 0).toNat) (pl_len _) hB.1 (fun i hi => (hB.2 i hi).1) (fun i hi => (hB.2 i hi).2.1) (fun i hi => (hB.2 i hi).2.2) tb.1 (by omega) rn okB okS okL (fun ω hH s0 s1 s2 => ⟨rfl, ?_⟩)
  have bb := bst_b (n := n) (pl_len (B := bk τ 5) (τ 5 0).toNat) tb.1 (by omega) okB okS okL (2 ^ (pl (bk τ 5) (τ 5 0).toNat).length - 1)
  have G : Fr Fq τ ω := hG.tr (hH.mo (by decide))
  have fin : Inv ω := hI2.fr (N := []) (J := []) G FrJ.rf (by unfold ic; decide) (by simp) (by simp)
  have w0 : ω 0 = τ 0 := G 0 (by decide)
  have w5 : ω 5 = τ 5 := G 5 (by decide)
  have wb : bk ω 5 = bk τ 5 := (G.b5 (by decide)).1
  have go : ∀ z : Int, rng z → (∀ b : Int × Int × Int, b = bst (fB (bk τ 5) (τ 5 0).toNat) (fS (bk τ 5) (τ 5 0).toNat) (fL (bk τ 5) (τ 0 3) (τ 0 4) (τ 5 0).toNat) (pl (bk τ 5) (τ 5 0).toNat).length (sumN (lin (bk τ 5) (τ 0 3) (τ 0 4) 0) (τ 5 0).toNat) n (2 ^ (pl (bk τ 5) (τ 5 0).toNat).length - 1) → z = if x = 0 then b.1 else if x = 1 then b.2.1 else b.2.2) → Cl mX12_posting [vr 94, vi n, vi x] ω (pI fun z2 σ2 => z = z2 ∧ rng z ∧ (Inv σ2 ∨ Inv (swp σ2))) := fun z rz hz => ref z ω rz fin (fun q => absurd ⟨by omega, by omega, by omega, by omega⟩ q) (fun _ q => by rw [wb, w0, w5] at q; omega) (fun _ _ => by rw [wb, w0, w5]; exact hz)
  refine ⟨fun c6 => ⟨fun c7 => ⟨_, rfl, ?_⟩, fun c7 => ⟨_, rfl, ?_⟩⟩, fun c6 => ⟨_, rfl, ?_⟩⟩
  · rw [s2]; exact go _ (by omega) (fun b hb => by rw [if_neg c6, if_neg c7, hb])
  · rw [s1]; exact go _ (by omega) (fun b hb => by rw [if_neg c6, if_pos c7, hb])
  · rw [s0]; exact go _ (by omega) (fun b hb => by rw [if_pos c6, hb])
