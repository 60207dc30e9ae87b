/-! ===== PURE HALF, by hand: the reference's reader, heads and subs ===== -/
theorem RW_co {f f' g g' : Int → Int} {w c : Int} (h : RW f g w c) (hc : wlen c ≤ 12) (hf : f' w = f w) (hg : ∀ i : Int, 0 ≤ i → i < 12 → g' (12 * w + i) = g (12 * w + i)) : RW f' g' w c :=
  ⟨hf.trans h.1, fun i i0 i1 => (hg i i0 (by omega)).trans (h.2 i i0 i1)⟩
theorem RA_new {σ σ' B : Sg} {c : Int} (hW : WfB B) (hR : RA (bk σ 94) B) (h0 : σ' 94 0 = B 0 0 + 1) (h7 : σ' 94 7 = σ 94 7) (h95 : σ' 95 = pt (σ 95) (B 0 0) 0) (h98 : σ' 98 = pt (σ 98) (B 0 0) (-1)) (h99 : σ' 99 = pt (σ 99) (B 0 0) 0) (h100 : σ' 100 = pt (σ 100) (B 0 0) 0) (h96 : ∀ v : Int, v ≠ 7 * B 0 0 → σ' 96 v = σ 96 v) (h97 : ∀ v i : Int, v ≠ 7 * B 0 0 → 0 ≤ i → i < 12 → σ' 97 (12 * v + i) = σ 97 (12 * v + i)) (hn : RW (σ' 96) (σ' 97) (7 * B 0 0) c) (hm : ∀ k, 101 ≤ k → k ≤ 105 → σ' k = σ k) : RA (bk σ' 94) (putH B c) := by
  refine ⟨h0, (show σ' 94 7 = B 0 7 from h7.trans (Ra_marks hR)), fun h x y => ?_, fun k x y => ?_⟩
  · have y : h < B 0 0 + 1 := y
    unfold RH
    show σ' 95 h = pt (B 2) (B 0 0) 0 h ∧ σ' 98 h = pt (B 4) (B 0 0) (-1) h ∧ σ' 99 h = pt (B 5) (B 0 0) 0 h ∧ σ' 100 h = pt (B 6) (B 0 0) 0 h ∧ ∀ s : Int, -1 ≤ s → s < pt (B 2) (B 0 0) 0 h → RW (σ' 96) (σ' 97) (7 * h + 1 + s) (ew (putH B c) h s)
    rw [h95, h98, h99, h100]
    by_cases e : h = B 0 0
    · subst e
      simp only [pt_self]
      refine ⟨trivial, trivial, trivial, trivial, fun s s0 s1 => ?_⟩
      have : s = -1 := by omega
      subst this
      unfold ew
      show RW (σ' 96) (σ' 97) (7 * B 0 0 + 1 + -1) (if (-1 : Int) = -1 then pt (B 1) (B 0 0) c (B 0 0) else _)
      rw [if_pos rfl, pt_self, show 7 * B 0 0 + 1 + -1 = 7 * B 0 0 by omega]
      exact hn
    · simp only [pt_ne e]
      have hh : h < B 0 0 := by omega
      refine ⟨Ra_subs hR x hh, Ra_see hR x hh, Ra_also hR x hh, Ra_ask hR x hh, fun s s0 s1 => ?_⟩
      have wh := hW.2.2.1 h x hh
      have wb := wh.1
      rw [putH_ew hW x hh]
      exact RW_co (Ra_w hR x hh s0 s1) (wh.2.2.2.2 s s0 s1).2.1.2 (h96 _ (by omega)) (fun i i0 i1 => h97 _ i (by omega) i0 i1)
  · have y : k < B 0 7 := y
    have := Ra_m hR x y
    unfold RM
    show σ' 101 k = B 7 k ∧ σ' 102 k = B 8 k ∧ σ' 103 k = B 9 k ∧ σ' 104 k = B 10 k ∧ σ' 105 k = B 11 k
    rw [hm 101 (by decide) (by decide), hm 102 (by decide) (by decide), hm 103 (by decide) (by decide), hm 104 (by decide) (by decide), hm 105 (by decide) (by decide)]
    exact this
theorem RA_sub {σ σ' B : Sg} {h c : Int} (hW : WfB B) (hR : RA (bk σ 94) B) (g0 : 0 ≤ h) (g1 : h < B 0 0) (g6 : B 2 h < 6) (h0 : ∀ j : Int, σ' 94 j = σ 94 j) (h95 : σ' 95 = pt (σ 95) h (B 2 h + 1)) (h96 : ∀ v : Int, v ≠ 7 * h + 1 + B 2 h → σ' 96 v = σ 96 v) (h97 : ∀ v i : Int, v ≠ 7 * h + 1 + B 2 h → 0 ≤ i → i < 12 → σ' 97 (12 * v + i) = σ 97 (12 * v + i)) (hn : RW (σ' 96) (σ' 97) (7 * h + 1 + B 2 h) c) (hm : ∀ k, 98 ≤ k → k ≤ 105 → σ' k = σ k) : RA (bk σ' 94) (putS B h c) := by
  refine ⟨(show σ' 94 0 = B 0 0 from (h0 0).trans (Ra_heads hR)), (show σ' 94 7 = B 0 7 from (h0 7).trans (Ra_marks hR)), fun g x y => ?_, fun k x y => ?_⟩
  · have y : g < B 0 0 := y
    have wg := hW.2.2.1 g x y
    have wh := hW.2.2.1 h g0 g1
    have wb := wh.1
    have wb2 := wg.1
    unfold RH
    show σ' 95 g = pt (B 2) h (B 2 h + 1) g ∧ σ' 98 g = B 4 g ∧ σ' 99 g = B 5 g ∧ σ' 100 g = B 6 g ∧ ∀ s : Int, -1 ≤ s → s < pt (B 2) h (B 2 h + 1) g → RW (σ' 96) (σ' 97) (7 * g + 1 + s) (if s = -1 then B 1 g else pt (B 3) (h * 6 + B 2 h) c (g * 6 + s))
    rw [h95, hm 98 (by decide) (by decide), hm 99 (by decide) (by decide), hm 100 (by decide) (by decide)]
    have old : ∀ s : Int, -1 ≤ s → s < B 2 g → (g ≠ h ∨ s ≠ B 2 h) → RW (σ' 96) (σ' 97) (7 * g + 1 + s) (if s = -1 then B 1 g else pt (B 3) (h * 6 + B 2 h) c (g * 6 + s)) := fun s s0 s1 hne => by
      have e : (if s = -1 then B 1 g else pt (B 3) (h * 6 + B 2 h) c (g * 6 + s)) = ew B g s := by
        unfold ew
        by_cases d : s = -1
        · rw [if_pos d, if_pos d]
        · rw [if_neg d, if_neg d, pt_ne (by omega)]
      rw [e]
      exact RW_co (Ra_w hR x y s0 s1) (wg.2.2.2.2 s s0 s1).2.1.2 (h96 _ (by omega)) (fun i i0 i1 => h97 _ i (by omega) i0 i1)
    by_cases e : g = h
    · subst e
      rw [pt_self, pt_self]
      refine ⟨rfl, Ra_see hR x y, Ra_also hR x y, Ra_ask hR x y, fun s s0 s1 => ?_⟩
      by_cases d : s = B 2 g
      · rw [d, if_neg (by omega), pt_self]; exact hn
      · exact old s s0 (by omega) (Or.inr d)
    · rw [pt_ne e, pt_ne e]
      exact ⟨Ra_subs hR x y, Ra_see hR x y, Ra_also hR x y, Ra_ask hR x y, fun s s0 s1 => old s s0 s1 (Or.inl e)⟩
  · have := Ra_m hR x y
    unfold RM
    show σ' 101 k = B 7 k ∧ σ' 102 k = B 8 k ∧ σ' 103 k = B 9 k ∧ σ' 104 k = B 10 k ∧ σ' 105 k = B 11 k
    rw [hm 101 (by decide) (by decide), hm 102 (by decide) (by decide), hm 103 (by decide) (by decide), hm 104 (by decide) (by decide), hm 105 (by decide) (by decide)]
    exact this
theorem r_head {σ0 σ : Sg} {post : Po} {t : Int → Int} {N s a k p : Int} {B : Sg} (hU : U0 σ0 t N) (h : RR σ0 σ B s a k p) (hW : WfB B) (p0 : 0 ≤ p) (p1 : p ≤ N) (hf : ∀ (f : Int × Int) (σ' : Sg) (z : Int), pHd t N B p = .inl f → RX σ0 σ' f.1 f.2 → post (some (vi z)) σ') (ho : ∀ (B' : Sg) (g q e : Int) (σ' : Sg), pHd t N B p = .inr (B', g, q, e) → RR σ0 σ' B' s a k e → σ' 94 16 = q → post (some (vi g)) σ') : Cl mX12_takeHead [vr 94] σ post := by
  have kb := sk_b (f := isB) (t := t) p1
  have lb := sk_b (f := isL) (t := t) (N := N) (p := sk isB t N p) kb.2
  have n1 := hU.1.1
  have wd := hW.1
  have pw : pWd t N p = @ite _ (at_ isL t N (sk isB t N p)) (Classical.propDecidable _) (@ite _ (fitW t (sk isB t N p) (sk isL t N (sk isB t N p))) (Classical.propDecidable _) (.inr (sk isB t N p, sk isL t N (sk isB t N p))) (.inl (3, sk isB t N p))) (.inl (1, sk isB t N p)) := rfl
  have u : pHd t N B p = match pWd t N p with
    | .inl f => .inl f
    | .inr (q, e) => if 0 ≤ hL B (pkW t q e) then .inr (B, hL B (pkW t q e), q, e) else if B 0 0 < 16 then .inr (putH B (pkW t q e), B 0 0, q, e) else .inl (4, q) := rfl
  have go1 : at_ isL t N (sk isB t N p) → sk isB t N p + 1 ≤ sk isL t N (sk isB t N p) := fun z => by
    rw [sk_go z.1 z.2]
    exact (sk_b (f := isL) (t := t) (N := N) (p := sk isB t N p + 1) (by have := z.1; omega)).1
  have st1 : ¬ at_ isL t N (sk isB t N p) → sk isL t N (sk isB t N p) = sk isB t N p := fun z => sk_stop z
  have lets := (sk_all (f := isL) (t := t) (N := N) (N - sk isB t N p).toNat (sk isB t N p) (by omega)).2.1
  refine EX12_takeHead (r_takeWord hU h p0 p1 (fun σ1 h1 h16 h17 => ⟨rfl, ?_⟩))
  generalize sk isB t N p = q at *
  generalize sk isL t N q = e at *
  rw [h17, h16]
  refine ⟨by omega, fun c => ?_, fun c => ?_⟩
  · have na : ¬ at_ isL t N q := fun z => by have := go1 z; omega
    rw [if_neg na] at pw
    exact r_wantF h1 (by decide) (fun σ2 h2 => ⟨_, rfl, b0' (hf (1, q) σ2 0 (by rw [u, pw]) h2)⟩)
  · have ya : at_ isL t N q := by
      by_cases z : at_ isL t N q
      · exact z
      · have := st1 z; omega
    rw [if_pos ya] at pw
    refine r_wantT h1 (by decide) (by decide) ⟨_, rfl, b1' (r_isName hU h1.1 h16 h17 (by omega) (by omega) lb.2 (fun d => ⟨_, rfl, r_wantT h1 (by decide) (by decide) ⟨_, rfl, b1 ?_⟩⟩) (fun d => ⟨_, rfl, ?_⟩))⟩
    · rw [if_pos d] at pw
      rw [pw] at u
      dsimp only at u
      have q12 := d.1
      obtain ⟨k1, k2⟩ := pkW_ww lets (by omega) q12
      have loop : ∀ (n j : Nat), (j : Int) + n = B 0 0 → (∀ i : Nat, i < j → ¬ B 1 i = pkW t q e) → V mX12_takeHead 48 [some (vr 94), some (vi (j : Int))] [] σ1 post := by
        have e0 : σ1 94 0 = B 0 0 := Ra_heads h1.2.2.2.2
        intro n
        induction n with
        | zero =>
          intro j hj hk
          have hl : hL B (pkW t q e) = -1 := fnd_none _ (fun i hi z => by
            rw [decide_eq_true_iff] at z
            exact hk i (by omega) z)
          rw [hl, if_neg (by decide)] at u
          refine BX12_takeHead_48 ⟨by omega, by rw [e0]; omega, fun _ => ⟨fun c1 => ?_, fun c1 => ?_⟩, fun c1 => absurd (by rw [e0]; omega) c1⟩
          · rw [if_neg (by rw [e0] at c1; omega)] at u
            rw [h16]
            exact r_wantF h1 (by decide) (fun σ2 h2 => ⟨_, rfl, b0' (hf (4, q) σ2 _ u h2)⟩)
          · rw [if_pos (by rw [e0] at c1; omega)] at u
            rw [h16]
            refine r_wantT h1 (by decide) (by decide) ⟨_, rfl, b1' (r_slot ⟨_, rfl, ?_⟩)⟩
            dsimp only
            rw [e0]
            refine r_nameIt hU h1.1 h16 h17 (by omega) (by omega) lb.2 q12 lets (by omega) (by omega) (fun σ2 x1 x2 x3 x4 => ⟨rfl, ?_⟩)
            have f94 : σ2 94 = σ1 94 := x1 94 (by decide) (by decide)
            have f0 : σ2 94 0 = B 0 0 := by rw [f94]; exact e0
            dsimp only
            rw [f0]
            refine ⟨by omega, ?_⟩
            rw [show B 0 0 + 1 - 1 = B 0 0 by omega]
            rw [show 7 * B 0 0 + 1 + -1 = 7 * B 0 0 by omega] at x2 x3 x4
            have F2 : RFr σ0 σ2 := ⟨fun c c4 cc => (x1 c (by omega) (by omega)).trans (h1.1.1 c c4 cc), fun j hj => by rw [f94]; exact h1.1.2 j hj⟩
            refine ho _ _ q e _ u ⟨((((F2.r (by decide) (by decide)).r (by decide) (by decide)).r (by decide) (by decide)).r (by decide) (by decide)).u (by decide), ?_, ?_, ?_, RA_new (σ := σ1) hW h1.2.2.2.2 up_s ?_ ?_ ?_ ?_ ?_ (fun v hv => ?_) (fun v i hv i0 i1 => ?_) ?_ (fun k y1 y2 => ?_)⟩ ?_
            · rw [up_f (by decide), up_f (by decide), up_r (by decide), up_r (by decide), up_r (by decide), up_r (by decide), f94]; exact h1.2.1
            · rw [up_f (by decide), up_f (by decide), up_f (by decide), up_r (by decide), up_r (by decide), up_r (by decide), up_r (by decide), f94]; exact h1.2.2.1
            · rw [up_f (by decide), up_r (by decide), up_r (by decide), up_r (by decide), up_r (by decide), f94]; exact h1.2.2.2.1
            · rw [up_f (by decide), up_r (by decide), up_r (by decide), up_r (by decide), up_r (by decide), f94]
            · rw [up_r (by decide), up_r (by decide), up_r (by decide), up_r (by decide), up_k, x1 95 (by decide) (by decide)]
            · rw [up_r (by decide), up_r (by decide), up_r (by decide), up_k, up_r (by decide), x1 98 (by decide) (by decide)]
            · rw [up_r (by decide), up_r (by decide), up_k, up_r (by decide), up_r (by decide), x1 99 (by decide) (by decide)]
            · rw [up_r (by decide), up_k, up_r (by decide), up_r (by decide), up_r (by decide), x1 100 (by decide) (by decide)]
            · rw [up_r (by decide), up_r (by decide), up_r (by decide), up_r (by decide), up_r (by decide)]; exact x2 v hv
            · rw [up_r (by decide), up_r (by decide), up_r (by decide), up_r (by decide), up_r (by decide)]; exact x3 v i hv i0 i1
            · rw [up_r (by decide), up_r (by decide), up_r (by decide), up_r (by decide), up_r (by decide), up_r (by decide), up_r (by decide), up_r (by decide), up_r (by decide), up_r (by decide)]; exact x4
            · rw [up_r (by omega), up_r (by omega), up_r (by omega), up_r (by omega), up_r (by omega)]; exact x1 k (by omega) (by omega)
            · rw [up_f (by decide), up_r (by decide), up_r (by decide), up_r (by decide), up_r (by decide), f94]; exact h16
        | succ n ih =>
          intro j hj hk
          obtain ⟨a1, a2, a3, a4⟩ := r_slotW hW h1.2.2.2.2 (h := (j : Int)) (by omega) (by omega)
          refine BX12_takeHead_48 ⟨by omega, by rw [e0]; omega, fun c1 => absurd c1 (by rw [e0]; omega), fun _ => r_slot ⟨_, rfl, r_isHere hU h1.1 h16 h17 (by omega) (by omega) lb.2 q12 lets a1 a2 a3 a4 (fun y => ⟨_, rfl, b1' ?_⟩) (fun y => ⟨_, rfl, b0' (ih (j + 1) (by omega) (fun i hi => ?_))⟩)⟩⟩
          · have hl : hL B (pkW t q e) = j := fnd_some _ j (by omega) (decide_eq_true y) (fun i hi z => by
              rw [decide_eq_true_iff] at z
              exact hk i hi z)
            rw [hl, if_pos (by omega)] at u
            exact ho B j q e σ1 u h1 h16
          · by_cases z : i = j
            · rw [z]; exact y
            · exact hk i (by omega)
      exact loop (B 0 0).toNat 0 (by omega) (fun i hi => by omega)
    · rw [if_neg d] at pw
      rw [h16]
      exact r_wantF h1 (by decide) (fun σ2 h2 => ⟨_, rfl, b0 (hf (3, q) σ2 0 (by rw [u, pw]) h2)⟩)
theorem r_sub {σ0 σ : Sg} {post : Po} {t : Int → Int} {N s a k p g : Int} {B : Sg} (hU : U0 σ0 t N) (h : RR σ0 σ B s a k p) (hW : WfB B) (g0 : 0 ≤ g) (g1 : g < B 0 0) (p0 : 0 ≤ p) (p1 : p ≤ N) (hf : ∀ (f : Int × Int) (σ' : Sg) (z : Int), pSb t N B g p = .inl f → RX σ0 σ' f.1 f.2 → post (some (vi z)) σ') (ho : ∀ (B' : Sg) (z e : Int) (σ' : Sg), pSb t N B g p = .inr (B', z, e) → RR σ0 σ' B' s a k e → post (some (vi z)) σ') : Cl mX12_takeSub [vr 94, vi g] σ post := by
  have kb := sk_b (f := isB) (t := t) p1
  have lb := sk_b (f := isL) (t := t) (N := N) (p := sk isB t N p) kb.2
  have n1 := hU.1.1
  have wd := hW.1
  have ws := (hW.2.2.1 g g0 g1).1
  have pw : pWd t N p = @ite _ (at_ isL t N (sk isB t N p)) (Classical.propDecidable _) (@ite _ (fitW t (sk isB t N p) (sk isL t N (sk isB t N p))) (Classical.propDecidable _) (.inr (sk isB t N p, sk isL t N (sk isB t N p))) (.inl (3, sk isB t N p))) (.inl (1, sk isB t N p)) := rfl
  have u : pSb t N B g p = match pWd t N p with
    | .inl f => .inl f
    | .inr (q, e) => if 0 ≤ sL B g (pkW t q e) then .inr (B, sL B g (pkW t q e), e) else if B 2 g < 6 then .inr (putS B g (pkW t q e), B 2 g, e) else .inl (4, q) := rfl
  have go1 : at_ isL t N (sk isB t N p) → sk isB t N p + 1 ≤ sk isL t N (sk isB t N p) := fun z => by
    rw [sk_go z.1 z.2]
    exact (sk_b (f := isL) (t := t) (N := N) (p := sk isB t N p + 1) (by have := z.1; omega)).1
  have st1 : ¬ at_ isL t N (sk isB t N p) → sk isL t N (sk isB t N p) = sk isB t N p := fun z => sk_stop z
  have lets := (sk_all (f := isL) (t := t) (N := N) (N - sk isB t N p).toNat (sk isB t N p) (by omega)).2.1
  refine EX12_takeSub (r_takeWord hU h p0 p1 (fun σ1 h1 h16 h17 => ⟨rfl, ?_⟩))
  generalize sk isB t N p = q at *
  generalize sk isL t N q = e at *
  rw [h17, h16]
  refine ⟨by omega, fun c => ?_, fun c => ?_⟩
  · have na : ¬ at_ isL t N q := fun z => by have := go1 z; omega
    rw [if_neg na] at pw
    exact r_wantF h1 (by decide) (fun σ2 h2 => ⟨_, rfl, b0' (hf (1, q) σ2 0 (by rw [u, pw]) h2)⟩)
  · have ya : at_ isL t N q := by
      by_cases z : at_ isL t N q
      · exact z
      · have := st1 z; omega
    rw [if_pos ya] at pw
    refine r_wantT h1 (by decide) (by decide) ⟨_, rfl, b1' (r_isName hU h1.1 h16 h17 (by omega) (by omega) lb.2 (fun d => ⟨_, rfl, r_wantT h1 (by decide) (by decide) ⟨_, rfl, b1 ?_⟩⟩) (fun d => ⟨_, rfl, ?_⟩))⟩
    · rw [if_pos d] at pw
      rw [pw] at u
      dsimp only at u
      have q12 := d.1
      obtain ⟨k1, k2⟩ := pkW_ww lets (by omega) q12
      have e95 : σ1 95 g = B 2 g := Ra_subs h1.2.2.2.2 g0 g1
      have loop : ∀ (n j : Nat), (j : Int) + n = B 2 g → (∀ i : Nat, i < j → ¬ B 3 (g * 6 + i) = pkW t q e) → V mX12_takeSub 48 [some (vr 94), some (vi g), some (vi (j : Int))] [] σ1 post := by
        intro n
        induction n with
        | zero =>
          intro j hj hk
          have hl : sL B g (pkW t q e) = -1 := by
            unfold sL
            rw [if_neg (by omega)]
            exact fnd_none _ (fun i hi z => by
              rw [decide_eq_true_iff] at z
              exact hk i (by omega) z)
          rw [hl, if_neg (by decide)] at u
          refine BX12_takeSub_48 ⟨by omega, by omega, by omega, fun _ => ⟨fun c1 => ?_, fun c1 => ?_⟩, fun c1 => absurd (by omega) c1⟩
          · rw [if_neg (by omega)] at u
            rw [h16]
            exact r_wantF h1 (by decide) (fun σ2 h2 => ⟨_, rfl, b0' (hf (4, q) σ2 _ u h2)⟩)
          · rw [if_pos (by omega)] at u
            rw [h16]
            refine r_wantT h1 (by decide) (by decide) ⟨_, rfl, b1' (r_slot ⟨_, rfl, ?_⟩)⟩
            dsimp only
            rw [e95]
            refine r_nameIt hU h1.1 h16 h17 (by omega) (by omega) lb.2 q12 lets (by omega) (by omega) (fun σ2 x1 x2 x3 x4 => ⟨rfl, ?_⟩)
            have f94 : σ2 94 = σ1 94 := x1 94 (by decide) (by decide)
            have f95 : σ2 95 g = B 2 g := by rw [x1 95 (by decide) (by decide)]; exact e95
            dsimp only
            rw [f95, show B 2 g + 1 - 1 = B 2 g by omega]
            have F2 : RFr σ0 σ2 := ⟨fun c c4 cc => (x1 c (by omega) (by omega)).trans (h1.1.1 c c4 cc), fun j hj => by rw [f94]; exact h1.1.2 j hj⟩
            refine ho _ _ e _ u ⟨F2.r (by decide) (by decide), ?_, ?_, ?_, RA_sub (σ := σ1) hW h1.2.2.2.2 g0 g1 (by omega) (fun j => ?_) ?_ (fun v hv => ?_) (fun v i hv i0 i1 => ?_) ?_ (fun k y1 y2 => ?_)⟩
            · rw [up_r (by decide), f94]; exact h1.2.1
            · rw [up_r (by decide), f94]; exact h1.2.2.1
            · rw [up_r (by decide), f94]; exact h1.2.2.2.1
            · rw [up_r (by decide), f94]
            · rw [up_k, x1 95 (by decide) (by decide)]
            · rw [up_r (by decide)]; exact x2 v hv
            · rw [up_r (by decide)]; exact x3 v i hv i0 i1
            · rw [up_r (by decide), up_r (by decide)]; exact x4
            · rw [up_r (by omega)]; exact x1 k (by omega) (by omega)
        | succ n ih =>
          intro j hj hk
          obtain ⟨a1, a2⟩ := Ra_ws hW h1.2.2.2.2 g0 g1 (s := (j : Int)) (by omega) (by omega)
          refine BX12_takeSub_48 ⟨by omega, by omega, by omega, fun c1 => absurd c1 (by omega), fun _ => r_slot ⟨_, rfl, r_isHere hU h1.1 h16 h17 (by omega) (by omega) lb.2 q12 lets a1 a2 (by omega) (by omega) (fun y => ⟨_, rfl, b1' ?_⟩) (fun y => ⟨_, rfl, b0' (ih (j + 1) (by omega) (fun i hi => ?_))⟩)⟩⟩
          · have hl : sL B g (pkW t q e) = j := by
              unfold sL
              rw [if_neg (by omega)]
              exact fnd_some _ j (by omega) (decide_eq_true y) (fun i hi z => by
                rw [decide_eq_true_iff] at z
                exact hk i hi z)
            rw [hl, if_pos (by omega)] at u
            exact ho B j e σ1 u h1
          · by_cases z : i = j
            · rw [z]; exact y
            · exact hk i (by omega)
      exact loop (B 2 g).toNat 0 (by omega) (fun i hi => by omega)
    · rw [if_neg d] at pw
      rw [h16]
      exact r_wantF h1 (by decide) (fun σ2 h2 => ⟨_, rfl, b0 (hf (3, q) σ2 0 (by rw [u, pw]) h2)⟩)
