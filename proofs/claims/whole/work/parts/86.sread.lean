/-! ===== PURE HALF, by hand: read ===== -/
theorem Keq.tr {a b c : Sg} (h : Keq a b) (g : Keq b c) : Keq a c := by
  obtain ⟨h0, h7, h1, h2, h3, h4⟩ := h
  obtain ⟨g0, g7, g1, g2, g3, g4⟩ := g
  exact ⟨g0.trans h0, g7.trans h7, fun r hr i i0 i1 => (g1 r hr i i0 i1).trans (h1 r hr i i0 i1), fun i i0 i1 => (g2 i i0 i1).trans (h2 i i0 i1), fun i i0 i1 => (g3 i i0 i1).trans (h3 i i0 i1), fun r r0 r1 i i0 i1 i2 => (g4 r r0 r1 i i0 (by rw [h7]; exact i1) i2).trans (h4 r r0 r1 i i0 i1 i2)⟩
theorem SO_0 {N : Int} {B0 : Sg} (hN : 0 ≤ N) (hb0 : B0 0 0 = 0 ∧ B0 0 7 = 0) : SO N B0 0 0 0 0 := by
  have al : alsoSum B0 = 0 := by
    unfold alsoSum
    rw [hb0.1]
    rfl
  exact ⟨⟨by rw [hb0.1]; decide, by rw [hb0.2]; decide, fun h x y => by rw [hb0.1] at y; omega, fun h x y => by rw [hb0.2] at y; omega, by rw [al]; decide⟩, by decide, al.symm, by decide, by omega⟩
/-- what the reference's read leaves as it was -/
def RdF (τ σ' : Sg) : Prop := (∀ k, k ≠ 94 → k < 95 ∨ (105 < k ∧ k < 122) ∨ 135 < k → σ' k = τ k) ∧ (∀ j : Int, j ∉ 14 :: RJs → σ' 94 j = τ 94 j) ∧ σ' 94 14 = 0 ∧ ∀ j : Int, 0 ≤ j → j ≤ 1 → Keq (kv τ j) (kv σ' j) ∧ σ' 135 j = τ 135 j
theorem r_read {τ : Sg} {post : Po} {t : Int → Int} {N : Int} {B0 : Sg} (hN : okT t N) (h14 : τ 94 14 = N) (h106 : ∀ i : Int, 0 ≤ i → i < N → τ 106 i = t i) (hb0 : B0 0 0 = 0 ∧ B0 0 7 = 0) (hn : 0 ≤ τ 94 7 ∧ τ 94 7 ≤ 60) (hm : ∀ x : Int, 0 ≤ x → x < τ 94 7 → τ 105 x = 0 ∨ τ 105 x = 1) (hf : ∀ (f : Int × Int) (σ' : Sg), pRun t N 600 B0 0 0 0 0 = .inl f → RdF τ σ' → σ' 94 19 = f.2 → Keq (bk τ 94) (bk σ' 94) → post (some (vi (-10 - f.1))) σ') (ho : ∀ (B' : Sg) (σ' : Sg), pRun t N 600 B0 0 0 0 0 = .inr B' → WfB B' → RdF τ σ' → σ' 94 19 = -1 → RA (bk σ' 94) B' → post (some (vi (B' 0 0))) σ') : Cl mX12_read [vr 94] τ post := by
  refine EX12_read (r_keepAt (i := 2) (by decide) (by decide) hn hm (fun σ1 gF g1 g2 g3 => ⟨rfl, ?_⟩))
  dsimp only
  have hU : U0 σ1 t N := ⟨hN, by rw [gF 94 (by decide)]; exact h14, fun i i0 i1 => by rw [gF 106 (by decide)]; exact h106 i i0 i1⟩
  have F0 : RFr σ1 σ1 := ⟨fun _ _ _ => rfl, fun _ _ => rfl⟩
  have Fs : RFr σ1 (up (up (up (up (up (up (up (up σ1 94 15 0) 94 18 0) 94 19 (-1)) 94 0 0) 94 7 0) 94 20 0) 94 21 0) 94 22 0) := (((((((F0.u (by decide)).u (by decide)).u (by decide)).u (by decide)).u (by decide)).u (by decide)).u (by decide)).u (by decide)
  have s15 : up (up (up (up (up (up (up (up σ1 94 15 0) 94 18 0) 94 19 (-1)) 94 0 0) 94 7 0) 94 20 0) 94 21 0) 94 22 0 94 15 = 0 := by rw [up_f (by decide), up_f (by decide), up_f (by decide), up_f (by decide), up_f (by decide), up_f (by decide), up_f (by decide), up_s]
  have s18 : up (up (up (up (up (up (up (up σ1 94 15 0) 94 18 0) 94 19 (-1)) 94 0 0) 94 7 0) 94 20 0) 94 21 0) 94 22 0 94 18 = 0 := by rw [up_f (by decide), up_f (by decide), up_f (by decide), up_f (by decide), up_f (by decide), up_f (by decide), up_s]
  have s19 : up (up (up (up (up (up (up (up σ1 94 15 0) 94 18 0) 94 19 (-1)) 94 0 0) 94 7 0) 94 20 0) 94 21 0) 94 22 0 94 19 = -1 := by rw [up_f (by decide), up_f (by decide), up_f (by decide), up_f (by decide), up_f (by decide), up_s]
  have s0 : up (up (up (up (up (up (up (up σ1 94 15 0) 94 18 0) 94 19 (-1)) 94 0 0) 94 7 0) 94 20 0) 94 21 0) 94 22 0 94 0 = 0 := by rw [up_f (by decide), up_f (by decide), up_f (by decide), up_f (by decide), up_s]
  have s7 : up (up (up (up (up (up (up (up σ1 94 15 0) 94 18 0) 94 19 (-1)) 94 0 0) 94 7 0) 94 20 0) 94 21 0) 94 22 0 94 7 = 0 := by rw [up_f (by decide), up_f (by decide), up_f (by decide), up_s]
  have s20 : up (up (up (up (up (up (up (up σ1 94 15 0) 94 18 0) 94 19 (-1)) 94 0 0) 94 7 0) 94 20 0) 94 21 0) 94 22 0 94 20 = 0 := by rw [up_f (by decide), up_f (by decide), up_s]
  have s21 : up (up (up (up (up (up (up (up σ1 94 15 0) 94 18 0) 94 19 (-1)) 94 0 0) 94 7 0) 94 20 0) 94 21 0) 94 22 0 94 21 = 0 := by rw [up_f (by decide), up_s]
  have s22 : up (up (up (up (up (up (up (up σ1 94 15 0) 94 18 0) 94 19 (-1)) 94 0 0) 94 7 0) 94 20 0) 94 21 0) 94 22 0 94 22 = 0 := up_s
  generalize up (up (up (up (up (up (up (up σ1 94 15 0) 94 18 0) 94 19 (-1)) 94 0 0) 94 7 0) 94 20 0) 94 21 0) 94 22 0 = σs at *
  have R0 : RR σ1 σs B0 0 0 0 0 := ⟨Fs, ⟨s18, s19⟩, ⟨s20, s21, s22⟩, s15, ⟨(show σs 94 0 = B0 0 0 by rw [s0, hb0.1]), (show σs 94 7 = B0 0 7 by rw [s7, hb0.2]), fun h x y => by rw [hb0.1] at y; omega, fun k x y => by rw [hb0.2] at y; omega⟩⟩
  have e129 : σ1 129 2 = τ 94 7 := g1.2.1
  have e134 : ∀ x : Int, 0 ≤ x → x < τ 94 7 → σ1 134 (60 * 2 + x) = τ 105 x := fun x x0 x1 => g1.2.2.2.2.2 11 (by decide) (by decide) x x0 x1 (by omega)
  have im : ∀ ω : Sg, (∀ k, 122 ≤ k → k ≤ 135 → ω k = σ1 k) → ∀ j : Int, 0 ≤ j → j ≤ 1 → Keq (kv τ j) (kv ω j) ∧ ω 135 j = τ 135 j := fun ω hω j j0 j1 => by
    refine ⟨?_, ?_⟩
    · rw [kv_congr (σ := σ1) (σ' := ω) j hω]
      exact g2 j j0 (by omega) (by omega)
    · rw [hω 135 (by decide) (by decide), g3, pt_ne (by omega)]
  refine r_loop (R := pRun t N 600 B0 0 0 0 0) hU (fun f σ' hr hX => ?_) (fun B' s a k p σ' hr hW' hX => ?_) 600 0 σs B0 0 0 0 0 (by decide) (by decide) rfl R0 (SO_0 hN.1.1 hb0)
  · obtain ⟨⟨x1, x2⟩, ⟨x3, x4⟩, x5⟩ := hX
    have k129 : up σ' 94 14 0 129 2 = τ 94 7 := by rw [up_r (by decide), x1 129 (by decide) (by decide)]; exact e129
    refine r_backTo (i := 2) (by decide) (by decide) (by rw [k129]; exact hn) (fun x y0 y1 => ?_) (fun σ2 bF b94 bK => ⟨rfl, ?_⟩)
    · rw [k129] at y1
      rw [up_r (by decide), x1 134 (by decide) (by decide), e134 x y0 y1]
      exact hm x y0 y1
    · have e18 : σ2 94 18 = f.1 := by rw [b94 18 (by decide) (by decide), up_f (by decide)]; exact x3
      dsimp only
      rw [e18]
      have kk : ∀ k, 122 ≤ k → k ≤ 135 → σ2 k = σ1 k := fun k a b => by rw [bF k (by omega) (by omega), up_r (by omega)]; exact x1 k (by omega) (by omega)
      refine hf f σ2 hr ⟨fun k a b => ?_, fun j hj => ?_, ?_, im σ2 kk⟩ ?_ ?_
      · rw [bF k a (by omega), up_r a, x1 k a (by omega)]; exact gF k (by omega)
      · have j14 : j ≠ 14 := fun z => hj (by rw [z]; decide)
        have jr : j ∉ RJs := fun z => hj (List.mem_cons_of_mem _ z)
        rw [b94 j (fun z => jr (by rw [z]; decide)) (fun z => jr (by rw [z]; decide)), up_f j14, x2 j jr, gF 94 (by decide)]
      · rw [b94 14 (by decide) (by decide), up_s]
      · rw [b94 19 (by decide) (by decide), up_f (by decide)]; exact x4
      · rw [kv_congr (σ := σ1) (σ' := up σ' 94 14 0) 2 (fun k a b => by rw [up_r (by omega)]; exact x1 k (by omega) (by omega))] at bK
        exact g1.tr bK
  · obtain ⟨⟨x1, x2⟩, ⟨x3, x4⟩, x5, x6, x7⟩ := hX
    have e0 : σ' 94 0 = B' 0 0 := Ra_heads x7
    rw [e0]
    refine ho B' _ hr hW' ⟨fun k a b => ?_, fun j hj => ?_, up_s, im _ (fun k a b => ?_)⟩ ?_ (RA_up x7 (by decide))
    · rw [up_r a, x1 k a (by omega)]; exact gF k (by omega)
    · have j14 : j ≠ 14 := fun z => hj (by rw [z]; decide)
      have jr : j ∉ RJs := fun z => hj (List.mem_cons_of_mem _ z)
      rw [up_f j14, x2 j jr, gF 94 (by decide)]
    · rw [up_r (by omega)]; exact x1 k (by omega) (by omega)
    · rw [up_f (by decide)]; exact x4
theorem Inv_read {σ ω : Sg} (hI : Inv σ) (c01 : ω 0 1 = 5) (c09 : ω 0 9 = 0 ∨ ω 0 9 = 1) (c0 : ∀ j : Int, j ≠ 1 → j ≠ 9 → ω 0 j = σ 0 j) (h30 : ω 3 0 = 0) (h35 : ω 3 5 = 41) (h32 : ω 3 2 = ω 94 19 ∧ -1 ≤ ω 3 2 ∧ ω 3 2 ≤ 600) (h94 : ∀ j : Int, j ∉ 14 :: RJs → ω 94 j = σ 94 j) (h14 : ω 94 14 = 0) (hc : ∀ c : Nat, (17 ≤ c ∧ c ≤ 40) ∨ (90 ≤ c ∧ c ≤ 92) ∨ c = 118 ∨ c = 119 → ω c = σ c) (him : ∀ j : Int, 0 ≤ j → j ≤ 1 → Keq (kv σ j) (kv ω j) ∧ ω 135 j = σ 135 j) (hW : WfB (bk ω 5)) (hR : RA (bk ω 94) (bk ω 5)) (hP : ω 0 9 = 1 → PrOK ω) : Inv ω := by
  obtain ⟨⟨h1, h2, ⟨h3, h3'⟩, h4, h5⟩, h6, h7, _, ⟨h10, h11⟩, h12⟩ := hI
  refine ⟨⟨⟨c01, h35⟩, h32, ?_, ?_, c09⟩, ⟨by rw [h30, h14], by rw [h30]; decide, fun i a b => by rw [h30] at b; omega⟩, h7.co (by rw [hc 90 (by decide)]) (h94 47 (by decide)) (hc 91 (by decide)) (hc 92 (by decide)) (hc 118 (by decide)) (hc 119 (by decide)), ⟨hW, hR⟩, ⟨h10.oth (fun a x y => hc a (by omega)) (him 0 (by decide) (by decide)).2 (him 0 (by decide) (by decide)).1, h11.oth (fun a x y => hc a (by omega)) (him 1 (by decide) (by decide)).2 (him 1 (by decide) (by decide)).1⟩, hP⟩
  · rw [c0 3 (by decide) (by decide), h94 27 (by decide)]; exact ⟨h3, h3'⟩
  · rw [c0 4 (by decide) (by decide), h94 28 (by decide)]; exact h4
theorem s_read : St_read Inv := by
  intro σ hI
  have hI' := hI
  obtain ⟨⟨h1, h2, ⟨h3, h3'⟩, h4, h5⟩, h6, h7, ⟨hW, hR⟩, ⟨h10, h11⟩, h12⟩ := hI
  obtain ⟨x1, x2, x3⟩ := id h6
  have hT : T0 σ (σ 106) (σ 3 0) := ⟨⟨x2, fun i a b => (x3 i a b).1⟩, fun i a b => (x3 i a b).2⟩
  have wm := Wb_marks hW
  have er7 : σ 94 7 = σ 5 7 := Ra_marks hR
  have m105 : ∀ x : Int, 0 ≤ x → x < σ 94 7 → σ 105 x = 0 ∨ σ 105 x = 1 := fun x y0 y1 => by
    have q1 := (Ra_m hR y0 (show x < σ 5 7 by omega)).2.2.2.2
    have q2 := (Wb_m hW y0 (show x < σ 5 7 by omega)).2.2.2
    rw [q1]
    exact q2
  refine c_read hT rfl h1.2 h1.1 (fun f σ' B0 hr hb0 hF => ⟨_, rfl, ?_⟩) (fun B' s a k p σ' B0 hr hb0 hW' hF => ⟨_, rfl, ?_⟩)
  · obtain ⟨y1, ⟨y2, y3, y4, y5⟩, ⟨y6, y7⟩, y8⟩ := hF
    have c : ∀ c : Nat, c ≠ 3 → c < 41 ∨ 52 < c → up σ' 3 0 0 c = σ c := fun c c3 cc => by rw [up_r c3]; exact y1 c c3 cc
    have e94 : up σ' 3 0 0 94 = σ 94 := c 94 (by decide) (by decide)
    refine r_read (t := σ 106) (N := σ 3 0) hT.1 (by rw [e94]; exact x1.symm) (fun i _ _ => by rw [c 106 (by decide) (by decide)]) hb0 (by rw [e94]; omega) (fun x z0 z1 => by rw [c 105 (by decide) (by decide)]; rw [e94] at z1; exact m105 x z0 z1) (fun g υ hg hD e19 hK => ⟨_, rfl, ?_, by omega, Or.inl ?_⟩) (fun B'' υ hg => by rw [hr] at hg; cases hg)
    · rw [hr] at hg
      injection hg with hg
      rw [hg]
    · rw [hr] at hg
      injection hg with hg
      rw [← hg] at e19
      obtain ⟨d1, d2, d3, d4⟩ := hD
      have u : ∀ k : Nat, k ≠ 3 → k ≠ 94 → k < 41 ∨ (52 < k ∧ k < 95) ∨ (105 < k ∧ k < 122) → υ k = σ k := fun k a b e => by rw [d1 k b (by omega)]; exact c k a (by omega)
      have u3 : υ 3 = up σ' 3 0 0 3 := d1 3 (by decide) (by decide)
      have b5 : bk υ 5 = bk σ 5 := bk5 (fun k a b => u k (by omega) (by omega) (by omega))
      have b94 : bk (up σ' 3 0 0) 94 = bk σ 94 := bk94 (by rw [e94]) (by rw [e94]) (fun k a b => c k (by omega) (by omega))
      rw [b94] at hK
      refine Inv_read hI' (by rw [u 0 (by decide) (by decide) (by decide)]; exact h1.1) (by rw [u 0 (by decide) (by decide) (by decide)]; exact h5) (fun j _ _ => by rw [u 0 (by decide) (by decide) (by decide)]) (by rw [u3, up_s]) (by rw [u3, up_f (by decide)]; exact y5) ?_ (fun j hj => by rw [d2 j hj, e94]) d3 (fun k hk => u k (by omega) (by omega) (by omega)) (fun j j0 j1 => ?_) (by rw [b5]; exact hW) (by rw [b5]; exact RA.eq hW hR Beq.rf hK) (fun z => ?_)
      · rw [u3, up_f (by decide), y4, e19]
        exact ⟨rfl, by omega, by omega⟩
      · have := d4 j j0 j1
        rw [kv_congr (σ := σ) (σ' := up σ' 3 0 0) j (fun k a b => c k (by omega) (by omega)), c 135 (by decide) (by decide)] at this
        exact this
      · rw [u 0 (by decide) (by decide) (by decide)] at z
        exact (h12 z).co (by rw [u 0 (by decide) (by decide) (by decide)]; exact ⟨rfl, rfl⟩) (u 1 (by decide) (by decide) (by decide)) b5 (by rw [u 53 (by decide) (by decide) (by decide)]) (u 55 (by decide) (by decide) (by decide)) (by rw [u 64 (by decide) (by decide) (by decide)]; exact ⟨rfl, rfl⟩) (u 65 (by decide) (by decide) (by decide))
  · obtain ⟨y1, ⟨y2, y3, y4, y5⟩, y6, y7, y8⟩ := hF
    have c : ∀ c : Nat, c ≠ 0 → c ≠ 3 → c < 41 ∨ 52 < c → up (up (up (up σ' 3 0 0) 3 5 5) 0 1 41) 0 9 0 c = σ c := fun c c0 c3 cc => by rw [up_r c0, up_r c0, up_r c3, up_r c3]; exact y1 c c3 cc
    have c41 : ∀ c : Nat, 41 ≤ c → c ≤ 52 → up (up (up (up σ' 3 0 0) 3 5 5) 0 1 41) 0 9 0 c = σ' c := fun c ca cb => by rw [up_r (by omega), up_r (by omega), up_r (by omega), up_r (by omega)]
    have c00 : ∀ j : Int, j ≠ 1 → j ≠ 9 → up (up (up (up σ' 3 0 0) 3 5 5) 0 1 41) 0 9 0 0 j = σ 0 j := fun j a b => by rw [up_f b, up_f a, up_r (by decide), up_r (by decide), y1 0 (by decide) (by decide)]
    have c01 : up (up (up (up σ' 3 0 0) 3 5 5) 0 1 41) 0 9 0 0 1 = 41 := by rw [up_f (by decide), up_s]
    have c09 : up (up (up (up σ' 3 0 0) 3 5 5) 0 1 41) 0 9 0 0 9 = 0 := up_s
    have c30 : up (up (up (up σ' 3 0 0) 3 5 5) 0 1 41) 0 9 0 3 0 = 0 := by rw [up_r (by decide), up_r (by decide), up_f (by decide), up_s]
    have c35 : up (up (up (up σ' 3 0 0) 3 5 5) 0 1 41) 0 9 0 3 5 = 5 := by rw [up_r (by decide), up_r (by decide), up_s]
    have c32 : up (up (up (up σ' 3 0 0) 3 5 5) 0 1 41) 0 9 0 3 2 = -1 := by rw [up_r (by decide), up_r (by decide), up_f (by decide), up_f (by decide)]; exact y4
    generalize up (up (up (up σ' 3 0 0) 3 5 5) 0 1 41) 0 9 0 = τ at *
    have e94 : τ 94 = σ 94 := c 94 (by decide) (by decide) (by decide)
    have wh' := hW'.1
    refine r_read (t := σ 106) (N := σ 3 0) hT.1 (by rw [e94]; exact x1.symm) (fun i _ _ => by rw [c 106 (by decide) (by decide) (by decide)]) hb0 (by rw [e94]; omega) (fun x z0 z1 => by rw [c 105 (by decide) (by decide) (by decide)]; rw [e94] at z1; exact m105 x z0 z1) (fun g υ hg => by rw [hr] at hg; cases hg) (fun B'' υ hg hW2 hD e19 hR2 => ⟨_, rfl, ?_, by omega, Or.inr ?_⟩)
    · rw [hr] at hg
      injection hg with hg
      rw [hg]
    · rw [hr] at hg
      injection hg with hg
      rw [← hg] at hR2
      obtain ⟨d1, d2, d3, d4⟩ := hD
      have u : ∀ k : Nat, k ≠ 94 → k < 95 ∨ (105 < k ∧ k < 122) → υ k = τ k := fun k b e => d1 k b (by omega)
      have hi : ∀ k : Nat, 53 ≤ k → swp υ k = υ k := fun k hk => by
        unfold swp
        rw [if_neg (by omega), if_neg (by omega), prm_hi hk]
      have mid : ∀ k : Nat, 17 ≤ k → k ≤ 40 → swp υ k = υ k := fun k ka kb => by
        unfold swp prm
        rw [if_neg (by omega), if_neg (by omega), if_neg (by omega), if_neg (by omega)]
      have w5 : ∀ j : Nat, j < 12 → swp υ (5 + j) = υ (41 + j) := fun j hj => by
        unfold swp prm
        rw [if_neg (by omega), if_neg (by omega), if_pos (by omega), show 5 + j + 36 = 41 + j by omega]
      have s0 : ∀ j : Int, j ≠ 1 → swp υ 0 j = υ 0 j := fun j hj => by
        unfold swp
        rw [if_pos rfl, if_neg hj]
      have s3 : ∀ j : Int, j ≠ 5 → swp υ 3 j = υ 3 j := fun j hj => by
        unfold swp
        rw [if_neg (by decide), if_pos rfl, if_neg hj]
      have u01 : υ 0 1 = 41 := by rw [u 0 (by decide) (by decide)]; exact c01
      have u35 : υ 3 5 = 5 := by rw [u 3 (by decide) (by decide)]; exact c35
      have s01 : swp υ 0 1 = 5 := by
        unfold swp
        rw [if_pos rfl, if_pos rfl, u01]
        rfl
      have s35 : swp υ 3 5 = 41 := by
        unfold swp
        rw [if_neg (by decide), if_pos rfl, if_pos rfl, u35]
        rfl
      have b5 : bk (swp υ) 5 = B' := by
        rw [← y8]
        have e41 : ∀ k : Nat, 41 ≤ k → k ≤ 52 → υ k = σ' k := fun k a b => by rw [u k (by omega) (by omega)]; exact c41 k a b
        refine bk_congr ?_ ?_ (fun j j1 j2 => ?_)
        · have := w5 0 (by decide)
          rw [show swp υ 5 = υ 41 from this, e41 41 (by decide) (by decide)]
        · have := w5 0 (by decide)
          rw [show swp υ 5 = υ 41 from this, e41 41 (by decide) (by decide)]
        · rw [w5 j j2, e41 (41 + j) (by omega) (by omega)]
      have b94 : bk (swp υ) 94 = bk υ 94 := bk94 (by rw [hi 94 (by decide)]) (by rw [hi 94 (by decide)]) (fun k a b => hi k (by omega))
      refine Inv_read hI' s01 (Or.inl (by rw [s0 9 (by decide), u 0 (by decide) (by decide)]; exact c09)) (fun j a b => by rw [s0 j a, u 0 (by decide) (by decide)]; exact c00 j a b) (by rw [s3 0 (by decide), u 3 (by decide) (by decide)]; exact c30) s35 ?_ (fun j hj => by rw [hi 94 (by decide), d2 j hj, e94]) (by rw [hi 94 (by decide)]; exact d3) (fun k hk => ?_) (fun j j0 j1 => ?_) (by rw [b5]; exact hW') (by rw [b5, b94]; exact hR2) (fun z => ?_)
      · rw [s3 2 (by decide), hi 94 (by decide), e19, u 3 (by decide) (by decide), c32]
        decide
      · by_cases q : k ≤ 40
        · rw [mid k (by omega) q, u k (by omega) (by omega)]; exact c k (by omega) (by omega) (by omega)
        · rw [hi k (by omega), u k (by omega) (by omega)]; exact c k (by omega) (by omega) (by omega)
      · have := d4 j j0 j1
        rw [kv_congr (σ := σ) (σ' := τ) j (fun k a b => c k (by omega) (by omega) (by omega)), c 135 (by decide) (by decide) (by decide)] at this
        rw [kv_congr (σ := υ) (σ' := swp υ) j (fun k a b => hi k (by omega)), hi 135 (by decide)]
        exact this
      · rw [s0 9 (by decide), u 0 (by decide) (by decide), c09] at z
        cases z
