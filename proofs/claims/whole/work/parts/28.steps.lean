/-! ===== PURE HALF, by hand: run, mark, name, add, drop ===== -/
abbrev qRun (f t m : Int → Int) (c x w z : Int) : Prop := (0 ≤ x ∧ x < c → (w = 0 → z = f x) ∧ (w = 1 → z = t x) ∧ (w = 2 → z = m x)) ∧ (¬ (0 ≤ x ∧ x < c) → z = -1)
theorem r_runAt {σ : Sg} {post : Po} {T f t m : Int → Int} {c0 : Nat} {x w : Int} (hT : ∀ x : Int, 0 ≤ x → x < 102 → σ 107 x = T x) (h3 : ∀ x, T x = 0 ∨ T x = 1 ∨ T x = 3) (hR : Rep T 1 (arl f t m 0 c0)) (rx : rng x) (w0 : 0 ≤ w) (w1 : w ≤ 2) (hm : ∀ i : Int, 0 ≤ i → i < c0 → m i = 0 ∨ m i = 1) (hc0 : c0 ≤ 60) (hp : ∀ (z : Int) (σ' : Sg), FrJ [] [24, 25, 26] σ σ' → qRun f t m c0 x w z → post (some (vi z)) σ') : V mX12_run 60 [some (vr 94), none, none, some (vi x), some (vi w), some (vi 0), some (vi 1)] [] σ post := by
  have loop : ∀ (c : Nat) (i p : Int) (τ : Sg), 0 ≤ i → i + c = c0 → 1 ≤ p → p ≤ 100 → Rep T p (arl f t m i c) → (x < 0 ∨ i ≤ x) → FrJ [] [24, 25, 26] σ τ → V mX12_run 60 [some (vr 94), none, none, some (vi x), some (vi w), some (vi i), some (vi p)] [] τ post := by
    intro c
    induction c with
    | zero =>
      intro i p τ i0 hi p0 p1 h hx hF
      have hT' : ∀ x : Int, 0 ≤ x → x < 102 → τ 107 x = T x := fun x a b => by rw [hF.1 107 (by simp) (by decide)]; exact hT x a b
      exact BX12_run_60 (r_next_nil hT' h3 p0 p1 h (fun σ' hF' => ⟨_, rfl, b0' (hp _ σ' (hF.tr hF') (by omega))⟩))
    | succ c ih =>
      intro i p τ i0 hi p0 p1 h hx hF
      have hT' : ∀ x : Int, 0 ≤ x → x < 102 → τ 107 x = T x := fun x a b => by rw [hF.1 107 (by simp) (by decide)]; exact hT x a b
      have y1 := h.1
      refine BX12_run_60 (r_next_cons hT' h3 p0 h (fun σ' hF' e1 e2 e3 => ⟨_, rfl, b1' ⟨by omega, rx, fun q => ?_, fun q => ⟨by omega, fun q2 => ⟨fun q3 => ?_, fun q3 => ?_⟩, fun q2 => ?_⟩⟩⟩))
      · rw [e2]
        exact ih (i + 1) (t i + 1) σ' (by omega) (by omega) (by omega) (by omega) h.2.2.2.2.2 (by omega) (hF.tr hF')
      · rw [e3]
        refine r_one (hm i (by omega) (by omega)) ⟨_, rfl, hp _ σ' (hF.tr hF') ?_⟩
        subst q
        exact ⟨fun _ => ⟨fun z => by omega, fun z => by omega, fun _ => rfl⟩, fun z => by omega⟩
      · rw [e2]
        refine hp _ σ' (hF.tr hF') ?_
        subst q
        exact ⟨fun _ => ⟨fun z => by omega, fun z => rfl, fun z => by omega⟩, fun z => by omega⟩
      · rw [e1]
        refine hp _ σ' (hF.tr hF') ?_
        subst q
        exact ⟨fun _ => ⟨fun z => rfl, fun z => by omega, fun z => by omega⟩, fun z => by omega⟩
  exact loop c0 0 1 σ (by omega) (by omega) (by omega) (by omega) hR (by omega) FrJ.rf
theorem s_run : St_run Inv := by
  intro σ h s i w rh rs ri rw hI
  have hI' := hI
  obtain ⟨⟨h1, h2, h3, h4, h5⟩, h6, h7, ⟨hW, hR⟩, ⟨h10, h11⟩, h12⟩ := hI
  have wh := Wb_heads hW
  have er : σ 94 0 = σ 5 0 := Ra_heads hR
  have no : ∀ z : Int, rng z → (¬ (0 ≤ h ∧ h < σ 5 0) → z = -1001) → (0 ≤ h → h < σ 5 0 → (¬ (-1 ≤ s ∧ s < σ 7 h) → z = -1001) ∧ ((-1 ≤ s ∧ s < σ 7 h) → ¬ (0 ≤ w ∧ w ≤ 2) ∧ z = -1002)) → Cl mX12_run [vr 94, vi h, vi s, vi i, vi w] σ (pI fun z2 σ2 => z = z2 ∧ rng z ∧ (Inv σ2 ∨ Inv (swp σ2))) := by
    intro z rz y1 y2
    refine EX12_run (r_noHead rh (by omega) (fun a b => ⟨_, rfl, b0 ?_⟩) (fun q => ⟨_, rfl, b1 ⟨_, rfl, by omega, rz, Or.inl hI'⟩⟩))
    rw [er] at b
    have es : σ 95 h = σ 7 h := Ra_subs hR a b
    have ws := Wb_subs hW a b
    refine r_noSub a (by omega) rs (by rw [es]; exact ws) (fun c d => ⟨_, rfl, b0' ⟨rw, r_in (by omega) (by omega) (by omega) (fun e f => ?_) (fun q => ⟨_, rfl, b0 ⟨_, rfl, by have := y2 a b; omega, rz, Or.inl hI'⟩⟩)⟩⟩) (fun q => ⟨_, rfl, b1' ⟨_, rfl, by have := y2 a b; omega, rz, Or.inl hI'⟩⟩)
    have := y2 a b; omega
  refine EX11_run ⟨h1.1, c_hasEntry rfl rh rs hW (fun a b c d => ⟨_, rfl, b1 ⟨rw, fun q => ⟨_, rfl, no _ (by decide) (fun z => absurd ⟨a, b⟩ z) (fun _ _ => ⟨fun z => absurd ⟨c, d⟩ z, fun _ => ⟨by omega, rfl⟩⟩)⟩, fun q => ⟨fun q2 => ⟨h1.1, ?_⟩, fun q2 => ⟨_, rfl, no _ (by decide) (fun z => absurd ⟨a, b⟩ z) (fun _ _ => ⟨fun z => absurd ⟨c, d⟩ z, fun _ => ⟨by omega, rfl⟩⟩)⟩⟩⟩⟩) (fun q => ⟨_, rfl, b0 ⟨_, rfl, no _ (by decide) (fun _ => rfl) (fun a b => ⟨fun _ => rfl, fun z => absurd ⟨⟨a, b⟩, z⟩ q⟩)⟩⟩)⟩
  refine c_gather rfl rfl (by decide) hW rh rs (fun σ1 hF hn hb hl => ⟨rfl, ?_⟩)
  have e94 : σ1 94 = σ 94 := hF 94 (by decide)
  have d : s < σ 7 h := d
  have hb : ∀ i : Int, 0 ≤ i → i < σ1 70 0 → (1 ≤ σ1 71 i ∧ σ1 71 i ≤ σ1 72 i ∧ σ1 72 i ≤ 99) ∧ (σ1 73 i = 0 ∨ σ1 73 i = 1) := hb
  have hl : rL (bk σ 5) h s = arl (σ1 71) (σ1 72) (σ1 73) 0 (σ1 70 0).toNat := hl
  have hR1 : RA (bk σ1 94) (bk σ 5) := by
    rw [bk94 (σ := σ) (σ' := σ1) (by rw [e94]) (by rw [e94]) (fun k a b => hF k (by simp; omega))]; exact hR
  have hRep := rL_Rep hW h s
  rw [hl] at hRep
  have es : σ1 95 h = σ 7 h := Ra_subs hR1 a b
  have ws := Wb_subs hW a b
  -- the reference, once for all
  have ref : ∀ z : Int, rng z → (i = -1 → z = σ1 70 0) → (¬ i = -1 → qRun (σ1 71) (σ1 72) (σ1 73) (σ1 70 0) i w z) → Cl mX12_run [vr 94, vi h, vi s, vi i, vi w] σ1 (pI fun z2 σ2 => z = z2 ∧ rng z ∧ (Inv σ2 ∨ Inv (swp σ2))) := by
    intro z rz y1 y2
    refine EX12_run (r_noHead rh (by rw [e94]; omega) (fun a b => ⟨_, rfl, b0 ?_⟩) (fun q => absurd (by rw [e94]; omega) q))
    refine r_noSub a (by omega) rs (by rw [es]; exact ws) (fun c d => ⟨_, rfl, b0' ⟨rw, r_in (by omega) (by omega) (by omega) (fun e f => ⟨_, rfl, b1 ?_⟩) (fun q => absurd (by omega) q)⟩⟩) (fun q => absurd (by rw [es]; omega) q)
    refine r_tick hW hR1 rh rs (fun σ2 hF2 hT => ⟨rfl, ri, fun g => ?_, fun g => ?_⟩)
    · refine r_runAt (c0 := (σ1 70 0).toNat) hT (fun x => tk_3 _ _ _ x _) hRep ri e f (fun j j0 j1 => (hb j j0 (by omega)).2) (by omega) (fun z2 σ3 hF3 hz => ⟨_, rfl, ?_, rz, Or.inl (hI'.fr hF ((hF2.mo (N := [107]) (K := [24, 25, 26]) (fun k hk => hk) (fun j hj => by cases hj)).tr (hF3.mo (fun k hk => by cases hk) (fun j hj => hj))) (by unfold ic; decide) (by unfold ic; decide) (by decide))⟩)
      have := y2 g
      rw [show (((σ1 70 0).toNat : Nat) : Int) = σ1 70 0 by omega] at hz
      by_cases q : 0 ≤ i ∧ i < σ1 70 0
      · have a1 := this.1 q
        have a2 := hz.1 q
        omega
      · rw [this.2 q, hz.2 q]
    · refine r_runsTicked hT (fun x => tk_3 _ _ _ x _) hRep (fun σ3 hF3 => ⟨_, rfl, ⟨_, rfl, ?_, rz, Or.inl (hI'.fr hF ((hF2.mo (N := [107]) (K := [24, 25, 26]) (fun k hk => hk) (fun j hj => by cases hj)).tr (hF3.mo (fun k hk => by cases hk) (fun j hj => hj))) (by unfold ic; decide) (by unfold ic; decide) (by decide))⟩⟩)
      rw [y1 g, arl_len]; omega
  refine ⟨ri, fun g => ⟨fun g2 => ⟨_, rfl, ref _ (by decide) (fun z => absurd z g) (fun _ => ⟨fun z => by omega, fun _ => rfl⟩)⟩, fun g2 => ⟨by omega, fun g3 => ⟨fun g4 => ⟨fun g5 => ⟨by omega, ?_, fun g6 => ⟨_, rfl, ref _ (by decide) (fun z => absurd z g) (fun _ => ?_)⟩, fun g6 => ⟨_, rfl, ref _ (by decide) (fun z => absurd z g) (fun _ => ?_)⟩⟩, fun g5 => ⟨by omega, ⟨_, rfl, ref _ ?_ (fun z => absurd z g) (fun _ => ?_)⟩⟩⟩, fun g4 => ⟨by omega, ⟨_, rfl, ref _ ?_ (fun z => absurd z g) (fun _ => ?_)⟩⟩⟩, fun g3 => ⟨_, rfl, ref _ (by decide) (fun z => absurd z g) (fun _ => ⟨fun z => by omega, fun _ => rfl⟩)⟩⟩⟩, fun g => ⟨_, rfl, ref _ (by omega) (fun _ => rfl) (fun z => absurd g z)⟩⟩
  · have := (hb i (by omega) g3).2; omega
  · exact ⟨fun _ => ⟨fun z => by omega, fun z => by omega, fun _ => g6.symm⟩, fun z => by omega⟩
  · have := (hb i (by omega) g3).2
    exact ⟨fun _ => ⟨fun z => by omega, fun z => by omega, fun _ => by omega⟩, fun z => by omega⟩
  · have := (hb i (by omega) g3).1; omega
  · exact ⟨fun _ => ⟨fun z => by omega, fun _ => rfl, fun z => by omega⟩, fun z => by omega⟩
  · have := (hb i (by omega) g3).1; omega
  · exact ⟨fun _ => ⟨fun _ => rfl, fun z => by omega, fun z => by omega⟩, fun z => by omega⟩
abbrev qMark (n k w v0 v1 v2 v3 v4 z : Int) : Prop := (¬ (0 ≤ k ∧ k < n) → z = -1001) ∧ (0 ≤ k ∧ k < n → (w = 0 → z = v0) ∧ (w = 1 → z = v1) ∧ (w = 2 → z = v2) ∧ (w = 3 → z = v3) ∧ (w = 4 → z = v4) ∧ (w < 0 ∨ 4 < w → z = -1002))
theorem s_mark : St_mark Inv := by
  intro σ k w rk rw hI
  have hI' := hI
  obtain ⟨⟨h1, h2, h3, h4, h5⟩, h6, h7, ⟨hW, hR⟩, ⟨h10, h11⟩, h12⟩ := hI
  have wm := Wb_marks hW
  have wh := Wb_heads hW
  have er : σ 94 7 = σ 5 7 := Ra_marks hR
  have ref : ∀ z : Int, rng z → qMark (σ 5 7) k w (σ 12 k) (σ 13 k) (σ 14 k) (σ 15 k) (σ 16 k) z → Cl mX12_mark [vr 94, vi k, vi w] σ (pI fun z2 σ2 => z = z2 ∧ rng z ∧ (Inv σ2 ∨ Inv (swp σ2))) := by
    intro z rz y
    refine EX12_mark ⟨rk, by omega, r_in (by omega) (by omega) (by omega) (fun a b => ⟨_, rfl, b1 ?_⟩) (fun q => ⟨_, rfl, b0 ⟨_, rfl, y.1 (by omega), rz, Or.inl hI'⟩⟩)⟩
    have hb : k < σ 5 7 := by omega
    have y2 := y.2 ⟨a, hb⟩
    have m : σ 101 k = σ 12 k ∧ σ 102 k = σ 13 k ∧ σ 103 k = σ 14 k ∧ σ 104 k = σ 15 k ∧ σ 105 k = σ 16 k := Ra_m hR a hb
    have w4 : σ 16 k = 0 ∨ σ 16 k = 1 := (Wb_m hW a hb).2.2.2
    refine ⟨rw, fun q => ⟨_, rfl, by omega, rz, Or.inl hI'⟩, fun q => ⟨by omega, _, rfl, by omega, rz, Or.inl hI'⟩, fun q => ⟨by omega, _, rfl, by omega, rz, Or.inl hI'⟩, fun q => ⟨by omega, _, rfl, by omega, rz, Or.inl hI'⟩, fun q => ⟨by omega, _, rfl, by omega, rz, Or.inl hI'⟩, fun q => ⟨by omega, r_one (by omega) ⟨_, rfl, _, rfl, by omega, rz, Or.inl hI'⟩⟩⟩
  refine EX11_mark ⟨h1.1, c_hasMark rfl rk (by omega) (fun a b => ⟨_, rfl, b1 ?_⟩) (fun q => ⟨_, rfl, b0 ⟨_, rfl, ref _ (by decide) (by omega)⟩⟩)⟩
  obtain ⟨w1, w2, w3, w4⟩ : (0 ≤ σ 12 k ∧ σ 12 k < σ 5 0) ∧ (-1 ≤ σ 13 k ∧ σ 13 k < σ 7 (σ 12 k)) ∧ (1 ≤ σ 14 k ∧ σ 14 k ≤ σ 15 k ∧ σ 15 k ≤ 99) ∧ (σ 16 k = 0 ∨ σ 16 k = 1) := Wb_m hW a b
  have w5 : 0 ≤ σ 7 (σ 12 k) ∧ σ 7 (σ 12 k) ≤ 6 := Wb_subs hW w1.1 w1.2
  exact ⟨rw, fun q => ⟨_, rfl, ref _ (by decide) (by omega)⟩, fun q => ⟨h1.1, by omega, _, rfl, ref _ (by omega) (by omega)⟩, fun q => ⟨h1.1, by omega, _, rfl, ref _ (by omega) (by omega)⟩, fun q => ⟨h1.1, by omega, _, rfl, ref _ (by omega) (by omega)⟩, fun q => ⟨h1.1, by omega, _, rfl, ref _ (by omega) (by omega)⟩, fun q => ⟨h1.1, by omega, by omega, fun q2 => ⟨_, rfl, ref _ (by omega) (by omega)⟩, fun q2 => ⟨_, rfl, ref _ (by omega) (by omega)⟩⟩⟩
theorem s_name : St_name Inv := by
  intro σ h s i rh rs ri hI
  have hI' := hI
  obtain ⟨⟨h1, h2, h3, h4, h5⟩, h6, h7, ⟨hW, hR⟩, ⟨h10, h11⟩, h12⟩ := hI
  have wh := Wb_heads hW
  have er : σ 94 0 = σ 5 0 := Ra_heads hR
  have ref : ∀ z : Int, rng z → (¬ ((0 ≤ h ∧ h < σ 5 0) ∧ (-1 ≤ s ∧ s < σ 7 h)) → z = -1001) → ((0 ≤ h ∧ h < σ 5 0) ∧ (-1 ≤ s ∧ s < σ 7 h) → (i = -1 → z = wlen (ew (bk σ 5) h s)) ∧ (0 ≤ i ∧ i < wlen (ew (bk σ 5) h s) → z = cd (ew (bk σ 5) h s) i + 94) ∧ (i < -1 ∨ wlen (ew (bk σ 5) h s) ≤ i → z = -1)) → Cl mX12_name [vr 94, vi h, vi s, vi i] σ (pI fun z2 σ2 => z = z2 ∧ rng z ∧ (Inv σ2 ∨ Inv (swp σ2))) := by
    intro z rz y1 y2
    refine EX12_name (r_noHead rh (by omega) (fun a b => ⟨_, rfl, b0 ?_⟩) (fun q => ⟨_, rfl, b1 ⟨_, rfl, y1 (by omega), rz, Or.inl hI'⟩⟩))
    rw [er] at b
    have es : σ 95 h = σ 7 h := Ra_subs hR a b
    have ws : 0 ≤ σ 7 h ∧ σ 7 h ≤ 6 := Wb_subs hW a b
    refine r_noSub a (by omega) rs (by rw [es]; exact ws) (fun c d => ⟨_, rfl, b0' (r_slot ⟨_, rfl, ri, fun q => ⟨by omega, ?_⟩, fun q => ⟨by omega, _, rfl, ?_, rz, Or.inl hI'⟩⟩)⟩) (fun q => ⟨_, rfl, b1' ⟨_, rfl, y1 (by omega), rz, Or.inl hI'⟩⟩)
    · rw [es] at d
      obtain ⟨e1, e2⟩ := Ra_w hR a b c d
      have ww := Wb_ww hW a b c d
      have wl := ww.2.1
      have y3 := y2 ⟨⟨a, b⟩, c, d⟩
      rw [e1]
      refine ⟨by omega, r_in (by omega) (by omega) (by omega) (fun f g => ⟨_, rfl, b1' ⟨by omega, _, rfl, ?_, rz, Or.inl hI'⟩⟩) (fun q2 => ⟨_, rfl, b0' ⟨_, rfl, y3.2.2 (by omega), rz, Or.inl hI'⟩⟩)⟩
      rw [e2 i f (by omega)]
      exact y3.2.1 ⟨f, by omega⟩
    · rw [es] at d
      rw [(Ra_w hR a b c d).1]
      exact (y2 ⟨⟨a, b⟩, c, d⟩).1 q
  refine EX11_name ⟨h1.1, c_hasEntry rfl rh rs hW (fun a b c d => ⟨_, rfl, b1 ⟨h1.1, c_wordOf rfl hW a b c d ⟨_, rfl, ri, fun q => ?_, fun q => ?_⟩⟩⟩) (fun q => ⟨_, rfl, b0 ⟨_, rfl, ref _ (by decide) (fun _ => rfl) (fun z => absurd z q)⟩⟩)⟩
  · have ww := Wb_ww hW a b c d
    have wl := ww.2.1
    refine c_byteOf ww.1.1 ww.1.2 ri (fun x1 x2 x3 => ⟨_, rfl, ⟨_, rfl, ref _ ?_ (fun z => absurd ⟨⟨a, b⟩, c, d⟩ z) (fun _ => ⟨fun z => absurd z q, fun _ => rfl, fun z => ?_⟩)⟩⟩) (fun x => ⟨_, rfl, ⟨_, rfl, ref _ (by decide) (fun z => absurd ⟨⟨a, b⟩, c, d⟩ z) (fun _ => ⟨fun z => absurd z q, fun z => ?_, fun _ => rfl⟩)⟩⟩)
    · have := cd_b (ew (bk σ 5) h s) i; omega
    · have := (ww.2.2 i x1 x2).1.2 x3; omega
    · exact absurd ⟨z.1, by omega, ((ww.2.2 i z.1 (by omega)).1.1 z.2)⟩ x
  · have ww := Wb_ww hW a b c d
    have wl := ww.2.1
    exact ww.len ⟨_, rfl, ⟨_, rfl, ref _ (by omega) (fun z => absurd ⟨⟨a, b⟩, c, d⟩ z) (fun _ => ⟨fun _ => rfl, fun z => by omega, fun z => by omega⟩)⟩⟩
