/-! ===== PURE HALF, by hand: the class's reader, clauses ===== -/
theorem c_putMark {σ0 σ : Sg} {post : Po} {N s a k p g z v w m : Int} {B : Sg} (h : CR σ0 σ N B s a k p) (hW : WfB B) (hn : B 0 7 < 60) (hm : m = 0 ∨ m = 1) (hy : ∀ (σ' : Sg) (x : Int), CR σ0 σ' N (putM B g z v w m) s a k p → post (some (vi x)) σ') : Cl mX0_putMark [vr 41, vi g, vi z, vi v, vi w, vi m] σ post := by
  obtain ⟨a1, a2, a3, a4, a5⟩ := h
  have e0 : σ 41 0 = B 0 0 := by rw [← a5]; rfl
  have e7 : σ 41 7 = B 0 7 := by rw [← a5]; rfl
  have w2 := hW.2.1
  refine EX0_putMark rfl ⟨by omega, fun c1 => ⟨by omega, hm, ?_⟩, fun c1 => absurd (by omega) c1⟩
  rw [e7]
  have u3 : ∀ x, x ≠ 41 → x ≠ 48 → x ≠ 49 → x ≠ 50 → x ≠ 51 → x ≠ 52 → up (up (up (up (up (up σ (41 + 7) (B 0 7) g) (41 + 8) (B 0 7) z) (41 + 9) (B 0 7) v) (41 + 10) (B 0 7) w) (41 + 11) (B 0 7) m) 41 7 (B 0 7 + 1) x = σ x := fun x x0 x1 x2 x3 x4 x5 => by
    rw [up_r x0, up_r x5, up_r x4, up_r x3, up_r x2, up_r x1]
  refine hy _ _ ⟨fun x x3 xx => by rw [u3 x (by omega) (by omega) (by omega) (by omega) (by omega) (by omega)]; exact a1 x x3 xx, ?_, ?_, ?_, ?_⟩
  · rw [u3 3 (by decide) (by decide) (by decide) (by decide) (by decide) (by decide)]; exact a2
  · rw [u3 3 (by decide) (by decide) (by decide) (by decide) (by decide) (by decide)]; exact a3
  · rw [u3 3 (by decide) (by decide) (by decide) (by decide) (by decide) (by decide)]; exact a4
  · have bj : ∀ j, 1 ≤ j → j < 12 → σ (41 + j) = B j := fun j x y => by
      rw [← a5]
      unfold bk
      rw [if_neg (by omega), if_pos y]
    refine bk_ext ?_ (fun j x y => ?_) (fun j x => ?_)
    · rw [up_s, up_f (by decide), up_r (by decide), up_r (by decide), up_r (by decide), up_r (by decide), up_r (by decide), e0]
      rfl
    · have : j = 7 ∨ j = 8 ∨ j = 9 ∨ j = 10 ∨ j = 11 ∨ j = 1 ∨ j = 2 ∨ j = 3 ∨ j = 4 ∨ j = 5 ∨ j = 6 := by omega
      rcases this with e | e | e | e | e | e | e | e | e | e | e <;> subst e
      · rw [up_r (by decide), up_r (by decide), up_r (by decide), up_r (by decide), up_r (by decide), up_k, bj 7 (by decide) (by decide)]; rfl
      · rw [up_r (by decide), up_r (by decide), up_r (by decide), up_r (by decide), up_k, up_r (by decide), bj 8 (by decide) (by decide)]; rfl
      · rw [up_r (by decide), up_r (by decide), up_r (by decide), up_k, up_r (by decide), up_r (by decide), bj 9 (by decide) (by decide)]; rfl
      · rw [up_r (by decide), up_r (by decide), up_k, up_r (by decide), up_r (by decide), up_r (by decide), bj 10 (by decide) (by decide)]; rfl
      · rw [up_r (by decide), up_k, up_r (by decide), up_r (by decide), up_r (by decide), up_r (by decide), bj 11 (by decide) (by decide)]; rfl
      all_goals (rw [u3 _ (by decide) (by decide) (by decide) (by decide) (by decide) (by decide)]; exact bj _ (by decide) (by decide))
    · match j, x with
      | j + 12, _ =>
        show B (j + 12) = _
        rw [← a5]
        exact bk_hi (by omega)
/-- a fault says so to the end of a mark -/
theorem c_markF95 {σ0 σ : Sg} {post : Po} {t : Int → Int} {N n q x1 x2 x3 x4 : Int} (hT : T0 σ0 t N) (h : CF σ0 σ N n q) (hp : ∀ σ' : Sg, CF σ0 σ' N n q → post none σ') : V mX5_readMark 95 [some (vr 3), some (vi x1), some (vi x2), some (vi x3), some (vi x4), none] [] σ post :=
  BX5_readMark_95 (c_mainF hT h (fun σ1 h1 => ⟨_, rfl, h1.ne.1, fun _ => hp σ1 h1, fun c => absurd c h1.ne.2⟩))
theorem c_markF43 {σ0 σ : Sg} {post : Po} {t : Int → Int} {N n q x1 x2 : Int} (hT : T0 σ0 t N) (h : CF σ0 σ N n q) (hp : ∀ σ' : Sg, CF σ0 σ' N n q → post none σ') : V mX5_readMark 43 [some (vr 3), some (vi x1), some (vi x2), none, none, none] [] σ post :=
  BX5_readMark_43 (c_numF hT h (fun σ1 h1 => ⟨_, rfl, c_skipF hT h1 (fun σ2 h2 => ⟨rfl, h2.ne.1, fun _ => c_markF95 hT h2 hp, fun c => absurd c h2.ne.2⟩)⟩))
theorem c_mark95 {σ0 σ : Sg} {post : Po} {t : Int → Int} {N s a k p g z v w : Int} {B : Sg} (hT : T0 σ0 t N) (h : CR σ0 σ N B s a k p) (hW : WfB B) (hn : B 0 7 < 60) (p0 : 0 ≤ p) (p1 : p ≤ N) (hf : ∀ (f : Int × Int) (σ' : Sg), pMn t N p = .inl f → CF σ0 σ' N f.1 f.2 → post none σ') (ho : ∀ (m e : Int) (σ' : Sg), pMn t N p = .inr (m, e) → (m = 0 ∨ m = 1) → (p ≤ e ∧ e ≤ N) → CR σ0 σ' N (putM B g z v w m) s a k e → post none σ') : V mX5_readMark 95 [some (vr 3), some (vi g), some (vi z), some (vi v), some (vi w), none] [] σ post := by
  refine BX5_readMark_95 (c_mainO hT h p0 p1 (fun f σ1 x hw h1 => ⟨_, rfl, h1.ne.1, fun _ => hf f σ1 hw h1, fun c => absurd c h1.ne.2⟩) (fun m e σ1 hw hm he h1 => ⟨_, rfl, h1.eq.1, fun c => absurd h1.eq.2 c, fun _ => ⟨h1.2.1.2.2.2, c_putMark h1 hW hn hm (fun σ2 x h2 => ⟨_, rfl, ho m e σ2 hw hm he h2⟩)⟩⟩))
theorem c_mark {σ0 σ : Sg} {post : Po} {t : Int → Int} {N s a k p : Int} {B : Sg} (hT : T0 σ0 t N) (h : CR σ0 σ N B s a k p) (hW : WfB B) (hn : B 0 7 < 60) (p0 : 0 ≤ p) (p1 : p ≤ N) (hf : ∀ (f : Int × Int) (σ' : Sg), pMark t N B p = .inl f → CF σ0 σ' N f.1 f.2 → post none σ') (ho : ∀ (B' : Sg) (e : Int) (σ' : Sg), pMark t N B p = .inr (B', e) → CR σ0 σ' N B' s a k e → (WfB B' ∧ alsoSum B' = alsoSum B) → (p < e ∧ e ≤ N) → post none σ') : Cl mX5_readMark [vr 3] σ post := by
  have n1 := hT.1.1
  -- from the sub on
  have rest : ∀ (B1 : Sg) (g q1 e1 : Int) (B2 : Sg) (z e2 : Int) (τ : Sg), pHd t N B p = .inr (B1, g, q1, e1) → pSl t N B1 g e1 = .inr (B2, z, e2) → CR σ0 τ N B2 s a k e2 → WfB B2 → alsoSum B2 = alsoSum B → B2 0 7 < 60 → (0 ≤ g ∧ g < B2 0 0 ∧ -1 ≤ z ∧ z < B2 2 g) → (p < e2 ∧ e2 ≤ N) → V mX5_readMark 43 [some (vr 3), some (vi g), some (vi z), none, none, none] [] τ post := by
    intro B1 g q1 e1 B2 z e2 τ u1 u2 h2 W2 A2 M2 G2 E2
    have pm : pMark t N B p = match pNm t N 1 99 e2 with
      | .inl f => .inl f
      | .inr (v, e3) => match pDs t N v e3 with
        | .inl f => .inl f
        | .inr (w, e4) => match pMn t N e4 with
          | .inl f => .inl f
          | .inr (m, e5) => .inr (putM B2 g z v w m, e5) := by
      unfold pMark
      rw [u1]
      dsimp only
      rw [u2]
      rfl
    refine BX5_readMark_43 (c_numO hT h2 (by omega) E2.2 (by decide) (by decide) (fun f σ1 hw h3 => ⟨_, rfl, c_skipF hT h3 (fun σ2 h4 => ⟨rfl, h4.ne.1, fun _ => c_markF95 hT h4 (fun σ3 h5 => hf f σ3 (by rw [pm, hw]) h5), fun c => absurd c h4.ne.2⟩)⟩) (fun v e3 σ1 hw vb eb h3 => ⟨_, rfl, ?_⟩))
    rw [hw] at pm
    dsimp only at pm
    have kb := sk_b (f := isB) (t := t) (N := N) (p := e3) eb.2
    have pd : pDs t N v e3 = if sk isB t N e3 < N ∧ t (sk isB t N e3) = 45 then pNm t N (v + 1) 99 (sk isB t N e3 + 1) else .inr (v, sk isB t N e3) := rfl
    -- behind the second number
    have fin : ∀ (w e4 : Int) (ρ : Sg), pDs t N v e3 = .inr (w, e4) → CR σ0 ρ N B2 s a k e4 → (v ≤ w ∧ w ≤ 99) → (e3 ≤ e4 ∧ e4 ≤ N) → V mX5_readMark 95 [some (vr 3), some (vi g), some (vi z), some (vi v), some (vi w), none] [] ρ post := by
      intro w e4 ρ hd h4 wb e4b
      rw [hd] at pm
      dsimp only at pm
      refine c_mark95 hT h4 W2 M2 (by omega) e4b.2 (fun f σ3 hm h5 => hf f σ3 (by rw [pm, hm]) h5) (fun m e5 σ3 hm hm2 e5b h5 => ?_)
      rw [hm] at pm
      have ok := putM_ok (s := z) W2 G2.1 G2.2.1 G2.2.2.1 G2.2.2.2 vb.1 wb.1 wb.2 hm2 M2
      exact ho _ e5 σ3 pm h5 ⟨ok.1, by rw [ok.2]; exact A2⟩ (by omega)
    refine c_skipO hT h3 (by omega) eb.2 (fun σ2 h4 => ⟨rfl, h4.eq.1, fun c => absurd h4.eq.2 c, fun _ => c_byteHere hT.1 (h4.ct hT) h4.2.2.2.1 (by omega) kb.2 (fun y ry hy => ⟨_, rfl, ry, fun c => ?_, fun c => ?_⟩)⟩)
    · have nc : ¬ (sk isB t N e3 < N ∧ t (sk isB t N e3) = 45) := fun x => c ((bh_c hT.1 (by omega) (by decide) hy).2 x)
      rw [if_neg nc] at pd
      exact fin v _ σ2 pd h4 ⟨Int.le_refl _, vb.2⟩ (by omega)
    · have yc := (bh_c hT.1 (by omega) (by decide) hy).1 c
      rw [if_pos yc] at pd
      have h5 : CR σ0 (up σ2 3 4 (σ2 3 4 + 1)) N B2 s a k (sk isB t N e3 + 1) := h4.p4 P4.rf.u (by rw [up_s, h4.2.2.2.1])
      refine c_numO hT h5 (by omega) (by omega) (by omega) (by decide) (fun f σ3 hw3 h6 => ⟨_, rfl, c_markF95 hT h6 (fun σ4 h7 => hf f σ4 ?_ h7)⟩) (fun w e4 σ3 hw3 wb e4b h6 => ⟨_, rfl, fin w e4 σ3 (by rw [pd, hw3]) h6 (by omega) (by omega)⟩)
      rw [pm, pd, hw3]
  refine EX5_readMark (c_headO hT h hW p0 p1 (fun f σ1 hw h1 => ⟨_, rfl, c_skipF hT h1 (fun σ2 h2 => ⟨rfl, h2.ne.1, fun _ => c_markF43 hT h2 (fun σ3 h3 => hf f σ3 (by unfold pMark; rw [hw]) h3), fun c => absurd c h2.ne.2⟩)⟩) (fun B1 g q1 e1 σ1 hw h1 => ⟨_, rfl, ?_⟩))
  obtain ⟨⟨W1, A1, M1⟩, G1, _, Q1, _, _⟩ := pHd_ok hW p1 hw
  have kb := sk_b (f := isB) (t := t) (N := N) (p := e1) Q1.2.2
  have ps : pSl t N B1 g e1 = if sk isB t N e1 < N ∧ t (sk isB t N e1) = 47 then pSb t N B1 g (sk isB t N e1 + 1) else .inr (B1, -1, sk isB t N e1) := rfl
  have ws := (W1.2.2.1 g G1.1 G1.2).1
  refine c_skipO hT h1 (by omega) Q1.2.2 (fun σ2 h2 => ⟨rfl, h2.eq.1, fun c => absurd h2.eq.2 c, fun _ => c_byteHere hT.1 (h2.ct hT) h2.2.2.2.1 (by omega) kb.2 (fun y ry hy => ⟨_, rfl, ry, fun c => ?_, fun c => ?_⟩)⟩)
  · have nc : ¬ (sk isB t N e1 < N ∧ t (sk isB t N e1) = 47) := fun x => c ((bh_c hT.1 (by omega) (by decide) hy).2 x)
    rw [if_neg nc] at ps
    exact rest B1 g q1 e1 B1 (-1) _ σ2 hw ps h2 W1 A1 (by omega) ⟨G1.1, G1.2, by decide, by omega⟩ (by omega)
  · have yc := (bh_c hT.1 (by omega) (by decide) hy).1 c
    rw [if_pos yc] at ps
    have h3 : CR σ0 (up σ2 3 4 (σ2 3 4 + 1)) N B1 s a k (sk isB t N e1 + 1) := h2.p4 P4.rf.u (by rw [up_s, h2.2.2.2.1])
    refine c_subO hT h3 W1 G1.1 G1.2 (by omega) (by omega) (fun f σ3 hw3 h4 => ⟨_, rfl, c_markF43 hT h4 (fun σ4 h5 => hf f σ4 ?_ h5)⟩) (fun B2 z e2 σ3 hw3 h4 => ⟨_, rfl, ?_⟩)
    · unfold pMark
      rw [hw]
      dsimp only
      rw [ps, hw3]
    · obtain ⟨⟨W2, A2, M2, H2⟩, S2, E2⟩ := pSb_ok W1 G1.1 G1.2 (show sk isB t N e1 + 1 ≤ N by omega) hw3
      exact rest B1 g q1 e1 B2 z e2 σ3 hw (by rw [ps, hw3]) h4 W2 (by rw [A2, A1]) (by omega) ⟨G1.1, by omega, by omega, S2.2⟩ (by omega)
theorem c_wordPlace {σ0 σ : Sg} {post : Po} {N s a k p g q : Int} {B : Sg} (h : CR σ0 σ N B s a k p) (hW : WfB B) (g0 : 0 ≤ g) (g1 : g < B 0 0) (hl : wlen (B 1 g) = p - q) (hp : post (some (vi q)) σ) : Cl mX5_wordPlace [vr 3, vi g] σ post := by
  have w := hW.1
  have eb := h.2.2.2.2
  have e1 : σ 42 g = B 1 g := by rw [← eb]; rfl
  have ww := (hW.2.2.1 g g0 g1).2.2.2.2 (-1) (by decide) (by have := (hW.2.2.1 g g0 g1).1; omega)
  unfold ew at ww
  rw [if_pos rfl] at ww
  refine EX5_wordPlace ⟨h.2.1.2.2.2, by omega, ?_⟩
  rw [e1]
  refine ww.len ⟨_, rfl, ?_⟩
  dsimp only
  rw [hl, h.2.2.2.1, show p - (p - q) = q by omega]
  exact hp
theorem CR.set {σ0 σ σ' : Sg} {N s a k p s' a' k' : Int} {B B' : Sg} (h : CR σ0 σ N B s a k p) (hc : ∀ c : Nat, c ≠ 3 → c < 41 ∨ 52 < c → σ' c = σ c) (hj : ∀ j : Int, j ≠ 6 → j ≠ 7 → j ≠ 8 → σ' 3 j = σ 3 j) (h6 : σ' 3 6 = s') (h7 : σ' 3 7 = a') (h8 : σ' 3 8 = k') (hb : bk σ' 41 = B') : CR σ0 σ' N B' s' a' k' p := by
  obtain ⟨a1, a2, a3, a4, a5⟩ := h
  refine ⟨fun c c3 cc => (hc c c3 cc).trans (a1 c c3 cc), ?_, ⟨h6, h7, h8⟩, ?_, hb⟩
  · rw [hj 0 (by decide) (by decide) (by decide), hj 1 (by decide) (by decide) (by decide), hj 2 (by decide) (by decide) (by decide), hj 5 (by decide) (by decide) (by decide)]; exact a2
  · rw [hj 4 (by decide) (by decide) (by decide)]; exact a4
theorem bk_setR {σ : Sg} {B : Sg} {r : Nat} {h v : Int} (hb : bk σ 41 = B) (r0 : 1 ≤ r) (r1 : r < 12) : bk (up σ (41 + r) h v) 41 = setR B r h v := by
  have bj : ∀ j, 1 ≤ j → j < 12 → σ (41 + j) = B j := fun j x y => by
    rw [← hb]
    unfold bk
    rw [if_neg (by omega), if_pos y]
  refine bk_ext ?_ (fun j x y => ?_) (fun j x => ?_)
  · rw [up_r (by omega)]
    unfold setR
    rw [if_neg (by omega), ← hb]
    rfl
  · unfold setR
    by_cases e : j = r
    · rw [if_pos e, e, up_k, bj r r0 r1]
    · rw [if_neg e, up_r (by omega)]
      exact bj j x y
  · unfold setR
    rw [if_neg (by omega), ← hb]
    exact bk_hi x
theorem bk_up3 {σ : Sg} {j v : Int} : bk (up σ 3 j v) 41 = bk σ 41 := bk_congr (by rw [up_r (by decide)]) (by rw [up_r (by decide)]) (fun i a b => up_r (by omega))
theorem c_link {σ0 σ : Sg} {post : Po} {t : Int → Int} {N s a k p x : Int} {B : Sg} (hT : T0 σ0 t N) (h : CR σ0 σ N B s a k p) (hW : WfB B) (p0 : 0 ≤ p) (p1 : p ≤ N) (hx : (x = 1 ∧ 0 ≤ s ∧ s < 8) ∨ (x = 2 ∧ alsoSum B < 8)) (hf : ∀ (f : Int × Int) (σ' : Sg), ((x = 1 ∧ pSee t N B p = .inl f) ∨ (x = 2 ∧ pAls t N B p = .inl f)) → CF σ0 σ' N f.1 f.2 → post none σ') (ho1 : x = 1 → ∀ (B' : Sg) (e : Int) (σ' : Sg), pSee t N B p = .inr (B', e) → CR σ0 σ' N B' (s + 1) a k e → (WfB B' ∧ alsoSum B' = alsoSum B) → (p < e ∧ e ≤ N) → post none σ') (ho2 : x = 2 → ∀ (B' : Sg) (e : Int) (σ' : Sg), pAls t N B p = .inr (B', e) → CR σ0 σ' N B' s (a + 1) k e → (WfB B' ∧ alsoSum B' = alsoSum B + 1) → (p < e ∧ e ≤ N) → post none σ') : Cl mX5_readLink [vr 3, vi x] σ post := by
  have n1 := hT.1.1
  have faultB : ∀ (f : Int × Int) (g : Int) (τ : Sg), ((x = 1 ∧ pSee t N B p = .inl f) ∨ (x = 2 ∧ pAls t N B p = .inl f)) → CF σ0 τ N f.1 f.2 → V mX5_readLink 42 [some (vr 3), some (vi x), some (vi g), none] [] τ post := fun f g τ hp h1 => BX5_readLink_42 (c_headF hT h1 (fun σ2 h2 => ⟨_, rfl, h2.ne.1, fun c => absurd c h2.ne.2, fun _ => hf f σ2 hp h2⟩))
  refine EX5_readLink (c_headO hT h hW p0 p1 (fun f σ1 hw h1 => ⟨_, rfl, h1.ne.1, fun _ => faultB f _ σ1 ?_ h1, fun c => absurd c h1.ne.2⟩) (fun B1 g q1 e1 σ1 hw h1 => ⟨_, rfl, h1.eq.1, fun c => absurd h1.eq.2 c, fun _ => ?_⟩))
  · rcases hx with z | z
    · exact Or.inl ⟨z.1, by unfold pSee; rw [hw]⟩
    · exact Or.inr ⟨z.1, by unfold pAls; rw [hw]⟩
  obtain ⟨⟨W1, A1, M1⟩, G1, L1, Q1, K1, S1⟩ := pHd_ok hW p1 hw
  have wh1 := W1.1
  have eb1 := h1.2.2.2.2
  have ws := (W1.2.2.1 g G1.1 G1.2).2.1
  have e45 : σ1 45 g = B1 4 g := by rw [← eb1]; rfl
  -- the other head
  have other : (x = 1 → B1 4 g = -1) → V mX5_readLink 42 [some (vr 3), some (vi x), some (vi g), none] [] σ1 post := by
    intro hs
    refine BX5_readLink_42 (c_headO hT h1 W1 (by omega) Q1.2.2 (fun f σ2 hw2 h2 => ⟨_, rfl, h2.ne.1, fun c => absurd c h2.ne.2, fun _ => hf f σ2 ?_ h2⟩) (fun B2 g2 q2 e2 σ2 hw2 h2 => ⟨_, rfl, h2.eq.1, fun _ => ?_, fun c => absurd h2.eq.2 c⟩))
    · rcases hx with z | z
      · refine Or.inl ⟨z.1, ?_⟩
        unfold pSee
        rw [hw]
        dsimp only
        rw [if_neg (fun y => y (hs z.1)), hw2]
      · refine Or.inr ⟨z.1, ?_⟩
        unfold pAls
        rw [hw]
        dsimp only
        rw [hw2]
    obtain ⟨⟨W2, A2, M2⟩, G2, L2, Q2, K2, S2⟩ := pHd_ok W1 Q1.2.2 hw2
    have wh2 := W2.1
    have gg := K2 g G1.1 G1.2
    have wa := (W2.2.2.1 g G1.1 gg).2.2.1
    have eb2 := h2.2.2.2.2
    have e46 : σ2 46 g = B2 5 g := by rw [← eb2]; rfl
    have see1 : x = 1 → pSee t N B p = if g2 = g then .inl (6, q2) else .inr (setR B2 4 g g2, e2) := fun z => by
      unfold pSee
      rw [hw]
      dsimp only
      rw [if_neg (fun y => y (hs z)), hw2]
    have als1 : x = 2 → pAls t N B p = if g2 = g ∨ has (B2 5 g) g2 = true then .inl (6, q2) else .inr (setR B2 5 g (iOr (B2 5 g) (iShl 1 g2)), e2) := fun z => by
      unfold pAls
      rw [hw]
      dsimp only
      rw [hw2]
    have bad : ((x = 1 ∧ pSee t N B p = .inl (6, q2)) ∨ (x = 2 ∧ pAls t N B p = .inl (6, q2))) → V mX5_readLink 81 [some (vr 3), none, none, some (vi g2)] [] σ2 post := fun hp => BX5_readLink_81 (c_wordPlace h2 W2 G2.1 G2.2 L2.2 ⟨_, rfl, c_failO h2 (by omega) Q2.2.2 (by decide) (by omega) (fun σ3 h3 => ⟨_, rfl, hf (6, q2) σ3 hp h3⟩)⟩)
    refine ⟨by omega, by omega, fun c => bad ?_, fun c => ⟨by omega, fun c2 => ?_, fun c2 => ⟨h2.2.1.2.2.2, by omega, ?_⟩⟩⟩
    · rcases hx with z | z
      · exact Or.inl ⟨z.1, by rw [see1 z.1, if_pos c]⟩
      · exact Or.inr ⟨z.1, by rw [als1 z.1, if_pos (Or.inl c)]⟩
    · have x1 : x = 1 := by omega
      refine BX5_readLink_96 ⟨by omega, fun y => absurd x1 y, fun _ => ⟨h2.2.1.2.2.2, by omega, ?_⟩⟩
      have ok := setSee_ok (h := g) W2 G2.1 G2.2
      refine ho1 x1 _ e2 _ (by rw [see1 x1, if_neg c]) (h2.set (fun y y3 yy => ?_) (fun j j6 j7 j8 => ?_) ?_ ?_ ?_ ?_) ⟨ok.1, by rw [ok.2, A2, A1]⟩ (by omega)
      · rw [up_r y3, up_r (by omega)]
      · rw [up_f j6, up_r (by decide)]
      · rw [up_s, h2.2.2.1.1]
      · rw [up_f (by decide), up_r (by decide)]; exact h2.2.2.1.2.1
      · rw [up_f (by decide), up_r (by decide)]; exact h2.2.2.1.2.2
      · rw [bk_up3]
        exact bk_setR (r := 4) eb2 (by decide) (by decide)
    · rw [e46]
      refine c_isIn wa.1 (by omega) G2.1 (by omega) (fun d => ⟨_, rfl, b1' (bad (Or.inr ⟨c2, by rw [als1 c2, if_pos (Or.inr d)]⟩))⟩) (fun d => ⟨_, rfl, b0' ?_⟩)
      refine BX5_readLink_96 ⟨by omega, fun _ => ⟨h2.2.1.2.2.2, by omega, ?_⟩, fun y => by omega⟩
      have a8 : alsoSum B2 < 8 := by
        rcases hx with z | z
        · omega
        · rw [A2, A1]; exact z.2
      have ok := setAlso_ok W2 G1.1 gg G2.1 G2.2 d a8
      rw [e46]
      refine ho2 c2 _ e2 _ (by rw [als1 c2, if_neg (fun y => y.elim c d)]) (h2.set (fun y y3 yy => ?_) (fun j j6 j7 j8 => ?_) ?_ ?_ ?_ ?_) ⟨ok.1, by rw [ok.2, A2, A1]⟩ (by omega)
      · rw [up_r y3, up_r (by omega)]
      · rw [up_f j7, up_r (by decide)]
      · rw [up_f (by decide), up_r (by decide)]; exact h2.2.2.1.1
      · rw [up_s, h2.2.2.1.2.1]
      · rw [up_f (by decide), up_r (by decide)]; exact h2.2.2.1.2.2
      · rw [bk_up3]
        exact bk_setR (r := 5) eb2 (by decide) (by decide)
  refine ⟨by omega, fun c => other (fun z => absurd z c), fun c => ⟨h1.2.1.2.2.2, by omega, ?_⟩⟩
  rw [e45]
  refine ⟨by omega, fun d => other (fun _ => d), fun d => c_wordPlace h1 W1 G1.1 G1.2 L1.2 ⟨_, rfl, c_failO h1 (by omega) Q1.2.2 (by decide) (by omega) (fun σ3 h3 => ⟨_, rfl, faultB (6, q1) g σ3 (Or.inl ⟨c, ?_⟩) h3⟩)⟩⟩
  unfold pSee
  rw [hw]
  dsimp only
  rw [if_pos d]
theorem c_asked {σ0 σ : Sg} {post : Po} {t : Int → Int} {N s a k p : Int} {B : Sg} (hT : T0 σ0 t N) (h : CR σ0 σ N B s a k p) (hW : WfB B) (p0 : 0 ≤ p) (p1 : p ≤ N) (k0 : 0 ≤ k ∧ k < 65536) (hf : ∀ (f : Int × Int) (σ' : Sg), pAsk t N B k p = .inl f → CF σ0 σ' N f.1 f.2 → post none σ') (ho : ∀ (B' : Sg) (k' e : Int) (σ' : Sg), pAsk t N B k p = .inr (B', k', e) → CR σ0 σ' N B' s a k' e → (WfB B' ∧ alsoSum B' = alsoSum B) → (0 ≤ k' ∧ k' < 65536) → (p < e ∧ e ≤ N) → post none σ') : Cl mX5_readAsked [vr 3] σ post := by
  have n1 := hT.1.1
  have faultB : ∀ (f : Int × Int) (g : Int) (τ : Sg), pAsk t N B k p = .inl f → CF σ0 τ N f.1 f.2 → V mX5_readAsked 35 [some (vr 3), some (vi g), none] [] τ post := fun f g τ hp h1 => BX5_readAsked_35 (c_numF hT h1 (fun σ2 h2 => ⟨_, rfl, h2.ne.1, fun _ => hf f σ2 hp h2, fun c => absurd c h2.ne.2⟩))
  refine EX5_readAsked (c_headO hT h hW p0 p1 (fun f σ1 hw h1 => ⟨_, rfl, h1.ne.1, fun _ => faultB f _ σ1 (by unfold pAsk; rw [hw]) h1, fun c => absurd c h1.ne.2⟩) (fun B1 g q1 e1 σ1 hw h1 => ⟨_, rfl, h1.eq.1, fun c => absurd h1.eq.2 c, fun _ => ?_⟩))
  obtain ⟨⟨W1, A1, M1⟩, G1, L1, Q1, K1, S1⟩ := pHd_ok hW p1 hw
  have wh1 := W1.1
  have pa : pAsk t N B k p = if has k g = true then .inl (6, q1) else match pNm t N 0 99 e1 with
    | .inl f => .inl f
    | .inr (v, e2) => .inr (setR B1 6 g v, iOr k (iShl 1 g), e2) := by
    unfold pAsk
    rw [hw]
    rfl
  rw [h1.2.2.1.2.2]
  refine c_isIn k0.1 (by omega) G1.1 (by omega) (fun c => ⟨_, rfl, b1' (c_wordPlace h1 W1 G1.1 G1.2 L1.2 ⟨_, rfl, c_failO h1 (by omega) Q1.2.2 (by decide) (by omega) (fun σ3 h3 => ⟨_, rfl, faultB (6, q1) g σ3 (by rw [pa, if_pos c]) h3⟩)⟩)⟩) (fun c => ⟨_, rfl, b0' ?_⟩)
  rw [if_neg c] at pa
  refine BX5_readAsked_35 (c_numO hT h1 (by omega) Q1.2.2 (by decide) (by decide) (fun f σ2 hw2 h2 => ⟨_, rfl, h2.ne.1, fun _ => hf f σ2 (by rw [pa, hw2]) h2, fun d => absurd d h2.ne.2⟩) (fun v e2 σ2 hw2 vb eb h2 => ⟨_, rfl, h2.eq.1, fun d => absurd h2.eq.2 d, fun _ => ⟨h2.2.1.2.2.2, by omega, ?_⟩⟩))
  rw [hw2] at pa
  have sh := iShl1_lt (h := g) (n := 16) G1.1 (by omega) (by decide)
  have o := iOr_lt (s := k) (t := iShl 1 g) (n := 16) (by decide) k0.1 k0.2 sh.1 sh.2
  have ok := setAsk_ok (h := g) W1 vb.1 vb.2
  have e8 := h2.2.2.1.2.2
  rw [e8]
  refine ho _ _ e2 _ pa (h2.set (fun y y3 yy => ?_) (fun j j6 j7 j8 => ?_) ?_ ?_ ?_ ?_) ⟨ok.1, by rw [ok.2, A1]⟩ o (by omega)
  · rw [up_r (by omega), up_r y3]
  · rw [up_r (by decide), up_f j8]
  · rw [up_r (by decide), up_f (by decide)]; exact h2.2.2.1.1
  · rw [up_r (by decide), up_f (by decide)]; exact h2.2.2.1.2.1
  · rw [up_r (by decide), up_s]
  · exact bk_setR (σ := up σ2 3 8 (iOr k (iShl 1 g))) (r := 6) (by rw [bk_up3]; exact h2.2.2.2.2) (by decide) (by decide)
