/-! ===== PURE HALF, by hand: the reference's reader, to the end ===== -/
theorem RA_up {σ B : Sg} {j v : Int} (hR : RA (bk σ 94) B) (hj : j ≠ 0 ∧ j ≠ 7) : RA (bk (up σ 94 j v) 94) B := by
  rw [bk94 (σ := σ) (σ' := up σ 94 j v) (up_f (fun z => hj.1 z.symm)) (up_f (fun z => hj.2 z.symm)) (fun c x y => up_r (by omega))]
  exact hR
theorem RR_link {σ0 σ : Sg} {s a k p s' a' g v x j : Int} {B : Sg} {r : Nat} (h : RR σ0 σ B s a k p) (hr : r = 4 ∨ r = 5 ∨ r = 6) (hs : (j = 20 ∧ s' = x ∧ a' = a) ∨ (j = 21 ∧ s' = s ∧ a' = x)) : RR σ0 (up (up σ (94 + r) g v) 94 j x) (setR B r g v) s' a' k p := by
  obtain ⟨a1, a2, a3, a4, a5⟩ := h
  have jr : j = 20 ∨ j = 21 := by omega
  have u94 : ∀ i : Int, i ≠ j → up (up σ (94 + r) g v) 94 j x 94 i = σ 94 i := fun i hi => by
    rw [up_f hi, up_r (by omega)]
  refine ⟨(a1.r (by omega) (by omega)).u (by unfold RJs; rcases jr with e | e <;> subst e <;> decide), ?_, ?_, ?_, RA_up (RA_setR a5 hr) (by omega)⟩
  · rw [u94 18 (by omega), u94 19 (by omega)]; exact a2
  · rcases hs with ⟨e, e1, e2⟩ | ⟨e, e1, e2⟩ <;> subst e e1 e2
    · exact ⟨up_s, by rw [u94 21 (by decide)]; exact a3.2.1, by rw [u94 22 (by decide)]; exact a3.2.2⟩
    · exact ⟨by rw [u94 20 (by decide)]; exact a3.1, up_s, by rw [u94 22 (by decide)]; exact a3.2.2⟩
  · rw [u94 15 (by omega)]; exact a4
theorem r_see {σ0 σ : Sg} {post : Po} {t : Int → Int} {N s a k p x : Int} {B : Sg} (hU : U0 σ0 t N) (h : RR σ0 σ B s a k p) (hW : WfB B) (p0 : 0 ≤ p) (p1 : p ≤ N) (sb : 0 ≤ s ∧ s ≤ 8) (h5 : 8 ≤ s → ∀ σ' : Sg, RX σ0 σ' 5 x → post none σ') (hf : ¬ 8 ≤ s → ∀ (f : Int × Int) (σ' : Sg), pSee t N B p = .inl f → RX σ0 σ' f.1 f.2 → post none σ') (ho : ¬ 8 ≤ s → ∀ (B' : Sg) (e : Int) (σ' : Sg), pSee t N B p = .inr (B', e) → RR σ0 σ' B' (s + 1) a k e → (WfB B' ∧ alsoSum B' = alsoSum B) → (p < e ∧ e ≤ N) → post none σ') : Cl mX12_takeSee [vr 94, vi x] σ post := by
  have e20 := h.2.2.1.1
  refine EX12_takeSee ⟨by omega, fun c => r_wantF h (by decide) (fun σ1 h1 => ⟨_, rfl, b0 (h5 (by omega) σ1 h1)⟩), fun c => r_wantT h (by decide) (by decide) ⟨_, rfl, b1 ?_⟩⟩
  have c' : ¬ 8 ≤ s := by omega
  refine r_head hU h hW p0 p1 (fun f σ1 y hw h1 => ⟨_, rfl, h1.ne.1, fun _ => hf c' f σ1 (by unfold pSee; rw [hw]) h1, fun d => absurd d h1.ne.2⟩) (fun B1 g q1 e1 σ1 hw h1 h16 => ⟨_, rfl, h1.eq.1, fun d => absurd h1.eq.2 d, fun _ => ?_⟩)
  obtain ⟨⟨W1, A1, M1⟩, G1, L1, Q1, K1, S1⟩ := pHd_ok hW p1 hw
  have wh1 := W1.1
  have ws := (W1.2.2.1 g G1.1 G1.2).2.1
  refine ⟨by omega, ?_⟩
  rw [Ra_see h1.2.2.2.2 G1.1 G1.2, h16]
  refine ⟨by omega, fun d => r_wantF h1 (by decide) (fun σ2 h2 => ⟨_, rfl, b0' (hf c' (6, q1) σ2 ?_ h2)⟩), fun d => r_wantT h1 (by decide) (by decide) ⟨_, rfl, b1' ?_⟩⟩
  · unfold pSee
    rw [hw]
    dsimp only
    rw [if_pos (by omega)]
  · refine r_head hU h1 W1 (by omega) Q1.2.2 (fun f σ2 y hw2 h2 => ⟨_, rfl, h2.ne.1, fun _ => hf c' f σ2 ?_ h2, fun d => absurd d h2.ne.2⟩) (fun B2 g2 q2 e2 σ2 hw2 h2 h162 => ⟨_, rfl, h2.eq.1, fun d => absurd h2.eq.2 d, fun _ => ?_⟩)
    · unfold pSee
      rw [hw]
      dsimp only
      rw [if_neg (by omega), hw2]
    · obtain ⟨⟨W2, A2, M2⟩, G2, L2, Q2, K2, S2⟩ := pHd_ok W1 Q1.2.2 hw2
      have wh2 := W2.1
      have see1 : pSee t N B p = if g2 = g then .inl (6, q2) else .inr (setR B2 4 g g2, e2) := by
        unfold pSee
        rw [hw]
        dsimp only
        rw [if_neg (by omega), hw2]
      have ok := setSee_ok (h := g) W2 G2.1 G2.2
      rw [h162]
      refine ⟨by omega, by omega, fun y => r_wantF h2 (by decide) (fun σ3 h3 => ⟨_, rfl, b0' (hf c' (6, q2) σ3 (by rw [see1, if_pos y]) h3)⟩), fun y => r_wantT h2 (by decide) (by decide) ⟨_, rfl, b1' (ho c' _ e2 _ (by rw [see1, if_neg y]) (RR_link (r := 4) h2 (Or.inl rfl) (Or.inl ⟨rfl, by rw [h2.2.2.1.1], rfl⟩)) ⟨ok.1, by rw [ok.2, A2, A1]⟩ (by omega))⟩⟩
theorem r_also {σ0 σ : Sg} {post : Po} {t : Int → Int} {N s a k p x : Int} {B : Sg} (hU : U0 σ0 t N) (h : RR σ0 σ B s a k p) (hW : WfB B) (p0 : 0 ≤ p) (p1 : p ≤ N) (ea : a = alsoSum B) (ab : 0 ≤ a) (h5 : 8 ≤ a → ∀ σ' : Sg, RX σ0 σ' 5 x → post none σ') (hf : ¬ 8 ≤ a → ∀ (f : Int × Int) (σ' : Sg), pAls t N B p = .inl f → RX σ0 σ' f.1 f.2 → post none σ') (ho : ¬ 8 ≤ a → ∀ (B' : Sg) (e : Int) (σ' : Sg), pAls t N B p = .inr (B', e) → RR σ0 σ' B' s (a + 1) k e → (WfB B' ∧ alsoSum B' = alsoSum B + 1) → (p < e ∧ e ≤ N) → post none σ') : Cl mX12_takeAlso [vr 94, vi x] σ post := by
  have e21 := h.2.2.1.2.1
  have a8 := hW.2.2.2.2
  refine EX12_takeAlso ⟨by omega, fun c => r_wantF h (by decide) (fun σ1 h1 => ⟨_, rfl, b0 (h5 (by omega) σ1 h1)⟩), fun c => r_wantT h (by decide) (by decide) ⟨_, rfl, b1 ?_⟩⟩
  have c' : ¬ 8 ≤ a := by omega
  refine r_head hU h hW p0 p1 (fun f σ1 y hw h1 => ⟨_, rfl, h1.ne.1, fun _ => ⟨fun _ => hf c' f σ1 (by unfold pAls; rw [hw]) h1, fun d => absurd d h1.ne.2⟩, fun d => absurd d h1.ne.2⟩) (fun B1 g q1 e1 σ1 hw h1 h16 => ⟨_, rfl, h1.eq.1, fun d => absurd h1.eq.2 d, fun _ => ?_⟩)
  obtain ⟨⟨W1, A1, M1⟩, G1, L1, Q1, K1, S1⟩ := pHd_ok hW p1 hw
  have wh1 := W1.1
  refine r_head hU h1 W1 (by omega) Q1.2.2 (fun f σ2 y hw2 h2 => ⟨_, rfl, h2.ne.1, fun _ => hf c' f σ2 ?_ h2, fun d => absurd d h2.ne.2⟩) (fun B2 g2 q2 e2 σ2 hw2 h2 h162 => ⟨_, rfl, h2.eq.1, fun d => absurd h2.eq.2 d, fun _ => ?_⟩)
  · unfold pAls
    rw [hw]
    dsimp only
    rw [hw2]
  obtain ⟨⟨W2, A2, M2⟩, G2, L2, Q2, K2, S2⟩ := pHd_ok W1 Q1.2.2 hw2
  have wh2 := W2.1
  have gg := K2 g G1.1 G1.2
  have wa := (W2.2.2.1 g G1.1 gg).2.2.1
  have als1 : pAls t N B p = if g2 = g ∨ has (B2 5 g) g2 = true then .inl (6, q2) else .inr (setR B2 5 g (iOr (B2 5 g) (iShl 1 g2)), e2) := by
    unfold pAls
    rw [hw]
    dsimp only
    rw [hw2]
  have e99 : σ2 99 g = B2 5 g := Ra_also h2.2.2.2.2 G1.1 gg
  refine ⟨by omega, by omega, fun y => ?_, fun y => ⟨by omega, ?_⟩⟩
  · rw [h162]
    exact r_wantF h2 (by decide) (fun σ3 h3 => ⟨_, rfl, b0' (hf c' (6, q2) σ3 (by rw [als1, if_pos (Or.inl y)]) h3)⟩)
  · rw [e99]
    refine r_has wa.1 (by omega) G2.1 (by omega) (fun d => ⟨_, rfl, b1 ?_⟩) (fun d => ⟨_, rfl, b0 ?_⟩)
    · rw [h162]
      exact r_wantF h2 (by decide) (fun σ3 h3 => ⟨_, rfl, b0' (hf c' (6, q2) σ3 (by rw [als1, if_pos (Or.inr d)]) h3)⟩)
    · have ok := setAlso_ok W2 G1.1 gg G2.1 G2.2 d (by rw [A2, A1]; omega)
      refine r_wantT h2 (by decide) (by decide) ⟨_, rfl, b1' ?_⟩
      rw [e99]
      exact ho c' _ e2 _ (by rw [als1, if_neg (fun z => z.elim y d)]) (RR_link (r := 5) h2 (Or.inr (Or.inl rfl)) (Or.inr ⟨rfl, rfl, by rw [h2.2.2.1.2.1]⟩)) ⟨ok.1, by rw [ok.2, A2, A1]⟩ (by omega)
theorem r_asked {σ0 σ : Sg} {post : Po} {t : Int → Int} {N s a k p : Int} {B : Sg} (hU : U0 σ0 t N) (h : RR σ0 σ B s a k p) (hW : WfB B) (p0 : 0 ≤ p) (p1 : p ≤ N) (k0 : 0 ≤ k ∧ k < 65536) (hf : ∀ (f : Int × Int) (σ' : Sg), pAsk t N B k p = .inl f → RX σ0 σ' f.1 f.2 → post none σ') (ho : ∀ (B' : Sg) (k' e : Int) (σ' : Sg), pAsk t N B k p = .inr (B', k', e) → RR σ0 σ' B' s a k' e → (WfB B' ∧ alsoSum B' = alsoSum B) → (0 ≤ k' ∧ k' < 65536) → (p < e ∧ e ≤ N) → post none σ') : Cl mX12_takeAsked [vr 94] σ post := by
  refine EX12_takeAsked (r_head hU h hW p0 p1 (fun f σ1 y hw h1 => ⟨_, rfl, h1.ne.1, fun _ => hf f σ1 (by unfold pAsk; rw [hw]) h1, fun d => absurd d h1.ne.2⟩) (fun B1 g q1 e1 σ1 hw h1 h16 => ⟨_, rfl, h1.eq.1, fun d => absurd h1.eq.2 d, fun _ => ?_⟩))
  obtain ⟨⟨W1, A1, M1⟩, G1, L1, Q1, K1, S1⟩ := pHd_ok hW p1 hw
  have wh1 := W1.1
  have pa : pAsk t N B k p = if has k g = true then .inl (6, q1) else match pNm t N 0 99 e1 with
    | .inl f => .inl f
    | .inr (v, e2) => .inr (setR B1 6 g v, iOr k (iShl 1 g), e2) := by
    unfold pAsk
    rw [hw]
    rfl
  rw [h1.2.2.1.2.2]
  refine r_has k0.1 (by omega) G1.1 (by omega) (fun c => ⟨_, rfl, b1 ?_⟩) (fun c => ⟨_, rfl, b0 ?_⟩)
  · rw [h16]
    exact r_wantF h1 (by decide) (fun σ3 h3 => ⟨_, rfl, b0' (hf (6, q1) σ3 (by rw [pa, if_pos c]) h3)⟩)
  rw [if_neg c] at pa
  refine r_wantT h1 (by decide) (by decide) ⟨_, rfl, b1' ?_⟩
  rw [h1.2.2.1.2.2]
  have sh := iShl1_lt (h := g) (n := 16) G1.1 (by omega) (by decide)
  have o := iOr_lt (s := k) (t := iShl 1 g) (n := 16) (by decide) k0.1 k0.2 sh.1 sh.2
  have h2 : RR σ0 (up σ1 94 22 (iOr k (iShl 1 g))) B1 s a (iOr k (iShl 1 g)) e1 := by
    obtain ⟨a1, a2, a3, a4, a5⟩ := h1
    refine ⟨a1.u (by decide), ?_, ⟨?_, ?_, up_s⟩, ?_, RA_up a5 (by decide)⟩
    · rw [up_f (by decide), up_f (by decide)]; exact a2
    · rw [up_f (by decide)]; exact a3.1
    · rw [up_f (by decide)]; exact a3.2.1
    · rw [up_f (by decide)]; exact a4
  refine r_num hU h2 (by omega) Q1.2.2 (by decide) (by decide) (fun f σ3 y hw3 h3 _ => ⟨_, rfl, by omega, hf f _ (by rw [pa, hw3]) ?_⟩) (fun v e2 σ3 hw3 vb eb h3 => ⟨_, rfl, by omega, ?_⟩)
  · obtain ⟨a1, a2, a3⟩ := h3
    refine ⟨a1.r (by decide) (by decide), ?_, a3⟩
    rw [up_r (by decide)]
    exact a2
  · rw [hw3] at pa
    have ok := setAsk_ok (h := g) W1 vb.1 vb.2
    refine ho _ _ e2 _ pa ?_ ⟨ok.1, by rw [ok.2, A1]⟩ o (by omega)
    obtain ⟨a1, a2, a3, a4, a5⟩ := h3
    refine ⟨a1.r (by decide) (by decide), ?_, ?_, ?_, RA_setR (r := 6) a5 (Or.inr (Or.inr rfl))⟩
    · rw [up_r (by decide)]; exact a2
    · rw [up_r (by decide)]; exact a3
    · rw [up_r (by decide)]; exact a4
theorem r_clause {σ0 σ : Sg} {post : Po} {t : Int → Int} {N s a k p : Int} {B : Sg} (hU : U0 σ0 t N) (h : RR σ0 σ B s a k p) (hS : SO N B s a k p) (hb : sk isB t N p = p) (hf : ∀ (f : Int × Int) (σ' : Sg), pCl t N B s a k p = .inl f → RX σ0 σ' f.1 f.2 → post none σ') (ho : ∀ (B' : Sg) (s' a' k' e : Int) (σ' : Sg), pCl t N B s a k p = .inr (B', s', a', k', e) → RR σ0 σ' B' s' a' k' e → SO N B' s' a' k' e → p < e → post none σ') : Cl mX12_takeClause [vr 94] σ post := by
  obtain ⟨hW, sb, ea, kb, pb⟩ := id hS
  have n1 := hU.1.1
  have lb := sk_b (f := isL) (t := t) pb.2
  have a8 := hW.2.2.2.2
  have a0 : 0 ≤ alsoSum B := sumN_nn (fun i => (cnt_b _ _).1) _
  have w2 := hW.2.1
  have endF : ∀ (f : Int × Int) (τ : Sg), pBody t N B s a k p = .inl f → RX σ0 τ f.1 f.2 → V mX12_takeClause 111 [some (vr 94), none] [] τ post := fun f τ hb h1 => BX12_takeClause_111 ⟨h1.ne.1, fun _ => hf f τ (by unfold pCl; rw [hb]) h1, fun c => absurd c h1.ne.2⟩
  have endO : ∀ (B' : Sg) (s' a' k' e : Int) (τ : Sg), pBody t N B s a k p = .inr (B', s', a', k', e) → RR σ0 τ B' s' a' k' e → SO N B' s' a' k' e → p ≤ e → V mX12_takeClause 111 [some (vr 94), none] [] τ post := fun B' s' a' k' e τ hb h1 hS1 pe => by
    have u : pCl t N B s a k p = match pEn t N e with
      | .inl f => .inl f
      | .inr e' => .inr (B', s', a', k', e') := by
      unfold pCl
      rw [hb]
      rfl
    have eb := hS1.2.2.2.2
    have k2 := sk_b (f := isB) (t := t) eb.2
    have w : pEn t N e = if sk isB t N e < N ∧ t (sk isB t N e) = 59 then .inr (sk isB t N e + 1) else .inl (1, sk isB t N e) := rfl
    refine BX12_takeClause_111 ⟨h1.eq.1, fun c => absurd h1.eq.2 c, fun _ => r_hereO hU h1 eb.1 eb.2 (fun σ2 y h2 ry hy => ⟨_, rfl, ry, fun c => ?_, fun c => ?_⟩)⟩
    · rw [if_neg (fun x => c ((hz_c (by decide) hy).2 x))] at w
      rw [h2.2.2.2.1]
      exact r_wantF h2 (by decide) (fun σ3 h3 => ⟨_, rfl, b0' (hf (1, sk isB t N e) σ3 (by rw [u, w]) h3)⟩)
    · have yc := (hz_c (by decide) hy).1 c
      rw [if_pos yc] at w
      exact r_wantT h2 (by decide) (by decide) ⟨_, rfl, b1' (ho B' s' a' k' _ _ (by rw [u, w]) h2.adv ⟨hS1.1, hS1.2.1, hS1.2.2.1, hS1.2.2.2.1, by omega⟩ (by omega))⟩
  refine EX12_takeClause (r_takeWord hU h pb.1 pb.2 (fun σ1 h1 h16 h17 => ⟨rfl, ?_⟩))
  rw [hb] at h1 h16 h17
  have body : pBody t N B s a k p = @ite _ (isWd t p (sk isL t N p) (txB 7)) (Classical.propDecidable _) (if 60 ≤ B 0 7 then .inl (5, p) else match pMark t N B (sk isL t N p) with
    | .inl f => .inl f
    | .inr (B', e) => .inr (B', s, a, k, e))
      (@ite _ (isWd t p (sk isL t N p) (txB 8)) (Classical.propDecidable _) (if 8 ≤ s then .inl (5, p) else match pSee t N B (sk isL t N p) with
    | .inl f => .inl f
    | .inr (B', e) => .inr (B', s + 1, a, k, e))
      (@ite _ (isWd t p (sk isL t N p) (txB 4)) (Classical.propDecidable _) (if 8 ≤ a then .inl (5, p) else match pAls t N B (sk isL t N p) with
    | .inl f => .inl f
    | .inr (B', e) => .inr (B', s, a + 1, k, e))
      (@ite _ (isWd t p (sk isL t N p) (txB 5)) (Classical.propDecidable _) (match pAsk t N B k (sk isL t N p) with
    | .inl f => .inl f
    | .inr (B', k', e) => .inr (B', s, a, k', e))
      (.inl (1, p))))) := rfl
  generalize sk isL t N p = e at *
  have isw : ∀ (u : List Int) (post' : Po), u.length ≤ 5 → (∀ x ∈ u, 0 ≤ x ∧ x < 128) → (isWd t p e u → post' (some (vi 1)) σ1) → (¬ isWd t p e u → post' (some (vi 0)) σ1) → Cl mX12_isWord [vr 94, vi (u.length : Int), vi (u.getD 0 0), vi (u.getD 1 0), vi (u.getD 2 0), vi (u.getD 3 0), vi (u.getD 4 0)] σ1 post' := fun u post' a b c d => r_isWord hU h1.1 h16 h17 pb.1 lb.1 lb.2 a (gd_r5 b) c d
  rw [tx_7, tx_8, tx_4, tx_5] at body
  rw [h16]
  refine isw [109, 97, 114, 107] _ (by decide) (by decide) (fun d0 => ⟨_, rfl, b1' ?_⟩) (fun d0 => ⟨_, rfl, b0' (isw [115, 101, 101] _ (by decide) (by decide) (fun d1 => ⟨_, rfl, b1' ?_⟩) (fun d1 => ⟨_, rfl, b0' (isw [97, 108, 115, 111] _ (by decide) (by decide) (fun d2 => ⟨_, rfl, b1' ?_⟩) (fun d2 => ⟨_, rfl, b0' (isw [97, 115, 107, 101, 100] _ (by decide) (by decide) (fun d3 => ⟨_, rfl, r_wantT h1 (by decide) (by decide) ⟨_, rfl, b1' ?_⟩⟩) (fun d3 => ⟨_, rfl, ?_⟩))⟩))⟩))⟩)
  · rw [if_pos d0] at body
    have e7 := h1.fr94.2
    refine EX12_takeMark ⟨by omega, fun c => r_wantF h1 (by decide) (fun σ2 h2 => ⟨_, rfl, b0 ⟨rfl, endF (5, p) σ2 (by rw [body, if_pos (by omega)]) h2⟩⟩), fun c => r_wantT h1 (by decide) (by decide) ⟨_, rfl, b1 ?_⟩⟩
    rw [if_neg (by omega)] at body
    exact r_markO hU h1 hW (by omega) (by omega) lb.2 (fun f σ2 hw h2 => ⟨rfl, endF f σ2 (by rw [body, hw]) h2⟩) (fun B' e' σ2 hw h2 ok eb2 => ⟨rfl, endO B' s a k e' σ2 (by rw [body, hw]) h2 ⟨ok.1, sb, by rw [ok.2]; exact ea, kb, by omega⟩ (by omega)⟩)
  · rw [if_neg d0, if_pos d1] at body
    refine r_see hU h1 hW (by omega) lb.2 sb (fun c σ2 h2 => ⟨rfl, endF (5, p) σ2 (by rw [body, if_pos c]) h2⟩) (fun c f σ2 hw h2 => ⟨rfl, endF f σ2 (by rw [body, if_neg c, hw]) h2⟩) (fun c B' e' σ2 hw h2 ok eb2 => ⟨rfl, endO B' (s + 1) a k e' σ2 (by rw [body, if_neg c, hw]) h2 ⟨ok.1, by omega, by rw [ok.2]; exact ea, kb, by omega⟩ (by omega)⟩)
  · rw [if_neg d0, if_neg d1, if_pos d2] at body
    refine r_also hU h1 hW (by omega) lb.2 ea (by omega) (fun c σ2 h2 => ⟨rfl, endF (5, p) σ2 (by rw [body, if_pos c]) h2⟩) (fun c f σ2 hw h2 => ⟨rfl, endF f σ2 (by rw [body, if_neg c, hw]) h2⟩) (fun c B' e' σ2 hw h2 ok eb2 => ⟨rfl, endO B' s (a + 1) k e' σ2 (by rw [body, if_neg c, hw]) h2 ⟨ok.1, sb, by rw [ok.2]; omega, kb, by omega⟩ (by omega)⟩)
  · rw [if_neg d0, if_neg d1, if_neg d2, if_pos d3] at body
    exact r_asked hU h1 hW (by omega) lb.2 kb (fun f σ2 hw h2 => ⟨rfl, endF f σ2 (by rw [body, hw]) h2⟩) (fun B' k' e' σ2 hw h2 ok kb2 eb2 => ⟨rfl, endO B' s a k' e' σ2 (by rw [body, hw]) h2 ⟨ok.1, sb, by rw [ok.2]; exact ea, kb2, by omega⟩ (by omega)⟩)
  · rw [if_neg d0, if_neg d1, if_neg d2, if_neg d3] at body
    exact r_wantF h1 (by decide) (fun σ2 h2 => ⟨_, rfl, b0' (endF (1, p) σ2 body h2)⟩)
/-- the loop of the reference's read -/
theorem r_loop {σ0 : Sg} {post : Po} {t : Int → Int} {N : Int} {R : (Int × Int) ⊕ Sg} (hU : U0 σ0 t N) (hf : ∀ (f : Int × Int) (σ' : Sg), R = .inl f → RX σ0 σ' f.1 f.2 → Cl mX12_backTo [vr 94, vi 2] (up σ' 94 14 0) (pV fun σ1 => post (some (vi ((-10) - (σ1 94 18)))) σ1)) (ho : ∀ (B' : Sg) (s a k p : Int) (σ' : Sg), R = .inr B' → WfB B' → RR σ0 σ' B' s a k p → post (some (vi (σ' 94 0))) (up σ' 94 14 0)) : ∀ (n : Nat) (i : Int) (ρ : Sg) (B : Sg) (s a k p : Int), i + n = 600 → i ≤ p → R = pRun t N n B s a k p → RR σ0 ρ B s a k p → SO N B s a k p → V mX12_read 45 [some (vr 94)] [] ρ post := by
  have n1 := hU.1.1
  have endB : ∀ (n : Nat) (ρ : Sg) (B : Sg) (s a k p : Int), RR σ0 ρ B s a k p → SO N B s a k p → (sk isB t N p < N → ∀ ρ' : Sg, RR σ0 ρ' B s a k (sk isB t N p) → Cl mX12_takeClause [vr 94] ρ' (pV fun σ4 => V mX12_read 45 [some (vr 94)] [] σ4 post)) → (¬ sk isB t N p < N → R = .inr B) → V mX12_read 45 [some (vr 94)] [] ρ post := by
    intro n ρ B s a k p h1 hS hy hn
    have pb := hS.2.2.2.2
    refine BX12_read_45 ⟨h1.eq.1, fun c => absurd h1.eq.2 c, fun _ => r_hereO hU h1 pb.1 pb.2 (fun σ2 y h2 ry hy2 => ⟨_, rfl, ry, fun c => ?_, fun c => ?_⟩)⟩
    · have nn : ¬ sk isB t N p < N := by
        rcases hy2 with z | z
        · omega
        · have := hU.1.2 (sk isB t N p) (by have := sk_b (f := isB) (t := t) pb.2; omega) z.2
          omega
      have e := h2.eq
      exact ⟨e.1, fun _ => ho B s a k _ σ2 (hn nn) hS.1 h2, fun d => absurd (by omega) d⟩
    · have nn : sk isB t N p < N := by
        rcases hy2 with z | z
        · omega
        · exact z.2
      exact hy nn σ2 h2
  intro n
  induction n with
  | zero =>
    intro i ρ B s a k p hi ip hr h1 hS
    have pb := hS.2.2.2.2
    have kb := sk_b (f := isB) (t := t) pb.2
    exact endB 0 ρ B s a k p h1 hS (fun c => by omega) (fun _ => hr)
  | succ n ih =>
    intro i ρ B s a k p hi ip hr h1 hS
    have pb := hS.2.2.2.2
    have kb := sk_b (f := isB) (t := t) pb.2
    have hs : pRun t N (n + 1) B s a k p = if sk isB t N p < N then (match pCl t N B s a k (sk isB t N p) with
      | .inl f => .inl f
      | .inr (B', s', a', k', e) => pRun t N n B' s' a' k' e) else .inr B := rfl
    rw [hs] at hr
    refine endB n ρ B s a k p h1 hS (fun c ρ' h2 => ?_) (fun c => by rw [hr, if_neg c])
    rw [if_pos c] at hr
    have S2 : SO N B s a k (sk isB t N p) := ⟨hS.1, hS.2.1, hS.2.2.1, hS.2.2.2.1, by omega⟩
    refine r_clause hU h2 S2 (sk_idem pb.2) (fun f σ3 hc h3 => ⟨rfl, ?_⟩) (fun B' s' a' k' e σ3 hc h3 S3 pe => ⟨rfl, ih (i + 1) σ3 B' s' a' k' e (by omega) (by omega) (by rw [hr, hc]) h3 S3⟩)
    rw [hc] at hr
    have ne := h3.2.2
    have e18 := h3.2.1.1
    exact BX12_read_45 ⟨h3.ne.1, fun _ => ⟨fun d => by omega, fun _ => hf f σ3 hr h3⟩, fun d => absurd d h3.ne.2⟩
