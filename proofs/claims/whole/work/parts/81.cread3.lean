/-! ===== PURE HALF, by hand: the class's reader, to the end ===== -/
def SO (N : Int) (B : Sg) (s a k p : Int) : Prop := WfB B ∧ (0 ≤ s ∧ s ≤ 8) ∧ a = alsoSum B ∧ (0 ≤ k ∧ k < 65536) ∧ (0 ≤ p ∧ p ≤ N)
theorem c_endO {σ0 σ : Sg} {post : Po} {t : Int → Int} {N s a k p : Int} {B : Sg} (hT : T0 σ0 t N) (h : CR σ0 σ N B s a k p) (p0 : 0 ≤ p) (p1 : p ≤ N) (hf : ∀ (f : Int × Int) (σ' : Sg), pEn t N p = .inl f → CF σ0 σ' N f.1 f.2 → post none σ') (ho : ∀ (e : Int) (σ' : Sg), pEn t N p = .inr e → (p < e ∧ e ≤ N) → CR σ0 σ' N B s a k e → post none σ') : Cl mX5_readEnd [vr 3] σ post := by
  have kb := sk_b (f := isB) (t := t) p1
  have w : pEn t N p = if sk isB t N p < N ∧ t (sk isB t N p) = 59 then .inr (sk isB t N p + 1) else .inl (1, sk isB t N p) := rfl
  refine EX5_readEnd (c_skipO hT h p0 p1 (fun σ1 h1 => ⟨rfl, c_byteHere hT.1 (h1.ct hT) h1.2.2.2.1 (by omega) kb.2 (fun y ry hy => ⟨_, rfl, ry, fun c => ?_, fun c => ?_⟩)⟩))
  · rw [if_neg (fun x => c ((bh_c hT.1 (by omega) (by decide) hy).2 x))] at w
    rw [h1.2.2.2.1]
    exact c_failO h1 (by omega) kb.2 (by decide) (by omega) (fun σ3 h3 => ⟨_, rfl, hf (1, sk isB t N p) σ3 w h3⟩)
  · have yc := (bh_c hT.1 (by omega) (by decide) hy).1 c
    rw [if_pos yc] at w
    exact ho _ _ w (by omega) (h1.p4 P4.rf.u (by rw [up_s, h1.2.2.2.1]))
theorem c_kindOf {σ : Sg} {post : Po} {t : Int → Int} {N q e : Int} (hN : okT t N) (hT : CT σ t N) (q0 : 0 ≤ q) (qe : q ≤ e) (eN : e ≤ N) (h0 : isWd t q e (txB 7) → post (some (vi 0)) σ) (h1 : ¬ isWd t q e (txB 7) → isWd t q e (txB 8) → post (some (vi 1)) σ) (h2 : ¬ isWd t q e (txB 7) → ¬ isWd t q e (txB 8) → isWd t q e (txB 4) → post (some (vi 2)) σ) (h3 : ¬ isWd t q e (txB 7) → ¬ isWd t q e (txB 8) → ¬ isWd t q e (txB 4) → isWd t q e (txB 5) → post (some (vi 3)) σ) (h4 : ¬ isWd t q e (txB 7) → ¬ isWd t q e (txB 8) → ¬ isWd t q e (txB 4) → ¬ isWd t q e (txB 5) → post (some (vi (-1))) σ) : Cl mX5_kindOf [vr 3, vi q, vi e] σ post :=
  EX5_kindOf (c_isWord hN hT (by decide) q0 qe eN (fun a => ⟨_, rfl, b1' (h0 a)⟩) (fun a => ⟨_, rfl, b0' (c_isWord hN hT (by decide) q0 qe eN (fun b => ⟨_, rfl, b1' (h1 a b)⟩) (fun b => ⟨_, rfl, b0' (c_isWord hN hT (by decide) q0 qe eN (fun c => ⟨_, rfl, b1' (h2 a b c)⟩) (fun c => ⟨_, rfl, b0' (c_isWord hN hT (by decide) q0 qe eN (fun d => ⟨_, rfl, b1' (h3 a b c d)⟩) (fun d => ⟨_, rfl, b0' (h4 a b c d)⟩))⟩))⟩))⟩))
theorem c_clause {σ0 σ : Sg} {post : Po} {t : Int → Int} {N s a k p : Int} {B : Sg} (hT : T0 σ0 t N) (h : CR σ0 σ N B s a k p) (hS : SO N B s a k p) (hf : ∀ (f : Int × Int) (σ' : Sg), pCl t N B s a k p = .inl f → CF σ0 σ' N f.1 f.2 → post none σ') (ho : ∀ (B' : Sg) (s' a' k' e : Int) (σ' : Sg), pCl t N B s a k p = .inr (B', s', a', k', e) → CR σ0 σ' N B' s' a' k' e → SO N B' s' a' k' e → p < e → post none σ') : Cl mX5_readClause [vr 3] σ post := by
  obtain ⟨hW, sb, ea, kb, pb⟩ := id hS
  have n1 := hT.1.1
  have lb := sk_b (f := isL) (t := t) pb.2
  have a8 := hW.2.2.2.2
  have a0 : 0 ≤ alsoSum B := sumN_nn (fun i => (cnt_b _ _).1) _
  have w2 := hW.2.1
  have endF : ∀ (f : Int × Int) (τ : Sg), pBody t N B s a k p = .inl f → CF σ0 τ N f.1 f.2 → V mX5_readClause 80 [some (vr 3), none, none] [] τ post := fun f τ hb h1 => BX5_readClause_80 ⟨h1.ne.1, fun _ => hf f τ (by unfold pCl; rw [hb]) h1, fun c => absurd c h1.ne.2⟩
  have endO : ∀ (B' : Sg) (s' a' k' e : Int) (τ : Sg), pBody t N B s a k p = .inr (B', s', a', k', e) → CR σ0 τ N B' s' a' k' e → SO N B' s' a' k' e → p ≤ e → V mX5_readClause 80 [some (vr 3), none, none] [] τ post := fun B' s' a' k' e τ hb h1 hS1 pe => by
    have u : pCl t N B s a k p = match pEn t N e with
      | .inl f => .inl f
      | .inr e' => .inr (B', s', a', k', e') := by
      unfold pCl
      rw [hb]
      rfl
    refine BX5_readClause_80 ⟨h1.eq.1, fun c => absurd h1.eq.2 c, fun _ => c_endO hT h1 hS1.2.2.2.2.1 hS1.2.2.2.2.2 (fun f σ2 hw h2 => ⟨rfl, hf f σ2 (by rw [u, hw]) h2⟩) (fun e' σ2 hw eb h2 => ⟨rfl, ho B' s' a' k' e' σ2 (by rw [u, hw]) h2 ⟨hS1.1, hS1.2.1, hS1.2.2.1, hS1.2.2.2.1, by omega⟩ (by omega)⟩)⟩
  have e4 := h.2.2.2.1
  refine EX5_readClause (c_skipWord hT.1 (h.ct hT) e4 pb.1 pb.2 (fun σ1 hP h4 => ⟨rfl, ?_⟩))
  have h1 := h.p4 hP h4
  dsimp only
  rw [e4, h4]
  have body : pBody t N B s a k p = @ite _ (isWd t p (sk isL t N p) (txB 7)) (Classical.propDecidable _) (if 60 ≤ B 0 7 then .inl (5, p) else match pMark t N B (sk isL t N p) with
    | .inl f => .inl f
    | .inr (B', e) => .inr (B', s, a, k, e))
      (@ite _ (isWd t p (sk isL t N p) (txB 8)) (Classical.propDecidable _) (if 8 ≤ s then .inl (5, p) else match pSee t N B (sk isL t N p) with
    | .inl f => .inl f
    | .inr (B', e) => .inr (B', s + 1, a, k, e))
      (@ite _ (isWd t p (sk isL t N p) (txB 4)) (Classical.propDecidable _) (if 8 ≤ a then .inl (5, p) else match pAls t N B (sk isL t N p) with
    | .inl f => .inl f
    | .inr (B', e) => .inr (B', s, a + 1, k, e))
      (@ite _ (isWd t p (sk isL t N p) (txB 5)) (Classical.propDecidable _) (match pAsk t N B k (sk isL t N p) with
    | .inl f => .inl f
    | .inr (B', k', e) => .inr (B', s, a, k', e))
      (.inl (1, p))))) := rfl
  generalize sk isL t N p = e at *
  have eb := h1.2.2.2.2
  have fail : ∀ n : Int, (1 ≤ n ∧ n ≤ 6) → pBody t N B s a k p = .inl (n, p) → Cl mX5_fail [vr 3, vi n, vi p] σ1 (pI fun z7 σ7 => V mX5_readClause 80 [some (vr 3), none, none] [] σ7 post) := fun n nb hb => c_failO h1 (by omega) lb.2 nb (by omega) (fun σ3 h3 => ⟨_, rfl, endF (n, p) σ3 hb h3⟩)
  refine c_kindOf hT.1 (h1.ct hT) pb.1 lb.1 lb.2 (fun d0 => ⟨_, rfl, by decide, fun _ => ?_, fun c => absurd c (by decide)⟩) (fun d0 d1 => ⟨_, rfl, by decide, fun _ => ?_, fun c => absurd c (by decide)⟩) (fun d0 d1 d2 => ⟨_, rfl, by decide, fun _ => ?_, fun c => absurd c (by decide)⟩) (fun d0 d1 d2 d3 => ⟨_, rfl, by decide, fun _ => ?_, fun c => absurd c (by decide)⟩) (fun d0 d1 d2 d3 => ⟨_, rfl, by decide, fun c => absurd rfl c, fun _ => fail 1 (by decide) (by rw [body, if_neg d0, if_neg d1, if_neg d2, if_neg d3])⟩)
  · rw [if_pos d0] at body
    have e7 : σ1 41 7 = B 0 7 := by rw [← eb]; rfl
    refine EX5_isOneTooMany ⟨by decide, fun c => by omega, fun _ => ⟨h1.2.1.2.2.2, by omega, fun c => ⟨_, rfl, b0' ?_⟩, fun c => ⟨_, rfl, b1' (fail 5 (by decide) (by rw [body, if_pos (by omega)]))⟩⟩, fun c => by omega, fun c => by omega⟩
    rw [if_neg (by omega)] at body
    refine ⟨fun c => absurd rfl c, fun _ => c_mark hT h1 hW (by omega) (by omega) lb.2 (fun f σ2 hw h2 => ⟨rfl, endF f σ2 (by rw [body, hw]) h2⟩) (fun B' e' σ2 hw h2 ok eb2 => ⟨rfl, endO B' s a k e' σ2 (by rw [body, hw]) h2 ⟨ok.1, sb, by rw [ok.2]; exact ea, kb, by omega⟩ (by omega)⟩)⟩
  · rw [if_neg d0, if_pos d1] at body
    have e6 := h1.2.2.1.1
    refine EX5_isOneTooMany ⟨by decide, fun c => by omega, fun c => by omega, fun _ => ⟨by omega, fun c => ⟨_, rfl, b0' ?_⟩, fun c => ⟨_, rfl, b1' (fail 5 (by decide) (by rw [body, if_pos (by omega)]))⟩⟩, fun c => by omega⟩
    rw [if_neg (by omega)] at body
    refine ⟨fun _ => ⟨fun _ => c_link hT h1 hW (by omega) lb.2 (Or.inl ⟨rfl, sb.1, by omega⟩) (fun f σ2 hw h2 => ⟨rfl, endF f σ2 ?_ h2⟩) (fun _ B' e' σ2 hw h2 ok eb2 => ⟨rfl, endO B' (s + 1) a k e' σ2 (by rw [body, hw]) h2 ⟨ok.1, by omega, by rw [ok.2]; exact ea, kb, by omega⟩ (by omega)⟩) (fun c => by omega), fun c => by omega⟩, fun c => by omega⟩
    rcases hw with z | z
    · rw [body, z.2]
    · omega
  · rw [if_neg d0, if_neg d1, if_pos d2] at body
    have e7 := h1.2.2.1.2.1
    refine EX5_isOneTooMany ⟨by decide, fun c => by omega, fun c => by omega, fun c => by omega, fun _ => ⟨by omega, fun c => ⟨_, rfl, b0' ?_⟩, fun c => ⟨_, rfl, b1' (fail 5 (by decide) (by rw [body, if_pos (by omega)]))⟩⟩⟩
    rw [if_neg (by omega)] at body
    refine ⟨fun _ => ⟨fun _ => c_link hT h1 hW (by omega) lb.2 (Or.inr ⟨rfl, by omega⟩) (fun f σ2 hw h2 => ⟨rfl, endF f σ2 ?_ h2⟩) (fun c => by omega) (fun _ B' e' σ2 hw h2 ok eb2 => ⟨rfl, endO B' s (a + 1) k e' σ2 (by rw [body, hw]) h2 ⟨ok.1, sb, by rw [ok.2]; omega, kb, by omega⟩ (by omega)⟩), fun c => by omega⟩, fun c => by omega⟩
    rcases hw with z | z
    · omega
    · rw [body, z.2]
  · rw [if_neg d0, if_neg d1, if_neg d2, if_pos d3] at body
    refine EX5_isOneTooMany ⟨by decide, fun _ => ⟨_, rfl, b0' ?_⟩, fun c => by omega, fun c => by omega, fun c => by omega⟩
    refine ⟨fun _ => ⟨fun c => absurd rfl c, fun _ => c_asked hT h1 hW (by omega) lb.2 kb (fun f σ2 hw h2 => ⟨rfl, endF f σ2 (by rw [body, hw]) h2⟩) (fun B' k' e' σ2 hw h2 ok kb2 eb2 => ⟨rfl, endO B' s a k' e' σ2 (by rw [body, hw]) h2 ⟨ok.1, sb, by rw [ok.2]; exact ea, kb2, by omega⟩ (by omega)⟩)⟩, fun c => by omega⟩
/-- the class's read -/
theorem c_read {σ : Sg} {post : Po} {t : Int → Int} {N : Int} (hT : T0 σ t N) (h0 : σ 3 0 = N) (h5 : σ 3 5 = 41) (h01 : σ 0 1 = 5) (hf : ∀ (f : Int × Int) (σ' : Sg) (B0 : Sg), pRun t N 600 B0 0 0 0 0 = .inl f → (B0 0 0 = 0 ∧ B0 0 7 = 0) → CF σ σ' N f.1 f.2 → post (some (vi (-10 - f.1))) (up σ' 3 0 0)) (ho : ∀ (B' : Sg) (s a k p : Int) (σ' : Sg) (B0 : Sg), pRun t N 600 B0 0 0 0 0 = .inr B' → (B0 0 0 = 0 ∧ B0 0 7 = 0) → WfB B' → CR σ σ' N B' s a k p → post (some (vi (B' 0 0))) (up (up (up (up σ' 3 0 0) 3 5 5) 0 1 41) 0 9 0)) : Cl mX11_read [vr 0] σ post := by
  have n1 := hT.1.1
  refine EX11_read (EX5_begin ⟨h5, EX0_clear rfl ⟨rfl, ⟨rfl, ?_⟩⟩⟩)
  have u3 : ∀ x, x ≠ 3 → x ≠ 41 → up (up (up (up (up (up (up (up σ 41 0 0) 41 7 0) 3 4 0) 3 1 0) 3 2 (-1)) 3 6 0) 3 7 0) 3 8 0 x = σ x := fun x x0 x1 => by
    rw [up_r x0, up_r x0, up_r x0, up_r x0, up_r x0, up_r x0, up_r x1, up_r x1]
  have s3 : ∀ j : Int, j = 0 ∨ j = 5 → up (up (up (up (up (up (up (up σ 41 0 0) 41 7 0) 3 4 0) 3 1 0) 3 2 (-1)) 3 6 0) 3 7 0) 3 8 0 3 j = σ 3 j := fun j hj => by
    rw [up_f (by omega), up_f (by omega), up_f (by omega), up_f (by omega), up_f (by omega), up_f (by omega), up_r (by decide), up_r (by decide)]
  have s31 : up (up (up (up (up (up (up (up σ 41 0 0) 41 7 0) 3 4 0) 3 1 0) 3 2 (-1)) 3 6 0) 3 7 0) 3 8 0 3 1 = 0 := by rw [up_f (by decide), up_f (by decide), up_f (by decide), up_f (by decide), up_s]
  have s32 : up (up (up (up (up (up (up (up σ 41 0 0) 41 7 0) 3 4 0) 3 1 0) 3 2 (-1)) 3 6 0) 3 7 0) 3 8 0 3 2 = -1 := by rw [up_f (by decide), up_f (by decide), up_f (by decide), up_s]
  have s34 : up (up (up (up (up (up (up (up σ 41 0 0) 41 7 0) 3 4 0) 3 1 0) 3 2 (-1)) 3 6 0) 3 7 0) 3 8 0 3 4 = 0 := by rw [up_f (by decide), up_f (by decide), up_f (by decide), up_f (by decide), up_f (by decide), up_s]
  have s36 : up (up (up (up (up (up (up (up σ 41 0 0) 41 7 0) 3 4 0) 3 1 0) 3 2 (-1)) 3 6 0) 3 7 0) 3 8 0 3 6 = 0 := by rw [up_f (by decide), up_f (by decide), up_s]
  have s37 : up (up (up (up (up (up (up (up σ 41 0 0) 41 7 0) 3 4 0) 3 1 0) 3 2 (-1)) 3 6 0) 3 7 0) 3 8 0 3 7 = 0 := by rw [up_f (by decide), up_s]
  have s38 : up (up (up (up (up (up (up (up σ 41 0 0) 41 7 0) 3 4 0) 3 1 0) 3 2 (-1)) 3 6 0) 3 7 0) 3 8 0 3 8 = 0 := up_s
  have s41 : ∀ j : Int, up (up (up (up (up (up (up (up σ 41 0 0) 41 7 0) 3 4 0) 3 1 0) 3 2 (-1)) 3 6 0) 3 7 0) 3 8 0 41 j = if j = 7 then 0 else if j = 0 then 0 else σ 41 j := fun j => by
    rw [up_r (by decide), up_r (by decide), up_r (by decide), up_r (by decide), up_r (by decide), up_r (by decide), up_k, up_k]
    rfl
  generalize up (up (up (up (up (up (up (up σ 41 0 0) 41 7 0) 3 4 0) 3 1 0) 3 2 (-1)) 3 6 0) 3 7 0) 3 8 0 = τ at *
  have hb0 : bk τ 41 0 0 = 0 ∧ bk τ 41 0 7 = 0 := by
    constructor
    · show τ 41 0 = 0
      rw [s41, if_neg (by decide), if_pos rfl]
    · show τ 41 7 = 0
      rw [s41, if_pos rfl]
  have R0 : CR σ τ N (bk τ 41) 0 0 0 0 := ⟨fun c c3 cc => u3 c c3 (by omega), ⟨by rw [s3 0 (Or.inl rfl)]; exact h0, s31, s32, by rw [s3 5 (Or.inr rfl)]; exact h5⟩, ⟨s36, s37, s38⟩, s34, rfl⟩
  generalize bk τ 41 = B0 at *
  have W0 : WfB B0 := by
    refine ⟨by rw [hb0.1]; decide, by rw [hb0.2]; decide, fun h x y => by rw [hb0.1] at y; omega, fun h x y => by rw [hb0.2] at y; omega, ?_⟩
    unfold alsoSum
    rw [hb0.1]
    exact (by decide : (0 : Int) ≤ 8)
  have S0 : SO N B0 0 0 0 0 := by
    refine ⟨W0, by decide, ?_, by decide, by omega⟩
    unfold alsoSum
    rw [hb0.1]
    rfl
  -- the ends
  have stopF : ∀ (f : Int × Int) (ρ : Sg), pRun t N 600 B0 0 0 0 0 = .inl f → CF σ ρ N f.1 f.2 → (rng (ρ 3 1)) ∧ (((ρ 3 1) = 0 → ((ρ 0 1) = 5) ∧ (Cl mX5_changeBook [vr 3, vr 5] (up ρ 3 0 0) (pR fun q3 σ3 => shp[q3]? = some (0, 0, 14) ∧ post (some (vi ((up (up σ3 0 1 ((q3 : Nat) : Int)) 0 9 0) q3 0))) (up (up σ3 0 1 ((q3 : Nat) : Int)) 0 9 0)))) ∧ (¬ (ρ 3 1) = 0 → post (some (vi ((-10) - (ρ 3 1)))) (up ρ 3 0 0))) := fun f ρ hr h1 => by
    refine ⟨h1.ne.1, fun c => absurd c h1.ne.2, fun _ => ?_⟩
    rw [h1.2.1.2.1]
    exact hf f ρ B0 hr hb0 h1
  have stopO : ∀ (B' : Sg) (s a k p : Int) (ρ : Sg), pRun t N 600 B0 0 0 0 0 = .inr B' → WfB B' → CR σ ρ N B' s a k p → (rng (ρ 3 1)) ∧ (((ρ 3 1) = 0 → ((ρ 0 1) = 5) ∧ (Cl mX5_changeBook [vr 3, vr 5] (up ρ 3 0 0) (pR fun q3 σ3 => shp[q3]? = some (0, 0, 14) ∧ post (some (vi ((up (up σ3 0 1 ((q3 : Nat) : Int)) 0 9 0) q3 0))) (up (up σ3 0 1 ((q3 : Nat) : Int)) 0 9 0)))) ∧ (¬ (ρ 3 1) = 0 → post (some (vi ((-10) - (ρ 3 1)))) (up ρ 3 0 0))) := fun B' s a k p ρ hr hW' h1 => by
    refine ⟨h1.eq.1, fun _ => ⟨by rw [h1.1 0 (by decide) (by decide)]; exact h01, EX5_changeBook rfl ⟨by rw [up_f (by decide)]; exact h1.2.1.2.2.2, ⟨41, rfl, rfl, ?_⟩⟩⟩, fun c => absurd h1.eq.2 c⟩
    have e : up (up (up (up ρ 3 0 0) 3 5 ((5 : Nat) : Int)) 0 1 ((41 : Nat) : Int)) 0 9 0 41 0 = B' 0 0 := by
      rw [up_r (by decide), up_r (by decide), up_r (by decide), up_r (by decide), ← h1.2.2.2.2]
      rfl
    rw [e]
    exact ho B' s a k p ρ B0 hr hb0 hW' h1
  have loop : ∀ (n : Nat) (i : Int) (ρ : Sg) (B : Sg) (s a k p : Int), i + n = 600 → 0 ≤ i → pRun t N 600 B0 0 0 0 0 = pRun t N n B s a k p → CR σ ρ N B s a k p → SO N B s a k p → V mX11_read 9 [some (vr 0), some (vi i)] [] ρ post := by
    intro n
    induction n with
    | zero =>
      intro i ρ B s a k p hi i0 hr h1 hS
      exact BX11_read_9 ⟨by omega, fun _ => stopO B s a k p ρ hr hS.1 h1, fun c => absurd (by omega) c⟩
    | succ n ih =>
      intro i ρ B s a k p hi i0 hr h1 hS
      have kb := sk_b (f := isB) (t := t) hS.2.2.2.2.2
      have pb := hS.2.2.2.2
      refine BX11_read_9 ⟨by omega, fun c => absurd c (by omega), fun _ => EX5_hasMore (c_skipO hT h1 pb.1 pb.2 (fun σ2 h2 => ⟨rfl, ?_⟩))⟩
      have e4 := h2.2.2.2.1
      have e0 := h2.2.1.1
      dsimp only
      rw [e4, e0]
      have hs : pRun t N (n + 1) B s a k p = if sk isB t N p < N then (match pCl t N B s a k (sk isB t N p) with
        | .inl f => .inl f
        | .inr (B', s', a', k', e) => pRun t N n B' s' a' k' e) else .inr B := rfl
      rw [hs] at hr
      refine ⟨by omega, by omega, fun c => ⟨_, rfl, b0' ?_⟩, fun c => ⟨h2.eq.1, fun d => absurd h2.eq.2 d, fun _ => ⟨_, rfl, b1' ?_⟩⟩⟩
      · rw [if_neg (by omega)] at hr
        exact stopO B s a k _ σ2 hr hS.1 h2
      · rw [if_pos (by omega)] at hr
        have S2 : SO N B s a k (sk isB t N p) := ⟨hS.1, hS.2.1, hS.2.2.1, hS.2.2.2.1, by omega⟩
        refine c_clause hT h2 S2 (fun f σ3 hc h3 => ⟨rfl, ?_⟩) (fun B' s' a' k' e σ3 hc h3 S3 pe => ⟨rfl, ih (i + 1) σ3 B' s' a' k' e (by omega) (by omega) (by rw [hr, hc]) h3 S3⟩)
        rw [hc] at hr
        -- a fault: one more turn
        by_cases z : 600 ≤ i + 1
        · exact BX11_read_9 ⟨by omega, fun _ => stopF f σ3 hr h3, fun c => absurd z c⟩
        · refine BX11_read_9 ⟨by omega, fun c => absurd c z, fun _ => EX5_hasMore (c_skipF hT h3 (fun σ4 h4 => ⟨rfl, ?_⟩))⟩
          have b4 := h4.2.2.2
          have e04 := h4.2.1.1
          exact ⟨by omega, by omega, fun _ => ⟨_, rfl, b0' (stopF f σ4 hr h4)⟩, fun _ => ⟨h4.ne.1, fun _ => ⟨_, rfl, b0' (stopF f σ4 hr h4)⟩, fun d => absurd d h4.ne.2⟩⟩
  exact loop 600 0 τ B0 0 0 0 0 (by decide) (by decide) rfl R0 S0
