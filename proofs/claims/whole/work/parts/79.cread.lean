/-! ===== PURE HALF, by hand: the class's reader, heads, subs, numbers ===== -/
def CR (σ0 σ : Sg) (N : Int) (B : Sg) (s a k p : Int) : Prop := (∀ c : Nat, c ≠ 3 → c < 41 ∨ 52 < c → σ c = σ0 c) ∧ (σ 3 0 = N ∧ σ 3 1 = 0 ∧ σ 3 2 = -1 ∧ σ 3 5 = 41) ∧ (σ 3 6 = s ∧ σ 3 7 = a ∧ σ 3 8 = k) ∧ σ 3 4 = p ∧ bk σ 41 = B
def CF (σ0 σ : Sg) (N n q : Int) : Prop := (∀ c : Nat, c ≠ 3 → c < 41 ∨ 52 < c → σ c = σ0 c) ∧ (σ 3 0 = N ∧ σ 3 1 = n ∧ σ 3 2 = q ∧ σ 3 5 = 41) ∧ ((1 ≤ n ∧ n ≤ 6) ∧ 0 ≤ q ∧ q ≤ N) ∧ (0 ≤ σ 3 4 ∧ σ 3 4 ≤ N)
def T0 (σ0 : Sg) (t : Int → Int) (N : Int) : Prop := okT t N ∧ ∀ i : Int, 0 ≤ i → i < N → σ0 4 i = tsg (t i)
theorem CR.ct {σ0 σ : Sg} {t : Int → Int} {N s a k p : Int} {B : Sg} (h : CR σ0 σ N B s a k p) (hT : T0 σ0 t N) : CT σ t N := by
  refine ⟨h.2.1.1, fun i i0 i1 => ?_⟩
  rw [h.1 4 (by decide) (by decide)]
  exact hT.2 i i0 i1
theorem CF.ct {σ0 σ : Sg} {t : Int → Int} {N n q : Int} (h : CF σ0 σ N n q) (hT : T0 σ0 t N) : CT σ t N := by
  refine ⟨h.2.1.1, fun i i0 i1 => ?_⟩
  rw [h.1 4 (by decide) (by decide)]
  exact hT.2 i i0 i1
theorem CR.p4 {σ0 σ σ' : Sg} {N s a k p p' : Int} {B : Sg} (h : CR σ0 σ N B s a k p) (hP : P4 σ σ') (h4 : σ' 3 4 = p') : CR σ0 σ' N B s a k p' := by
  obtain ⟨a1, a2, a3, a4, a5⟩ := h
  refine ⟨fun c c3 cc => (hP.1 c c3).trans (a1 c c3 cc), ?_, ?_, h4, ?_⟩
  · rw [hP.2 0 (by decide), hP.2 1 (by decide), hP.2 2 (by decide), hP.2 5 (by decide)]; exact a2
  · rw [hP.2 6 (by decide), hP.2 7 (by decide), hP.2 8 (by decide)]; exact a3
  · rw [← a5]
    exact bk_congr (by rw [hP.1 41 (by decide)]) (by rw [hP.1 41 (by decide)]) (fun j a b => hP.1 (41 + j) (by omega))
theorem CF.p4 {σ0 σ σ' : Sg} {N n q : Int} (h : CF σ0 σ N n q) (hP : P4 σ σ') (h4 : 0 ≤ σ' 3 4 ∧ σ' 3 4 ≤ N) : CF σ0 σ' N n q := by
  obtain ⟨a1, a2, a3, a4⟩ := h
  refine ⟨fun c c3 cc => (hP.1 c c3).trans (a1 c c3 cc), ?_, a3, h4⟩
  rw [hP.2 0 (by decide), hP.2 1 (by decide), hP.2 2 (by decide), hP.2 5 (by decide)]; exact a2
theorem c_failO {σ0 σ : Sg} {post : Po} {N s a k p n q : Int} {B : Sg} (h : CR σ0 σ N B s a k p) (p0 : 0 ≤ p) (p1 : p ≤ N) (n0 : 1 ≤ n ∧ n ≤ 6) (qb : 0 ≤ q ∧ q ≤ N) (hp : ∀ σ' : Sg, CF σ0 σ' N n q → post (some (vi (-1))) σ') : Cl mX5_fail [vr 3, vi n, vi q] σ post := by
  obtain ⟨a1, a2, a3, a4, a5⟩ := h
  refine EX5_fail ⟨by omega, fun c => absurd a2.2.1 c, fun _ => hp _ ⟨fun c c3 cc => ?_, ⟨?_, ?_, up_s, ?_⟩, ⟨n0, qb⟩, ?_⟩⟩
  · rw [up_r c3, up_r c3]; exact a1 c c3 cc
  · rw [up_f (by decide), up_f (by decide)]; exact a2.1
  · rw [up_f (by decide), up_s]
  · rw [up_f (by decide), up_f (by decide)]; exact a2.2.2.2
  · rw [up_f (by decide), up_f (by decide), a4]; exact ⟨p0, p1⟩
theorem c_failF {σ0 σ : Sg} {post : Po} {N n q n' q' : Int} (h : CF σ0 σ N n q) (hp : post (some (vi (-1))) σ) : Cl mX5_fail [vr 3, vi n', vi q'] σ post := by
  have e := h.2.1.2.1
  have b := h.2.2.1
  exact EX5_fail ⟨by omega, fun _ => hp, fun c => by omega⟩
theorem c_skipF {σ0 σ : Sg} {post : Po} {t : Int → Int} {N n q : Int} (hT : T0 σ0 t N) (h : CF σ0 σ N n q) (hp : ∀ σ' : Sg, CF σ0 σ' N n q → post none σ') : Cl mX5_skipBlanks [vr 3] σ post := by
  have b := h.2.2.2
  refine c_skipBlanks hT.1 (h.ct hT) rfl b.1 b.2 (fun σ' hP h4 => hp σ' (h.p4 hP ?_))
  have := sk_b (f := isB) (t := t) b.2
  omega
theorem c_skipO {σ0 σ : Sg} {post : Po} {t : Int → Int} {N s a k p : Int} {B : Sg} (hT : T0 σ0 t N) (h : CR σ0 σ N B s a k p) (p0 : 0 ≤ p) (p1 : p ≤ N) (hp : ∀ σ' : Sg, CR σ0 σ' N B s a k (sk isB t N p) → post none σ') : Cl mX5_skipBlanks [vr 3] σ post :=
  c_skipBlanks hT.1 (h.ct hT) h.2.2.2.1 p0 p1 (fun σ' hP h4 => hp σ' (h.p4 hP h4))
theorem CF.ne {σ0 σ : Sg} {N n q : Int} (h : CF σ0 σ N n q) : rng (σ 3 1) ∧ ¬ σ 3 1 = 0 := by
  have e := h.2.1.2.1
  have b := h.2.2.1
  omega
theorem CR.eq {σ0 σ : Sg} {N s a k p : Int} {B : Sg} (h : CR σ0 σ N B s a k p) : rng (σ 3 1) ∧ σ 3 1 = 0 := by
  have e := h.2.1.2.1
  omega
theorem c_wordF {σ0 σ : Sg} {post : Po} {t : Int → Int} {N n q : Int} (hT : T0 σ0 t N) (h : CF σ0 σ N n q) (hp : ∀ σ' : Sg, CF σ0 σ' N n q → post (some (vi (-1))) σ') : Cl mX5_wordStart [vr 3] σ post :=
  EX5_wordStart (c_skipF hT h (fun σ1 h1 => ⟨rfl, h1.ne.1, fun _ => c_failF h1 ⟨_, rfl, hp σ1 h1⟩, fun c => absurd c h1.ne.2⟩))
theorem c_wordO {σ0 σ : Sg} {post : Po} {t : Int → Int} {N s a k p : Int} {B : Sg} (hT : T0 σ0 t N) (h : CR σ0 σ N B s a k p) (p0 : 0 ≤ p) (p1 : p ≤ N) (hf : ∀ (f : Int × Int) (σ' : Sg), pWd t N p = .inl f → CF σ0 σ' N f.1 f.2 → post (some (vi (-1))) σ') (ho : ∀ (q e : Int) (σ' : Sg), pWd t N p = .inr (q, e) → CR σ0 σ' N B s a k e → post (some (vi q)) σ') : Cl mX5_wordStart [vr 3] σ post := by
  have kb := sk_b (f := isB) (t := t) p1
  have w : pWd t N p = @ite _ (at_ isL t N (sk isB t N p)) (Classical.propDecidable _) (@ite _ (fitW t (sk isB t N p) (sk isL t N (sk isB t N p))) (Classical.propDecidable _) (.inr (sk isB t N p, sk isL t N (sk isB t N p))) (.inl (3, sk isB t N p))) (.inl (1, sk isB t N p)) := rfl
  refine EX5_wordStart (c_skipO hT h p0 p1 (fun σ1 h1 => ⟨rfl, h1.eq.1, fun c => absurd h1.eq.2 c, fun _ => ?_⟩))
  have e4 := h1.2.2.2.1
  generalize sk isB t N p = q at *
  refine c_byteHere hT.1 (h1.ct hT) e4 (by omega) kb.2 (fun z rz hz => ⟨_, rfl, c_isLetter rz (fun c => ⟨_, rfl, b1 ?_⟩) (fun c => ⟨_, rfl, b0 ?_⟩)⟩)
  · have at1 := (bh_L hT.1 (by omega) hz).1 c
    rw [if_pos at1] at w
    have lb := sk_b (f := isL) (t := t) (N := N) (p := q + 1) (by have := at1.1; omega)
    rw [← sk_go at1.1 at1.2] at lb
    refine c_skipWord hT.1 (h1.ct hT) e4 (by omega) kb.2 (fun σ2 hP h4 => ⟨rfl, ?_⟩)
    have h2 := h1.p4 hP h4
    dsimp only
    rw [e4, h4]
    generalize sk isL t N q = e at *
    refine c_isFit hT.1 (h2.ct hT) (by omega) (by omega) lb.2 (fun d => ⟨_, rfl, b1' ?_⟩) (fun d => ⟨_, rfl, b0' ?_⟩)
    · rw [if_pos d] at w
      exact ho q e σ2 w h2
    · rw [if_neg d] at w
      exact c_failO h2 (by omega) lb.2 (by decide) (by omega) (fun σ3 h3 => ⟨_, rfl, hf (3, q) σ3 w h3⟩)
  · have at1 : ¬ at_ isL t N q := fun y => c ((bh_L hT.1 (by omega) hz).2 y)
    rw [if_neg at1] at w
    rw [e4]
    exact c_failO h1 (by omega) kb.2 (by decide) (by omega) (fun σ3 h3 => ⟨_, rfl, hf (1, q) σ3 w h3⟩)
theorem bk_ext {σ : Sg} {k : Nat} {B : Sg} (h0 : B 0 = fun x => if x = 0 then σ k 0 else σ k 7) (h : ∀ j, 1 ≤ j → j < 12 → σ (k + j) = B j) (hz : ∀ j, 12 ≤ j → B j = fun _ => 0) : bk σ k = B := by
  funext j
  unfold bk
  by_cases e : j = 0
  · rw [if_pos e, e, h0]
  · rw [if_neg e]
    by_cases d : j < 12
    · rw [if_pos d]; exact h j (by omega) d
    · rw [if_neg d]; exact (hz j (by omega)).symm
theorem bk_hi {σ : Sg} {k j : Nat} (hj : 12 ≤ j) : bk σ k j = fun _ => 0 := by
  unfold bk
  rw [if_neg (by omega), if_neg (by omega)]
theorem c_putHead {σ0 σ : Sg} {post : Po} {N s a k p c : Int} {B : Sg} (h : CR σ0 σ N B s a k p) (hW : WfB B) (hy : B 0 0 < 16 → ∀ σ' : Sg, CR σ0 σ' N (putH B c) s a k p → post (some (vi (B 0 0))) σ') (hn : ¬ B 0 0 < 16 → post (some (vi (-1))) σ) : Cl mX0_putHead [vr 41, vl c] σ post := by
  obtain ⟨a1, a2, a3, a4, a5⟩ := h
  have e0 : σ 41 0 = B 0 0 := by rw [← a5]; rfl
  have w := hW.1
  refine EX0_putHead rfl ⟨by omega, fun c1 => ⟨by omega, ?_⟩, fun c1 => hn (by omega)⟩
  rw [e0, show B 0 0 + 1 - 1 = B 0 0 by omega]
  have u3 : ∀ x, x ≠ 41 → x ≠ 42 → x ≠ 43 → x ≠ 45 → x ≠ 46 → x ≠ 47 → up (up (up (up (up (up σ (41 + 1) (B 0 0) c) (41 + 2) (B 0 0) 0) (41 + 4) (B 0 0) (-1)) (41 + 5) (B 0 0) 0) (41 + 6) (B 0 0) 0) 41 0 (B 0 0 + 1) x = σ x := fun x x0 x1 x2 x3 x4 x5 => by
    rw [up_r x0, up_r x5, up_r x4, up_r x3, up_r x2, up_r x1]
  refine hy (by omega) _ ⟨fun x x3 xx => by rw [u3 x (by omega) (by omega) (by omega) (by omega) (by omega) (by omega)]; exact a1 x x3 xx, ?_, ?_, ?_, ?_⟩
  · rw [u3 3 (by decide) (by decide) (by decide) (by decide) (by decide) (by decide)]; exact a2
  · rw [u3 3 (by decide) (by decide) (by decide) (by decide) (by decide) (by decide)]; exact a3
  · rw [u3 3 (by decide) (by decide) (by decide) (by decide) (by decide) (by decide)]; exact a4
  · have bj : ∀ j, 1 ≤ j → j < 12 → σ (41 + j) = B j := fun j x y => by
      rw [← a5]
      unfold bk
      rw [if_neg (by omega), if_pos y]
    have e7 : σ 41 7 = B 0 7 := by rw [← a5]; rfl
    refine bk_ext ?_ (fun j x y => ?_) (fun j x => ?_)
    · rw [up_s, up_f (by decide), up_r (by decide), up_r (by decide), up_r (by decide), up_r (by decide), up_r (by decide), e7]
      rfl
    · have : j = 1 ∨ j = 2 ∨ j = 3 ∨ j = 4 ∨ j = 5 ∨ j = 6 ∨ j = 7 ∨ j = 8 ∨ j = 9 ∨ j = 10 ∨ j = 11 := by omega
      rcases this with e | e | e | e | e | e | e | e | e | e | e <;> subst e
      · rw [up_r (by decide), up_r (by decide), up_r (by decide), up_r (by decide), up_r (by decide), up_k, bj 1 (by decide) (by decide)]; rfl
      · rw [up_r (by decide), up_r (by decide), up_r (by decide), up_r (by decide), up_k, up_r (by decide), bj 2 (by decide) (by decide)]; rfl
      · rw [u3 (41 + 3) (by decide) (by decide) (by decide) (by decide) (by decide) (by decide)]; exact bj 3 (by decide) (by decide)
      · rw [up_r (by decide), up_r (by decide), up_r (by decide), up_k, up_r (by decide), up_r (by decide), bj 4 (by decide) (by decide)]; rfl
      · rw [up_r (by decide), up_r (by decide), up_k, up_r (by decide), up_r (by decide), up_r (by decide), bj 5 (by decide) (by decide)]; rfl
      · rw [up_r (by decide), up_k, up_r (by decide), up_r (by decide), up_r (by decide), up_r (by decide), bj 6 (by decide) (by decide)]; rfl
      all_goals (rw [u3 _ (by decide) (by decide) (by decide) (by decide) (by decide) (by decide)]; exact bj _ (by decide) (by decide))
    · match j, x with
      | j + 12, _ =>
        show B (j + 12) = _
        rw [← a5]
        exact bk_hi (by omega)
theorem c_headF {σ0 σ : Sg} {post : Po} {t : Int → Int} {N n q : Int} (hT : T0 σ0 t N) (h : CF σ0 σ N n q) (hp : ∀ σ' : Sg, CF σ0 σ' N n q → post (some (vi (-1))) σ') : Cl mX5_readHead [vr 3] σ post :=
  EX5_readHead (c_wordF hT h (fun σ1 h1 => ⟨_, rfl, h1.ne.1, fun c => absurd c h1.ne.2, fun _ => hp σ1 h1⟩))
theorem c_headO {σ0 σ : Sg} {post : Po} {t : Int → Int} {N s a k p : Int} {B : Sg} (hT : T0 σ0 t N) (h : CR σ0 σ N B s a k p) (hW : WfB B) (p0 : 0 ≤ p) (p1 : p ≤ N) (hf : ∀ (f : Int × Int) (σ' : Sg), pHd t N B p = .inl f → CF σ0 σ' N f.1 f.2 → post (some (vi (-1))) σ') (ho : ∀ (B' : Sg) (g q e : Int) (σ' : Sg), pHd t N B p = .inr (B', g, q, e) → CR σ0 σ' N B' s a k e → post (some (vi g)) σ') : Cl mX5_readHead [vr 3] σ post := by
  have u : pHd t N B p = match pWd t N p with
    | .inl f => .inl f
    | .inr (q, e) => if 0 ≤ hL B (pkW t q e) then .inr (B, hL B (pkW t q e), q, e) else if B 0 0 < 16 then .inr (putH B (pkW t q e), B 0 0, q, e) else .inl (4, q) := rfl
  refine EX5_readHead (c_wordO hT h p0 p1 (fun f σ1 hw h1 => ⟨_, rfl, h1.ne.1, fun c => absurd c h1.ne.2, fun _ => hf f σ1 (by rw [u, hw]) h1⟩) (fun q e σ1 hw h1 => ⟨_, rfl, h1.eq.1, fun _ => ?_, fun c => absurd h1.eq.2 c⟩))
  rw [hw] at u
  dsimp only at u
  obtain ⟨a1, a2, a3, a4, a5⟩ := pWd_ok p1 hw
  obtain ⟨k1, k2⟩ := pkW_ww a5 a2 a4
  have kb := k1.1
  refine c_packWord hT.1 (h1.ct hT) h1.2.2.2.1 (by omega) (by omega) a3 a4 a5 ⟨_, rfl, h1.2.1.2.2.2, ?_⟩
  have eb := h1.2.2.2.2
  refine c_findHead rfl (by rw [eb]; exact hW) (by omega) ⟨_, rfl, ?_⟩
  rw [eb]
  have w := hW.1
  rcases hL_v (c := pkW t q e) hW with z | ⟨z1, z2, z3⟩
  · rw [z] at u ⊢
    rw [if_neg (by decide)] at u
    refine ⟨by decide, fun y => absurd rfl y, fun _ => ⟨h1.2.1.2.2.2, c_putHead h1 hW (fun c σ2 h2 => ⟨_, rfl, by omega, fun _ => ho _ _ q e σ2 (by rw [u, if_pos c]) h2, fun y => by omega⟩) (fun c => ⟨_, rfl, by decide, fun y => absurd rfl y, fun _ => c_failO h1 (by omega) a3 (by decide) (by omega) (fun σ3 h3 => ⟨_, rfl, hf (4, q) σ3 (by rw [u, if_neg c]) h3⟩)⟩)⟩⟩
  · rw [if_pos z1] at u
    exact ⟨by omega, fun _ => ⟨fun _ => ho _ _ q e σ1 u h1, fun y => by omega⟩, fun y => by omega⟩
theorem c_putSub {σ0 σ : Sg} {post : Po} {N s a k p g c : Int} {B : Sg} (h : CR σ0 σ N B s a k p) (hW : WfB B) (g0 : 0 ≤ g) (g1 : g < B 0 0) (hy : B 2 g < 6 → ∀ σ' : Sg, CR σ0 σ' N (putS B g c) s a k p → post (some (vi (B 2 g))) σ') (hn : ¬ B 2 g < 6 → post (some (vi (-1))) σ) : Cl mX0_putSub [vr 41, vi g, vl c] σ post := by
  obtain ⟨a1, a2, a3, a4, a5⟩ := h
  have bj : ∀ j, 1 ≤ j → j < 12 → σ (41 + j) = B j := fun j x y => by
    rw [← a5]
    unfold bk
    rw [if_neg (by omega), if_pos y]
  have w := hW.1
  have ws := (hW.2.2.1 g g0 g1).1
  refine EX0_putSub rfl ⟨by omega, ?_⟩
  rw [bj 2 (by decide) (by decide)]
  refine ⟨by omega, fun c1 => ⟨by omega, ?_⟩, fun c1 => hn c1⟩
  rw [show B 2 g + 1 - 1 = B 2 g by omega]
  have u3 : ∀ x, x ≠ 43 → x ≠ 44 → up (up σ (41 + 3) (g * 6 + B 2 g) c) (41 + 2) g (B 2 g + 1) x = σ x := fun x x0 x1 => by
    rw [up_r x0, up_r x1]
  refine hy c1 _ ⟨fun x x3 xx => by rw [u3 x (by omega) (by omega)]; exact a1 x x3 xx, ?_, ?_, ?_, ?_⟩
  · rw [u3 3 (by decide) (by decide)]; exact a2
  · rw [u3 3 (by decide) (by decide)]; exact a3
  · rw [u3 3 (by decide) (by decide)]; exact a4
  · refine bk_ext ?_ (fun j x y => ?_) (fun j x => ?_)
    · rw [u3 41 (by decide) (by decide)]
      show B 0 = _
      rw [← a5]
      rfl
    · have : j = 1 ∨ j = 2 ∨ j = 3 ∨ j = 4 ∨ j = 5 ∨ j = 6 ∨ j = 7 ∨ j = 8 ∨ j = 9 ∨ j = 10 ∨ j = 11 := by omega
      rcases this with e | e | e | e | e | e | e | e | e | e | e <;> subst e
      · rw [u3 _ (by decide) (by decide)]; exact bj 1 (by decide) (by decide)
      · rw [up_k, up_r (by decide), bj 2 (by decide) (by decide)]; rfl
      · rw [up_r (by decide), up_k, bj 3 (by decide) (by decide)]; rfl
      all_goals (rw [u3 _ (by decide) (by decide)]; exact bj _ (by decide) (by decide))
    · match j, x with
      | j + 12, _ =>
        show B (j + 12) = _
        rw [← a5]
        exact bk_hi (by omega)
theorem c_subO {σ0 σ : Sg} {post : Po} {t : Int → Int} {N s a k p g : Int} {B : Sg} (hT : T0 σ0 t N) (h : CR σ0 σ N B s a k p) (hW : WfB B) (g0 : 0 ≤ g) (g1 : g < B 0 0) (p0 : 0 ≤ p) (p1 : p ≤ N) (hf : ∀ (f : Int × Int) (σ' : Sg), pSb t N B g p = .inl f → CF σ0 σ' N f.1 f.2 → post (some (vi (-1))) σ') (ho : ∀ (B' : Sg) (z e : Int) (σ' : Sg), pSb t N B g p = .inr (B', z, e) → CR σ0 σ' N B' s a k e → post (some (vi z)) σ') : Cl mX5_readSub [vr 3, vi g] σ post := by
  have u : pSb t N B g p = match pWd t N p with
    | .inl f => .inl f
    | .inr (q, e) => if 0 ≤ sL B g (pkW t q e) then .inr (B, sL B g (pkW t q e), e) else if B 2 g < 6 then .inr (putS B g (pkW t q e), B 2 g, e) else .inl (4, q) := rfl
  refine EX5_readSub (c_wordO hT h p0 p1 (fun f σ1 hw h1 => ⟨_, rfl, h1.ne.1, fun c => absurd c h1.ne.2, fun _ => hf f σ1 (by rw [u, hw]) h1⟩) (fun q e σ1 hw h1 => ⟨_, rfl, h1.eq.1, fun _ => ?_, fun c => absurd h1.eq.2 c⟩))
  rw [hw] at u
  dsimp only at u
  obtain ⟨a1, a2, a3, a4, a5⟩ := pWd_ok p1 hw
  obtain ⟨k1, k2⟩ := pkW_ww a5 a2 a4
  have kb := k1.1
  refine c_packWord hT.1 (h1.ct hT) h1.2.2.2.1 (by omega) (by omega) a3 a4 a5 ⟨_, rfl, h1.2.1.2.2.2, ?_⟩
  have eb := h1.2.2.2.2
  have w := hW.1
  have ws := (hW.2.2.1 g g0 g1).1
  refine c_findSub rfl (by rw [eb]; exact hW) (by have : σ1 41 0 = B 0 0 := by rw [← eb]; rfl
                                                  omega) (by omega) ⟨_, rfl, ?_⟩
  rw [eb]
  rcases sL_v (c := pkW t q e) g0 ws.1 with z | ⟨z1, z2, z3⟩
  · rw [z] at u ⊢
    rw [if_neg (by decide)] at u
    refine ⟨by decide, fun y => absurd rfl y, fun _ => ⟨h1.2.1.2.2.2, c_putSub h1 hW g0 g1 (fun c σ2 h2 => ⟨_, rfl, by omega, fun _ => ho _ _ e σ2 (by rw [u, if_pos c]) h2, fun y => by omega⟩) (fun c => ⟨_, rfl, by decide, fun y => absurd rfl y, fun _ => c_failO h1 (by omega) a3 (by decide) (by omega) (fun σ3 h3 => ⟨_, rfl, hf (4, q) σ3 (by rw [u, if_neg c]) h3⟩)⟩)⟩⟩
  · rw [if_pos z1] at u
    exact ⟨by omega, fun _ => ⟨fun _ => ho _ _ e σ1 u h1, fun y => by omega⟩, fun y => by omega⟩
theorem nvl_b {t : Int → Int} {q : Int} : ∀ n : Nat, n ≤ 2 → (∀ i : Nat, i < n → 48 ≤ t (q + i) ∧ t (q + i) ≤ 57) → 0 ≤ nvl t q n ∧ nvl t q n ≤ 99 := by
  intro n hn h
  have : n = 0 ∨ n = 1 ∨ n = 2 := by omega
  rcases this with e | e | e <;> subst e
  · show (0 : Int) ≤ 0 ∧ (0 : Int) ≤ 99
    decide
  · have := h 0 (by decide)
    show 0 ≤ 0 * 10 + t (q + ((0 : Nat) : Int)) - 48 ∧ 0 * 10 + t (q + ((0 : Nat) : Int)) - 48 ≤ 99
    omega
  · have a := h 0 (by decide)
    have b := h 1 (by decide)
    show 0 ≤ (0 * 10 + t (q + ((0 : Nat) : Int)) - 48) * 10 + t (q + ((1 : Nat) : Int)) - 48 ∧ (0 * 10 + t (q + ((0 : Nat) : Int)) - 48) * 10 + t (q + ((1 : Nat) : Int)) - 48 ≤ 99
    omega
theorem c_numF {σ0 σ : Sg} {post : Po} {t : Int → Int} {N n q lo hi : Int} (hT : T0 σ0 t N) (h : CF σ0 σ N n q) (hp : ∀ σ' : Sg, CF σ0 σ' N n q → post (some (vi (-1))) σ') : Cl mX5_readNumber [vr 3, vi lo, vi hi] σ post :=
  EX5_readNumber (c_skipF hT h (fun σ1 h1 => ⟨rfl, h1.ne.1, fun _ => c_failF h1 ⟨_, rfl, hp σ1 h1⟩, fun c => absurd c h1.ne.2⟩))
theorem c_numO {σ0 σ : Sg} {post : Po} {t : Int → Int} {N s a k p lo hi : Int} {B : Sg} (hT : T0 σ0 t N) (h : CR σ0 σ N B s a k p) (p0 : 0 ≤ p) (p1 : p ≤ N) (l0 : 0 ≤ lo ∧ lo ≤ 100) (h0 : 0 ≤ hi ∧ hi ≤ 100) (hf : ∀ (f : Int × Int) (σ' : Sg), pNm t N lo hi p = .inl f → CF σ0 σ' N f.1 f.2 → post (some (vi (-1))) σ') (ho : ∀ (v e : Int) (σ' : Sg), pNm t N lo hi p = .inr (v, e) → (lo ≤ v ∧ v ≤ hi) → (p ≤ e ∧ e ≤ N) → CR σ0 σ' N B s a k e → post (some (vi v)) σ') : Cl mX5_readNumber [vr 3, vi lo, vi hi] σ post := by
  have kb := sk_b (f := isB) (t := t) p1
  have w : pNm t N lo hi p = @ite _ (at_ isF t N (sk isB t N p)) (Classical.propDecidable _) (if sk isF t N (sk isB t N p) - sk isB t N p ≤ 2 ∧ lo ≤ nvl t (sk isB t N p) (sk isF t N (sk isB t N p) - sk isB t N p).toNat ∧ nvl t (sk isB t N p) (sk isF t N (sk isB t N p) - sk isB t N p).toNat ≤ hi then .inr (nvl t (sk isB t N p) (sk isF t N (sk isB t N p) - sk isB t N p).toNat, sk isF t N (sk isB t N p)) else .inl (2, sk isB t N p)) (.inl (1, sk isB t N p)) := rfl
  refine EX5_readNumber (c_skipO hT h p0 p1 (fun σ1 h1 => ⟨rfl, h1.eq.1, fun c => absurd h1.eq.2 c, fun _ => ?_⟩))
  have e4 := h1.2.2.2.1
  generalize sk isB t N p = q at *
  refine c_byteHere hT.1 (h1.ct hT) e4 (by omega) kb.2 (fun z rz hz => ⟨_, rfl, c_isFigure rz (fun c => ⟨_, rfl, b1 ?_⟩) (fun c => ⟨_, rfl, b0 ?_⟩)⟩)
  · have at1 := (bh_F hT.1 (by omega) hz).1 c
    rw [if_pos at1] at w
    have lb := sk_b (f := isF) (t := t) (N := N) (p := q + 1) (by have := at1.1; omega)
    rw [← sk_go at1.1 at1.2] at lb
    have fig := (sk_all (f := isF) (t := t) (N := N) (N - q).toNat q (by omega)).2.1
    refine c_skipNumber hT.1 (h1.ct hT) e4 (by omega) kb.2 (fun σ2 hP h4 => ⟨rfl, ?_⟩)
    have h2 := h1.p4 hP h4
    dsimp only
    rw [e4, h4]
    generalize sk isF t N q = e at *
    have n1 := hT.1.1
    refine ⟨by omega, fun d => ?_, fun d => ?_⟩
    · have ct := (h2.ct hT).2
      have loop : ∀ (n j : Nat), q + j + n = e → V mX5_readNumber 60 [some (vr 3), some (vi lo), some (vi hi), some (vi q), some (vi (nvl t q j)), some (vi (q + j))] [] σ2 post := by
        intro n
        induction n with
        | zero =>
          intro j hj
          have nb := nvl_b (t := t) (q := q) j (by omega) (fun i hi => isF_iff.1 (fig (q + i) (by omega) (by omega)))
          rw [show (e - q).toNat = j by omega] at w
          refine BX5_readNumber_60 ⟨by omega, by omega, fun _ => ⟨by omega, by omega, fun c1 => ?_, fun c1 => ⟨by omega, fun c2 => ?_, fun c2 => ?_⟩⟩, fun y => absurd (by omega) y⟩
          · rw [if_neg (by omega)] at w
            exact c_failO h2 (by omega) lb.2 (by decide) (by omega) (fun σ3 h3 => ⟨_, rfl, hf (2, q) σ3 w h3⟩)
          · rw [if_pos ⟨d, by omega, c2⟩] at w
            exact ho _ _ σ2 w ⟨by omega, c2⟩ (by omega) h2
          · rw [if_neg (by omega)] at w
            exact c_failO h2 (by omega) lb.2 (by decide) (by omega) (fun σ3 h3 => ⟨_, rfl, hf (2, q) σ3 w h3⟩)
        | succ n ih =>
          intro j hj
          have f := isF_iff.1 (fig (q + j) (by omega) (by omega))
          have et2 : σ2 4 (q + j) = t (q + j) := by
            rw [ct (q + j) (by omega) (by omega)]
            unfold tsg
            rw [if_pos (by omega)]
          refine BX5_readNumber_60 ⟨by omega, by omega, fun y => absurd y (by omega), fun _ => ⟨by omega, ?_⟩⟩
          rw [et2, show q + (j : Int) + 1 = q + ((j + 1 : Nat) : Int) by omega]
          exact ih (j + 1) (by omega)
      have := loop (e - q).toNat 0 (by omega)
      rw [show q + ((0 : Nat) : Int) = q by omega] at this
      exact this
    · rw [if_neg (by omega)] at w
      exact c_failO h2 (by omega) lb.2 (by decide) (by omega) (fun σ3 h3 => ⟨_, rfl, hf (2, q) σ3 w h3⟩)
  · have at1 : ¬ at_ isF t N q := fun y => c ((bh_F hT.1 (by omega) hz).2 y)
    rw [if_neg at1] at w
    rw [e4]
    exact c_failO h1 (by omega) kb.2 (by decide) (by omega) (fun σ3 h3 => ⟨_, rfl, hf (1, q) σ3 w h3⟩)
theorem c_mainF {σ0 σ : Sg} {post : Po} {t : Int → Int} {N n q : Int} (hT : T0 σ0 t N) (h : CF σ0 σ N n q) (hp : ∀ σ' : Sg, CF σ0 σ' N n q → post (some (vi 0)) σ') : Cl mX5_readMain [vr 3] σ post :=
  EX5_readMain (c_skipF hT h (fun σ1 h1 => ⟨rfl, h1.ne.1, fun _ => hp σ1 h1, fun c => absurd c h1.ne.2⟩))
theorem c_mainO {σ0 σ : Sg} {post : Po} {t : Int → Int} {N s a k p : Int} {B : Sg} (hT : T0 σ0 t N) (h : CR σ0 σ N B s a k p) (p0 : 0 ≤ p) (p1 : p ≤ N) (hf : ∀ (f : Int × Int) (σ' : Sg) (z : Int), pMn t N p = .inl f → CF σ0 σ' N f.1 f.2 → post (some (vi z)) σ') (ho : ∀ (v e : Int) (σ' : Sg), pMn t N p = .inr (v, e) → (v = 0 ∨ v = 1) → (p ≤ e ∧ e ≤ N) → CR σ0 σ' N B s a k e → post (some (vi v)) σ') : Cl mX5_readMain [vr 3] σ post := by
  have kb := sk_b (f := isB) (t := t) p1
  have w : pMn t N p = @ite _ (at_ isL t N (sk isB t N p)) (Classical.propDecidable _) (@ite _ (isWd t (sk isB t N p) (sk isL t N (sk isB t N p)) (txB 6)) (Classical.propDecidable _) (.inr (1, sk isL t N (sk isB t N p))) (.inl (1, sk isB t N p))) (.inr (0, sk isB t N p)) := rfl
  refine EX5_readMain (c_skipO hT h p0 p1 (fun σ1 h1 => ⟨rfl, h1.eq.1, fun c => absurd h1.eq.2 c, fun _ => ?_⟩))
  have e4 := h1.2.2.2.1
  generalize sk isB t N p = q at *
  refine c_byteHere hT.1 (h1.ct hT) e4 (by omega) kb.2 (fun z rz hz => ⟨_, rfl, c_isLetter rz (fun c => ⟨_, rfl, b1 ?_⟩) (fun c => ⟨_, rfl, b0 ?_⟩)⟩)
  · have at1 := (bh_L hT.1 (by omega) hz).1 c
    rw [if_pos at1] at w
    have lb := sk_b (f := isL) (t := t) (N := N) (p := q) kb.2
    refine c_skipWord hT.1 (h1.ct hT) e4 (by omega) kb.2 (fun σ2 hP h4 => ⟨rfl, ?_⟩)
    have h2 := h1.p4 hP h4
    dsimp only
    rw [e4, h4]
    generalize sk isL t N q = e at *
    refine c_isWord hT.1 (h2.ct hT) (by decide) (by omega) lb.1 lb.2 (fun d => ⟨_, rfl, b1 ?_⟩) (fun d => ⟨_, rfl, b0 ?_⟩)
    · rw [if_pos d] at w
      exact ho 1 e σ2 w (Or.inr rfl) (by omega) h2
    · rw [if_neg d] at w
      exact c_failO h2 (by omega) lb.2 (by decide) (by omega) (fun σ3 h3 => ⟨_, rfl, hf (1, q) σ3 1 w h3⟩)
  · have at1 : ¬ at_ isL t N q := fun y => c ((bh_L hT.1 (by omega) hz).2 y)
    rw [if_neg at1] at w
    exact ho 0 q σ1 w (Or.inl rfl) (by omega) h1
