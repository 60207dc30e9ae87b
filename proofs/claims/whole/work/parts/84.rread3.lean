/-! ===== PURE HALF, by hand: the reference's reader, clauses ===== -/
theorem RR.fr94 {σ0 σ : Sg} {s a k p : Int} {B : Sg} (h : RR σ0 σ B s a k p) : σ 94 0 = B 0 0 ∧ σ 94 7 = B 0 7 := ⟨Ra_heads h.2.2.2.2, Ra_marks h.2.2.2.2⟩
theorem RR.adv {σ0 σ : Sg} {s a k p : Int} {B : Sg} (h : RR σ0 σ B s a k p) : RR σ0 (up σ 94 15 (σ 94 15 + 1)) B s a k (p + 1) := h.q4 (Q4.rf.u (by decide)) (by rw [up_s, h.2.2.2.1])
theorem tx_6 : txB 6 = [109, 97, 105, 110] := by decide +kernel
theorem tx_7 : txB 7 = [109, 97, 114, 107] := by decide +kernel
theorem tx_8 : txB 8 = [115, 101, 101] := by decide +kernel
theorem tx_4 : txB 4 = [97, 108, 115, 111] := by decide +kernel
theorem tx_5 : txB 5 = [97, 115, 107, 101, 100] := by decide +kernel
theorem gd_r5 {u : List Int} (hu : ∀ x ∈ u, 0 ≤ x ∧ x < 128) (i : Nat) : rng (u.getD i 0) := by
  by_cases c : i < u.length
  · have := hu _ (getD_mm c)
    omega
  · rw [List.getD_eq_getElem?_getD, List.getElem?_eq_none (by omega)]
    decide
theorem r_lay {σ0 σ : Sg} {post : Po} {s a k p g z v w m : Int} {B : Sg} (h : RR σ0 σ B s a k p) (hW : WfB B) (hn : B 0 7 < 60) (hm : m = 0 ∨ m = 1) (hp : ∀ σ' : Sg, RR σ0 σ' (putM B g z v w m) s a k p → post none σ') : Cl mX12_lay [vr 94, vi g, vi z, vi v, vi w, vi m] σ post := by
  have e7 := h.fr94.2
  have w2 := hW.2.1
  refine EX12_lay ⟨by omega, hm, ?_⟩
  rw [e7]
  have u94 : ∀ j : Int, j ≠ 7 → up (up (up (up (up (up σ 101 (B 0 7) g) 102 (B 0 7) z) 103 (B 0 7) v) 104 (B 0 7) w) 105 (B 0 7) m) 94 7 (B 0 7 + 1) 94 j = σ 94 j := fun j hj => by
    rw [up_f hj, up_r (by decide), up_r (by decide), up_r (by decide), up_r (by decide), up_r (by decide)]
  have ur : ∀ c : Nat, c ≠ 94 → c < 101 ∨ 105 < c → up (up (up (up (up (up σ 101 (B 0 7) g) 102 (B 0 7) z) 103 (B 0 7) v) 104 (B 0 7) w) 105 (B 0 7) m) 94 7 (B 0 7 + 1) c = σ c := fun c c4 cc => by
    rw [up_r c4, up_r (by omega), up_r (by omega), up_r (by omega), up_r (by omega), up_r (by omega)]
  refine hp _ ⟨(((((h.1.r (by decide) (by decide)).r (by decide) (by decide)).r (by decide) (by decide)).r (by decide) (by decide)).r (by decide) (by decide)).u (by decide), ?_, ?_, ?_, ?_⟩
  · rw [u94 18 (by decide), u94 19 (by decide)]; exact h.2.1
  · rw [u94 20 (by decide), u94 21 (by decide), u94 22 (by decide)]; exact h.2.2.1
  · rw [u94 15 (by decide)]; exact h.2.2.2.1
  · have hR := h.2.2.2.2
    have u7 : up (up (up (up (up (up σ 101 (B 0 7) g) 102 (B 0 7) z) 103 (B 0 7) v) 104 (B 0 7) w) 105 (B 0 7) m) 94 7 (B 0 7 + 1) 94 7 = B 0 7 + 1 := up_s
    refine ⟨(show _ = B 0 0 from (u94 0 (by decide)).trans h.fr94.1), u7, fun x x0 x1 => ?_, fun x x0 x1 => ?_⟩
    · have x1 : x < B 0 0 := x1
      have r := Ra_h hR x0 x1
      unfold RH at r ⊢
      show up (up (up (up (up (up σ 101 (B 0 7) g) 102 (B 0 7) z) 103 (B 0 7) v) 104 (B 0 7) w) 105 (B 0 7) m) 94 7 (B 0 7 + 1) 95 x = B 2 x ∧ up (up (up (up (up (up σ 101 (B 0 7) g) 102 (B 0 7) z) 103 (B 0 7) v) 104 (B 0 7) w) 105 (B 0 7) m) 94 7 (B 0 7 + 1) 98 x = B 4 x ∧ up (up (up (up (up (up σ 101 (B 0 7) g) 102 (B 0 7) z) 103 (B 0 7) v) 104 (B 0 7) w) 105 (B 0 7) m) 94 7 (B 0 7 + 1) 99 x = B 5 x ∧ up (up (up (up (up (up σ 101 (B 0 7) g) 102 (B 0 7) z) 103 (B 0 7) v) 104 (B 0 7) w) 105 (B 0 7) m) 94 7 (B 0 7 + 1) 100 x = B 6 x ∧ ∀ s : Int, -1 ≤ s → s < B 2 x → RW (up (up (up (up (up (up σ 101 (B 0 7) g) 102 (B 0 7) z) 103 (B 0 7) v) 104 (B 0 7) w) 105 (B 0 7) m) 94 7 (B 0 7 + 1) 96) (up (up (up (up (up (up σ 101 (B 0 7) g) 102 (B 0 7) z) 103 (B 0 7) v) 104 (B 0 7) w) 105 (B 0 7) m) 94 7 (B 0 7 + 1) 97) (7 * x + 1 + s) (ew B x s)
      rw [ur 95 (by decide) (by decide), ur 96 (by decide) (by decide), ur 97 (by decide) (by decide), ur 98 (by decide) (by decide), ur 99 (by decide) (by decide), ur 100 (by decide) (by decide)]
      exact r
    · have x1 : x < B 0 7 + 1 := x1
      unfold RM
      show up (up (up (up (up (up σ 101 (B 0 7) g) 102 (B 0 7) z) 103 (B 0 7) v) 104 (B 0 7) w) 105 (B 0 7) m) 94 7 (B 0 7 + 1) 101 x = pt (B 7) (B 0 7) g x ∧ up (up (up (up (up (up σ 101 (B 0 7) g) 102 (B 0 7) z) 103 (B 0 7) v) 104 (B 0 7) w) 105 (B 0 7) m) 94 7 (B 0 7 + 1) 102 x = pt (B 8) (B 0 7) z x ∧ up (up (up (up (up (up σ 101 (B 0 7) g) 102 (B 0 7) z) 103 (B 0 7) v) 104 (B 0 7) w) 105 (B 0 7) m) 94 7 (B 0 7 + 1) 103 x = pt (B 9) (B 0 7) v x ∧ up (up (up (up (up (up σ 101 (B 0 7) g) 102 (B 0 7) z) 103 (B 0 7) v) 104 (B 0 7) w) 105 (B 0 7) m) 94 7 (B 0 7 + 1) 104 x = pt (B 10) (B 0 7) w x ∧ up (up (up (up (up (up σ 101 (B 0 7) g) 102 (B 0 7) z) 103 (B 0 7) v) 104 (B 0 7) w) 105 (B 0 7) m) 94 7 (B 0 7 + 1) 105 x = pt (B 11) (B 0 7) m x
      have q101 : up (up (up (up (up (up σ 101 (B 0 7) g) 102 (B 0 7) z) 103 (B 0 7) v) 104 (B 0 7) w) 105 (B 0 7) m) 94 7 (B 0 7 + 1) 101 = pt (σ 101) (B 0 7) g := by rw [up_r (by decide), up_r (by decide), up_r (by decide), up_r (by decide), up_r (by decide), up_k]
      have q102 : up (up (up (up (up (up σ 101 (B 0 7) g) 102 (B 0 7) z) 103 (B 0 7) v) 104 (B 0 7) w) 105 (B 0 7) m) 94 7 (B 0 7 + 1) 102 = pt (σ 102) (B 0 7) z := by rw [up_r (by decide), up_r (by decide), up_r (by decide), up_r (by decide), up_k, up_r (by decide)]
      have q103 : up (up (up (up (up (up σ 101 (B 0 7) g) 102 (B 0 7) z) 103 (B 0 7) v) 104 (B 0 7) w) 105 (B 0 7) m) 94 7 (B 0 7 + 1) 103 = pt (σ 103) (B 0 7) v := by rw [up_r (by decide), up_r (by decide), up_r (by decide), up_k, up_r (by decide), up_r (by decide)]
      have q104 : up (up (up (up (up (up σ 101 (B 0 7) g) 102 (B 0 7) z) 103 (B 0 7) v) 104 (B 0 7) w) 105 (B 0 7) m) 94 7 (B 0 7 + 1) 104 = pt (σ 104) (B 0 7) w := by rw [up_r (by decide), up_r (by decide), up_k, up_r (by decide), up_r (by decide), up_r (by decide)]
      have q105 : up (up (up (up (up (up σ 101 (B 0 7) g) 102 (B 0 7) z) 103 (B 0 7) v) 104 (B 0 7) w) 105 (B 0 7) m) 94 7 (B 0 7 + 1) 105 = pt (σ 105) (B 0 7) m := by rw [up_r (by decide), up_k, up_r (by decide), up_r (by decide), up_r (by decide), up_r (by decide)]
      rw [q101, q102, q103, q104, q105]
      by_cases e : x = B 0 7
      · rw [e]
        simp only [pt_self]
        exact ⟨trivial, trivial, trivial, trivial, trivial⟩
      · simp only [pt_ne e]
        exact Ra_m hR x0 (by omega)
theorem RA_setR {σ B : Sg} {r : Nat} {g v : Int} (hR : RA (bk σ 94) B) (hr : r = 4 ∨ r = 5 ∨ r = 6) : RA (bk (up σ (94 + r) g v) 94) (setR B r g v) := by
  have ne : (94 : Nat) ≠ 94 + r := by omega
  have b : ∀ j, j ≠ r → bk (up σ (94 + r) g v) 94 j = bk σ 94 j := fun j hj => by
    unfold bk
    by_cases e : j = 0
    · rw [if_pos e, if_pos e, up_r ne]
    · rw [if_neg e, if_neg e]
      by_cases d : j < 12
      · rw [if_pos d, if_pos d, up_r (by omega)]
      · rw [if_neg d, if_neg d]
  have br : bk (up σ (94 + r) g v) 94 r = pt (bk σ 94 r) g v := by
    unfold bk
    rw [if_neg (by omega), if_pos (by omega), if_neg (by omega), if_pos (by omega), up_k]
  have sr : ∀ j, j ≠ r → setR B r g v j = B j := fun j hj => by unfold setR; rw [if_neg hj]
  have srr : setR B r g v r = pt (B r) g v := by unfold setR; rw [if_pos rfl]
  obtain ⟨r1, r2, r3, r4⟩ := hR
  unfold RA RH RM
  have eww : ∀ x s, ew (setR B r g v) x s = ew B x s := fun x s => by unfold ew; rw [sr 1 (by omega), sr 3 (by omega)]
  rw [b 0 (by omega), b 1 (by omega), b 2 (by omega), b 3 (by omega), b 7 (by omega), b 8 (by omega), b 9 (by omega), b 10 (by omega), b 11 (by omega), sr 0 (by omega), sr 2 (by omega), sr 7 (by omega), sr 8 (by omega), sr 9 (by omega), sr 10 (by omega), sr 11 (by omega)]
  refine ⟨r1, r2, fun x x0 x1 => ?_, r4⟩
  obtain ⟨a1, a2, a3, a4, a5⟩ := r3 x x0 x1
  have key : ∀ j, bk σ 94 j x = B j x → bk (up σ (94 + r) g v) 94 j x = setR B r g v j x := fun j hj => by
    by_cases e : j = r
    · rw [e, br, srr]
      by_cases d : x = g
      · rw [d, pt_self, pt_self]
      · rw [pt_ne d, pt_ne d, ← e]; exact hj
    · rw [b j e, sr j e]; exact hj
  refine ⟨a1, key 4 a2, key 5 a3, key 6 a4, fun s s0 s1 => ?_⟩
  rw [eww]
  exact a5 s s0 s1
theorem r_mark174 {σ0 σ : Sg} {post : Po} {n q x2 x3 x4 x5 x6 : Int} (h : RX σ0 σ n q) (hp : post none σ) : V mX12_takeMark 174 [some (vr 94), none, some (vi x2), some (vi x3), some (vi x4), some (vi x5), some (vi x6)] [] σ post :=
  BX12_takeMark_174 ⟨h.ne.1, fun _ => hp, fun c => absurd c h.ne.2⟩
theorem r_mark125 {σ0 σ : Sg} {post : Po} {n q x2 x3 x4 x5 : Int} (h : RX σ0 σ n q) (hp : post none σ) : V mX12_takeMark 125 [some (vr 94), none, some (vi x2), some (vi x3), some (vi x4), some (vi x5), none] [] σ post :=
  BX12_takeMark_125 ⟨h.ne.1, fun _ => r_mark174 h hp, fun c => absurd c h.ne.2⟩
theorem r_mark63 {σ0 σ : Sg} {post : Po} {n q x2 x3 : Int} (h : RX σ0 σ n q) (hp : post none σ) : V mX12_takeMark 63 [some (vr 94), none, some (vi x2), some (vi x3), none, none, none] [] σ post :=
  BX12_takeMark_63 ⟨h.ne.1, fun _ => ⟨fun _ => r_mark125 h hp, fun c => absurd c h.ne.2⟩, fun c => absurd c h.ne.2⟩
theorem r_markO {σ0 σ : Sg} {post : Po} {t : Int → Int} {N s a k p : Int} {B : Sg} (hU : U0 σ0 t N) (h : RR σ0 σ B s a k p) (hW : WfB B) (hn : B 0 7 < 60) (p0 : 0 ≤ p) (p1 : p ≤ N) (hf : ∀ (f : Int × Int) (σ' : Sg), pMark t N B p = .inl f → RX σ0 σ' f.1 f.2 → post none σ') (ho : ∀ (B' : Sg) (e : Int) (σ' : Sg), pMark t N B p = .inr (B', e) → RR σ0 σ' B' s a k e → (WfB B' ∧ alsoSum B' = alsoSum B) → (p < e ∧ e ≤ N) → post none σ') : Cl mX12_takeHead [vr 94] σ (pI fun z6 σ6 => (rng (σ6 94 18)) ∧ ((¬ (σ6 94 18) = 0 → V mX12_takeMark 63 [some (vr 94), none, some (vi z6), some (vi (-1)), none, none, none] [] σ6 post) ∧ ((σ6 94 18) = 0 → Cl mX12_here [vr 94] σ6 (pI fun z7 σ7 => (rng z7) ∧ ((¬ z7 = 47 → V mX12_takeMark 63 [some (vr 94), none, some (vi z6), some (vi (-1)), none, none, none] [] σ7 post) ∧ (z7 = 47 → Cl mX12_takeSub [vr 94, vi z6] (up σ7 94 15 ((σ7 94 15) + 1)) (pI fun z8 σ8 => V mX12_takeMark 63 [some (vr 94), none, some (vi z6), some (vi z8), none, none, none] [] σ8 post))))))) := by
  have n1 := hU.1.1
  have rest : ∀ (B1 : Sg) (g q1 e1 : Int) (B2 : Sg) (z e2 : Int) (τ : Sg), pHd t N B p = .inr (B1, g, q1, e1) → pSl t N B1 g e1 = .inr (B2, z, e2) → RR σ0 τ B2 s a k e2 → WfB B2 → alsoSum B2 = alsoSum B → B2 0 7 < 60 → (0 ≤ g ∧ g < B2 0 0 ∧ -1 ≤ z ∧ z < B2 2 g) → (p < e2 ∧ e2 ≤ N) → V mX12_takeMark 63 [some (vr 94), none, some (vi g), some (vi z), none, none, none] [] τ post := by
    intro B1 g q1 e1 B2 z e2 τ u1 u2 h2 W2 A2 M2 G2 E2
    have pm : pMark t N B p = match pNm t N 1 99 e2 with
      | .inl f => .inl f
      | .inr (v, e3) => match pDs t N v e3 with
        | .inl f => .inl f
        | .inr (w, e4) => match pMn t N e4 with
          | .inl f => .inl f
          | .inr (m, e5) => .inr (putM B2 g z v w m, e5) := by
      unfold pMark
      rw [u1]
      dsimp only
      rw [u2]
      rfl
    refine BX12_takeMark_63 ⟨h2.eq.1, fun c => absurd h2.eq.2 c, fun _ => r_num hU h2 (by omega) E2.2 (by decide) (by decide) (fun f σ1 x hw h3 _ => ⟨_, rfl, h3.ne.1, fun _ => r_mark125 h3 (hf f σ1 (by rw [pm, hw]) h3), fun c => absurd c h3.ne.2⟩) (fun v e3 σ1 hw vb eb h3 => ⟨_, rfl, h3.eq.1, fun c => absurd h3.eq.2 c, fun _ => ?_⟩)⟩
    rw [hw] at pm
    dsimp only at pm
    have kb := sk_b (f := isB) (t := t) (N := N) (p := e3) eb.2
    have pd : pDs t N v e3 = if sk isB t N e3 < N ∧ t (sk isB t N e3) = 45 then pNm t N (v + 1) 99 (sk isB t N e3 + 1) else .inr (v, sk isB t N e3) := rfl
    have fin : ∀ (w e4 : Int) (ρ : Sg), pDs t N v e3 = .inr (w, e4) → RR σ0 ρ B2 s a k e4 → (v ≤ w ∧ w ≤ 99) → (e3 ≤ e4 ∧ e4 ≤ N) → V mX12_takeMark 125 [some (vr 94), none, some (vi g), some (vi z), some (vi v), some (vi w), none] [] ρ post := by
      intro w e4 ρ hd h4 wb e4b
      rw [hd] at pm
      dsimp only at pm
      have k4 := sk_b (f := isB) (t := t) (N := N) (p := e4) e4b.2
      have wm : pMn t N e4 = @ite _ (at_ isL t N (sk isB t N e4)) (Classical.propDecidable _) (@ite _ (isWd t (sk isB t N e4) (sk isL t N (sk isB t N e4)) (txB 6)) (Classical.propDecidable _) (.inr (1, sk isL t N (sk isB t N e4))) (.inl (1, sk isB t N e4))) (.inr (0, sk isB t N e4)) := rfl
      have lay : ∀ (m e5 : Int) (ω : Sg), pMn t N e4 = .inr (m, e5) → (m = 0 ∨ m = 1) → (e4 ≤ e5 ∧ e5 ≤ N) → RR σ0 ω B2 s a k e5 → V mX12_takeMark 174 [some (vr 94), none, some (vi g), some (vi z), some (vi v), some (vi w), some (vi m)] [] ω post := by
        intro m e5 ω hm hm2 e5b h5
        rw [hm] at pm
        have ok := putM_ok (s := z) W2 G2.1 G2.2.1 G2.2.2.1 G2.2.2.2 vb.1 wb.1 wb.2 hm2 M2
        exact BX12_takeMark_174 ⟨h5.eq.1, fun c => absurd h5.eq.2 c, fun _ => r_lay h5 W2 M2 hm2 (fun σ6 h6 => ⟨rfl, ho _ e5 σ6 pm h6 ⟨ok.1, by rw [ok.2]; exact A2⟩ (by omega)⟩)⟩
      refine BX12_takeMark_125 ⟨h4.eq.1, fun c => absurd h4.eq.2 c, fun _ => r_hereO hU h4 (by omega) e4b.2 (fun σ5 y h5 ry hy => ⟨_, rfl, ?_⟩)⟩
      have idem := sk_idem (f := isB) (t := t) (N := N) (p := e4) e4b.2
      generalize sk isB t N e4 = q at *
      have aty : isL y = true ↔ at_ isL t N q := by
        unfold at_
        rcases hy with ⟨y1, y2⟩ | ⟨y1, y2⟩
        · rw [y1]
          constructor
          · intro x; exact absurd x (by decide)
          · intro x; omega
        · rw [y1]
          exact ⟨fun x => ⟨y2, x⟩, fun x => x.2⟩
      refine r_isLetter ry (fun c => ⟨_, rfl, b1' ?_⟩) (fun c => ⟨_, rfl, b0' ?_⟩)
      · have at1 := aty.1 c
        rw [if_pos at1] at wm
        refine r_takeWord hU h5 (by omega) k4.2 (fun σ6 h6 h16 h17 => ⟨rfl, ?_⟩)
        rw [idem] at h6 h16 h17
        have lb := sk_b (f := isL) (t := t) (N := N) (p := q) k4.2
        generalize sk isL t N q = e at *
        have isw := r_isWord (post := pI fun z4 σ4 => Cl mX12_want [vr 94, vi z4, vi 1, vi (σ4 94 16)] σ4 (pI fun z5 σ5 => V mX12_takeMark 174 [some (vr 94), none, some (vi g), some (vi z), some (vi v), some (vi w), some (vi z5)] [] σ5 post)) (u := [109, 97, 105, 110]) hU h6.1 h16 h17 (by omega) lb.1 lb.2 (by decide) (gd_r5 (by decide))
        refine isw (fun d => ⟨_, rfl, ?_⟩) (fun d => ⟨_, rfl, ?_⟩)
        · rw [← tx_6] at d
          rw [if_pos d] at wm
          exact r_wantT h6 (by decide) (by decide) ⟨_, rfl, lay 1 e σ6 wm (Or.inr rfl) (by omega) h6⟩
        · rw [← tx_6] at d
          rw [if_neg d] at wm
          rw [h16]
          exact r_wantF h6 (by decide) (fun σ7 h7 => ⟨_, rfl, r_mark174 h7 (hf (1, q) σ7 (by rw [pm, wm]) h7)⟩)
      · have at1 : ¬ at_ isL t N q := fun x => c (aty.2 x)
        rw [if_neg at1] at wm
        exact lay 0 q σ5 wm (Or.inl rfl) (by omega) h5
    refine r_hereO hU h3 (by omega) eb.2 (fun σ2 y h4 ry hy => ⟨_, rfl, ry, fun c => ?_, fun c => ?_⟩)
    · have nc : ¬ (sk isB t N e3 < N ∧ t (sk isB t N e3) = 45) := fun x => c ((hz_c (by decide) hy).2 x)
      rw [if_neg nc] at pd
      exact fin v _ σ2 pd h4 ⟨Int.le_refl _, vb.2⟩ (by omega)
    · have yc := (hz_c (by decide) hy).1 c
      rw [if_pos yc] at pd
      refine r_num hU h4.adv (by omega) (by omega) (by omega) (by decide) (fun f σ3 x hw3 h6 _ => ⟨_, rfl, r_mark125 h6 (hf f σ3 ?_ h6)⟩) (fun w e4 σ3 hw3 wb e4b h6 => ⟨_, rfl, fin w e4 σ3 (by rw [pd, hw3]) h6 (by omega) (by omega)⟩)
      rw [pm, pd, hw3]
  refine r_head hU h hW p0 p1 (fun f σ1 x hw h1 => ⟨_, rfl, h1.ne.1, fun _ => r_mark63 h1 (hf f σ1 (by unfold pMark; rw [hw]) h1), fun c => absurd c h1.ne.2⟩) (fun B1 g q1 e1 σ1 hw h1 _ => ⟨_, rfl, h1.eq.1, fun c => absurd h1.eq.2 c, fun _ => ?_⟩)
  obtain ⟨⟨W1, A1, M1⟩, G1, _, Q1, _, _⟩ := pHd_ok hW p1 hw
  have kb := sk_b (f := isB) (t := t) (N := N) (p := e1) Q1.2.2
  have ps : pSl t N B1 g e1 = if sk isB t N e1 < N ∧ t (sk isB t N e1) = 47 then pSb t N B1 g (sk isB t N e1 + 1) else .inr (B1, -1, sk isB t N e1) := rfl
  have ws := (W1.2.2.1 g G1.1 G1.2).1
  refine r_hereO hU h1 (by omega) Q1.2.2 (fun σ2 y h2 ry hy => ⟨_, rfl, ry, fun c => ?_, fun c => ?_⟩)
  · have nc : ¬ (sk isB t N e1 < N ∧ t (sk isB t N e1) = 47) := fun x => c ((hz_c (by decide) hy).2 x)
    rw [if_neg nc] at ps
    exact rest B1 g q1 e1 B1 (-1) _ σ2 hw ps h2 W1 A1 (by omega) ⟨G1.1, G1.2, by decide, by omega⟩ (by omega)
  · have yc := (hz_c (by decide) hy).1 c
    rw [if_pos yc] at ps
    refine r_sub hU h2.adv W1 G1.1 G1.2 (by omega) (by omega) (fun f σ3 x hw3 h4 => ⟨_, rfl, r_mark63 h4 (hf f σ3 ?_ h4)⟩) (fun B2 z e2 σ3 hw3 h4 => ⟨_, rfl, ?_⟩)
    · unfold pMark
      rw [hw]
      dsimp only
      rw [ps, hw3]
    · obtain ⟨⟨W2, A2, M2, H2⟩, S2, E2⟩ := pSb_ok W1 G1.1 G1.2 (show sk isB t N e1 + 1 ≤ N by omega) hw3
      exact rest B1 g q1 e1 B2 z e2 σ3 hw (by rw [ps, hw3]) h4 W2 (by rw [A2, A1]) (by omega) ⟨G1.1, by omega, by omega, S2.2⟩ (by omega)
