/-! ===== PURE HALF, by hand: runs read off the ticks; small steps ===== -/
theorem r_next_nil {σ : Sg} {post : Po} {T : Int → Int} {p : Int} (hT : ∀ x : Int, 0 ≤ x → x < 102 → σ 107 x = T x) (h3 : ∀ x, T x = 0 ∨ T x = 1 ∨ T x = 3) (p0 : 1 ≤ p) (p1 : p ≤ 100) (hR : Rep T p []) (hp : ∀ σ' : Sg, FrJ [] [24, 25, 26] σ σ' → post (some (vi 0)) σ') : Cl mX12_nextRun [vr 94, vi p] σ post := by
  refine EX12_nextRun ?_
  have l1 : ∀ (n : Nat) (x : Int) (τ : Sg), p ≤ x → x + n = 100 → FrJ [] [24, 25, 26] σ τ → τ 94 24 = x → V mX12_nextRun 5 [some (vr 94), none] [] τ post := by
    intro n
    induction n with
    | zero =>
      intro x τ x0 hx hF e
      refine BX12_nextRun_5 ⟨by omega, fun _ => ?_, fun z => absurd (by omega) z⟩
      have hF2 : FrJ [] [24, 25, 26] σ (up (up τ 94 25 (τ 94 24)) 94 26 0) := (hF.j (by decide)).j (by decide)
      have e25 : up (up τ 94 25 (τ 94 24)) 94 26 0 94 25 = 100 := by rw [up_f (by decide), up_s]; omega
      have e24 : up (up τ 94 25 (τ 94 24)) 94 26 0 94 24 = 100 := by rw [up_f (by decide), up_f (by decide)]; omega
      refine BX12_nextRun_52 ⟨by rw [e25]; decide, fun _ => ⟨by rw [e24]; decide, fun _ => hp _ (hF2.j (by decide)), fun z => absurd (by rw [e24]; decide) z⟩, fun z => absurd (by rw [e25]; decide) z⟩
    | succ n ih =>
      intro x τ x0 hx hF e
      have e7 : τ 107 (τ 94 24) = 0 := by
        rw [e, hF.1 107 (by simp) (by decide), hT x (by omega) (by omega)]
        exact hR x (by omega) (by omega)
      refine BX12_nextRun_5 ⟨by omega, fun z => absurd z (by omega), fun _ => ⟨by omega, by rw [e7]; decide, fun z => absurd e7 z, fun _ => ?_⟩⟩
      exact ih (x + 1) _ (by omega) (by omega) (hF.j (by decide)) (by rw [up_s, e])
  exact l1 (100 - p).toNat p _ (by omega) (by omega) (FrJ.rf.j (by decide)) up_s
theorem r_next_cons {σ : Sg} {post : Po} {T : Int → Int} {p a b m : Int} {R : List (Int × Int × Int)} (hT : ∀ x : Int, 0 ≤ x → x < 102 → σ 107 x = T x) (h3 : ∀ x, T x = 0 ∨ T x = 1 ∨ T x = 3) (p0 : 1 ≤ p) (hR : Rep T p ((a, b, m) :: R)) (hp : ∀ σ' : Sg, FrJ [] [24, 25, 26] σ σ' → σ' 94 24 = a → σ' 94 25 = b → σ' 94 26 = m → post (some (vi 1)) σ') : Cl mX12_nextRun [vr 94, vi p] σ post := by
  obtain ⟨y1, y2, y3, y4, y5, y6⟩ := hR
  have ym : m = 0 ∨ m = 1 := y5.elim (fun z => Or.inl z.1) (fun z => Or.inr z.1)
  refine EX12_nextRun ?_
  -- from the run's first page on
  have l2 : ∀ (n : Nat) (x : Int) (τ : Sg), a ≤ x → x + n = b + 1 → FrJ [] [24, 25, 26] σ τ → τ 94 24 = a → τ 94 25 = x → ((τ 94 26 = 0 ∧ ∀ q : Int, a ≤ q → q < x → T q ≠ 3) ∨ (τ 94 26 = 1 ∧ ∃ q : Int, a ≤ q ∧ q < x ∧ T q = 3)) → V mX12_nextRun 52 [some (vr 94), none] [] τ post := by
    intro n
    induction n with
    | zero =>
      intro x τ x0 hx hF e24 e25 e26
      have e7 : τ 107 (τ 94 25) = 0 := by
        rw [e25, hF.1 107 (by simp) (by decide), hT x (by omega) (by omega), show x = b + 1 by omega]
        exact y4
      have fin : post (some (vi 1)) (up τ 94 25 (τ 94 25 - 1)) := by
        refine hp _ (hF.j (by decide)) (by rw [up_f (by decide)]; exact e24) (by rw [up_s, e25]; omega) ?_
        rw [up_f (by decide)]
        rcases e26 with ⟨c1, c2⟩ | ⟨c1, q, c2, c3, c4⟩
        · rcases y5 with ⟨d1, d2⟩ | ⟨d1, q, d2, d3, d4⟩
          · rw [c1, d1]
          · exact absurd d4 (c2 q d2 (by omega))
        · rcases y5 with ⟨d1, d2⟩ | ⟨d1, _⟩
          · exact absurd c4 (d2 q c2 (by omega))
          · rw [c1, d1]
      refine BX12_nextRun_52 ⟨by omega, fun z => ⟨by omega, fun z2 => absurd z2 (by omega), fun _ => fin⟩, fun z => ⟨by omega, by rw [e7]; decide, fun _ => ⟨by omega, fun z2 => absurd z2 (by omega), fun _ => fin⟩, fun z2 => absurd (by rw [e7]; decide) z2⟩⟩
    | succ n ih =>
      intro x τ x0 hx hF e24 e25 e26
      have e7 : τ 107 (τ 94 25) = T x := by
        rw [e25, hF.1 107 (by simp) (by decide), hT x (by omega) (by omega)]
      have tx := y3 x x0 (by omega)
      have tx3 := h3 x
      have hm : τ 94 26 = 0 ∨ τ 94 26 = 1 := e26.elim (fun z => Or.inl z.1) (fun z => Or.inr z.1)
      have go : ∀ v : Int, ((v = 0 ∧ ∀ q : Int, a ≤ q → q < x + 1 → T q ≠ 3) ∨ (v = 1 ∧ ∃ q : Int, a ≤ q ∧ q < x + 1 ∧ T q = 3)) → V mX12_nextRun 52 [some (vr 94), none] [] (up (up τ 94 26 v) 94 25 (τ 94 25 + 1)) post := by
        intro v hv
        refine ih (x + 1) _ (by omega) (by omega) ((hF.j (by decide)).j (by decide)) ?_ (by rw [up_s, e25]) ?_
        · rw [up_f (by decide), up_f (by decide)]; exact e24
        · rw [up_f (by decide), up_s]; exact hv
      refine BX12_nextRun_52 ⟨by omega, fun z => absurd z (by omega), fun _ => ⟨by omega, by rw [e7]; omega, fun z => absurd z (by rw [e7]; omega), fun _ => ⟨by omega, fun z => go 1 ?_, fun z => ⟨fun z2 => go 0 ?_, fun z2 => go 1 ?_⟩⟩⟩⟩
      · rcases e26 with ⟨c1, _⟩ | ⟨_, q, c2, c3, c4⟩
        · exact absurd c1 z
        · exact Or.inr ⟨rfl, q, c2, by omega, c4⟩
      · rcases e26 with ⟨_, c2⟩ | ⟨c1, _⟩
        · refine Or.inl ⟨rfl, fun q q1 q2 => ?_⟩
          by_cases e : q = x
          · subst e; rw [e7] at z2; exact z2
          · exact c2 q q1 (by omega)
        · omega
      · rw [e7] at z2
        exact Or.inr ⟨rfl, x, x0, by omega, z2⟩
  have l1 : ∀ (n : Nat) (x : Int) (τ : Sg), p ≤ x → x + n = a → FrJ [] [24, 25, 26] σ τ → τ 94 24 = x → V mX12_nextRun 5 [some (vr 94), none] [] τ post := by
    intro n
    induction n with
    | zero =>
      intro x τ x0 hx hF e
      have e7 : ¬ τ 107 (τ 94 24) = 0 := by
        rw [e, hF.1 107 (by simp) (by decide), hT x (by omega) (by omega)]
        exact y3 x (by omega) (by omega)
      have e8 : rng (τ 107 (τ 94 24)) := by
        rw [e, hF.1 107 (by simp) (by decide), hT x (by omega) (by omega)]
        have := h3 x
        omega
      have go : V mX12_nextRun 52 [some (vr 94), none] [] (up (up τ 94 25 (τ 94 24)) 94 26 0) post := by
        refine l2 (b + 1 - a).toNat a _ (by omega) (by omega) ((hF.j (by decide)).j (by decide)) ?_ ?_ (Or.inl ⟨up_s, fun q q1 q2 => by omega⟩)
        · rw [up_f (by decide), up_f (by decide)]; omega
        · rw [up_f (by decide), up_s]; omega
      refine BX12_nextRun_5 ⟨by omega, fun _ => go, fun _ => ⟨by omega, e8, fun _ => go, fun z => absurd z e7⟩⟩
    | succ n ih =>
      intro x τ x0 hx hF e
      have e7 : τ 107 (τ 94 24) = 0 := by
        rw [e, hF.1 107 (by simp) (by decide), hT x (by omega) (by omega)]
        exact y2 x (by omega) (by omega)
      refine BX12_nextRun_5 ⟨by omega, fun z => absurd z (by omega), fun _ => ⟨by omega, by rw [e7]; decide, fun z => absurd e7 z, fun _ => ?_⟩⟩
      exact ih (x + 1) _ (by omega) (by omega) (hF.j (by decide)) (by rw [up_s, e])
  exact l1 (a - p).toNat p _ (by omega) (by omega) (FrJ.rf.j (by decide)) up_s
theorem Rep_b {T : Int → Int} : ∀ (R : List (Int × Int × Int)) (p : Int), p ≤ 100 → Rep T p R → (R.length : Int) ≤ 100 - p
  | [], p, hp, _ => by simp; omega
  | (a, b, m) :: R, p, hp, h => by
    have := Rep_b R (b + 1) (by have := h.1; omega) h.2.2.2.2.2
    have := h.1
    rw [List.length_cons]
    omega
theorem r_runsTicked {σ : Sg} {post : Po} {T : Int → Int} {R : List (Int × Int × Int)} (hT : ∀ x : Int, 0 ≤ x → x < 102 → σ 107 x = T x) (h3 : ∀ x, T x = 0 ∨ T x = 1 ∨ T x = 3) (hR : Rep T 1 R) (hp : ∀ σ' : Sg, FrJ [] [24, 25, 26] σ σ' → post (some (vi (R.length : Int))) σ') : Cl mX12_runsTicked [vr 94] σ post := by
  refine EX12_runsTicked ?_
  have loop : ∀ (R2 : List (Int × Int × Int)) (p c : Int) (τ : Sg), 1 ≤ p → p ≤ 100 → Rep T p R2 → c + R2.length = R.length → FrJ [] [24, 25, 26] σ τ → V mX12_runsTicked 4 [some (vr 94), some (vi c), some (vi p)] [] τ post := by
    intro R2
    induction R2 with
    | nil =>
      intro p c τ p0 p1 h hc hF
      have hT' : ∀ x : Int, 0 ≤ x → x < 102 → τ 107 x = T x := fun x a b => by rw [hF.1 107 (by simp) (by decide)]; exact hT x a b
      refine BX12_runsTicked_4 (r_next_nil hT' h3 p0 p1 h (fun σ' hF' => ⟨_, rfl, b0' ?_⟩))
      have e : c = R.length := by simpa using hc
      rw [e]
      exact hp σ' (hF.tr hF')
    | cons r R2 ih =>
      intro p c τ p0 p1 h hc hF
      obtain ⟨a, b, m⟩ := r
      have hT' : ∀ x : Int, 0 ≤ x → x < 102 → τ 107 x = T x := fun x a b => by rw [hF.1 107 (by simp) (by decide)]; exact hT x a b
      refine BX12_runsTicked_4 (r_next_cons hT' h3 p0 h (fun σ' hF' e1 e2 e3 => ⟨_, rfl, b1' ?_⟩))
      rw [e2]
      have := h.1
      exact ih (b + 1) (c + 1) σ' (by omega) (by omega) h.2.2.2.2.2 (by rw [List.length_cons] at hc; omega) (hF.tr hF')
  exact loop R 1 0 σ (by omega) (by omega) hR (by omega) FrJ.rf
/-! the invariant, piece by piece -/
theorem Inv.re {σ σ' : Sg} (h : Inv σ) (hS : ScOK σ') (hT : TxOK σ') (hPa : PaOK σ') (hb : ∀ k, 5 ≤ k → k ≤ 40 → σ' k = σ k) (hr : ∀ k, 95 ≤ k → k ≤ 105 → σ' k = σ k) (h0 : σ' 94 0 = σ 94 0) (h7 : σ' 94 7 = σ 94 7) (hk : ∀ k, 122 ≤ k → k ≤ 135 → σ' k = σ k) (hP : σ' 0 9 = 1 → PrOK σ') : Inv σ' := by
  obtain ⟨-, -, -, ⟨h4, h5⟩, ⟨h6, h8⟩, -⟩ := h
  have b5 : bk σ' 5 = bk σ 5 := bk5 (fun k a b => hb k a (by omega))
  exact ⟨hS, hT, hPa, ⟨by rw [b5]; exact h4, by rw [b5, bk94 h0 h7 hr]; exact h5⟩, ⟨h6.co (fun j hj => hb _ (by omega) (by omega)) hk, h8.co (fun j hj => hb _ (by omega) (by omega)) hk⟩, hP⟩
/-- the book has changed, what is printed is to be made anew -/
theorem Inv.bo {σ σ' : Sg} (h : Inv σ) (hc : ∀ k, k = 3 ∨ k = 4 ∨ (17 ≤ k ∧ k ≤ 40) ∨ (90 ≤ k ∧ k ≤ 92) ∨ k = 106 ∨ k = 118 ∨ k = 119 ∨ (122 ≤ k ∧ k ≤ 135) → σ' k = σ k) (h0 : ∀ j, j ≠ 9 → σ' 0 j = σ 0 j) (hj : ∀ j, j ∈ [(14 : Int), 19, 27, 28, 47] → σ' 94 j = σ 94 j) (hW : WfB (bk σ' 5)) (hR : RA (bk σ' 94) (bk σ' 5)) (hb : σ' 0 9 = 0 ∨ σ' 0 9 = 1) (hP : σ' 0 9 = 1 → PrOK σ') : Inv σ' := by
  obtain ⟨h1, h2, h3, -, ⟨h6, h8⟩, -⟩ := h
  have e3 := hc 3 (by omega)
  refine ⟨?_, h2.co (by rw [e3]) (hj 14 (by decide)) (hc 4 (by omega)) (hc 106 (by omega)), h3.co (by rw [hc 90 (by omega)]) (hj 47 (by decide)) (hc 91 (by omega)) (hc 92 (by omega)) (hc 118 (by omega)) (hc 119 (by omega)), ⟨hW, hR⟩, ⟨h6.co (fun j hj => hc _ (by omega)) (fun k a b => hc k (by omega)), h8.co (fun j hj => hc _ (by omega)) (fun k a b => hc k (by omega))⟩, hP⟩
  obtain ⟨a1, a2, a3, a4, a5⟩ := h1
  exact ⟨by rw [h0 1 (by decide), e3]; exact a1, by rw [e3, hj 19 (by decide)]; exact a2, by rw [h0 3 (by decide), hj 27 (by decide)]; exact a3, by rw [h0 4 (by decide), hj 28 (by decide)]; exact a4, hb⟩
theorem s_width : St_width Inv := by
  intro σ x rx hI
  have hI' := hI
  obtain ⟨⟨h1, h2, h3, ⟨h4, h4'⟩, h5⟩, h6, h7, ⟨h8, h9⟩, ⟨h10, h11⟩, h12⟩ := hI
  have fin : ∀ τ : Sg, τ = up (up (up σ 0 4 x) 0 9 0) 94 28 x → 20 ≤ x → x ≤ 80 → Inv τ := by
    intro τ e x0 x1
    have e0 : ∀ j, j ≠ 4 → j ≠ 9 → τ 0 j = σ 0 j := fun j a b => by rw [e, up_o (by decide), up_f b, up_f a]
    have e9 : τ 0 9 = 0 := by rw [e, up_o (by decide), up_s]
    have e4 : τ 0 4 = x := by rw [e, up_o (by decide), up_f (by decide), up_s]
    have e94 : ∀ j, j ≠ 28 → τ 94 j = σ 94 j := fun j a => by rw [e, up_f a, up_o (by decide), up_o (by decide)]
    have e28 : τ 94 28 = x := by rw [e, up_s]
    have ek : ∀ k, k ≠ 0 → k ≠ 94 → τ k = σ k := fun k a b => by rw [e, up_r b, up_r a, up_r a]
    exact hI'.re ⟨by rw [e0 1 (by decide) (by decide), ek 3 (by decide) (by decide)]; exact h1, by rw [ek 3 (by decide) (by decide), e94 19 (by decide)]; exact h2, by rw [e0 3 (by decide) (by decide), e94 27 (by decide)]; exact h3, by rw [e4, e28]; exact ⟨rfl, by omega⟩, by rw [e9]; exact Or.inl rfl⟩ (h6.co (by rw [ek 3 (by decide) (by decide)]) (e94 14 (by decide)) (ek 4 (by decide) (by decide)) (ek 106 (by decide) (by decide))) (h7.co (by rw [ek 90 (by decide) (by decide)]) (e94 47 (by decide)) (ek 91 (by decide) (by decide)) (ek 92 (by decide) (by decide)) (ek 118 (by decide) (by decide)) (ek 119 (by decide) (by decide))) (fun k a b => ek k (by omega) (by omega)) (fun k a b => ek k (by omega) (by omega)) (e94 0 (by decide)) (e94 7 (by decide)) (fun k a b => ek k (by omega) (by omega)) (fun q => by rw [e9] at q; cases q)
  refine EX11_width ⟨rx, fun q => ⟨_, rfl, ?_⟩, fun q => ⟨fun q2 => ⟨_, rfl, ?_⟩, fun q2 => ⟨_, rfl, ?_⟩⟩⟩
  · exact EX12_width ⟨rx, r_in (by omega) (by omega) (by omega) (fun a b => absurd a (by omega)) (fun _ => ⟨_, rfl, b0 ⟨_, rfl, rfl, by decide, Or.inl hI'⟩⟩)⟩
  · exact EX12_width ⟨rx, r_in (by omega) (by omega) (by omega) (fun a b => ⟨_, rfl, b1 ⟨_, rfl, by rw [up_o (by decide), up_o (by decide)]; exact h4, by omega, Or.inl (fin _ rfl (by omega) (by omega))⟩⟩) (fun q3 => absurd (by omega) q3)⟩
  · exact EX12_width ⟨rx, r_in (by omega) (by omega) (by omega) (fun a b => absurd b (by omega)) (fun _ => ⟨_, rfl, b0 ⟨_, rfl, rfl, by decide, Or.inl hI'⟩⟩)⟩
/-- the pairs have changed -/
theorem Inv.pa {σ σ' : Sg} (h : Inv σ) (hc : ∀ k, k ≠ 90 → k ≠ 91 → k ≠ 92 → k ≠ 94 → k ≠ 118 → k ≠ 119 → σ' k = σ k) (hj : ∀ j, j ≠ 47 → σ' 94 j = σ 94 j) (hP : PaOK σ') : Inv σ' := by
  obtain ⟨h1, h2, h3, h4, h6, h12⟩ := id h
  have e0 := hc 0 (by decide) (by decide) (by decide) (by decide) (by decide) (by decide)
  have e3 := hc 3 (by decide) (by decide) (by decide) (by decide) (by decide) (by decide)
  refine h.re ?_ (h2.co (by rw [e3]) (hj 14 (by decide)) (hc 4 (by decide) (by decide) (by decide) (by decide) (by decide) (by decide)) (hc 106 (by decide) (by decide) (by decide) (by decide) (by decide) (by decide))) hP (fun k a b => hc k (by omega) (by omega) (by omega) (by omega) (by omega) (by omega)) (fun k a b => hc k (by omega) (by omega) (by omega) (by omega) (by omega) (by omega)) (hj 0 (by decide)) (hj 7 (by decide)) (fun k a b => hc k (by omega) (by omega) (by omega) (by omega) (by omega) (by omega)) (fun q => ?_)
  · unfold ScOK
    rw [e0, e3, hj 19 (by decide), hj 27 (by decide), hj 28 (by decide)]
    exact h1
  · rw [e0] at q
    have k64 := hc 64 (by decide) (by decide) (by decide) (by decide) (by decide) (by decide)
    exact (h12 q).co ⟨by rw [e0], by rw [e0]⟩ (hc 1 (by decide) (by decide) (by decide) (by decide) (by decide) (by decide)) (bk5 (fun k a b => hc k (by omega) (by omega) (by omega) (by omega) (by omega) (by omega))) (by rw [hc 53 (by decide) (by decide) (by decide) (by decide) (by decide) (by decide)]) (hc 55 (by decide) (by decide) (by decide) (by decide) (by decide) (by decide)) ⟨by rw [k64], by rw [k64]⟩ (hc 65 (by decide) (by decide) (by decide) (by decide) (by decide) (by decide))
theorem s_forget : St_forget Inv := by
  intro σ hI
  obtain ⟨p1, p2, p3, p4⟩ := hI.2.2.1
  refine EX11_forget ⟨_, rfl, EX12_forget ⟨_, rfl, by rw [up_o (by decide)]; exact p1, by omega, Or.inl (hI.pa (fun k a b c d e f => by rw [up_r d, up_r a]) (fun j a => by rw [up_f a, up_o (by decide)]) ?_)⟩⟩
  refine ⟨by rw [up_o (by decide), up_s, up_s], by rw [up_o (by decide), up_s]; decide, fun i a b => ?_, fun i a b => ?_⟩
  · rw [up_o (by decide), up_s] at b; omega
  · rw [up_r (by decide), up_r (by decide), up_r (by decide), up_r (by decide)]; exact p4 i a b
theorem s_saw : St_saw Inv := by
  intro σ u v ru rv hI
  obtain ⟨p1, p2, p3, p4⟩ := hI.2.2.1
  have lt : σ 90 0 ≠ 0 → σ 91 (σ 90 0 - 1) = σ 118 (σ 94 47 - 1) ∧ 1 ≤ σ 118 (σ 94 47 - 1) ∧ σ 118 (σ 94 47 - 1) ≤ 99 := fun h => by
    have a := p3 (σ 90 0 - 1) (by omega) (by omega)
    have b := p4 (σ 90 0 - 1) (by omega) (by omega)
    rw [← p1]
    omega
  have no : ∀ z : Int, rng z → (¬ ((1 ≤ u ∧ u ≤ 99) ∧ 1 ≤ v ∧ v ≤ 199) → z = -1002) → (((1 ≤ u ∧ u ≤ 99) ∧ 1 ≤ v ∧ v ≤ 199) → (σ 94 47 ≠ 0 ∧ u ≤ σ 118 (σ 94 47 - 1) ∧ z = -1003) ∨ ((σ 94 47 = 0 ∨ σ 118 (σ 94 47 - 1) < u) ∧ σ 94 47 = 20 ∧ z = -1004)) → Cl mX12_saw [vr 94, vi u, vi v] σ (pI fun z2 σ2 => z = z2 ∧ rng z ∧ (Inv σ2 ∨ Inv (swp σ2))) := by
    intro z rz h1 h2
    refine EX12_saw (r_isPage ru (fun a b => ⟨_, rfl, b1' ⟨rv, r_in (by omega) (by omega) (by omega) (fun c d => ⟨_, rfl, b1 ⟨by omega, fun e => ⟨fun f => ?_, fun f => ?_⟩, fun e => ⟨by omega, ru, by omega, fun g => ⟨fun f => ?_, fun f => ?_⟩, fun g => ?_⟩⟩⟩) (fun q => ⟨_, rfl, b0 ?_⟩)⟩⟩) (fun q => ⟨_, rfl, b0' ?_⟩))
    · have := h2 ⟨⟨a, b⟩, c, d⟩; omega
    · have := h2 ⟨⟨a, b⟩, c, d⟩; omega
    · have := h2 ⟨⟨a, b⟩, c, d⟩; omega
    · have := h2 ⟨⟨a, b⟩, c, d⟩; exact ⟨_, rfl, by omega, rz, Or.inl hI⟩
    · have := h2 ⟨⟨a, b⟩, c, d⟩; exact ⟨_, rfl, by omega, rz, Or.inl hI⟩
    · exact ⟨_, rfl, by omega, rz, Or.inl hI⟩
    · exact ⟨_, rfl, by omega, rz, Or.inl hI⟩
  refine EX11_saw (c_isPage ru (fun a b => ⟨_, rfl, b1' ⟨rv, fun c => ⟨_, rfl, no _ (by decide) (fun _ => rfl) (fun z => by omega)⟩, fun c => ⟨fun d => ?_, fun d => ⟨_, rfl, no _ (by decide) (fun _ => rfl) (fun z => by omega)⟩⟩⟩⟩) (fun q => ⟨_, rfl, b0' ⟨_, rfl, no _ (by decide) (fun _ => rfl) (fun z => by omega)⟩⟩))
  have main : ∀ z1 : Int, (σ 90 0 = 0 → z1 = 0) → (¬ σ 90 0 = 0 → z1 = σ 118 (σ 94 47 - 1)) → (rng u ∧ rng z1 ∧ (z1 < u → (rng (σ 90 0)) ∧ ((σ 90 0 < 20 → Cl mX9_put [vr 90, vi u, vi v] σ (pI fun z3 σ3 => (pI fun z σ1 => Cl mX12_saw [vr 94, vi u, vi v] σ1 (pI fun z2 σ2 => z = z2 ∧ rng z ∧ (Inv σ2 ∨ Inv (swp σ2)))) (some (vi z3)) σ3)) ∧ (¬ σ 90 0 < 20 → (pI fun z σ1 => Cl mX12_saw [vr 94, vi u, vi v] σ1 (pI fun z2 σ2 => z = z2 ∧ rng z ∧ (Inv σ2 ∨ Inv (swp σ2)))) (some (vi (-1004))) σ))) ∧ (¬ z1 < u → (pI fun z σ1 => Cl mX12_saw [vr 94, vi u, vi v] σ1 (pI fun z2 σ2 => z = z2 ∧ rng z ∧ (Inv σ2 ∨ Inv (swp σ2)))) (some (vi (-1003))) σ)) := by
    intro z1 y1 y2
    refine ⟨ru, ?_, fun e => ⟨by omega, fun f => ?_, fun f => ⟨_, rfl, no _ (by decide) (fun z => by omega) (fun z => by omega)⟩⟩, fun e => ⟨_, rfl, no _ (by decide) (fun z => by omega) (fun z => ?_)⟩⟩
    · by_cases h : σ 90 0 = 0
      · rw [y1 h]; decide
      · have := lt h; rw [y2 h]; omega
    · refine EX9_put ⟨by omega, fun g => absurd g (by omega), fun g => ⟨by omega, ⟨_, rfl, ⟨_, rfl, ?_⟩⟩⟩⟩
      have key : ∀ τ : Sg, τ = up (up (up (up (up (up σ 91 (σ 90 0) u) 92 (σ 90 0) (v - u)) 90 0 (σ 90 0 + 1)) 118 (σ 90 0) u) 119 (σ 90 0) v) 94 47 (σ 90 0 + 1) → Inv τ := by
        intro τ et
        have t90 : τ 90 0 = σ 90 0 + 1 := by rw [et, up_o (by decide), up_o (by decide), up_o (by decide), up_s]
        have t94 : τ 94 47 = σ 90 0 + 1 := by rw [et, up_s]
        have t91 : τ 91 = pt (σ 91) (σ 90 0) u := by rw [et, up_r (by decide), up_r (by decide), up_r (by decide), up_r (by decide), up_r (by decide), up_k]
        have t92 : τ 92 = pt (σ 92) (σ 90 0) (v - u) := by rw [et, up_r (by decide), up_r (by decide), up_r (by decide), up_r (by decide), up_k, up_r (by decide)]
        have t118 : τ 118 = pt (σ 118) (σ 90 0) u := by rw [et, up_r (by decide), up_r (by decide), up_k, up_r (by decide), up_r (by decide), up_r (by decide)]
        have t119 : τ 119 = pt (σ 119) (σ 90 0) v := by rw [et, up_r (by decide), up_k, up_r (by decide), up_r (by decide), up_r (by decide), up_r (by decide)]
        refine hI.pa (fun k k1 k2 k3 k4 k5 k6 => by rw [et, up_r k4, up_r k6, up_r k5, up_r k1, up_r k3, up_r k2]) (fun j hj => by rw [et, up_f hj, up_o (by decide), up_o (by decide), up_o (by decide), up_o (by decide), up_o (by decide)]) ?_
        refine ⟨by rw [t90, t94], by rw [t90]; omega, fun i i0 i1 => ?_, fun i i0 i1 => ?_⟩
        · rw [t90] at i1
          rw [t91, t92, t118, t119]
          by_cases h : i = σ 90 0
          · rw [h, pt_self, pt_self, pt_self, pt_self]; omega
          · rw [pt_ne h, pt_ne h, pt_ne h, pt_ne h]; exact p3 i i0 (by omega)
        · rw [t118, t119]
          by_cases h : i = σ 90 0
          · rw [h, pt_self, pt_self]; omega
          · rw [pt_ne h, pt_ne h]; exact p4 i i0 i1
      have f94 : up (up (up σ 91 (σ 90 0) u) 92 (σ 90 0) (v - u)) 90 0 (σ 90 0 + 1) 94 47 = σ 90 0 := by rw [up_o (by decide), up_o (by decide), up_o (by decide)]; exact p1.symm
      have f118 : ∀ j, up (up (up σ 91 (σ 90 0) u) 92 (σ 90 0) (v - u)) 90 0 (σ 90 0 + 1) 118 j = σ 118 j := fun j => by rw [up_o (by decide), up_o (by decide), up_o (by decide)]
      refine EX12_saw (r_isPage ru (fun a b => ⟨_, rfl, b1' ⟨rv, r_in (by omega) (by omega) (by omega) (fun c d => ⟨_, rfl, b1 ?_⟩) (fun q => absurd (by omega) q)⟩⟩) (fun q => absurd (by omega) q))
      rw [f94, f118]
      have fin : ∀ {z : Int}, z = σ 90 0 + 1 → z = σ 90 0 + 1 ∧ rng z ∧ (Inv (up (up (up (up (up (up σ 91 (σ 90 0) u) 92 (σ 90 0) (v - u)) 90 0 (σ 90 0 + 1)) 118 (σ 90 0) u) 119 (σ 90 0) v) 94 47 (σ 90 0 + 1)) ∨ Inv (swp (up (up (up (up (up (up σ 91 (σ 90 0) u) 92 (σ 90 0) (v - u)) 90 0 (σ 90 0 + 1)) 118 (σ 90 0) u) 119 (σ 90 0) v) 94 47 (σ 90 0 + 1)))) := fun hz => ⟨hz, by omega, Or.inl (key _ rfl)⟩
      refine ⟨by omega, fun h => ⟨fun h2 => ⟨by omega, _, rfl, fin rfl⟩, fun h2 => absurd h2 (by omega)⟩, fun h => ⟨by omega, ru, ?_, fun h1 => ⟨fun h2 => ⟨by omega, _, rfl, fin rfl⟩, fun h2 => absurd h2 (by omega)⟩, fun h1 => ?_⟩⟩
      · have := lt (by omega); rw [← p1] at this; omega
      · have := y2 (by omega); rw [← p1] at this; omega
    · left
      have h : ¬ σ 90 0 = 0 := fun h => by have := y1 h; omega
      have := y2 h
      omega
  refine EX9_lastTold ⟨by omega, fun e => ⟨by omega, ⟨_, rfl, ?_⟩⟩, fun e => ⟨_, rfl, ?_⟩⟩
  · exact main _ (fun h => absurd h e) (fun h => (lt h).1)
  · exact main _ (fun _ => rfl) (fun h => absurd e h)
