/-! ===== PURE HALF, by hand: the ways of heads; offerFits ===== -/
theorem tens_rowT {w : Int} : ∀ (us : List (List Int)) (col : Int), 1 ≤ tens (rowT w col us)
  | [], _ => by rw [rowT, tens, tens, if_pos rfl]; decide
  | u :: us, col => by
    have h1 := tens_rowT (w := w) us (col + 2 + u.length)
    have h2 := tens_rowT (w := w) us (4 + u.length)
    rw [rowT]
    split
    · rw [tens_app]
      have := (tens_nn ([44, 32] ++ u)).1
      omega
    · rw [tens_app]
      have := (tens_nn ([44, 10, 32, 32, 32, 32] ++ u)).1
      omega
theorem tens_rowB (w : Int) (u : List Int) (us : List (List Int)) : 1 ≤ tens (rowB w u us) := by
  unfold rowB
  rw [tens_app]
  have := (tens_nn u).1
  have := tens_rowT (w := w) us u.length
  omega
theorem prd_tens {B : Sg} {how w h : Int} (h4 : -1 ≤ B 4 h) : prd B h ↔ 0 < tens (hdB B how w h h 0) := by
  constructor
  · intro hp
    have a : 0 ≤ tens (if B 5 h ≠ 0 then alsB B how w (B 5 h) else []) := (tens_nn _).1
    unfold hdB
    rw [tens_app]
    have main : 1 ≤ tens (if 0 < nM B h (-2) then
    rowB w (wbl (B 1 h)) ((rL B h (if (0 : Int) = 1 then -2 else -1)).map runB) ++ (if (0 : Int) = 1 then [] else subsB B how w h) ++ (if h = h ∧ B 4 h ≠ -1 then rowB w ([32, 32] ++ seeB ++ wbl (B 1 (B 4 h))) [] else [])
  else if h = h ∧ B 4 h ≠ -1 then rowB w (wbl (B 1 h) ++ [44, 32] ++ seeB ++ wbl (B 1 (B 4 h))) []
  else if B 5 h ≠ 0 then rowB w (wbl (B 1 h)) [] else []) := by
      split
      · rw [tens_app, tens_app]
        have x := tens_rowB w (wbl (B 1 h)) ((rL B h (if (0 : Int) = 1 then -2 else -1)).map runB)
        have y : 0 ≤ tens (if (0 : Int) = 1 then [] else subsB B how w h) := (tens_nn _).1
        have z : 0 ≤ tens (if h = h ∧ B 4 h ≠ -1 then rowB w ([32, 32] ++ seeB ++ wbl (B 1 (B 4 h))) [] else []) := (tens_nn _).1
        omega
      · rename_i c
        split
        · exact tens_rowB _ _ _
        · rename_i d
          split
          · exact tens_rowB _ _ _
          · rename_i e
            exfalso
            rcases hp with q | q | q
            · unfold fil at q
              rw [decide_eq_true_iff] at q
              exact c q
            · exact d ⟨rfl, by omega⟩
            · exact e q
    omega
  · intro hp
    by_cases c : prd B h
    · exact c
    · rw [hdB_np h4 c, tens] at hp
      omega
def fsb (B : Sg) (h : Int) : Int := cnt (fun s => decide (0 < nM B h s)) (B 2 h).toNat
theorem fsb_b {B : Sg} (hW : WfB B) {h : Int} (h0 : 0 ≤ h) (h1 : h < B 0 0) : 0 ≤ fsb B h ∧ fsb B h ≤ 6 := by
  have := cnt_b (fun s => decide (0 < nM B h s)) (B 2 h).toNat
  have := (hW.2.2.1 h h0 h1).1
  unfold fsb
  omega
theorem fsb_fil {B : Sg} {h : Int} (hp : 0 < fsb B h) : fil B h = true := by
  unfold fsb at hp
  obtain ⟨i, _, hi⟩ := (cnt_pos _).1 hp
  rw [decide_eq_true_iff] at hi
  unfold fil
  rw [decide_eq_true_iff]
  by_cases c : 0 < nM B h (-2)
  · exact c
  · exact absurd hi (nM_z h c (by omega))
theorem fsb_cnt {B : Sg} (hW : WfB B) {h z : Int} (h0 : 0 ≤ h) (h1 : h < B 0 0) (hz : ∀ g : Int, 0 ≤ g → has z g = decide (0 < nM B h g)) : cnt (fun g => has z g) 16 = fsb B h := by
  have ws := (hW.2.2.1 h h0 h1).1
  unfold fsb
  rw [← cnt_cut (p := fun s => decide (0 < nM B h s)) (n := (B 2 h).toNat) (fun i hi => by
    rw [decide_eq_false_iff_not]
    intro c
    unfold nM at c
    obtain ⟨k, k1, k2⟩ := (cnt_pos _).1 c
    have e := isM_iff.1 k2
    have wm := hW.2.2.2.1 k (by omega) (by omega)
    have w2 := wm.2.1.2
    rw [e.1] at w2
    rcases e.2 with q | q <;> omega) 16 (by omega)]
  exact cnt_congr 16 (fun i hi => hz i (by omega))
noncomputable def FLn (B : Sg) (how w0 h w : Int) : Int := if w = 0 then tens (hdB B how w0 h h 0) else if w = 1 ∧ 0 < fsb B h then tens (hdB B how w0 h h 1) else 0
noncomputable def FLs (B : Sg) (how w0 h w : Int) : Int := if w = 0 then 0 else if w = 1 then (if 0 < fsb B h then (B 6 h + 1) * fsb B h else 268435456) else (if 0 < tens (hdB B how w0 h h 0) then (B 6 h + 1) * 20 else 268435456)
theorem FL_ok {B : Sg} (hW : WfB B) (how w0 : Int) : okW (FLn B how w0) (FLs B how w0) (B 0 0) := by
  intro h h0 h1
  have t0 := hd_tens hW (how := how) (w := w0) (fold := 0) h0 h1 h0 h1
  have t1 := hd_tens hW (how := how) (w := w0) (fold := 1) h0 h1 h0 h1
  have wa := (hW.2.2.1 h h0 h1).2.2.2.1
  have fb := fsb_b hW h0 h1
  have m0 : 0 ≤ (B 6 h + 1) * fsb B h := Int.mul_nonneg (by omega) fb.1
  have m1 : (B 6 h + 1) * fsb B h ≤ 100 * 6 := Int.mul_le_mul (by omega) fb.2 fb.1 (by decide)
  refine ⟨fun w a b => ⟨?_, ?_⟩, ?_, ?_, fun c => ?_, fun c => ?_⟩
  · unfold FLn
    split
    · exact t0
    · split
      · exact t1
      · decide
  · unfold FLs
    split
    · exact Or.inr (by decide)
    · split
      · split
        · exact Or.inr (by omega)
        · exact Or.inl rfl
      · split
        · exact Or.inr (by omega)
        · exact Or.inl rfl
  · unfold FLs; rw [if_pos rfl]
  · unfold FLn; rw [if_neg (by decide), if_neg (fun z => by omega)]
  · unfold FLn at c
    rw [if_pos rfl] at c
    unfold FLs
    rw [if_neg (by decide), if_neg (by decide), if_pos c]
    omega
  · unfold FLs at c
    rw [if_neg (by decide), if_pos rfl] at c
    unfold FLn
    rw [if_neg (by decide), if_neg (fun z => ?_)]
    rw [if_pos z.2] at c
    omega
theorem c_fclear {σ : Sg} {post : Po} {h : Int} (h0 : 0 ≤ h) (h1 : h < 16) (hp : ∀ σ' : Sg, Fr [87, 88] σ σ' → (∀ i : Int, σ' 87 i = if h * 3 ≤ i ∧ i < h * 3 + 3 then 0 else σ 87 i) → (∀ i : Int, σ' 88 i = if h * 3 ≤ i ∧ i < h * 3 + 3 then 268435456 else σ 88 i) → post none σ') : Cl mX1_clear [vr 85, vi h] σ post := by
  have loop : ∀ (d : Nat) (x : Int) (τ : Sg), x + d = 3 → 0 ≤ x → Fr [87, 88] σ τ → (∀ i : Int, τ 87 i = if h * 3 ≤ i ∧ i < h * 3 + x then 0 else σ 87 i) → (∀ i : Int, τ 88 i = if h * 3 ≤ i ∧ i < h * 3 + x then 268435456 else σ 88 i) → V mX1_clear 2 [some (vr 85), some (vi h), some (vi x)] [] τ post := by
    intro d
    induction d with
    | zero =>
      intro x τ hx x0 hF a b
      rw [show x = 3 by omega] at a b ⊢
      exact BX1_clear_2 ⟨by decide, fun _ => hp τ hF a b, fun c => absurd (by decide) c⟩
    | succ d ih =>
      intro x τ hx x0 hF a b
      refine BX1_clear_2 ⟨by omega, fun c => absurd c (by omega), fun _ => ⟨by omega, ih (x + 1) _ (by omega) (by omega) ((hF.u (by simp)).u (by simp)) (fun i => ?_) (fun i => ?_)⟩⟩
      · rw [up_r (by decide), up_k]
        by_cases e : i = h * 3 + x
        · rw [e, pt_self, if_pos (by omega)]
        · rw [pt_ne e, a i]
          by_cases c : h * 3 ≤ i ∧ i < h * 3 + x
          · rw [if_pos c, if_pos (by omega)]
          · rw [if_neg c, if_neg (by omega)]
      · rw [up_k, up_r (by decide)]
        by_cases e : i = h * 3 + x
        · rw [e, pt_self, if_pos (by omega)]
        · rw [pt_ne e, b i]
          by_cases c : h * 3 ≤ i ∧ i < h * 3 + x
          · rw [if_pos c, if_pos (by omega)]
          · rw [if_neg c, if_neg (by omega)]
  exact EX1_clear (loop 3 0 σ (by decide) (by decide) Fr.rf (fun i => by rw [if_neg (by omega)]) (fun i => by rw [if_neg (by omega)]))
theorem c_foffer {σ : Sg} {post : Po} {h w x y : Int} (h0 : 0 ≤ h) (h1 : h < 16) (w0 : 0 ≤ w) (w1 : w ≤ 2) (hp : ∀ σ' : Sg, Fr [87, 88] σ σ' → (∀ i : Int, σ' 87 i = if i = h * 3 + w then x else σ 87 i) → (∀ i : Int, σ' 88 i = if i = h * 3 + w then y else σ 88 i) → post none σ') : Cl mX1_offer [vr 85, vi h, vi w, vi x, vi y] σ post := by
  refine EX1_offer ⟨by omega, hp _ ((Fr.rf.u (by simp)).u (by simp)) (fun i => ?_) (fun i => ?_)⟩
  · rw [up_r (by decide), up_k]
    rfl
  · rw [up_k, up_r (by decide)]
    rfl
def Fx : List Nat := [67, 68, 69, 58, 59, 60, 61, 62, 63, 87, 88]
theorem c_offerFits {σ : Sg} {post : Po} (hI : Inv σ) (pr : PrOK σ) (hp : ∀ σ' : Sg, Fr Fx σ σ' → WR σ' (FLn (bk σ 5) (σ 0 3) (σ 0 4)) (FLs (bk σ 5) (σ 0 3) (σ 0 4)) (σ 5 0) → post none σ') : Cl mX11_offerFits [vr 0] σ post := by
  obtain ⟨⟨h1, h2, ⟨h3, h3'⟩, h4, h5⟩, h6, h7, ⟨hW, hR⟩, ⟨h10, h11⟩, h12⟩ := id hI
  have wh := Wb_heads hW
  refine EX11_offerFits (EX8_clear rfl ⟨rfl, ?_⟩)
  have loop : ∀ (d j : Nat) (υ : Sg) (L : List Int), (j : Int) + d = σ 5 0 → Fr Fx σ υ → SH υ 67 L 0 (σ 0 4) [] → (L.length : Int) ≤ cap (bk σ 5) j → WR υ (FLn (bk σ 5) (σ 0 3) (σ 0 4)) (FLs (bk σ 5) (σ 0 3) (σ 0 4)) j → V mX11_offerFits 13 [some (vr 0), some (vi (j : Int)), none, none] [] υ post := by
    intro d
    induction d with
    | zero =>
      intro j υ L hj hF hS hL hR
      obtain ⟨e5, e0, e50, e1⟩ := hF.b5 (by decide)
      refine BX11_offerFits_13 ⟨by rw [e0]; exact h1.1, by omega, by rw [e50]; omega, fun _ => hp υ hF ?_, fun c => absurd (by rw [e50]; omega) c⟩
      rw [show (j : Int) = σ 5 0 by omega] at hR
      exact hR
    | succ d ih =>
      intro j υ L hj hF hS hL hR
      obtain ⟨e5, e0, e50, e1⟩ := hF.b5 (by decide)
      have hj1 : (j : Int) < bk σ 5 0 0 := by show (j : Int) < σ 5 0; omega
      have cu := cap_up (bk σ 5) (m := j) (j + 1) (by omega)
      have el := pr.2.2 j (by omega) (by omega)
      have pt := prd_tens (B := bk σ 5) (how := σ 0 3) (w := σ 0 4) (h := j) (hW.2.2.1 j (by omega) hj1).2.1.1
      have tb := hd_tens hW (how := σ 0 3) (w := σ 0 4) (fold := 0) (h := (j : Int)) (by omega) hj1 (by omega) hj1
      have wa := (hW.2.2.1 j (by omega) hj1).2.2.2.1
      have wa : 0 ≤ σ 11 j ∧ σ 11 j ≤ 99 := wa
      refine BX11_offerFits_13 ⟨by rw [e0]; exact h1.1, by omega, by rw [e50]; omega, fun c => absurd c (by rw [e50]; omega), fun _ => c_fclear (by omega) (by omega) (fun σ1 F1 a1 b1 => ⟨rfl, by omega, c_foffer (by omega) (by omega) (by decide) (by decide) (fun σ2 F2 a2 b2 => ⟨rfl, ?_⟩)⟩)⟩
      have l1 : σ1 1 j = tens (hdB (bk σ 5) (σ 0 3) (σ 0 4) j j 0) := by rw [F1 1 (by decide), e1]; exact el
      have l2 : σ2 1 j = tens (hdB (bk σ 5) (σ 0 3) (σ 0 4) j j 0) := by rw [F2 1 (by decide)]; exact l1
      have G2 : Fr Fx σ σ2 := (hF.tr (F1.mo (by decide))).tr (F2.mo (by decide))
      obtain ⟨g5, g0, g50, g1⟩ := G2.b5 (by decide)
      have S2 : SH σ2 67 L 0 (σ 0 4) [] := (hS.fr F1 (by decide) (by decide) (by decide)).fr F2 (by decide) (by decide) (by decide)
      dsimp only
      rw [l2]
      rw [l1] at a2
      refine ⟨by omega, fun c => ?_, fun c => ⟨by rw [g0]; exact h1.1, c_markedSubs rfl (by rw [g5]; exact hW) (by omega) (fun z z0 z1 hz => ⟨_, rfl, c_bitCount z0 (by omega) ⟨_, rfl, ?_⟩⟩)⟩⟩
      · refine ih (j + 1) σ2 L (by omega) G2 S2 (by omega) (fun h w h0 h1 w0 w1 => ?_)
        rw [a2, b2, a1, b1]
        by_cases e : h = j
        · subst e
          have nf : ¬ 0 < fsb (bk σ 5) j := fun z => by have := pt.1 (Or.inl (fsb_fil z)); omega
          have w3 : w = 0 ∨ w = 1 ∨ w = 2 := by omega
          unfold FLn FLs
          rcases w3 with q | q | q <;> subst q
          · rw [if_pos rfl, if_pos rfl, if_pos rfl, if_pos rfl]; exact ⟨rfl, rfl⟩
          · rw [if_neg (by omega), if_pos (by omega), if_neg (by decide), if_neg (fun z => nf z.2), if_neg (by omega), if_pos (by omega), if_neg (by decide), if_pos rfl, if_neg nf]
            exact ⟨rfl, rfl⟩
          · rw [if_neg (by omega), if_pos (by omega), if_neg (by decide), if_neg (fun z => by omega), if_neg (by omega), if_pos (by omega), if_neg (by decide), if_neg (by decide), if_neg (by omega)]
            exact ⟨rfl, rfl⟩
        · rw [if_neg (by omega), if_neg (by omega), if_neg (by omega), if_neg (by omega)]
          exact hR h w h0 (by omega) w0 w1
      · rw [g5] at hz
        have fc := fsb_cnt hW (h := j) (by omega) hj1 hz
        have fb := fsb_b hW (h := j) (by omega) hj1
        have e11 : σ2 11 j = bk σ 5 6 j := by rw [G2 11 (by decide)]; rfl
        dsimp only
        rw [fc, e11]
        refine ⟨by omega, fun c2 => ?_, fun c2 => ⟨by rw [g0]; exact h1.1, ?_⟩⟩
        · refine c_foffer (by omega) (by omega) (by decide) (by decide) (fun σ3 F3 a3 b3 => ⟨rfl, ih (j + 1) σ3 L (by omega) (G2.tr (F3.mo (by decide))) (S2.fr F3 (by decide) (by decide) (by decide)) (by omega) (fun h w h0 h1 w0 w1 => ?_)⟩)
          rw [a3, b3, a2, b2, a1, b1]
          by_cases e : h = j
          · subst e
            have w3 : w = 0 ∨ w = 1 ∨ w = 2 := by omega
            unfold FLn FLs
            rcases w3 with q | q | q <;> subst q
            · rw [if_neg (by omega), if_pos rfl, if_pos rfl, if_neg (by omega), if_pos rfl, if_pos rfl]; exact ⟨rfl, rfl⟩
            · rw [if_neg (by omega), if_neg (by omega), if_pos (by omega), if_neg (by decide), if_neg (fun z => by omega), if_neg (by omega), if_neg (by omega), if_pos (by omega), if_neg (by decide), if_pos rfl, if_neg (by omega)]
              exact ⟨rfl, rfl⟩
            · rw [if_pos rfl, if_neg (by decide), if_neg (fun z => by omega), if_pos rfl, if_neg (by decide), if_neg (by decide), if_pos (by omega)]
              exact ⟨rfl, rfl⟩
          · rw [if_neg (by omega), if_neg (by omega), if_neg (by omega), if_neg (by omega), if_neg (by omega), if_neg (by omega)]
            exact hR h w h0 (by omega) w0 w1
        · have c := hd_cap hW (how := σ 0 3) (w := σ 0 4) (fold := 1) (h := (j : Int)) (by omega) hj1 (by omega) hj1
          have cs := cap_s (bk σ 5) j
          have cb := cap_b hW (n := j + 1) (by show ((j + 1 : Nat) : Int) ≤ σ 5 0; omega)
          refine c_setHead (how := σ 0 3) rfl (by decide) (by rw [g5]; exact hW) (by omega) (by rw [g50]; omega) (by omega) (by rw [g50]; omega) (Or.inr rfl) h3' (by rw [G2 53 (by decide)]; exact pr.1.1) (fun i i0 i1 => by rw [G2 55 (by decide), g5, g50]; rw [g50] at i1; exact pr.1.2 i i0 i1) S2 (by omega) (by rw [g5, List.length_append]; omega) (fun σ3 F3 S3 => ⟨_, rfl, ?_⟩)
          rw [g5] at S3
          rw [g5]
          have t87 : σ3 87 = σ2 87 := F3 87 (by decide)
          have t88 : σ3 88 = σ2 88 := F3 88 (by decide)
          refine c_foffer (by omega) (by omega) (by decide) (by decide) (fun σ4 F4 a4 b4 => ⟨rfl, c_foffer (by omega) (by omega) (by decide) (by decide) (fun σ5 F5 a5 b5 => ⟨rfl, ih (j + 1) σ5 _ (by omega) (((G2.tr (F3.mo (by decide))).tr (F4.mo (by decide))).tr (F5.mo (by decide))) ((S3.fr F4 (by decide) (by decide) (by decide)).fr F5 (by decide) (by decide) (by decide)) (by rw [List.length_append]; omega) (fun h w h0 h1 w0 w1 => ?_)⟩)⟩)
          rw [a5, b5, a4, b4, t87, t88, a2, b2, a1, b1]
          by_cases e : h = j
          · subst e
            have w3 : w = 0 ∨ w = 1 ∨ w = 2 := by omega
            unfold FLn FLs
            rcases w3 with q | q | q <;> subst q
            · rw [if_neg (by omega), if_neg (by omega), if_pos rfl, if_pos rfl, if_neg (by omega), if_neg (by omega), if_pos rfl, if_pos rfl]; exact ⟨rfl, rfl⟩
            · rw [if_neg (by omega), if_pos rfl, if_neg (by decide), if_pos ⟨rfl, by omega⟩, if_neg (by omega), if_pos rfl, if_neg (by decide), if_pos rfl, if_pos (by omega)]
              exact ⟨rfl, rfl⟩
            · rw [if_pos rfl, if_neg (by decide), if_neg (fun z => by omega), if_pos rfl, if_neg (by decide), if_neg (by decide), if_pos (by omega)]
              exact ⟨rfl, rfl⟩
          · rw [if_neg (by omega), if_neg (by omega), if_neg (by omega), if_neg (by omega), if_neg (by omega), if_neg (by omega), if_neg (by omega), if_neg (by omega)]
            exact hR h w h0 (by omega) w0 w1
  exact loop (σ 5 0).toNat 0 _ [] (by omega) (Fr_clear.mo (by decide)) SH_clear (by show (0 : Int) ≤ 0; decide) (fun h w h0 h1 => by omega)
