/-! ===== PURE HALF, by hand: the reference's printSubs, printSee, printAlso, printHead ===== -/
theorem FrJ.pj {σ σ' : Sg} {M : List Nat} {J : List Int} (h : FrJ M J σ σ') (hM : ∀ k, k ∈ M → k ∈ Mp) (hJ : ∀ j, j ∈ J → j ∈ Jp) : FrJ Mp Jp σ σ' := h.mo hM hJ
/-- what the reference's print needs -/
def PQ (σ B : Sg) (how w : Int) : Prop := RA (bk σ 94) B ∧ σ 94 27 = how ∧ σ 94 28 = w ∧ (∀ i : Int, 0 ≤ i → i < B 0 0 → σ 108 i = ord (hkey B how) (B 0 0).toNat i)
theorem PQ.fr {σ σ' B : Sg} {how w : Int} {M : List Nat} {J : List Int} (h : PQ σ B how w) (hF : FrJ M J σ σ') (hM : ∀ k, k ∈ M → k ∈ Mp) (hJ : ∀ j, j ∈ J → j ∈ Jp) : PQ σ' B how w := by
  have hG : FrJ Mp Jp σ σ' := hF.mo hM hJ
  obtain ⟨a, b, c, d⟩ := h
  refine ⟨a.fr hG (by decide) (by decide), ?_, ?_, fun i i0 i1 => ?_⟩
  · rw [hG.2 27 (by decide)]; exact b
  · rw [hG.2 28 (by decide)]; exact c
  · rw [hG.1 108 (by decide) (by decide)]; exact d i i0 i1
theorem r_tickRuns {σ B : Sg} {Q : Sg → Prop} {how w h s : Int} {L u : List Int} (hW : WfB B) (hP : PQ σ B how w) (w0 : 0 ≤ w ∧ w ≤ 80) (rh : rng h) (rs : rng s) (hO : RO σ (L ++ u)) (h32 : σ 94 32 = u.length) (h33 : σ 94 33 = 0) (hu : u.length ≤ 40) (hZ : (L ++ rowB w u ((rL B h s).map runB)).length ≤ 19900) (hp : ∀ σ' : Sg, FrJ Mp Jp σ σ' → RO σ' (L ++ rowB w u ((rL B h s).map runB)) → Q σ') : Cl mX12_tick [vr 94, vi h, vi s] σ (pV fun σ8 => Cl mX12_putRuns [vr 94] σ8 (pV fun σ9 => Cl mX12_endLine [vr 94] σ9 (pV fun σ10 => Q σ10))) := by
  refine r_tick hW hP.1 rh rs (fun σ1 hF1 hT => ⟨rfl, ?_⟩)
  refine r_runsEnd (T := tk B h s) (w := w) (col := u.length) hT (fun x => tk_3 B h s x _) (by rw [hF1.2 28 (by decide)]; exact hP.2.2.1) w0 hZ (rL_Rep hW h s) (hO.fr hF1 (by decide) (by decide)) (by rw [hF1.2 33 (by decide)]; exact h33) (by rw [hF1.2 32 (by decide)]; exact h32) (by omega) (by unfold rowB; rw [List.append_assoc]) (fun σ2 hF2 h2 => hp σ2 ((hF1.mo (by decide) (by decide)).tr (hF2.mo (by decide) (by decide))) h2)
theorem r_slotW {B : Sg} (hW : WfB B) {σ : Sg} (hR : RA (bk σ 94) B) {h : Int} (h0 : 0 ≤ h) (h1 : h < B 0 0) : RW (σ 96) (σ 97) (7 * h + 1 + -1) (B 1 h) ∧ WW (B 1 h) ∧ 0 ≤ 7 * h + 1 + -1 ∧ 7 * h + 1 + -1 < 112 := by
  have w := hW.1
  obtain ⟨a, b⟩ := Ra_wh hW hR h0 h1
  rw [show 7 * h + 1 + -1 = 7 * h by omega]
  exact ⟨a, b, by omega, by omega⟩
theorem r_printSubs {σ B : Sg} {post : Po} {how w h : Int} {L : List Int} (hW : WfB B) (hP : PQ σ B how w) (hh : how = 0 ∨ how = 1) (w0 : 0 ≤ w ∧ w ≤ 80) (h0 : 0 ≤ h) (h1 : h < B 0 0) (hO : RO σ L) (hZ : (L ++ subsB B how w h).length ≤ 19900) (hp : ∀ σ' : Sg, FrJ Mp Jp σ σ' → RO σ' (L ++ subsB B how w h) → post none σ') : Cl mX12_printSubs [vr 94, vi h] σ post := by
  have wh := hW.1
  have ws := (hW.2.2.1 h h0 h1).1
  refine EX12_printSubs ?_
  have loop : ∀ (n j : Nat) (τ : Sg), (j : Int) + n = B 2 h → FrJ Mp Jp σ τ → RO τ (L ++ catN (fun i => subB B how w h (ord (skey B how h) (B 2 h).toNat i)) j) → V mX12_printSubs 2 [some (vr 94), some (vi h), some (vi (j : Int)), none] [] τ post := by
    intro n
    induction n with
    | zero =>
      intro j τ hj hF hT
      have hR := (hP.fr hF (by decide) (by decide)).1
      have e := Ra_subs hR h0 h1
      refine BX12_printSubs_2 ⟨by omega, by omega, by rw [e]; omega, fun _ => hp τ hF ?_, fun z => absurd (by rw [e]; omega) z⟩
      unfold subsB
      rw [show (B 2 h).toNat = j by omega]
      rw [show (B 2 h).toNat = j by omega] at hT
      exact hT
    | succ n ih =>
      intro j τ hj hF hT
      have hP' := hP.fr hF (by decide) (by decide)
      have hR := hP'.1
      have e := Ra_subs hR h0 h1
      have o := (ord_b (key := skey B how h) (n := (B 2 h).toNat) (i := j) (by omega) (by omega)).1
      refine BX12_printSubs_2 ⟨by omega, by omega, by rw [e]; omega, fun z => absurd z (by rw [e]; omega), fun _ => ?_⟩
      refine r_subOf hW hR (by rw [hP'.2.1]; exact hh) h0 h1 (by omega) ⟨_, rfl, ?_⟩
      rw [hP'.2.1]
      generalize es : ord (skey B how h) (B 2 h).toNat (j : Int) = s at o
      have nb := nMb hW h s
      have len := catN_le (fun i => subB B how w h (ord (skey B how h) (B 2 h).toNat i)) (m := j + 1) (B 2 h).toNat (by omega)
      have st : catN (fun i => subB B how w h (ord (skey B how h) (B 2 h).toNat i)) (j + 1) = catN (fun i => subB B how w h (ord (skey B how h) (B 2 h).toNat i)) j ++ subB B how w h s := by rw [catN, es]
      have hZ' : L.length + (catN (fun i => subB B how w h (ord (skey B how h) (B 2 h).toNat i)) (j + 1)).length ≤ 19900 := by
        unfold subsB at hZ
        rw [List.length_append] at hZ
        omega
      refine r_marksOf hW hR (by omega) (by omega) ⟨_, rfl, by omega, fun z => ?_, fun z => ?_⟩
      · refine ih (j + 1) τ (by omega) hF ?_
        rw [st]
        unfold subB
        rw [if_neg (by omega), List.append_nil]
        exact hT
      · have sb : subB B how w h s = rowB w ([32, 32] ++ wbl (ew B h s)) ((rL B h s).map runB) := by unfold subB; rw [if_pos (by omega)]
        have wl := wd_len hW h0 h1 (s := s) (by omega) (by omega)
        refine r_beginRow (fun σ1 hF1 f1 c1 => ⟨rfl, r_begin2 (fun σ2 hF2 u2 => ⟨rfl, r_slot ⟨_, rfl, ?_⟩⟩)⟩)
        have F2 : FrJ Mp Jp σ σ2 := (hF.tr (hF1.mo (by decide) (by decide))).tr (hF2.mo (by decide) (by decide))
        have P2 := hP.fr F2 (by decide) (by decide)
        have rw2 := Ra_w P2.1 h0 h1 (s := s) (by omega) (by omega)
        have ww := (hW.2.2.1 h h0 h1).2.2.2.2 s (by omega) (by omega)
        refine r_signWord u2 rw2 ww (by omega) (by omega) (by simp) (fun σ3 hF3 u3 => ⟨rfl, ?_⟩)
        have O3 : RO σ3 (L ++ catN (fun i => subB B how w h (ord (skey B how h) (B 2 h).toNat i)) j) := ((hT.fr hF1 (by decide) (by decide)).fr hF2 (by decide) (by decide)).fr hF3 (by decide) (by decide)
        have F3 : FrJ Mp Jp σ σ3 := F2.tr (hF3.mo (by decide) (by decide))
        have ul : ([32, 32] ++ wbl (ew B h s)).length ≤ 14 := by rw [List.length_append]; simp; omega
        have l2 : (L ++ catN (fun i => subB B how w h (ord (skey B how h) (B 2 h).toNat i)) j).length ≤ 19900 := by
          rw [List.length_append]; rw [st, List.length_append] at hZ'; omega
        refine r_unit1 O3 u3 (by omega) (by omega) (by rw [hF3.2 33 (by decide), hF2.2 33 (by decide)]; exact f1) (fun σ4 hF4 O4 c4 f4 => ⟨rfl, ?_⟩)
        have F4 : FrJ Mp Jp σ σ4 := F3.tr (hF4.mo (by decide) (by decide))
        refine r_tickRuns hW (hP.fr F4 (by decide) (by decide)) w0 (by omega) (by omega) O4 (by rw [c4, hF3.2 32 (by decide), hF2.2 32 (by decide), c1]; omega) f4 (by omega) (by rw [← sb, List.append_assoc, ← st, List.length_append]; exact hZ') (fun σ5 hF5 O5 => ih (j + 1) σ5 (by omega) (F4.tr hF5) ?_)
        rw [st, ← List.append_assoc, sb]
        exact O5
  exact loop (B 2 h).toNat 0 σ (by omega) FrJ.rf (by rw [catN, List.append_nil]; exact hO)
theorem r_printSee {σ B : Sg} {post : Po} {how w h : Int} {L : List Int} (hW : WfB B) (hP : PQ σ B how w) (h0 : 0 ≤ h) (h1 : h < B 0 0) (hs : B 4 h ≠ -1) (hO : RO σ L) (hZ : L.length ≤ 19800) (hp : ∀ σ' : Sg, FrJ Mp Jp σ σ' → RO σ' (L ++ rowB w (wbl (B 1 h) ++ [44, 32] ++ seeB ++ wbl (B 1 (B 4 h))) []) → post none σ') : Cl mX12_printSee [vr 94, vi h] σ post := by
  have wh := hW.1
  have wse := (hW.2.2.1 h h0 h1).2.1
  have l1 := wh_len hW h0 h1
  have l2 := wh_len hW (h := B 4 h) (by omega) wse.2
  refine EX12_printSee (r_beginRow (fun σ1 hF1 f1 c1 => ⟨rfl, r_begin0 (fun σ2 hF2 u2 => ⟨rfl, r_slot ⟨_, rfl, ?_⟩⟩)⟩))
  have F2 : FrJ Mp Jp σ σ2 := (hF1.mo (by decide) (by decide)).tr (hF2.mo (by decide) (by decide))
  obtain ⟨a1, a2, a3, a4⟩ := r_slotW hW (hP.fr F2 (by decide) (by decide)).1 h0 h1
  refine r_signWord u2 a1 a2 a3 a4 (by simp) (fun σ3 hF3 u3 => ⟨rfl, ?_⟩)
  rw [List.nil_append] at u3
  refine r_sign u3 (by omega) (fun σ4 hF4 u4 => ⟨rfl, r_sign u4 (by simp; omega) (fun σ5 hF5 u5 => ⟨rfl, r_signSee u5 (by simp; omega) (fun σ6 hF6 u6 => ⟨rfl, by omega, ?_⟩)⟩)⟩)
  have F6 : FrJ Mp Jp σ σ6 := F2.tr ((((hF3.tr hF4).tr hF5).tr hF6).mo (by decide) (by decide))
  have P6 := hP.fr F6 (by decide) (by decide)
  rw [Ra_see P6.1 h0 h1]
  refine r_slot ⟨_, rfl, ?_⟩
  obtain ⟨b1, b2, b3, b4⟩ := r_slotW hW P6.1 (h := B 4 h) (by omega) wse.2
  refine r_signWord u6 b1 b2 b3 b4 (by unfold seeB; simp; omega) (fun σ7 hF7 u7 => ⟨rfl, ?_⟩)
  have G7 : FrJ [110] [35] σ2 σ7 := (((hF3.tr hF4).tr hF5).tr hF6).tr hF7
  have O7 : RO σ7 L := ((hO.fr hF1 (by decide) (by decide)).fr hF2 (by decide) (by decide)).fr G7 (by decide) (by decide)
  have ul : ((((wbl (B 1 h) ++ [44]) ++ [32]) ++ seeB) ++ wbl (B 1 (B 4 h))).length ≤ 30 := by unfold seeB; simp; omega
  refine r_unit1 O7 u7 (by omega) (by omega) (by rw [G7.2 33 (by decide), hF2.2 33 (by decide)]; exact f1) (fun σ8 hF8 O8 c8 f8 => ⟨rfl, r_endLine O8 (by rw [List.length_append]; omega) (fun σ9 hF9 O9 c9 => ⟨rfl, hp σ9 ?_ ?_⟩)⟩)
  · exact ((F2.tr (G7.mo (by decide) (by decide))).tr (hF8.mo (by decide) (by decide))).tr (hF9.mo (by decide) (by decide))
  · unfold rowB rowT
    simpa using O9
theorem r_printAlso {σ B : Sg} {post : Po} {how w h : Int} {L : List Int} (hW : WfB B) (hP : PQ σ B how w) (w0 : 0 ≤ w ∧ w ≤ 80) (h0 : 0 ≤ h) (h1 : h < B 0 0) (hz : B 5 h ≠ 0) (hO : RO σ L) (hZ : L.length ≤ 19000) (hp : ∀ σ' : Sg, FrJ Mp Jp σ σ' → RO σ' (L ++ alsB B how w (B 5 h)) → post none σ') : Cl mX12_printAlso [vr 94, vi h] σ post := by
  have wh := hW.1
  have wa := (hW.2.2.1 h h0 h1).2.2.1
  generalize eset : B 5 h = set at hz hp wa
  have hne := als_ne (how := how) hW wa.1 wa.2.2 hz
  refine EX12_printAlso (r_beginRow (fun σ1 hF1 f1 c1 => ⟨rfl, ?_⟩))
  have ph2 : ∀ (n : Nat) (j : Int) (τ : Sg) (K : List Int) (col : Int), 0 ≤ j → j + n = B 0 0 → FrJ Mp Jp σ τ → RO τ K → τ 94 32 = col → τ 94 33 = 0 → 0 < col → col ≤ 100 → (K.length : Int) + 18 * n + 160 ≤ 20000 → K ++ rowT w col ((alR B how set j n).map (fun g => wbl (B 1 g))) = L ++ alsB B how w set → V mX12_printAlso 6 [some (vr 94), some (vi h), some (vi j), none] [] τ post := by
    intro n
    induction n with
    | zero =>
      intro j τ K col j0 hj hG hT h32 h33 c0 c1 hK he
      have e0 : τ 94 0 = B 0 0 := Ra_heads (hP.fr hG (by decide) (by decide)).1
      refine BX12_printAlso_6 ⟨by omega, by rw [e0]; omega, fun _ => r_endLine hT (by omega) (fun σ' hX hY cc => ⟨rfl, hp σ' (hG.tr (hX.mo (by decide) (by decide))) ?_⟩), fun y => absurd (by rw [e0]; omega) y⟩
      rw [alR, List.map_nil, rowT] at he
      rw [← he]
      exact hY
    | succ n ih =>
      intro j τ K col j0 hj hG hT h32 h33 c0 c1 hK he
      have P := hP.fr hG (by decide) (by decide)
      have e0 : τ 94 0 = B 0 0 := Ra_heads P.1
      have e99 : τ 99 h = set := (Ra_also P.1 h0 h1).trans eset
      have o := (ord_b (key := hkey B how) (n := (B 0 0).toNat) (i := j) j0 (by omega)).1
      have eo := P.2.2.2 j j0 (by omega)
      rw [alR] at he
      generalize eg : ord (hkey B how) (B 0 0).toNat j = g at o eo he
      refine BX12_printAlso_6 ⟨by omega, by rw [e0]; omega, fun y => absurd y (by rw [e0]; omega), fun _ => ⟨by omega, by omega, ?_⟩⟩
      rw [e99, eo]
      refine r_has wa.1 (by omega) o.1 (by omega) (fun hy => ⟨_, rfl, b1' ?_⟩) (fun hy => ⟨_, rfl, b0' (BX12_printAlso_104 (ih (j + 1) τ K col (by omega) (by omega) hG hT h32 h33 c0 c1 (by omega) ?_))⟩)
      · rw [h33]
        refine b0' (r_begin0 (fun σ2 hF2 u2 => ⟨rfl, ?_⟩))
        have f2 : σ2 94 33 = 0 := by rw [hF2.2 33 (by decide)]; exact h33
        dsimp only
        rw [f2]
        refine b0' (BX12_printAlso_91 (r_slot ⟨_, rfl, ?_⟩))
        obtain ⟨a1, a2, a3, a4⟩ := r_slotW hW (P.fr hF2 (by decide) (by decide)).1 o.1 (show g < B 0 0 by omega)
        have wl := wbl_len a2
        have cl := a2.2.1
        rw [if_pos hy, List.singleton_append, List.map_cons] at he
        refine r_signWord u2 a1 a2 a3 a4 (by simp) (fun σ3 hF3 u3 => ⟨rfl, ?_⟩)
        rw [List.nil_append] at u3
        have F3 : FrJ [110] [35] τ σ3 := hF2.tr hF3
        have G3 : FrJ Mp Jp σ σ3 := hG.tr (F3.mo (by decide) (by decide))
        refine r_unit2 (w := w) (col := col) (hT.fr F3 (by decide) (by decide)) u3 (by omega) (by omega) (by rw [F3.2 33 (by decide)]; exact h33) (by rw [F3.2 28 (by decide)]; exact P.2.2.1) w0 (by rw [F3.2 32 (by decide)]; exact h32) (by omega) (fun fit σ4 hF4 O4 c4 f4 => ⟨rfl, BX12_printAlso_104 ?_⟩) (fun fit σ4 hF4 O4 c4 f4 => ⟨rfl, BX12_printAlso_104 ?_⟩)
        · rw [rowT_y fit] at he
          refine ih (j + 1) σ4 _ _ (by omega) (by omega) (G3.tr (hF4.mo (by decide) (by decide))) O4 c4 f4 (by omega) (by omega) (by rw [List.length_append, List.length_append]; simp; omega) ?_
          rw [← he]
          simp
        · rw [rowT_n fit] at he
          refine ih (j + 1) σ4 _ _ (by omega) (by omega) (G3.tr (hF4.mo (by decide) (by decide))) O4 c4 f4 (by omega) (by omega) (by rw [List.length_append, List.length_append]; simp; omega) ?_
          rw [← he]
          simp
      · rw [if_neg hy, List.nil_append] at he
        exact he
  have ph1 : ∀ (n : Nat) (j : Int) (τ : Sg), 0 ≤ j → j + n = B 0 0 → FrJ Mp Jp σ τ → RO τ L → τ 94 32 = 0 → τ 94 33 = 1 → alR B how set j n ≠ [] → (∀ g gs, alR B how set j n = g :: gs → L ++ rowB w ([32, 32] ++ seeB ++ [97, 108, 115, 111, 32] ++ wbl (B 1 g)) (gs.map (fun g => wbl (B 1 g))) = L ++ alsB B how w set) → V mX12_printAlso 6 [some (vr 94), some (vi h), some (vi j), none] [] τ post := by
    intro n
    induction n with
    | zero => intro j τ j0 hj hG hT h32 h33 hn he; exact absurd rfl hn
    | succ n ih =>
      intro j τ j0 hj hG hT h32 h33 hn he
      have P := hP.fr hG (by decide) (by decide)
      have e0 : τ 94 0 = B 0 0 := Ra_heads P.1
      have e99 : τ 99 h = set := (Ra_also P.1 h0 h1).trans eset
      have o := (ord_b (key := hkey B how) (n := (B 0 0).toNat) (i := j) j0 (by omega)).1
      have eo := P.2.2.2 j j0 (by omega)
      rw [alR] at he hn
      generalize eg : ord (hkey B how) (B 0 0).toNat j = g at o eo he hn
      refine BX12_printAlso_6 ⟨by omega, by rw [e0]; omega, fun y => absurd y (by rw [e0]; omega), fun _ => ⟨by omega, by omega, ?_⟩⟩
      rw [e99, eo]
      refine r_has wa.1 (by omega) o.1 (by omega) (fun hy => ⟨_, rfl, b1' ?_⟩) (fun hy => ⟨_, rfl, b0' (BX12_printAlso_104 (ih (j + 1) τ (by omega) (by omega) hG hT h32 h33 ?_ ?_))⟩)
      · rw [h33]
        refine b1' (r_begin2 (fun σ2 hF2 u2 => ⟨rfl, ?_⟩))
        have f2 : σ2 94 33 = 1 := by rw [hF2.2 33 (by decide)]; exact h33
        dsimp only
        rw [f2]
        refine b1' (r_signSee u2 (by decide) (fun σ3 hF3 u3 => ⟨rfl, r_sign u3 (by decide) (fun σ4 hF4 u4 => ⟨rfl, r_sign u4 (by decide) (fun σ5 hF5 u5 => ⟨rfl, r_sign u5 (by decide) (fun σ6 hF6 u6 => ⟨rfl, r_sign u6 (by decide) (fun σ7 hF7 u7 => ⟨rfl, r_sign u7 (by decide) (fun σ8 hF8 u8 => ⟨rfl, ?_⟩)⟩)⟩)⟩)⟩)⟩))
        have F8 : FrJ [110] [35] τ σ8 := (((((hF2.tr hF3).tr hF4).tr hF5).tr hF6).tr hF7).tr hF8
        refine BX12_printAlso_91 (r_slot ⟨_, rfl, ?_⟩)
        obtain ⟨a1, a2, a3, a4⟩ := r_slotW hW (P.fr F8 (by decide) (by decide)).1 o.1 (show g < B 0 0 by omega)
        have wl := wbl_len a2
        have cl := a2.2.1
        rw [if_pos hy, List.singleton_append] at he
        have he' := he _ _ rfl
        refine r_signWord u8 a1 a2 a3 a4 (by decide) (fun σ9 hF9 u9 => ⟨rfl, ?_⟩)
        have F9 : FrJ [110] [35] τ σ9 := F8.tr hF9
        have G9 : FrJ Mp Jp σ σ9 := hG.tr (F9.mo (by decide) (by decide))
        have u9' : RU σ9 ([32, 32] ++ seeB ++ [97, 108, 115, 111, 32] ++ wbl (B 1 g)) := by simpa using u9
        have ul : ([32, 32] ++ seeB ++ [97, 108, 115, 111, 32] ++ wbl (B 1 g) : List Int).length = 11 + (wlen (B 1 g)).toNat := by
          unfold seeB
          simp only [List.length_append, List.length_cons, List.length_nil, wl]
        refine r_unit1 (hT.fr F9 (by decide) (by decide)) u9' (by omega) (by omega) (by rw [F9.2 33 (by decide)]; exact h33) (fun σ10 hF10 O10 c10 f10 => ⟨rfl, BX12_printAlso_104 ?_⟩)
        refine ph2 n (j + 1) σ10 _ _ (by omega) (by omega) (G9.tr (hF10.mo (by decide) (by decide))) O10 rfl f10 (by rw [c10, F9.2 32 (by decide), h32]; omega) (by rw [c10, F9.2 32 (by decide), h32]; omega) (by rw [List.length_append]; omega) ?_
        rw [← he', c10, F9.2 32 (by decide), h32, Int.zero_add]
        unfold rowB
        rw [List.append_assoc]
      · rw [if_neg hy, List.nil_append] at hn
        exact hn
      · rw [if_neg hy, List.nil_append] at he
        exact he
  refine ph1 (B 0 0).toNat 0 σ1 (by omega) (by omega) (hF1.mo (by decide) (by decide)) (hO.fr hF1 (by decide) (by decide)) c1 f1 (by rw [alR_0]; exact hne) (fun g gs hg => ?_)
  rw [alR_0] at hg
  have e : alsB B how w set = rowB w ([32, 32] ++ seeB ++ [97, 108, 115, 111, 32] ++ wbl (B 1 g)) (gs.map (fun g => wbl (B 1 g))) := by
    unfold alsB
    rw [hg]
  rw [e]
