/-! ===== PURE HALF, by hand: the reference's print, units and rows ===== -/
def RO (σ : Sg) (L : List Int) : Prop := σ 94 31 = L.length ∧ lies (σ 109) L
def RU (σ : Sg) (u : List Int) : Prop := σ 94 35 = u.length ∧ lies (σ 110) u
theorem lies_s {f : Int → Int} {L : List Int} {x : Int} (h : lies f L) : lies (pt f L.length x) (L ++ [x]) := by
  intro i hi
  rw [List.length_append, List.length_singleton] at hi
  by_cases e : i = L.length
  · subst e
    rw [pt_self, gd_r (Nat.le_refl _), Nat.sub_self]
    rfl
  · rw [pt_ne (by omega), gd_l (by omega)]
    exact h i (by omega)
theorem RO.fr {σ σ' : Sg} {L : List Int} {M : List Nat} {J : List Int} (h : RO σ L) (hF : FrJ M J σ σ') (h1 : 109 ∉ M) (h2 : 31 ∉ J) : RO σ' L := by
  unfold RO
  rw [hF.2 31 h2, hF.1 109 h1 (by decide)]
  exact h
theorem RU.fr {σ σ' : Sg} {u : List Int} {M : List Nat} {J : List Int} (h : RU σ u) (hF : FrJ M J σ σ') (h1 : 110 ∉ M) (h2 : 35 ∉ J) : RU σ' u := by
  unfold RU
  rw [hF.2 35 h2, hF.1 110 h1 (by decide)]
  exact h
theorem RW.fr {σ σ' : Sg} {w c : Int} {M : List Nat} {J : List Int} (h : RW (σ 96) (σ 97) w c) (hF : FrJ M J σ σ') (h1 : 96 ∉ M) (h2 : 97 ∉ M) : RW (σ' 96) (σ' 97) w c := by
  rw [hF.1 96 h1 (by decide), hF.1 97 h2 (by decide)]
  exact h
theorem r_put {σ : Sg} {post : Po} {L : List Int} {x : Int} (hO : RO σ L) (hL : L.length < 20000) (hp : ∀ σ' : Sg, FrJ [109] [31, 32] σ σ' → RO σ' (L ++ [x]) → σ' 94 32 = σ 94 32 + 1 → post none σ') : Cl mX12_put [vr 94, vi x] σ post := by
  obtain ⟨h1, h2⟩ := hO
  refine EX12_put ⟨by omega, hp _ (((FrJ.rf.u (by simp) (by decide)).j (by simp)).j (by simp)) ⟨?_, ?_⟩ up_s⟩
  · rw [up_f (by decide), up_s, h1, List.length_append]; rfl
  · rw [up_r (by decide), up_r (by decide), up_k, h1]
    exact lies_s h2
theorem r_endLine {σ : Sg} {post : Po} {L : List Int} (hO : RO σ L) (hL : L.length < 20000) (hp : ∀ σ' : Sg, FrJ [109] [31, 32] σ σ' → RO σ' (L ++ [10]) → σ' 94 32 = 0 → post none σ') : Cl mX12_endLine [vr 94] σ post := by
  obtain ⟨h1, h2⟩ := hO
  refine EX12_endLine ⟨by omega, hp _ (((FrJ.rf.u (by simp) (by decide)).j (by simp)).j (by simp)) ⟨?_, ?_⟩ up_s⟩
  · rw [up_f (by decide), up_s, h1, List.length_append]; rfl
  · rw [up_r (by decide), up_r (by decide), up_k, h1]
    exact lies_s h2
theorem r_sign {σ : Sg} {post : Po} {u : List Int} {x : Int} (hU : RU σ u) (hL : u.length < 48) (hp : ∀ σ' : Sg, FrJ [110] [35] σ σ' → RU σ' (u ++ [x]) → post none σ') : Cl mX12_sign [vr 94, vi x] σ post := by
  obtain ⟨h1, h2⟩ := hU
  refine EX12_sign ⟨by omega, hp _ ((FrJ.rf.u (by simp) (by decide)).j (by simp)) ⟨?_, ?_⟩⟩
  · rw [up_s, h1, List.length_append]; rfl
  · rw [up_r (by decide), up_k, h1]
    exact lies_s h2
theorem r_begin0 {σ : Sg} {post : Po} (hp : ∀ σ' : Sg, FrJ [110] [35] σ σ' → RU σ' [] → post none σ') : Cl mX12_beginUnit [vr 94, vi 0] σ post :=
  EX12_beginUnit (BX12_beginUnit_7 ⟨by decide, by decide, fun _ => hp _ (FrJ.rf.j (by simp)) ⟨up_s, fun i hi => by simp at hi⟩, fun z => absurd (by decide) z⟩)
theorem r_begin2 {σ : Sg} {post : Po} (hp : ∀ σ' : Sg, FrJ [110] [35] σ σ' → RU σ' [32, 32] → post none σ') : Cl mX12_beginUnit [vr 94, vi 2] σ post := by
  have h0 : RU (up σ 94 35 0) [] := ⟨up_s, fun i hi => by simp at hi⟩
  refine EX12_beginUnit (BX12_beginUnit_7 ⟨by decide, by decide, fun z => absurd z (by decide), fun _ => r_sign h0 (by decide) (fun σ1 hF1 h1 => ⟨rfl, BX12_beginUnit_7 ⟨by decide, by decide, fun z => absurd z (by decide), fun _ => r_sign h1 (by decide) (fun σ2 hF2 h2 => ⟨rfl, BX12_beginUnit_7 ⟨by decide, by decide, fun _ => hp σ2 ?_ h2, fun z => absurd (by decide) z⟩⟩)⟩⟩)⟩)
  exact (FrJ.tr (FrJ.rf.j (by simp)) hF1).tr hF2
theorem r_signWord {σ : Sg} {post : Po} {u : List Int} {w c : Int} (hU : RU σ u) (hR : RW (σ 96) (σ 97) w c) (hc : WW c) (w0 : 0 ≤ w) (w1 : w < 112) (hL : u.length + 12 ≤ 48) (hp : ∀ σ' : Sg, FrJ [110] [35] σ σ' → RU σ' (u ++ wbl c) → post none σ') : Cl mX12_signWord [vr 94, vi w] σ post := by
  have cl := hc.2.1
  refine EX12_signWord ?_
  have loop : ∀ (n j : Nat) (τ : Sg), (j : Int) + n = wlen c → FrJ [110] [35] σ τ → RU τ (u ++ wbN c j) → V mX12_signWord 2 [some (vr 94), some (vi w), some (vi (j : Int))] [] τ post := by
    intro n
    induction n with
    | zero =>
      intro j τ hj hF hS
      have e1 : τ 96 w = wlen c := by rw [hF.1 96 (by decide) (by decide)]; exact hR.1
      refine BX12_signWord_2 ⟨by omega, by omega, by rw [e1]; omega, fun _ => hp τ hF ?_, fun z => absurd (by rw [e1]; omega) z⟩
      have e : wbl c = wbN c j := by
        unfold wbl wbN
        rw [show (wlen c).toNat = j by omega]
      rw [e]
      exact hS
    | succ n ih =>
      intro j τ hj hF hS
      have e1 : τ 96 w = wlen c := by rw [hF.1 96 (by decide) (by decide)]; exact hR.1
      have e2 : τ 97 (12 * w + j) = cd c j + 94 := by rw [hF.1 97 (by decide) (by decide)]; exact hR.2 j (by omega) (by omega)
      refine BX12_signWord_2 ⟨by omega, by omega, by rw [e1]; omega, fun z => absurd z (by rw [e1]; omega), fun _ => ⟨by omega, ?_⟩⟩
      rw [e2]
      refine r_sign hS (by rw [List.length_append, wbN_len]; omega) (fun σ' hG hS2 => ⟨rfl, ih (j + 1) σ' (by omega) (hF.tr hG) ?_⟩)
      rw [wbN_s, ← List.append_assoc]
      exact hS2
  exact loop (wlen c).toNat 0 σ (by omega) FrJ.rf (by simpa [wbN] using hU)
theorem r_signSee {σ : Sg} {post : Po} {u : List Int} (hU : RU σ u) (hL : u.length + 4 ≤ 48) (hp : ∀ σ' : Sg, FrJ [110] [35] σ σ' → RU σ' (u ++ seeB) → post none σ') : Cl mX12_signSee [vr 94] σ post := by
  refine EX12_signSee (r_sign hU (by omega) (fun σ1 hF1 h1 => ⟨rfl, r_sign h1 (by simp; omega) (fun σ2 hF2 h2 => ⟨rfl, r_sign h2 (by simp; omega) (fun σ3 hF3 h3 => ⟨rfl, r_sign h3 (by simp; omega) (fun σ4 hF4 h4 => ⟨rfl, hp σ4 (((hF1.tr hF2).tr hF3).tr hF4) ?_⟩)⟩)⟩)⟩))
  simpa [seeB] using h4
theorem r_signNumber {σ : Sg} {post : Po} {u : List Int} {p : Int} (hU : RU σ u) (hL : u.length + 2 ≤ 48) (p0 : 1 ≤ p) (p1 : p ≤ 99) (hp : ∀ σ' : Sg, FrJ [110] [35] σ σ' → RU σ' (u ++ pgB p) → post none σ') : Cl mX12_signNumber [vr 94, vi p] σ post := by
  have e : iDiv p 10 = p / 10 := iDiv_e (by omega) (by omega) (by decide) (by decide)
  have e2 : 48 + (p - p / 10 * 10) = 48 + p % 10 := by omega
  refine EX12_signNumber ⟨by omega, fun z => ?_, fun z => ?_⟩
  · rw [e, e2]
    refine r_sign hU (by omega) (fun σ1 hF h1 => ⟨rfl, hp σ1 hF ?_⟩)
    unfold pgB
    rw [if_neg (by omega)]
    exact h1
  · rw [e, e2]
    refine r_sign hU (by omega) (fun σ1 hF h1 => ⟨rfl, r_sign h1 (by rw [List.length_append]; simp; omega) (fun σ2 hF2 h2 => ⟨rfl, hp σ2 (hF.tr hF2) ?_⟩)⟩)
    unfold pgB
    rw [if_pos (by omega)]
    rw [List.append_assoc] at h2
    exact h2
theorem r_beginRow {σ : Sg} {post : Po} (hp : ∀ σ' : Sg, FrJ [] [32, 33] σ σ' → σ' 94 33 = 1 → σ' 94 32 = 0 → post none σ') : Cl mX12_beginRow [vr 94] σ post :=
  EX12_beginRow (hp _ ((FrJ.rf.j (by simp)).j (by simp)) (by rw [up_f (by decide), up_s]) up_s)
/-- the bytes of the unit go out -/
theorem r_78 {σ : Sg} {post : Po} {L u : List Int} (hO : RO σ L) (hU : RU σ u) (hL : L.length + u.length ≤ 20000) (hu : u.length ≤ 48) (hp : ∀ σ' : Sg, FrJ [109] [31, 32, 33] σ σ' → RO σ' (L ++ u) → σ' 94 32 = σ 94 32 + u.length → σ' 94 33 = 0 → post none σ') : V mX12_putUnit 78 [some (vr 94), some (vi 0)] [] σ post := by
  have loop : ∀ (n j : Nat) (τ : Sg), j + n = u.length → FrJ [109] [31, 32] σ τ → RO τ (L ++ u.take j) → τ 94 32 = σ 94 32 + j → V mX12_putUnit 78 [some (vr 94), some (vi (j : Int))] [] τ post := by
    intro n
    induction n with
    | zero =>
      intro j τ hj hF hT hc
      have hU' := hU.fr hF (by decide) (by decide)
      have e := hU'.1
      rw [List.take_of_length_le (by omega)] at hT
      refine BX12_putUnit_78 ⟨by omega, by rw [e]; omega, fun _ => hp _ ((hF.mo (by simp) (by intro j hj; simp at hj ⊢; omega)).j (by simp)) ⟨?_, ?_⟩ ?_ up_s, fun z => absurd (by rw [e]; omega) z⟩
      · rw [up_f (by decide)]; exact hT.1
      · rw [up_r (by decide)]; exact hT.2
      · rw [up_f (by decide), hc]; omega
    | succ n ih =>
      intro j τ hj hF hT hc
      have hU' := hU.fr hF (by decide) (by decide)
      have e := hU'.1
      refine BX12_putUnit_78 ⟨by omega, by rw [e]; omega, fun z => absurd z (by rw [e]; omega), fun _ => ⟨by omega, ?_⟩⟩
      rw [hU'.2 j (by omega)]
      refine r_put hT (by rw [List.length_append, List.length_take]; omega) (fun σ' hG hT2 hc2 => ⟨rfl, ih (j + 1) σ' (by omega) (hF.tr hG) ?_ (by rw [hc2, hc]; omega)⟩)
      rw [List.append_assoc] at hT2
      have et : u.take (j + 1) = u.take j ++ [u.getD j 0] := by
        rw [List.take_succ, List.getD_eq_getElem?_getD, List.getElem?_eq_getElem (by omega)]
        rfl
      rw [et]
      exact hT2
  exact loop u.length 0 σ (by omega) FrJ.rf (by simpa using hO) (by omega)
theorem r_unit1 {σ : Sg} {post : Po} {L u : List Int} (hO : RO σ L) (hU : RU σ u) (hL : L.length + u.length ≤ 20000) (hu : u.length ≤ 48) (h33 : σ 94 33 = 1) (hp : ∀ σ' : Sg, FrJ [109] [31, 32, 33] σ σ' → RO σ' (L ++ u) → σ' 94 32 = σ 94 32 + u.length → σ' 94 33 = 0 → post none σ') : Cl mX12_putUnit [vr 94] σ post :=
  EX12_putUnit ⟨by omega, fun _ => BX12_putUnit_40 ⟨by omega, fun _ => BX12_putUnit_76 (r_78 hO hU hL hu hp), fun z => absurd z (by omega)⟩, fun z => absurd z (by omega)⟩
theorem r_unit2 {σ : Sg} {post : Po} {L u : List Int} {w col : Int} (hO : RO σ L) (hU : RU σ u) (hL : L.length + u.length + 6 ≤ 20000) (hu : u.length ≤ 48) (h33 : σ 94 33 = 0) (hw : σ 94 28 = w) (w0 : 0 ≤ w ∧ w ≤ 80) (hc : σ 94 32 = col) (c0 : 0 ≤ col ∧ col ≤ 1000) (hy : col + 2 + u.length ≤ w → ∀ σ' : Sg, FrJ [109] [31, 32, 33] σ σ' → RO σ' (L ++ ([44, 32] ++ u)) → σ' 94 32 = col + 2 + u.length → σ' 94 33 = 0 → post none σ') (hn : ¬ col + 2 + u.length ≤ w → ∀ σ' : Sg, FrJ [109] [31, 32, 33] σ σ' → RO σ' (L ++ ([44, 10, 32, 32, 32, 32] ++ u)) → σ' 94 32 = 4 + u.length → σ' 94 33 = 0 → post none σ') : Cl mX12_putUnit [vr 94] σ post := by
  have e := hU.1
  have mo : ∀ {a b : Sg}, FrJ [109] [31, 32] a b → FrJ [109] [31, 32, 33] a b := fun h => h.mo (by simp) (by intro j hj; simp at hj ⊢; omega)
  refine EX12_putUnit ⟨by omega, fun z => absurd h33 z, fun _ => ⟨by omega, by omega, fun z => ?_, fun z => ?_⟩⟩
  · refine BX12_putUnit_40 ⟨by omega, fun z => absurd h33 z, fun _ => r_put hO (by omega) (fun σ1 hF1 h1 c1 => ⟨rfl, r_endLine h1 (by simp; omega) (fun σ2 hF2 h2 c2 => ⟨rfl, ?_⟩)⟩)⟩
    refine BX12_putUnit_59 ⟨by decide, fun z => absurd z (by decide), fun _ => r_put h2 (by simp; omega) (fun σ3 hF3 h3 c3 => ⟨rfl, ?_⟩)⟩
    refine BX12_putUnit_59 ⟨by decide, fun z => absurd z (by decide), fun _ => r_put h3 (by simp; omega) (fun σ4 hF4 h4 c4 => ⟨rfl, ?_⟩)⟩
    refine BX12_putUnit_59 ⟨by decide, fun z => absurd z (by decide), fun _ => r_put h4 (by simp; omega) (fun σ5 hF5 h5 c5 => ⟨rfl, ?_⟩)⟩
    refine BX12_putUnit_59 ⟨by decide, fun z => absurd z (by decide), fun _ => r_put h5 (by simp; omega) (fun σ6 hF6 h6 c6 => ⟨rfl, ?_⟩)⟩
    refine BX12_putUnit_59 ⟨by decide, fun _ => BX12_putUnit_76 ?_, fun z => absurd (by decide) z⟩
    have F6 : FrJ [109] [31, 32] σ σ6 := ((((hF1.tr hF2).tr hF3).tr hF4).tr hF5).tr hF6
    have hU6 := hU.fr F6 (by decide) (by decide)
    refine r_78 h6 hU6 (by simp; omega) hu (fun σ' hG h7 c7 f7 => hn (by omega) σ' ((mo F6).tr hG) ?_ (by rw [c7]; omega) f7)
    simpa using h7
  · refine r_put hO (by omega) (fun σ1 hF1 h1 c1 => ⟨rfl, r_put h1 (by simp; omega) (fun σ2 hF2 h2 c2 => ⟨rfl, BX12_putUnit_76 ?_⟩)⟩)
    have F2 : FrJ [109] [31, 32] σ σ2 := hF1.tr hF2
    have hU2 := hU.fr F2 (by decide) (by decide)
    refine r_78 h2 hU2 (by simp; omega) hu (fun σ' hG h7 c7 f7 => hy (by omega) σ' ((mo F2).tr hG) ?_ (by rw [c7]; omega) f7)
    simpa using h7
/-- a run as a unit, from beginUnit on -/
theorem r_runUnit {σ : Sg} {Q : Sg → Prop} {a b m : Int} (a0 : 1 ≤ a) (ab : a ≤ b) (b1 : b ≤ 99) (hm : m = 0 ∨ m = 1) (h24 : σ 94 24 = a) (h25 : σ 94 25 = b) (h26 : σ 94 26 = m) (hp : ∀ σ' : Sg, FrJ [110] [35] σ σ' → RU σ' (runB (a, b, m)) → Cl mX12_putUnit [vr 94] σ' (pV fun σ4 => Q σ4)) : Cl mX12_beginUnit [vr 94, vi 0] σ (pV fun σ2 => (rng (σ2 94 26)) ∧ (((σ2 94 26) = 0 → Cl mX12_signNumber [vr 94, vi (σ2 94 24)] σ2 (pV fun σ3 => (rng (σ3 94 25)) ∧ ((rng (σ3 94 24)) ∧ (((σ3 94 25) ≤ (σ3 94 24) → Cl mX12_putUnit [vr 94] σ3 (pV fun σ4 => Q σ4)) ∧ (¬ (σ3 94 25) ≤ (σ3 94 24) → Cl mX12_sign [vr 94, vi 45] σ3 (pV fun σ5 => Cl mX12_signNumber [vr 94, vi (σ5 94 25)] σ5 (pV fun σ6 => Cl mX12_putUnit [vr 94] σ6 (pV fun σ7 => Q σ7)))))))) ∧ (¬ (σ2 94 26) = 0 → Cl mX12_sign [vr 94, vi 42] σ2 (pV fun σ8 => Cl mX12_signNumber [vr 94, vi (σ8 94 24)] σ8 (pV fun σ9 => (rng (σ9 94 25)) ∧ ((rng (σ9 94 24)) ∧ (((σ9 94 25) ≤ (σ9 94 24) → Cl mX12_putUnit [vr 94] σ9 (pV fun σ10 => Q σ10)) ∧ (¬ (σ9 94 25) ≤ (σ9 94 24) → Cl mX12_sign [vr 94, vi 45] σ9 (pV fun σ11 => Cl mX12_signNumber [vr 94, vi (σ11 94 25)] σ11 (pV fun σ12 => Cl mX12_putUnit [vr 94] σ12 (pV fun σ13 => Q σ13))))))))))) := by
  have la := pgB_len a
  have main : ∀ (τ : Sg) (v : List Int), FrJ [110] [35] σ τ → RU τ v → v.length ≤ 1 → v ++ (pgB a ++ (if a < b then 45 :: pgB b else [])) = runB (a, b, m) → Cl mX12_signNumber [vr 94, vi (τ 94 24)] τ (pV fun σ3 => (rng (σ3 94 25)) ∧ ((rng (σ3 94 24)) ∧ (((σ3 94 25) ≤ (σ3 94 24) → Cl mX12_putUnit [vr 94] σ3 (pV fun σ4 => Q σ4)) ∧ (¬ (σ3 94 25) ≤ (σ3 94 24) → Cl mX12_sign [vr 94, vi 45] σ3 (pV fun σ5 => Cl mX12_signNumber [vr 94, vi (σ5 94 25)] σ5 (pV fun σ6 => Cl mX12_putUnit [vr 94] σ6 (pV fun σ7 => Q σ7))))))) := by
    intro τ v hG hv hl he
    rw [hG.2 24 (by decide), h24]
    refine r_signNumber hv (by omega) a0 (by omega) (fun σ1 hF1 h1 => ⟨rfl, ?_⟩)
    have G1 := hG.tr hF1
    dsimp only
    rw [G1.2 24 (by decide), h24, G1.2 25 (by decide), h25]
    refine ⟨by omega, by omega, fun z => ?_, fun z => ?_⟩
    · rw [if_neg (by omega), List.append_nil] at he
      rw [he] at h1
      exact hp σ1 G1 h1
    · rw [if_pos (by omega)] at he
      refine r_sign h1 (by rw [List.length_append]; omega) (fun σ2 hF2 h2 => ⟨rfl, ?_⟩)
      have G2 := G1.tr hF2
      dsimp only
      rw [G2.2 25 (by decide), h25]
      refine r_signNumber h2 (by rw [List.length_append, List.length_append]; simp; omega) (by omega) b1 (fun σ3 hF3 h3 => ⟨rfl, hp σ3 (G2.tr hF3) ?_⟩)
      rw [← he]
      simpa using h3
  refine r_begin0 (fun σ1 hF1 h1 => ⟨rfl, ?_⟩)
  dsimp only
  rw [hF1.2 26 (by decide), h26]
  refine ⟨by omega, fun z => main σ1 [] hF1 h1 (by decide) ?_, fun z => r_sign h1 (by decide) (fun σ2 hF2 h2 => ⟨rfl, main σ2 [42] (hF1.tr hF2) h2 (by decide) ?_⟩)⟩
  · show _ = ((if m = 1 then [42] else []) ++ pgB a ++ (if a < b then 45 :: pgB b else []))
    rw [if_neg (show ¬ m = 1 by omega)]
    simp
  · show _ = ((if m = 1 then [42] else []) ++ pgB a ++ (if a < b then 45 :: pgB b else []))
    rw [if_pos (show m = 1 by omega)]
    simp
def Jp : List Int := [24, 25, 26, 31, 32, 33, 35, 36]
def Mp : List Nat := [107, 109, 110]
theorem Rep_hd {T : Int → Int} {p a b m : Int} {R : List (Int × Int × Int)} (h : Rep T p ((a, b, m) :: R)) : (p ≤ a ∧ a ≤ b ∧ b ≤ 99) ∧ (m = 0 ∨ m = 1) ∧ Rep T (b + 1) R := by
  obtain ⟨y1, y2, y3, y4, y5, y6⟩ := h
  exact ⟨y1, y5.elim (fun z => Or.inl z.1) (fun z => Or.inr z.1), y6⟩
/-- the runs of the pages ticked, then the line's end -/
theorem r_runsEnd {σ : Sg} {Q : Sg → Prop} {T : Int → Int} {w : Int} {Z : List Int} (hT : ∀ x : Int, 0 ≤ x → x < 102 → σ 107 x = T x) (h3 : ∀ x, T x = 0 ∨ T x = 1 ∨ T x = 3) (hw : σ 94 28 = w) (w0 : 0 ≤ w ∧ w ≤ 80) (hZ : Z.length ≤ 19900) {R : List (Int × Int × Int)} (hR : Rep T 1 R) {K : List Int} {col : Int} (hO : RO σ K) (h33 : σ 94 33 = 0) (hc : σ 94 32 = col) (c0 : 0 ≤ col ∧ col ≤ 100) (he : K ++ rowT w col (R.map runB) = Z) (hp : ∀ σ' : Sg, FrJ [109, 110] Jp σ σ' → RO σ' Z → Q σ') : Cl mX12_putRuns [vr 94] σ (pV fun σ9 => Cl mX12_endLine [vr 94] σ9 (pV fun σ10 => Q σ10)) := by
  refine EX12_putRuns ?_
  have loop : ∀ (R : List (Int × Int × Int)) (p : Int) (K : List Int) (col : Int) (τ : Sg), 1 ≤ p → p ≤ 100 → Rep T p R → FrJ [109, 110] Jp σ τ → RO τ K → τ 94 33 = 0 → τ 94 32 = col → 0 ≤ col → col ≤ 100 → K ++ rowT w col (R.map runB) = Z → V mX12_putRuns 2 [some (vr 94), some (vi p)] [] τ (pV fun σ9 => Cl mX12_endLine [vr 94] σ9 (pV fun σ10 => Q σ10)) := by
    intro R
    induction R with
    | nil =>
      intro p K col τ p0 p1 hR hF hO h33 hc c0 c1 he
      have e107 : τ 107 = σ 107 := hF.1 107 (by decide) (by decide)
      have zl : Z.length = K.length + 1 := by rw [← he, List.length_append]; rfl
      refine BX12_putRuns_2 (r_next_nil (T := T) (fun x x0 x1 => by rw [e107]; exact hT x x0 x1) h3 p0 p1 hR (fun σ1 hF1 => ⟨_, rfl, b0' ⟨rfl, ?_⟩⟩))
      have F1 : FrJ [109, 110] Jp σ σ1 := hF.tr (hF1.mo (by simp) (by unfold Jp; intro j hj; simp at hj ⊢; omega))
      refine r_endLine (hO.fr hF1 (by decide) (by decide)) (by omega) (fun σ2 hF2 h2 c2 => ⟨rfl, hp σ2 (F1.tr (hF2.mo (by simp) (by unfold Jp; intro j hj; simp at hj ⊢; omega))) ?_⟩)
      rw [List.map_nil, rowT] at he
      rw [← he]
      exact h2
    | cons r R ih =>
      obtain ⟨a, b, m⟩ := r
      intro p K col τ p0 p1 hR hF hO h33 hc c0 c1 he
      have e107 : τ 107 = σ 107 := hF.1 107 (by decide) (by decide)
      have e28 : τ 94 28 = w := by rw [hF.2 28 (by decide)]; exact hw
      obtain ⟨y1, ym, y6⟩ := Rep_hd hR
      have rl := runB_len a b m
      have zl : K.length + (rowT w col (((a, b, m) :: R).map runB)).length = Z.length := by rw [← he, List.length_append]
      refine BX12_putRuns_2 (r_next_cons (T := T) (fun x x0 x1 => by rw [e107]; exact hT x x0 x1) h3 p0 hR (fun σ1 hF1 q24 q25 q26 => ⟨_, rfl, b1' ?_⟩))
      have F1 : FrJ [109, 110] Jp σ σ1 := hF.tr (hF1.mo (by simp) (by unfold Jp; intro j hj; simp at hj ⊢; omega))
      refine r_runUnit (by omega) y1.2.1 y1.2.2 ym q24 q25 q26 (fun σ2 hF2 h2 => ?_)
      have F2 : FrJ [109, 110] Jp σ σ2 := F1.tr (hF2.mo (by simp) (by unfold Jp; intro j hj; simp at hj ⊢; omega))
      have O2 : RO σ2 K := (hO.fr hF1 (by decide) (by decide)).fr hF2 (by decide) (by decide)
      rw [List.map_cons] at he zl
      by_cases fit : col + 2 + (runB (a, b, m)).length ≤ w
      · rw [rowT_y fit] at he zl
        simp only [List.length_append, List.length_cons, List.length_nil] at zl
        refine r_unit2 (w := w) (col := col) O2 h2 (by omega) (by omega) (by rw [hF2.2 33 (by decide), hF1.2 33 (by decide)]; exact h33) (by rw [hF2.2 28 (by decide), hF1.2 28 (by decide)]; exact e28) w0 (by rw [hF2.2 32 (by decide), hF1.2 32 (by decide)]; exact hc) (by omega) (fun _ σ3 hF3 O3 c3 f3 => ⟨rfl, ?_⟩) (fun z => absurd fit z)
        dsimp only
        rw [hF3.2 25 (by decide), hF2.2 25 (by decide), q25]
        refine ih (b + 1) _ _ σ3 (by omega) (by omega) y6 (F2.tr (hF3.mo (by simp) (by unfold Jp; intro j hj; simp at hj ⊢; omega))) O3 f3 c3 (by omega) (by omega) ?_
        rw [← he]; simp
      · rw [rowT_n fit] at he zl
        simp only [List.length_append, List.length_cons, List.length_nil] at zl
        refine r_unit2 (w := w) (col := col) O2 h2 (by omega) (by omega) (by rw [hF2.2 33 (by decide), hF1.2 33 (by decide)]; exact h33) (by rw [hF2.2 28 (by decide), hF1.2 28 (by decide)]; exact e28) w0 (by rw [hF2.2 32 (by decide), hF1.2 32 (by decide)]; exact hc) (by omega) (fun z => absurd z fit) (fun _ σ3 hF3 O3 c3 f3 => ⟨rfl, ?_⟩)
        dsimp only
        rw [hF3.2 25 (by decide), hF2.2 25 (by decide), q25]
        refine ih (b + 1) _ _ σ3 (by omega) (by omega) y6 (F2.tr (hF3.mo (by simp) (by unfold Jp; intro j hj; simp at hj ⊢; omega))) O3 f3 c3 (by omega) (by omega) ?_
        rw [← he]; simp
  exact loop R 1 K col σ (by decide) (by decide) hR FrJ.rf hO h33 hc c0.1 c0.2 he
