/-! ===== PURE HALF, by hand: fit, the reference's table; fit ===== -/
def FT (σ : Sg) (Ln Ls : Int → Int → Int) (n m : Int) (k : Nat) : Prop := ∀ (i : Nat) (x : Int), i ≤ k → 0 ≤ x → x ≤ m → σ 115 (201 * (n - i) + x) = (RLU Ln Ls n i x).1 ∧ σ 116 (201 * (n - i) + x) = (RLU Ln Ls n i x).2 ∧ (1 ≤ i → σ 117 (201 * (n - i) + x) = cw Ln Ls n (i - 1) (RLU Ln Ls n i x).2)
def CC (σ : Sg) (Ln Ls : Int → Int → Int) (n m : Int) (k : Nat) (w : Int) : Prop := ∀ x : Int, 0 ≤ x → x ≤ m → CP (fun w => Ls (n - (k + 1)) w ≠ 268435456 ∧ Ln (n - (k + 1)) w ≤ x) (fun w => Ls (n - (k + 1)) w + (RLU Ln Ls n k (x - Ln (n - (k + 1)) w)).1) (fun w => Ln (n - (k + 1)) w + (RLU Ln Ls n k (x - Ln (n - (k + 1)) w)).2) w (σ 115 (201 * (n - (k + 1)) + x)) (σ 116 (201 * (n - (k + 1)) + x)) (σ 117 (201 * (n - (k + 1)) + x))
theorem FT.fr {σ σ' : Sg} {Ln Ls : Int → Int → Int} {n m : Int} {k : Nat} {M : List Nat} {J : List Int} (h : FT σ Ln Ls n m k) (hF : FrJ M J σ σ') (h5 : 115 ∉ M) (h6 : 116 ∉ M) (h7 : 117 ∉ M) : FT σ' Ln Ls n m k := by
  unfold FT
  rw [hF.1 115 h5 (by decide), hF.1 116 h6 (by decide), hF.1 117 h7 (by decide)]
  exact h
theorem CC.fr {σ σ' : Sg} {Ln Ls : Int → Int → Int} {n m w : Int} {k : Nat} {M : List Nat} {J : List Int} (h : CC σ Ln Ls n m k w) (hF : FrJ M J σ σ') (h5 : 115 ∉ M) (h6 : 116 ∉ M) (h7 : 117 ∉ M) : CC σ' Ln Ls n m k w := by
  unfold CC
  rw [hF.1 115 h5 (by decide), hF.1 116 h6 (by decide), hF.1 117 h7 (by decide)]
  exact h
theorem r_fitHead {σ : Sg} {post : Po} {Ln Ls : Int → Int → Int} {n m w : Int} {k : Nat} (hk : okW Ln Ls n) (n16 : n ≤ 16) (hn : (k : Int) + 1 ≤ n) (m0 : 0 ≤ m) (m1 : m ≤ 200) (hT : FT σ Ln Ls n m k) (hC : CC σ Ln Ls n m k w) (w0 : 0 ≤ w) (w1 : w ≤ 2) (hal : Ls (n - (k + 1)) w ≠ 268435456) (hlo : ∀ (τ : Sg) (post' : Po), FrJ [115, 116, 117] [] σ τ → post' (some (vi (Ls (n - (k + 1)) w))) τ → Cl mX12_lossOf [vr 94, vi (n - (k + 1)), vi w] τ post') (hp : ∀ σ' : Sg, FrJ [115, 116, 117] [] σ σ' → FT σ' Ln Ls n m k → CC σ' Ln Ls n m k (w + 1) → post none σ') : Cl mX12_fitHead [vr 94, vi (n - (k + 1)), vi m, vi w, vi (Ln (n - (k + 1)) w)] σ post := by
  have ow := (hk (n - (k + 1)) (by omega) (by omega)).1
  have rj := RJ_ex hk n16 k (by omega)
  have hk2 : (k : Int) ≤ 15 := by omega
  refine EX12_fitHead ?_
  unfold CC at hC hp
  generalize eh : n - ((k : Int) + 1) = h at *
  have hb : 0 ≤ h ∧ h ≤ 15 := by omega
  have hnk : n - (k : Int) = h + 1 := by omega
  have o := ow w w0 w1
  have lsb : 0 ≤ Ls h w ∧ Ls h w ≤ 2000 := by have := o.2; omega
  have loop : ∀ (d : Nat) (x : Int) (τ : Sg), (x + d = m + 1 ∨ (d = 0 ∧ m < x)) → Ln h w ≤ x → FrJ [115, 116, 117] [] σ τ → FT τ Ln Ls n m k → (∀ y : Int, 0 ≤ y → y ≤ m → CP (fun w => Ls h w ≠ 268435456 ∧ Ln h w ≤ y) (fun w => Ls h w + (RLU Ln Ls n k (y - Ln h w)).1) (fun w => Ln h w + (RLU Ln Ls n k (y - Ln h w)).2) (if y < x then w + 1 else w) (τ 115 (201 * h + y)) (τ 116 (201 * h + y)) (τ 117 (201 * h + y))) → rng x → V mX12_fitHead 4 [some (vr 94), some (vi h), some (vi m), some (vi w), some (vi (Ln h w)), some (vi x), none, none, none, none] [] τ post := by
    intro d
    induction d with
    | zero =>
      intro x τ hx hl hF hT2 hC2 rx
      refine BX12_fitHead_4 ⟨rx, by omega, fun _ => hp τ hF hT2 (fun y y0 y1 => ?_), fun c => absurd (by omega) c⟩
      have := hC2 y y0 y1
      rw [if_pos (by omega)] at this
      exact this
    | succ d ih =>
      intro x τ hx hl hF hT2 hC2 rx
      have x0 : 0 ≤ x := by omega
      have xm : x ≤ m := by omega
      have cell := hC2 x x0 xm
      rw [if_neg (by omega)] at cell
      obtain ⟨t1, t2, _⟩ := hT2 k (x - Ln h w) (Nat.le_refl _) (by omega) (by omega)
      rw [hnk, show 201 * (h + 1) + (x - Ln h w) = 201 * (h + 1) + x - Ln h w by omega] at t1 t2
      have rb := rj (x - Ln h w) (by omega)
      have rb1 := rb.2.2.2.2.1
      have rb2 := rb.1
      have alw : Ls h w ≠ 268435456 ∧ Ln h w ≤ x := ⟨hal, by omega⟩
      have cb : (τ 115 (201 * h + x) = 1000000 ∨ (0 ≤ τ 115 (201 * h + x) ∧ τ 115 (201 * h + x) ≤ 40000 ∧ 0 ≤ τ 116 (201 * h + x) ∧ τ 116 (201 * h + x) ≤ 2000)) := by
        rcases cell with ⟨a, _⟩ | ⟨a1, a2, ⟨a3, a4⟩, a5, a6, _⟩
        · exact Or.inl a
        · right
          have od := ow (_) a1 (by omega)
          have rd := rj (x - Ln h (τ 117 (201 * h + x))) (by omega)
          have rd1 := rd.2.2.2.2.1
          have rd2 := rd.1
          have a3 : Ls h (τ 117 (201 * h + x)) ≠ 268435456 := a3
          dsimp only at a5 a6 a4
          omega
      have lt : Ls h w + (RLU Ln Ls n k (x - Ln h w)).1 < 1000000 := by omega
      -- nothing else is touched
      have keepFT : ∀ (a b c : Int), FT (up (up (up τ 115 (201 * h + x) a) 116 (201 * h + x) b) 117 (201 * h + x) c) Ln Ls n m k := by
        intro a b c i y hi y0 y1
        have ne : 201 * (n - (i : Int)) + y ≠ 201 * h + x := by omega
        rw [up_r (by decide), up_r (by decide), up_f ne, up_r (by decide), up_f ne, up_r (by decide), up_f ne, up_r (by decide), up_r (by decide)]
        exact hT2 i y hi y0 y1
      have no : ¬ (Ls h w + (RLU Ln Ls n k (x - Ln h w)).1 < τ 115 (201 * h + x) ∨ Ls h w + (RLU Ln Ls n k (x - Ln h w)).1 = τ 115 (201 * h + x) ∧ Ln h w + (RLU Ln Ls n k (x - Ln h w)).2 < τ 116 (201 * h + x)) → V mX12_fitHead 4 [some (vr 94), some (vi h), some (vi m), some (vi w), some (vi (Ln h w)), some (vi (x + 1)), none, none, none, none] [] τ post := fun c => by
        refine ih (x + 1) τ (by omega) (by omega) hF hT2 (fun y y0 y1 => ?_) (by omega)
        by_cases e : y = x
        · subst e
          rw [if_pos (by omega)]
          exact CP_keep cell alw lt c
        · have := hC2 y y0 y1
          by_cases q : y < x
          · rw [if_pos q] at this; rw [if_pos (by omega)]; exact this
          · rw [if_neg q] at this; rw [if_neg (by omega)]; exact this
      have yes : (Ls h w + (RLU Ln Ls n k (x - Ln h w)).1 < τ 115 (201 * h + x) ∨ Ls h w + (RLU Ln Ls n k (x - Ln h w)).1 = τ 115 (201 * h + x) ∧ Ln h w + (RLU Ln Ls n k (x - Ln h w)).2 < τ 116 (201 * h + x)) → V mX12_fitHead 4 [some (vr 94), some (vi h), some (vi m), some (vi w), some (vi (Ln h w)), some (vi (x + 1)), none, none, none, none] [] (up (up (up τ 115 (201 * h + x) ((RLU Ln Ls n k (x - Ln h w)).1 + Ls h w)) 116 (201 * h + x) ((RLU Ln Ls n k (x - Ln h w)).2 + Ln h w)) 117 (201 * h + x) w) post := fun c => by
        refine ih (x + 1) _ (by omega) (by omega) (((hF.u (by simp) (by decide)).u (by simp) (by decide)).u (by simp) (by decide)) (keepFT _ _ _) (fun y y0 y1 => ?_) (by omega)
        by_cases e : y = x
        · subst e
          rw [if_pos (by omega), up_r (by decide), up_r (by decide), up_s, up_r (by decide), up_s, up_s]
          have := CP_take cell w0 alw lt c
          rw [Int.add_comm (RLU Ln Ls n k (y - Ln h w)).1, Int.add_comm (RLU Ln Ls n k (y - Ln h w)).2]
          exact this
        · have ne : 201 * h + y ≠ 201 * h + x := by omega
          rw [up_r (by decide), up_r (by decide), up_f ne, up_r (by decide), up_f ne, up_r (by decide), up_f ne, up_r (by decide), up_r (by decide)]
          have := hC2 y y0 y1
          by_cases q : y < x
          · rw [if_pos q] at this; rw [if_pos (by omega)]; exact this
          · rw [if_neg q] at this; rw [if_neg (by omega)]; exact this
      refine BX12_fitHead_4 ⟨rx, by omega, fun c => absurd c (by omega), fun _ => ⟨by omega, ?_⟩⟩
      rw [t1]
      refine hlo τ _ hF ⟨_, rfl, by omega, ?_⟩
      rw [t2]
      refine ⟨by omega, by omega, fun c => yes (Or.inl (by omega)), fun c => ⟨fun c2 => no (fun z => by omega), fun c2 => ⟨by omega, by omega, fun c3 => no (fun z => by omega), fun c3 => yes (Or.inr (by omega))⟩⟩⟩
  refine loop (m + 1 - Ln h w).toNat (Ln h w) σ (by omega) (Int.le_refl _) FrJ.rf hT (fun y y0 y1 => ?_) (by omega)
  have c := hC y y0 y1
  by_cases q : y < Ln h w
  · rw [if_pos q]
    exact CP_no c (fun z => by have := z.2; omega)
  · rw [if_neg q]
    exact c
theorem CC_no {σ : Sg} {Ln Ls : Int → Int → Int} {n m w : Int} {k : Nat} (h : CC σ Ln Ls n m k w) (hn : Ls (n - (k + 1)) w = 268435456) : CC σ Ln Ls n m k (w + 1) := fun x x0 x1 => CP_no (h x x0 x1) (fun z => z.1 hn)
theorem RLU_0 {Ln Ls : Int → Int → Int} {n x : Int} (hk : okW Ln Ls n) (n0 : 0 ≤ n) (n16 : n ≤ 16) (x0 : 0 ≤ x) : RLU Ln Ls n 0 x = (0, 0) := by
  have := RJ_uniq (RJ_ex hk n16 0 (by omega) x x0) (RJ_0 x0)
  exact Prod.ext this.1 this.2
def My : List Nat := [107, 108, 109, 110, 115, 116, 117]
theorem r_fitAll {σ B : Sg} {post : Po} {how w0 m : Int} (hW : WfB B) (hR : RA (bk σ 94) B) (hh : how = 0 ∨ how = 1) (h27 : σ 94 27 = how) (h28 : σ 94 28 = w0) (hw : 0 ≤ w0 ∧ w0 ≤ 80) (m0 : 0 ≤ m) (m1 : m ≤ 200) (hp : ∀ σ' : Sg, FrJ My Jp σ σ' → FT σ' (FLn B how w0) (FLs B how w0) (B 0 0) m (B 0 0).toNat → post none σ') : Cl mX12_fitAll [vr 94, vi m] σ post := by
  have wh := hW.1
  have hk := FL_ok hW how w0
  refine EX12_fitAll ?_
  have rows : ∀ (d k : Nat) (τ : Sg), (k : Int) + d = B 0 0 → FrJ My Jp σ τ → FT τ (FLn B how w0) (FLs B how w0) (B 0 0) m k → V mX12_fitAll 52 [some (vr 94), some (vi m), some (vi ((d : Int) - 1)), none] [] τ post := by
    intro d
    induction d with
    | zero =>
      intro k τ hd hF hT
      refine BX12_fitAll_52 ⟨by decide, fun _ => hp τ hF ?_, fun c => absurd (by decide) c⟩
      rw [show k = (B 0 0).toNat by omega] at hT
      exact hT
    | succ d ih =>
      intro k τ hd hF hT
      refine BX12_fitAll_52 ⟨by omega, fun c => absurd c (by omega), fun _ => ?_⟩
      have eh : ((d + 1 : Nat) : Int) - 1 = B 0 0 - ((k : Int) + 1) := by omega
      rw [eh]
      have hb : 0 ≤ B 0 0 - ((k : Int) + 1) ∧ B 0 0 - ((k : Int) + 1) < B 0 0 := by omega
      have wse := (hW.2.2.1 _ hb.1 hb.2).2.1
      have pt := prd_tens (B := B) (how := how) (w := w0) (h := B 0 0 - ((k : Int) + 1)) wse.1
      have fb := fsb_b hW hb.1 hb.2
      have okh := hk (B 0 0 - ((k : Int) + 1)) hb.1 hb.2
      have goon : ∀ υ : Sg, FrJ My Jp σ υ → FT υ (FLn B how w0) (FLs B how w0) (B 0 0) m k → CC υ (FLn B how w0) (FLs B how w0) (B 0 0) m k 3 → V mX12_fitAll 52 [some (vr 94), some (vi m), some (vi (B 0 0 - ((k : Int) + 1) + (-1))), none] [] υ post := by
        intro υ hG hU hC
        rw [show B 0 0 - ((k : Int) + 1) + -1 = (d : Int) - 1 by omega]
        refine ih (k + 1) υ (by omega) hG (fun i x hi x0 x1 => ?_)
        by_cases e : i = k + 1
        · subst e
          rw [show B 0 0 - ((k + 1 : Nat) : Int) = B 0 0 - ((k : Int) + 1) by omega]
          obtain ⟨y1, y2, y3⟩ := cw_ok hk wh.2 (by omega) x0 (hC x x0 x1)
          exact ⟨y1, y2, fun _ => by rw [← y2]; exact y3⟩
        · exact hU i x (by omega) x0 x1
      -- the losses
      have lossR : ∀ (w : Int) (τ : Sg) (post' : Po), 0 ≤ w → w ≤ 2 → FLs B how w0 (B 0 0 - ((k : Int) + 1)) w ≠ 268435456 → RA (bk τ 94) B → post' (some (vi (FLs B how w0 (B 0 0 - ((k : Int) + 1)) w))) τ → Cl mX12_lossOf [vr 94, vi (B 0 0 - ((k : Int) + 1)), vi w] τ post' := by
        intro w τ post' a b c kR hq
        unfold FLs at c hq
        refine EX12_lossOf ⟨by omega, fun c0 => ⟨by omega, fun c1 => ?_, fun c1 => ?_⟩, fun c0 => ?_⟩
        · rw [if_neg c0, if_neg c1] at c hq
          split at hq
          · rw [Ra_ask kR hb.1 hb.2]; exact hq
          · rename_i z; rw [if_neg z] at c; exact absurd rfl c
        · rw [if_neg c0, if_pos c1] at c hq
          split at hq
          · refine r_fullSubs hW kR hb.1 hb.2 ⟨_, rfl, ?_⟩
            dsimp only
            rw [Ra_ask kR hb.1 hb.2]
            exact hq
          · rename_i z; rw [if_neg z] at c; exact absurd rfl c
        · rw [if_pos c0] at hq; exact hq
      have cells : ∀ (e : Nat) (x : Int) (υ : Sg), x + e = m + 1 → 0 ≤ x → FrJ My Jp σ υ → FT υ (FLn B how w0) (FLs B how w0) (B 0 0) m k → (∀ y : Int, 0 ≤ y → y < x → υ 115 (201 * (B 0 0 - ((k : Int) + 1)) + y) = 1000000 ∧ υ 117 (201 * (B 0 0 - ((k : Int) + 1)) + y) = 0) → V mX12_fitAll 58 [some (vr 94), some (vi m), some (vi (B 0 0 - ((k : Int) + 1))), some (vi x)] [] υ post := by
        intro e
        induction e with
        | zero =>
          intro x υ he x0 hG hU hV
          have C0 : CC υ (FLn B how w0) (FLs B how w0) (B 0 0) m k 0 := fun y y0 y1 => by
            obtain ⟨a, b⟩ := hV y y0 (by omega)
            exact Or.inl ⟨a, b, fun v v0 v1 => by omega⟩
          have kR : RA (bk υ 94) B := hR.fr hG (by decide) (by decide)
          have q27 : υ 94 27 = how := (hG.2 27 (by decide)).trans h27
          have q28 : υ 94 28 = w0 := (hG.2 28 (by decide)).trans h28
          refine BX12_fitAll_58 ⟨by omega, by omega, fun _ => ?_, fun c => absurd (by omega) c⟩
          refine r_linesOf (src := B 0 0 - ((k : Int) + 1)) (fold := 0) hW kR hh q27 q28 hw hb.1 hb.2 (Or.inl ⟨rfl, rfl, rfl⟩) (Or.inl rfl) (fun σ1 hF1 => ⟨_, rfl, ?_⟩)
          have G1 : FrJ My Jp σ σ1 := hG.tr (hF1.mo (by decide) (by decide))
          have L0 : tens (hdB B how w0 (B 0 0 - ((k : Int) + 1)) (B 0 0 - ((k : Int) + 1)) 0) = FLn B how w0 (B 0 0 - ((k : Int) + 1)) 0 := by unfold FLn; rw [if_pos rfl]
          dsimp only
          rw [L0]
          have al0 : FLs B how w0 (B 0 0 - ((k : Int) + 1)) 0 ≠ 268435456 := by rw [okh.2.1]; decide
          refine r_fitHead hk wh.2 (by omega) m0 m1 (hU.fr hF1 (by decide) (by decide) (by decide)) (C0.fr hF1 (by decide) (by decide) (by decide)) (by decide) (by decide) al0 (fun τ' post' hF' hq => lossR 0 τ' post' (by decide) (by decide) al0 (hR.fr (G1.tr (hF'.mo (by decide) (by decide))) (by decide) (by decide)) hq) (fun σ2 hF2 U2 C1 => ⟨rfl, ?_⟩)
          have G2 : FrJ My Jp σ σ2 := G1.tr (hF2.mo (by decide) (by decide))
          have R2 : RA (bk σ2 94) B := hR.fr G2 (by decide) (by decide)
          -- the last way
          have lastw : ∀ ρ : Sg, FrJ My Jp σ ρ → FT ρ (FLn B how w0) (FLs B how w0) (B 0 0) m k → CC ρ (FLn B how w0) (FLs B how w0) (B 0 0) m k 2 → Cl mX12_isPrinted [vr 94, vi (B 0 0 - ((k : Int) + 1))] ρ (pI fun z4 σ4 => (rng z4) ∧ ((z4 = 0 → V mX12_fitAll 52 [some (vr 94), some (vi m), some (vi (B 0 0 - ((k : Int) + 1) + (-1))), none] [] σ4 post) ∧ (¬ z4 = 0 → Cl mX12_fitHead [vr 94, vi (B 0 0 - ((k : Int) + 1)), vi m, vi 2, vi 0] σ4 (pV fun σ5 => V mX12_fitAll 52 [some (vr 94), some (vi m), some (vi (B 0 0 - ((k : Int) + 1) + (-1))), none] [] σ5 post)))) := by
            intro ρ hH hUr hCr
            have kR2 : RA (bk ρ 94) B := hR.fr hH (by decide) (by decide)
            refine r_isPrinted hW kR2 hb.1 hb.2 (fun q => ⟨_, rfl, b1' ?_⟩) (fun q => ⟨_, rfl, b0' (goon ρ hH hUr (CC_no hCr ?_))⟩)
            · have al2 : FLs B how w0 (B 0 0 - ((k : Int) + 1)) 2 ≠ 268435456 := okh.2.2.2.1 (by rw [← L0]; exact pt.1 q)
              have := r_fitHead (post := pV fun σ5 => V mX12_fitAll 52 [some (vr 94), some (vi m), some (vi (B 0 0 - ((k : Int) + 1) + (-1))), none] [] σ5 post) hk wh.2 (by omega) m0 m1 hUr hCr (by decide) (by decide) al2 (fun τ' post' hF' hq => lossR 2 τ' post' (by decide) (by decide) al2 (hR.fr (hH.tr (hF'.mo (by decide) (by decide))) (by decide) (by decide)) hq) (fun σ3 hF3 U3 C3 => ⟨rfl, goon σ3 (hH.tr (hF3.mo (by decide) (by decide))) U3 C3⟩)
              rw [okh.2.2.1] at this
              exact this
            · unfold FLs
              rw [if_neg (by decide), if_neg (by decide), if_neg (fun z => q (pt.2 z))]
          refine r_fullSubs hW R2 hb.1 hb.2 ⟨_, rfl, ?_⟩
          show rng (fsb B (B 0 0 - ((k : Int) + 1))) ∧ ((fsb B (B 0 0 - ((k : Int) + 1)) ≤ 0 → _) ∧ (¬ fsb B (B 0 0 - ((k : Int) + 1)) ≤ 0 → _))
          refine ⟨by omega, fun c => lastw σ2 G2 U2 (CC_no C1 ?_), fun c => ?_⟩
          · unfold FLs
            rw [if_neg (by decide), if_pos (by decide), if_neg (by omega)]
          · have ff := fsb_fil (B := B) (h := B 0 0 - ((k : Int) + 1)) (by omega)
            refine r_linesOf (src := B 0 0 - ((k : Int) + 1)) (fold := 1) hW R2 hh (by rw [G2.2 27 (by decide)]; exact h27) (by rw [G2.2 28 (by decide)]; exact h28) hw hb.1 hb.2 (Or.inr (Or.inl ⟨rfl, rfl, rfl, ff⟩)) (Or.inr (Or.inl ff)) (fun σ3 hF3 => ⟨_, rfl, ?_⟩)
            have G3 : FrJ My Jp σ σ3 := G2.tr (hF3.mo (by decide) (by decide))
            have L1 : tens (hdB B how w0 (B 0 0 - ((k : Int) + 1)) (B 0 0 - ((k : Int) + 1)) 1) = FLn B how w0 (B 0 0 - ((k : Int) + 1)) 1 := by unfold FLn; rw [if_neg (by decide), if_pos ⟨rfl, by omega⟩]
            dsimp only
            rw [L1]
            have al1 : FLs B how w0 (B 0 0 - ((k : Int) + 1)) 1 ≠ 268435456 := fun z => by
              have := okh.2.2.2.2 z
              rw [← L1] at this
              have h5 := (prd_tens (B := B) (how := how) (w := w0) (h := B 0 0 - ((k : Int) + 1)) wse.1).1 (Or.inl ff)
              unfold FLs at z
              rw [if_neg (by decide), if_pos rfl, if_pos (by omega)] at z
              have wa := (hW.2.2.1 _ hb.1 hb.2).2.2.2.1
              have m1' : (B 6 (B 0 0 - ((k : Int) + 1)) + 1) * fsb B (B 0 0 - ((k : Int) + 1)) ≤ 100 * 6 := Int.mul_le_mul (by omega) fb.2 fb.1 (by decide)
              omega
            refine r_fitHead hk wh.2 (by omega) m0 m1 (U2.fr hF3 (by decide) (by decide) (by decide)) (CC.fr (w := 1) C1 hF3 (by decide) (by decide) (by decide)) (by decide) (by decide) al1 (fun τ' post' hF' hq => lossR 1 τ' post' (by decide) (by decide) al1 (hR.fr (G3.tr (hF'.mo (by decide) (by decide))) (by decide) (by decide)) hq) (fun σ4 hF4 U4 C4 => ⟨rfl, lastw σ4 (G3.tr (hF4.mo (by decide) (by decide))) U4 C4⟩)
        | succ e ihe =>
          intro x υ he x0 hG hU hV
          refine BX12_fitAll_58 ⟨by omega, by omega, fun c => absurd c (by omega), fun _ => ⟨by omega, ihe (x + 1) _ (by omega) (by omega) ((hG.u (by decide) (by decide)).u (by decide) (by decide)) (fun i y hi y0 y1 => ?_) (fun y y0 y1 => ?_)⟩⟩
          · have ne : 201 * (B 0 0 - (i : Int)) + y ≠ 201 * (B 0 0 - ((k : Int) + 1)) + x := by omega
            rw [up_r (by decide), up_f ne, up_r (by decide), up_r (by decide), up_f ne, up_r (by decide)]
            exact hU i y hi y0 y1
          · rw [up_r (by decide)]
            by_cases q : y = x
            · rw [q, up_s, up_s]; exact ⟨rfl, rfl⟩
            · rw [up_f (by omega), up_f (by omega), up_r (by decide)]
              exact hV y y0 (by omega)
      exact cells (m + 1).toNat 0 τ (by omega) (by decide) hF hT (fun y y0 y1 => by omega)
  have first : ∀ (e : Nat) (x : Int) (υ : Sg), x + e = m + 1 → 0 ≤ x → FrJ My Jp σ υ → (∀ y : Int, 0 ≤ y → y < x → υ 115 (201 * B 0 0 + y) = 0 ∧ υ 116 (201 * B 0 0 + y) = 0) → V mX12_fitAll 2 [some (vr 94), some (vi m), some (vi x), none] [] υ post := by
    intro e
    induction e with
    | zero =>
      intro x υ he x0 hG hV
      have q0 : υ 94 0 = B 0 0 := (hG.2 0 (by decide)).trans (Ra_heads hR)
      refine BX12_fitAll_2 ⟨by omega, by omega, fun _ => ?_, fun c => absurd (by omega) c⟩
      rw [q0]
      have := rows (B 0 0).toNat 0 υ (by omega) hG (fun i y hi y0 y1 => by
        obtain ⟨a, b⟩ := hV y y0 (by omega)
        rw [show i = 0 by omega, show B 0 0 - ((0 : Nat) : Int) = B 0 0 by omega, RLU_0 hk wh.1 wh.2 y0]
        exact ⟨a, b, fun z => by omega⟩)
      rw [show (((B 0 0).toNat : Nat) : Int) = B 0 0 by omega] at this
      exact this
    | succ e ihe =>
      intro x υ he x0 hG hV
      have q0 : υ 94 0 = B 0 0 := (hG.2 0 (by decide)).trans (Ra_heads hR)
      refine BX12_fitAll_2 ⟨by omega, by omega, fun c => absurd c (by omega), fun _ => ?_⟩
      rw [q0]
      refine ⟨by omega, ihe (x + 1) _ (by omega) (by omega) ((hG.u (by decide) (by decide)).u (by decide) (by decide)) (fun y y0 y1 => ?_)⟩
      rw [up_r (by decide)]
      by_cases q : y = x
      · rw [q, up_s, up_s]; exact ⟨rfl, rfl⟩
      · rw [up_f (by omega), up_f (by omega), up_r (by decide)]
        exact hV y y0 (by omega)
  exact first (m + 1).toNat 0 σ (by omega) (by decide) FrJ.rf (fun y y0 y1 => by omega)
theorem s_fit : St_fit Inv := by
  intro σ m h rm rh hI
  have hI' := hI
  obtain ⟨⟨h1, h2, ⟨h3, h3'⟩, h4, h5⟩, h6, h7, ⟨hW, hR⟩, ⟨h10, h11⟩, h12⟩ := hI
  have wh := Wb_heads hW
  have er : σ 94 0 = σ 5 0 := Ra_heads hR
  have ref : ∀ (z : Int) (τ : Sg), rng z → Inv τ → bk τ 5 = bk σ 5 → τ 0 3 = σ 0 3 → τ 0 4 = σ 0 4 → (¬ h = -1 → ¬ (0 ≤ h ∧ h < σ 5 0) → z = -1001) → (h = -1 ∨ (0 ≤ h ∧ h < σ 5 0) → ¬ (0 ≤ m ∧ m ≤ 200) → z = -1002) → (h = -1 → 0 ≤ m ∧ m ≤ 200 → z = (RLU (FLn (bk σ 5) (σ 0 3) (σ 0 4)) (FLs (bk σ 5) (σ 0 3) (σ 0 4)) (σ 5 0) (σ 5 0).toNat m).1) → (∀ g : Nat, (g : Int) = h → h < σ 5 0 → 0 ≤ m ∧ m ≤ 200 → z = cw (FLn (bk σ 5) (σ 0 3) (σ 0 4)) (FLs (bk σ 5) (σ 0 3) (σ 0 4)) (σ 5 0) (σ 5 0 - g - 1).toNat (pth (FLn (bk σ 5) (σ 0 3) (σ 0 4)) (FLs (bk σ 5) (σ 0 3) (σ 0 4)) (σ 5 0) (RLU (FLn (bk σ 5) (σ 0 3) (σ 0 4)) (FLs (bk σ 5) (σ 0 3) (σ 0 4)) (σ 5 0) (σ 5 0).toNat m).2 g)) → Cl mX12_fit [vr 94, vi m, vi h] τ (pI fun z2 σ2 => z = z2 ∧ rng z ∧ (Inv σ2 ∨ Inv (swp σ2))) := by
    intro z τ rz hIt t5 t03 t04 y1 y2 y3 y4
    obtain ⟨⟨k1, k2, ⟨k3, k3'⟩, k4, k5⟩, k6, k7, ⟨kW, kR⟩, ⟨k10, k11⟩, k12⟩ := id hIt
    rw [t5] at kR
    have e0 : τ 94 0 = σ 5 0 := Ra_heads kR
    have hk := FL_ok hW (σ 0 3) (σ 0 4)
    have hk : okW (FLn (bk σ 5) (σ 0 3) (σ 0 4)) (FLs (bk σ 5) (σ 0 3) (σ 0 4)) (σ 5 0) := hk
    have body : (h = -1 ∨ (0 ≤ h ∧ h < σ 5 0)) → (rng m) ∧ (Cl mX12_in [vl m, vl 0, vl 200] τ (pI fun z1 σ1 => (rng z1) ∧ ((¬ z1 = 0 → Cl mX12_fitAll [vr 94, vi m] σ1 (pV fun σ2 => (¬ h = (-1) → V mX12_fit 55 [some (vr 94), none, some (vi h), some (vi m), some (vi 0), none] [] σ2 (pI fun z2 σ2 => z = z2 ∧ rng z ∧ (Inv σ2 ∨ Inv (swp σ2)))) ∧ (h = (-1) → (0 ≤ m ∧ m < 3417) ∧ ((pI fun z2 σ2 => z = z2 ∧ rng z ∧ (Inv σ2 ∨ Inv (swp σ2))) (some (vi (σ2 115 m))) σ2)))) ∧ (z1 = 0 → (pI fun z2 σ2 => z = z2 ∧ rng z ∧ (Inv σ2 ∨ Inv (swp σ2))) (some (vi (-1002))) σ1)))) := by
      intro hcase
      refine ⟨rm, r_in (by omega) (by decide) (by decide) (fun a b => ⟨_, rfl, b1 ?_⟩) (fun q => ⟨_, rfl, b0 ⟨_, rfl, y2 hcase q, rz, Or.inl hIt⟩⟩)⟩
      refine r_fitAll (how := σ 0 3) (w0 := σ 0 4) hW kR h3' (by rw [← k3, t03]) (by rw [← k4.1, t04]) (by omega) a b (fun υ hF hT => ⟨rfl, ?_⟩)
      have hT : FT υ (FLn (bk σ 5) (σ 0 3) (σ 0 4)) (FLs (bk σ 5) (σ 0 3) (σ 0 4)) (σ 5 0) m (σ 5 0).toNat := hT
      have fin : ∀ ω : Sg, FrJ My Jp τ ω → Inv ω := fun ω hG => hIt.fr (M := []) Fr.rf hG (by simp) (by unfold ic; decide) (by decide)
      refine ⟨fun c => ?_, fun c => ⟨by omega, ⟨_, rfl, ?_, rz, Or.inl (fin υ hF)⟩⟩⟩
      · have hr : 0 ≤ h ∧ h < σ 5 0 := by omega
        have loop : ∀ (d g : Nat) (left : Int) (ω : Sg), (g : Int) + d = h → 0 ≤ left → left ≤ m → FrJ My Jp τ ω → FT ω (FLn (bk σ 5) (σ 0 3) (σ 0 4)) (FLs (bk σ 5) (σ 0 3) (σ 0 4)) (σ 5 0) m (σ 5 0).toNat → pth (FLn (bk σ 5) (σ 0 3) (σ 0 4)) (FLs (bk σ 5) (σ 0 3) (σ 0 4)) (σ 5 0) (RLU (FLn (bk σ 5) (σ 0 3) (σ 0 4)) (FLs (bk σ 5) (σ 0 3) (σ 0 4)) (σ 5 0) (σ 5 0).toNat m).2 g = (RLU (FLn (bk σ 5) (σ 0 3) (σ 0 4)) (FLs (bk σ 5) (σ 0 3) (σ 0 4)) (σ 5 0) (σ 5 0 - g).toNat left).2 → V mX12_fit 55 [some (vr 94), none, some (vi h), some (vi left), some (vi (g : Int)), none] [] ω (pI fun z2 σ2 => z = z2 ∧ rng z ∧ (Inv σ2 ∨ Inv (swp σ2))) := by
          intro d
          induction d with
          | zero =>
            intro g left ω hd l0 l1 hG hU hP
            have eg : h = g := by omega
            have f := (hU (σ 5 0 - g).toNat left (by omega) l0 l1).2.2 (by omega)
            rw [show σ 5 0 - (((σ 5 0 - (g : Int)).toNat : Nat) : Int) = g by omega, show (σ 5 0 - (g : Int)).toNat - 1 = (σ 5 0 - (g : Int) - 1).toNat by omega, ← hP] at f
            refine BX12_fit_55 ⟨by omega, by omega, fun _ => ⟨by omega, ⟨_, rfl, ?_, rz, Or.inl (fin ω hG)⟩⟩, fun c => absurd (by omega) c⟩
            rw [eg, f]
            exact y4 g eg.symm hr.2 ⟨a, b⟩
          | succ d ih =>
            intro g left ω hd l0 l1 hG hU hP
            have gb : (g : Int) < bk σ 5 0 0 := by show (g : Int) < σ 5 0; omega
            have okg := hk g (by omega) (by omega)
            have f := (hU (σ 5 0 - g).toNat left (by omega) l0 l1).2.2 (by omega)
            rw [show σ 5 0 - (((σ 5 0 - (g : Int)).toNat : Nat) : Int) = g by omega, show (σ 5 0 - (g : Int)).toNat - 1 = (σ 5 0 - (g : Int) - 1).toNat by omega] at f
            have st := cw_step hk wh.2 (k := (σ 5 0 - (g : Int) - 1).toNat) (by omega) l0
            rw [show (σ 5 0 - (g : Int) - 1).toNat + 1 = (σ 5 0 - (g : Int)).toNat by omega, show σ 5 0 - (((σ 5 0 - (g : Int) - 1).toNat : Nat) + 1) = g by omega] at st
            rw [← hP] at f st
            have ps : pth (FLn (bk σ 5) (σ 0 3) (σ 0 4)) (FLs (bk σ 5) (σ 0 3) (σ 0 4)) (σ 5 0) (RLU (FLn (bk σ 5) (σ 0 3) (σ 0 4)) (FLs (bk σ 5) (σ 0 3) (σ 0 4)) (σ 5 0) (σ 5 0).toNat m).2 (g + 1) = if pth (FLn (bk σ 5) (σ 0 3) (σ 0 4)) (FLs (bk σ 5) (σ 0 3) (σ 0 4)) (σ 5 0) (RLU (FLn (bk σ 5) (σ 0 3) (σ 0 4)) (FLs (bk σ 5) (σ 0 3) (σ 0 4)) (σ 5 0) (σ 5 0).toNat m).2 g - FLn (bk σ 5) (σ 0 3) (σ 0 4) g (cw (FLn (bk σ 5) (σ 0 3) (σ 0 4)) (FLs (bk σ 5) (σ 0 3) (σ 0 4)) (σ 5 0) (σ 5 0 - g - 1).toNat (pth (FLn (bk σ 5) (σ 0 3) (σ 0 4)) (FLs (bk σ 5) (σ 0 3) (σ 0 4)) (σ 5 0) (RLU (FLn (bk σ 5) (σ 0 3) (σ 0 4)) (FLs (bk σ 5) (σ 0 3) (σ 0 4)) (σ 5 0) (σ 5 0).toNat m).2 g)) < 0 then 0 else pth (FLn (bk σ 5) (σ 0 3) (σ 0 4)) (FLs (bk σ 5) (σ 0 3) (σ 0 4)) (σ 5 0) (RLU (FLn (bk σ 5) (σ 0 3) (σ 0 4)) (FLs (bk σ 5) (σ 0 3) (σ 0 4)) (σ 5 0) (σ 5 0).toNat m).2 g - FLn (bk σ 5) (σ 0 3) (σ 0 4) g (cw (FLn (bk σ 5) (σ 0 3) (σ 0 4)) (FLs (bk σ 5) (σ 0 3) (σ 0 4)) (σ 5 0) (σ 5 0 - g - 1).toNat (pth (FLn (bk σ 5) (σ 0 3) (σ 0 4)) (FLs (bk σ 5) (σ 0 3) (σ 0 4)) (σ 5 0) (RLU (FLn (bk σ 5) (σ 0 3) (σ 0 4)) (FLs (bk σ 5) (σ 0 3) (σ 0 4)) (σ 5 0) (σ 5 0).toNat m).2 g)) := rfl
            generalize ecw : cw (FLn (bk σ 5) (σ 0 3) (σ 0 4)) (FLs (bk σ 5) (σ 0 3) (σ 0 4)) (σ 5 0) (σ 5 0 - g - 1).toNat (pth (FLn (bk σ 5) (σ 0 3) (σ 0 4)) (FLs (bk σ 5) (σ 0 3) (σ 0 4)) (σ 5 0) (RLU (FLn (bk σ 5) (σ 0 3) (σ 0 4)) (FLs (bk σ 5) (σ 0 3) (σ 0 4)) (σ 5 0) (σ 5 0).toNat m).2 g) = c at f st ps
            obtain ⟨s1, s2, s3, s4⟩ := st
            have okc := (okg.1 c s1.1 s1.2).1
            have nn := (RJ_ex hk wh.2 (σ 5 0 - (g : Int) - 1).toNat (by omega) (left - FLn (bk σ 5) (σ 0 3) (σ 0 4) g c) (by omega)).1.1
            have go : ∀ ω' : Sg, FrJ [107, 108, 109, 110] Jp ω ω' → V mX12_fit 55 [some (vr 94), none, some (vi h), some (vi (left - FLn (bk σ 5) (σ 0 3) (σ 0 4) g c)), some (vi ((g : Int) + 1)), none] [] ω' (pI fun z2 σ2 => z = z2 ∧ rng z ∧ (Inv σ2 ∨ Inv (swp σ2))) := fun ω' hH => by
              refine ih (g + 1) _ ω' (by omega) (by omega) (by omega) (hG.tr (hH.mo (by decide) (by decide))) (hU.fr hH (by decide) (by decide) (by decide)) ?_
              rw [ps, if_neg (by omega), s4, show σ 5 0 - ((g + 1 : Nat) : Int) = σ 5 0 - (g : Int) - 1 by omega]
            have kRw : RA (bk ω 94) (bk σ 5) := kR.fr hG (by decide) (by decide)
            have q27 : ω 94 27 = σ 0 3 := by rw [hG.2 27 (by decide), ← k3, t03]
            have q28 : ω 94 28 = σ 0 4 := by rw [hG.2 28 (by decide), ← k4.1, t04]
            refine BX12_fit_55 ⟨by omega, by omega, fun c => absurd c (by omega), fun _ => ⟨by omega, ?_⟩⟩
            rw [f]
            refine ⟨by omega, fun c2 => ⟨fun c1 => ?_, fun c1 => ?_⟩, fun c2 => ?_⟩
            · have c0 : c = 0 := by omega
              refine r_linesOf (src := (g : Int)) (fold := 0) hW kRw h3' q27 q28 (by omega) (by omega) gb (Or.inl ⟨rfl, rfl, rfl⟩) (Or.inl rfl) (fun ω' hH => ⟨_, rfl, ?_⟩)
              have := go ω' hH
              unfold FLn at this
              rw [if_pos c0] at this
              exact this
            · have fp : 0 < fsb (bk σ 5) g := by
                by_cases q : 0 < fsb (bk σ 5) g
                · exact q
                · unfold FLs at s2
                  rw [if_neg (by omega), if_pos c1, if_neg q] at s2
                  exact absurd rfl s2
              refine r_linesOf (src := (g : Int)) (fold := 1) hW kRw h3' q27 q28 (by omega) (by omega) gb (Or.inr (Or.inl ⟨rfl, rfl, rfl, fsb_fil fp⟩)) (Or.inr (Or.inl (fsb_fil fp))) (fun ω' hH => ⟨_, rfl, ?_⟩)
              have := go ω' hH
              unfold FLn at this
              rw [if_neg (by omega), if_pos ⟨c1, fp⟩] at this
              exact this
            · have := go ω FrJ.rf
              rw [c2, okg.2.2.1] at this
              exact this
        exact loop h.toNat 0 m υ (by omega) a (Int.le_refl _) hF hT (by
          rw [show σ 5 0 - ((0 : Nat) : Int) = σ 5 0 by omega]
          rfl)
      · have := (hT (σ 5 0).toNat m (Nat.le_refl _) a (Int.le_refl _)).1
        rw [show 201 * (σ 5 0 - ((σ 5 0).toNat : Int)) + m = m by omega] at this
        rw [this]
        exact y3 c ⟨a, b⟩
    refine EX12_fit ⟨rh, fun c => body (Or.inl c), fun c => r_noHead rh (by rw [e0]; omega) (fun a b => ⟨_, rfl, b0' (body (Or.inr ⟨a, by omega⟩))⟩) (fun q => ⟨_, rfl, b1' ⟨_, rfl, y1 c (by omega), rz, Or.inl hIt⟩⟩)⟩
  have out1 : ¬ h = -1 → ¬ (0 ≤ h ∧ h < σ 5 0) → Cl mX12_fit [vr 94, vi m, vi h] σ (pI fun z2 σ2 => (-1001 : Int) = z2 ∧ rng (-1001) ∧ (Inv σ2 ∨ Inv (swp σ2))) := fun q q2 => ref (-1001) σ (by decide) hI' rfl rfl rfl (fun _ _ => rfl) (fun c _ => absurd c (by omega)) (fun c _ => absurd c q) (fun g hg c _ => absurd ⟨by omega, c⟩ q2)
  have out2 : (h = -1 ∨ (0 ≤ h ∧ h < σ 5 0)) → ¬ (0 ≤ m ∧ m ≤ 200) → Cl mX12_fit [vr 94, vi m, vi h] σ (pI fun z2 σ2 => (-1002 : Int) = z2 ∧ rng (-1002) ∧ (Inv σ2 ∨ Inv (swp σ2))) := fun q q2 => ref (-1002) σ (by decide) hI' rfl rfl rfl (fun c d => absurd q (by omega)) (fun _ _ => rfl) (fun _ c => absurd c q2) (fun _ _ _ c => absurd c q2)
  have body : (h = -1 ∨ (0 ≤ h ∧ h < σ 5 0)) → 0 ≤ m → m ≤ 200 → Cl mX11_printAll [vr 0] σ (pV fun σ1 => Cl mX11_offerFits [vr 0] σ1 (pV fun σ2 => ((σ2 0 1) = 5) ∧ (Cl mX1_choose [vr 85, vi (σ2 5 0), vi m] σ2 (pV fun σ3 => (¬ h = (-1) → (0 ≤ h ∧ h < 16) ∧ ((pI fun z σ1 => Cl mX12_fit [vr 94, vi m, vi h] σ1 (pI fun z2 σ2 => z = z2 ∧ rng z ∧ (Inv σ2 ∨ Inv (swp σ2)))) (some (vi (σ3 86 h))) σ3)) ∧ (h = (-1) → (pI fun z σ1 => Cl mX12_fit [vr 94, vi m, vi h] σ1 (pI fun z2 σ2 => z = z2 ∧ rng z ∧ (Inv σ2 ∨ Inv (swp σ2)))) (some (vi (σ3 85 0))) σ3))))) := by
    intro hcase m0 m1
    refine c_printAll hI' (fun τ hF hj e9 pr hI2 => ⟨rfl, c_offerFits hI2 pr (fun υ hG hR2 => ⟨rfl, ?_⟩)⟩)
    have e5 : bk τ 5 = bk σ 5 := bk5 (fun k a b => hF k (by unfold Fp; simp; omega))
    have e50 : τ 5 = σ 5 := hF 5 (by decide)
    have e03 : τ 0 3 = σ 0 3 := hj 3 (by decide)
    have e04 : τ 0 4 = σ 0 4 := hj 4 (by decide)
    rw [e5, e03, e04, e50] at hR2
    obtain ⟨g5, g0, g50, g1⟩ := hG.b5 (by decide)
    have hk := FL_ok hW (σ 0 3) (σ 0 4)
    have hk : okW (FLn (bk σ 5) (σ 0 3) (σ 0 4)) (FLs (bk σ 5) (σ 0 3) (σ 0 4)) (σ 5 0) := hk
    refine ⟨by rw [g0, hj 1 (by decide)]; exact h1.1, ?_⟩
    rw [g50, e50]
    have rj := (RJ_ex hk wh.2 (σ 5 0).toNat (by omega) m m0).2.2.2.2.1
    refine c_fchoose hk wh.1 wh.2 hR2 m0 m1 (fun ω hH s0 s1 => ⟨rfl, ?_⟩)
    have G : Fr [67, 68, 69, 58, 59, 60, 61, 62, 63, 85, 86, 87, 88, 89] τ ω := (hG.mo (by decide)).tr (hH.mo (by decide))
    have fin : Inv ω := hI2.fr (N := []) (J := []) G FrJ.rf (by unfold ic; decide) (by simp) (by simp)
    have w5 : bk ω 5 = bk σ 5 := by rw [(G.b5 (by decide)).1]; exact e5
    have w0 : ω 0 = τ 0 := G 0 (by decide)
    refine ⟨fun c => ⟨by omega, ⟨_, rfl, ?_⟩⟩, fun c => ⟨_, rfl, ?_⟩⟩
    · have hr : 0 ≤ h ∧ h < σ 5 0 := by omega
      have e := s1 h.toNat (by omega)
      rw [show ((h.toNat : Nat) : Int) = h by omega] at e
      have cb : 0 ≤ ω 86 h ∧ ω 86 h ≤ 2 := by
        rw [e]
        unfold cw
        split
        · decide
        · split <;> decide
      refine ref _ ω (by omega) fin w5 (by rw [w0]; exact e03) (by rw [w0]; exact e04) (fun _ q => absurd hr q) (fun _ q => absurd ⟨m0, m1⟩ q) (fun q => absurd q c) (fun g hg _ _ => ?_)
      rw [e, show h.toNat = g by omega, hg]
    · refine ref _ ω (by rw [s0]; omega) fin w5 (by rw [w0]; exact e03) (by rw [w0]; exact e04) (fun q => absurd c q) (fun _ q => absurd ⟨m0, m1⟩ q) (fun _ _ => s0) (fun g hg _ _ => by omega)
  refine EX11_fit ⟨rh, fun c => ⟨rm, fun d => ⟨_, rfl, out2 (Or.inl c) (by omega)⟩, fun d => ⟨fun e => body (Or.inl c) (by omega) e, fun e => ⟨_, rfl, out2 (Or.inl c) (by omega)⟩⟩⟩, fun c => ⟨h1.1, c_hasHead rfl rh (by omega) (fun a b => ⟨_, rfl, b1 ⟨rm, fun d => ⟨_, rfl, out2 (Or.inr ⟨a, b⟩) (by omega)⟩, fun d => ⟨fun e => body (Or.inr ⟨a, b⟩) (by omega) e, fun e => ⟨_, rfl, out2 (Or.inr ⟨a, b⟩) (by omega)⟩⟩⟩⟩) (fun q => ⟨_, rfl, b0 ⟨_, rfl, out1 c q⟩⟩)⟩⟩
