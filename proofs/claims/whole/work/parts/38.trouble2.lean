/-! ===== PURE HALF, by hand: the step of trouble ===== -/
def TRq (B : Sg) (w m h : Int) : Prop :=
  (w = 0 ∧ ∀ v : Nat, ¬ FS B h v) ∨ (w = 1 ∧ rnd B h) ∨ (w = 2 ∧ fil B h = true ∧ B 4 h ≠ -1) ∨ (w = 3 ∧ m < (rL B h (-1)).length ∧ ∀ s : Int, 0 ≤ s → ¬ 0 < nM B h s) ∨ (w = 4 ∧ cnt (fun s => decide (0 < nM B h s)) 16 = 1) ∨ (w = 5 ∧ ∃ g : Int, 0 ≤ g ∧ g < B 0 0 ∧ has (B 5 h) g = true ∧ ¬ fil B g = true) ∨ (w = 6 ∧ fil B h = true ∧ ∃ g : Int, 0 ≤ g ∧ g < B 0 0 ∧ g ≠ h ∧ twn B g h)
theorem FS_0 {B : Sg} {h : Int} (hf : fil B h = true) : FS B h 0 := ⟨hf, fun v hv => by omega⟩
theorem nM_hi {B : Sg} (hW : WfB B) {h s : Int} (h0 : 0 ≤ h) (h1 : h < B 0 0) (hs : B 2 h ≤ s) : ¬ 0 < nM B h s := fun z => by
  unfold nM at z
  obtain ⟨k, k1, k2⟩ := (cnt_pos _).1 z
  have w := hW.2.2.2.1 k (by omega) (by omega)
  obtain ⟨y1, y2⟩ := isM_iff.1 k2
  have ws := (hW.2.2.1 h h0 h1).1
  have w2 := w.2.1
  rw [y1] at w2
  omega
theorem full_16 {B : Sg} (hW : WfB B) {h : Int} (h0 : 0 ≤ h) (h1 : h < B 0 0) : cnt (fun s => decide (0 < nM B h s)) (B 2 h).toNat = cnt (fun s => decide (0 < nM B h s)) 16 := by
  have ws := (hW.2.2.1 h h0 h1).1
  have e := cnt_add (fun s => decide (0 < nM B h s)) (B 2 h).toNat (16 - (B 2 h).toNat)
  rw [show (B 2 h).toNat + (16 - (B 2 h).toNat) = 16 by omega] at e
  rw [e, cnt_z (p := fun i => decide (0 < nM B h (((B 2 h).toNat : Nat) + i))) _ (fun i hi => by
    rw [decide_eq_true_iff]
    exact nM_hi hW h0 h1 (by omega))]
  omega
theorem full_0 {B : Sg} (hW : WfB B) {h : Int} (h0 : 0 ≤ h) (h1 : h < B 0 0) : cnt (fun s => decide (0 < nM B h s)) (B 2 h).toNat = 0 ↔ ∀ s : Int, 0 ≤ s → ¬ 0 < nM B h s := by
  have ws := (hW.2.2.1 h h0 h1).1
  have cb := cnt_b (fun s => decide (0 < nM B h s)) (B 2 h).toNat
  constructor
  · intro z s s0 p
    by_cases c : s < B 2 h
    · have : 0 < cnt (fun s => decide (0 < nM B h s)) (B 2 h).toNat := (cnt_pos _).2 ⟨s.toNat, by omega, by
        show decide (0 < nM B h ((s.toNat : Nat) : Int)) = true
        rw [decide_eq_true_iff, show ((s.toNat : Nat) : Int) = s by omega]
        exact p⟩
      omega
    · exact nM_hi hW h0 h1 (by omega) p
  · intro z
    exact cnt_z _ (fun i hi => by rw [decide_eq_true_iff]; exact z i (by omega))
theorem c_hasTrouble {σ : Sg} {post : Po} {w m h z : Int} (h01 : σ 0 1 = 5) (hW : WfB (bk σ 5)) (hP : PgOK σ (bk σ 5) (σ 5 7).toNat) (w0 : 0 ≤ w) (w1 : w ≤ 6) (m0 : 0 ≤ m) (m1 : m ≤ 20) (h0 : 0 ≤ h) (h1 : h < σ 5 0) (z0 : 0 ≤ z) (z1 : z < 65536) (hz : ∀ g : Int, 0 ≤ g → has z g = fil (bk σ 5) g) (ht : TRq (bk σ 5) w m h → ∀ σ' : Sg, Fr [70, 71, 72, 73] σ σ' → post (some (vi 1)) σ') (hf : ¬ TRq (bk σ 5) w m h → ∀ σ' : Sg, Fr [70, 71, 72, 73] σ σ' → post (some (vi 0)) σ') : Cl mX11_hasTrouble [vr 0, vi w, vi m, vi h, vi z] σ post := by
  have wh := Wb_heads hW
  have h1' : h < bk σ 5 0 0 := h1
  have rf : Fr [70, 71, 72, 73] σ σ := Fr.rf
  refine EX11_hasTrouble (c_isIn z0 (by omega) h0 (by omega) (fun q => ?_) (fun q => ?_))
  · rw [hz h h0] at q
    refine ⟨_, rfl, by omega, fun c => b1' ⟨h01, ?_⟩, fun c => b1 (hf (fun t => ?_) σ rf), fun c => ⟨h01, ?_⟩, fun c => b1' ⟨h01, by omega, ?_⟩, fun c => ⟨h01, ?_⟩, fun c => ⟨h01, ?_⟩, fun c => ⟨h01, by omega, ?_⟩⟩
    · have c6 : w = 6 := by omega
      refine c_hasTwin hW hP h0 (by omega) (by omega) (by omega) (fun t => ⟨_, rfl, b1' (ht ?_ σ rf)⟩) (fun t => ⟨_, rfl, b0' (hf (fun y => t ?_) σ rf)⟩)
      · exact Or.inr (Or.inr (Or.inr (Or.inr (Or.inr (Or.inr ⟨c6, q, t⟩)))))
      · rcases y with y | y | y | y | y | y | y
        · omega
        · omega
        · omega
        · omega
        · omega
        · omega
        · exact y.2.2
    · rcases t with y | y | y | y | y | y | y
      · exact y.2 0 (FS_0 q)
      · omega
      · omega
      · omega
      · omega
      · omega
      · omega
    · refine c_goesRound rfl hW h0 h1 (fun t => ⟨_, rfl, Or.inr rfl, ht (Or.inr (Or.inl ⟨c, t⟩)) σ rf⟩) (fun t => ⟨_, rfl, Or.inl rfl, hf (fun y => t ?_) σ rf⟩)
      rcases y with y | y | y | y | y | y | y
      · omega
      · exact y.2
      · omega
      · omega
      · omega
      · omega
      · omega
    · have ws := Wb_see hW h0 h1
      have ws : -1 ≤ σ 9 h ∧ σ 9 h < σ 5 0 := ws
      refine ⟨by omega, fun d => hf (fun y => ?_) σ rf, fun d => ht (Or.inr (Or.inr (Or.inl ⟨c, q, d⟩))) σ rf⟩
      rcases y with y | y | y | y | y | y | y
      · omega
      · omega
      · exact y.2.2 d
      · omega
      · omega
      · omega
      · omega
    · refine c_gather rfl rfl (by decide) hW (by omega) (by decide) (fun σ1 hF hn hb hl => ⟨rfl, ?_⟩)
      have hn : 0 ≤ σ1 70 0 ∧ σ1 70 0 ≤ 50 := hn
      have len : ((rL (bk σ 5) h (-1)).length : Int) = σ1 70 0 := by
        rw [hl, arl_len]
        show (((σ1 70 0).toNat : Nat) : Int) = σ1 70 0
        omega
      have b5 : bk σ1 5 = bk σ 5 := bk5 (fun k a b => hF k (by simp; omega))
      refine ⟨by omega, by omega, fun d => hf (fun y => ?_) σ1 hF, fun d => ⟨by rw [hF 0 (by decide)]; exact h01, ?_⟩⟩
      · rcases y with y | y | y | y | y | y | y
        · omega
        · omega
        · omega
        · omega
        · omega
        · omega
        · omega
      · refine c_markedSubs rfl (by rw [b5]; exact hW) (by omega) (fun v v0 v1 hv => ⟨_, rfl, by omega, fun e => hf (fun y => ?_) σ1 hF, fun e => ht ?_ σ1 hF⟩)
        · rcases y with y | y | y | y | y | y | y
          · omega
          · omega
          · omega
          · refine e (has_ext v0 (by decide) (fun i i0 => ?_))
            rw [hv i i0, has_0, b5, decide_eq_false (y.2.2 i i0)]
          · omega
          · omega
          · omega
        · refine Or.inr (Or.inr (Or.inr (Or.inl ⟨c, by omega, fun s s0 p => ?_⟩)))
          have := hv s s0
          rw [e, has_0, b5, decide_eq_true p] at this
          cases this
    · refine c_markedSubs rfl hW (by omega) (fun v v0 v1 hv => ⟨_, rfl, c_bitCount v0 (by omega) ⟨_, rfl, ?_⟩⟩)
      have e : cnt (fun i => has v i) 16 = cnt (fun s => decide (0 < nM (bk σ 5) h s)) 16 := cnt_congr 16 (fun i _ => hv i (by omega))
      rw [e]
      have cb := cnt_b (fun s => decide (0 < nM (bk σ 5) h s)) 16
      refine ⟨by omega, fun d => hf (fun y => d ?_) σ rf, fun d => ht (Or.inr (Or.inr (Or.inr (Or.inr (Or.inl ⟨c, d⟩))))) σ rf⟩
      rcases y with y | y | y | y | y | y | y
      · omega
      · omega
      · omega
      · omega
      · exact y.2
      · omega
      · omega
    · have wa := Wb_also hW h0 h1
      have wa : 0 ≤ σ 10 h ∧ σ 10 h < 65536 ∧ ∀ g : Int, 0 ≤ g → has (σ 10 h) g = true → g < σ 5 0 := wa
      obtain ⟨n0, n1, n2⟩ := iAndN (a := σ 10 h) (b := z) wa.1 (by omega) z0 (by omega)
      refine ⟨fun d => hf (fun y => ?_) σ rf, fun d => ht (Or.inr (Or.inr (Or.inr (Or.inr (Or.inr (Or.inl ⟨c, ?_⟩)))))) σ rf⟩
      · rcases y with y | y | y | y | y | y | y
        · omega
        · omega
        · omega
        · omega
        · omega
        · obtain ⟨g, g0, g1, g2, g3⟩ := y.2
          have := n2 g g0
          rw [d, has_0, show has (σ 10 h) g = true from g2, hz g g0] at this
          cases u : fil (bk σ 5) g
          · rw [u] at this; cases this
          · exact g3 u
        · omega
      · by_cases ex : ∃ g : Int, 0 ≤ g ∧ has (iAnd (σ 10 h) (iXor z (-1))) g = true
        · obtain ⟨g, g0, g1⟩ := ex
          rw [n2 g g0, Bool.and_eq_true, Bool.not_eq_true', hz g g0] at g1
          exact ⟨g, g0, wa.2.2 g g0 g1.1, g1.1, fun u => by rw [g1.2] at u; cases u⟩
        · exact absurd (has_ext n0 (by decide) (fun i i0 => by
            rw [has_0]
            cases u : has (iAnd (σ 10 h) (iXor z (-1))) i
            · rfl
            · exact absurd ⟨i, i0, u⟩ ex)) d
  · rw [hz h h0] at q
    refine ⟨_, rfl, by omega, fun c => b0' (hf (fun y => ?_) σ rf), fun c => b0 ⟨h01, ?_⟩, fun c => ⟨h01, ?_⟩, fun c => b0' (hf (fun y => ?_) σ rf), fun c => ⟨h01, ?_⟩, fun c => ⟨h01, ?_⟩, fun c => ⟨h01, by omega, ?_⟩⟩
    · rcases y with y | y | y | y | y | y | y
      · omega
      · omega
      · omega
      · omega
      · omega
      · omega
      · exact q y.2.1
    · refine c_stepsToFilled rfl hW h0 h1 z0 z1 hz (fun v hv hFS => ⟨_, rfl, by omega, fun _ => hf (fun y => ?_) σ rf, fun d => absurd d (by omega)⟩) (fun hn => ⟨_, rfl, by decide, fun d => absurd rfl d, fun _ => ht (Or.inl ⟨c, hn⟩) σ rf⟩)
      rcases y with y | y | y | y | y | y | y
      · exact y.2 v hFS
      · omega
      · omega
      · omega
      · omega
      · omega
      · omega
    · refine c_goesRound rfl hW h0 h1 (fun t => ⟨_, rfl, Or.inr rfl, ht (Or.inr (Or.inl ⟨c, t⟩)) σ rf⟩) (fun t => ⟨_, rfl, Or.inl rfl, hf (fun y => t ?_) σ rf⟩)
      rcases y with y | y | y | y | y | y | y
      · omega
      · exact y.2
      · omega
      · omega
      · omega
      · omega
      · omega
    · rcases y with y | y | y | y | y | y | y
      · omega
      · omega
      · exact q y.2.1
      · omega
      · omega
      · omega
      · omega
    · refine c_gather rfl rfl (by decide) hW (by omega) (by decide) (fun σ1 hF hn hb hl => ⟨rfl, ?_⟩)
      have hn : 0 ≤ σ1 70 0 ∧ σ1 70 0 ≤ 50 := hn
      have len : ((rL (bk σ 5) h (-1)).length : Int) = σ1 70 0 := by
        rw [hl, arl_len]
        show (((σ1 70 0).toNat : Nat) : Int) = σ1 70 0
        omega
      have b5 : bk σ1 5 = bk σ 5 := bk5 (fun k a b => hF k (by simp; omega))
      refine ⟨by omega, by omega, fun d => hf (fun y => ?_) σ1 hF, fun d => ⟨by rw [hF 0 (by decide)]; exact h01, ?_⟩⟩
      · rcases y with y | y | y | y | y | y | y
        · omega
        · omega
        · omega
        · omega
        · omega
        · omega
        · omega
      · refine c_markedSubs rfl (by rw [b5]; exact hW) (by omega) (fun v v0 v1 hv => ⟨_, rfl, by omega, fun e => hf (fun y => ?_) σ1 hF, fun e => ht ?_ σ1 hF⟩)
        · rcases y with y | y | y | y | y | y | y
          · omega
          · omega
          · omega
          · refine e (has_ext v0 (by decide) (fun i i0 => ?_))
            rw [hv i i0, has_0, b5, decide_eq_false (y.2.2 i i0)]
          · omega
          · omega
          · omega
        · refine Or.inr (Or.inr (Or.inr (Or.inl ⟨c, by omega, fun s s0 p => ?_⟩)))
          have := hv s s0
          rw [e, has_0, b5, decide_eq_true p] at this
          cases this
    · refine c_markedSubs rfl hW (by omega) (fun v v0 v1 hv => ⟨_, rfl, c_bitCount v0 (by omega) ⟨_, rfl, ?_⟩⟩)
      have e : cnt (fun i => has v i) 16 = cnt (fun s => decide (0 < nM (bk σ 5) h s)) 16 := cnt_congr 16 (fun i _ => hv i (by omega))
      rw [e]
      have cb := cnt_b (fun s => decide (0 < nM (bk σ 5) h s)) 16
      refine ⟨by omega, fun d => hf (fun y => d ?_) σ rf, fun d => ht (Or.inr (Or.inr (Or.inr (Or.inr (Or.inl ⟨c, d⟩))))) σ rf⟩
      rcases y with y | y | y | y | y | y | y
      · omega
      · omega
      · omega
      · omega
      · exact y.2
      · omega
      · omega
    · have wa := Wb_also hW h0 h1
      have wa : 0 ≤ σ 10 h ∧ σ 10 h < 65536 ∧ ∀ g : Int, 0 ≤ g → has (σ 10 h) g = true → g < σ 5 0 := wa
      obtain ⟨n0, n1, n2⟩ := iAndN (a := σ 10 h) (b := z) wa.1 (by omega) z0 (by omega)
      refine ⟨fun d => hf (fun y => ?_) σ rf, fun d => ht (Or.inr (Or.inr (Or.inr (Or.inr (Or.inr (Or.inl ⟨c, ?_⟩)))))) σ rf⟩
      · rcases y with y | y | y | y | y | y | y
        · omega
        · omega
        · omega
        · omega
        · omega
        · obtain ⟨g, g0, g1, g2, g3⟩ := y.2
          have := n2 g g0
          rw [d, has_0, show has (σ 10 h) g = true from g2, hz g g0] at this
          cases u : fil (bk σ 5) g
          · rw [u] at this; cases this
          · exact g3 u
        · omega
      · by_cases ex : ∃ g : Int, 0 ≤ g ∧ has (iAnd (σ 10 h) (iXor z (-1))) g = true
        · obtain ⟨g, g0, g1⟩ := ex
          rw [n2 g g0, Bool.and_eq_true, Bool.not_eq_true', hz g g0] at g1
          exact ⟨g, g0, wa.2.2 g g0 g1.1, g1.1, fun u => by rw [g1.2] at u; cases u⟩
        · exact absurd (has_ext n0 (by decide) (fun i i0 => by
            rw [has_0]
            cases u : has (iAnd (σ 10 h) (iXor z (-1))) i
            · rfl
            · exact absurd ⟨i, i0, u⟩ ex)) d
theorem r_alsoEmpty {σ B : Sg} {post : Po} {h : Int} (hW : WfB B) (hR : RA (bk σ 94) B) (h0 : 0 ≤ h) (h1 : h < B 0 0) (ht : (∃ g : Int, 0 ≤ g ∧ g < B 0 0 ∧ has (B 5 h) g = true ∧ ¬ fil B g = true) → post (some (vi 1)) σ) (hf : ¬ (∃ g : Int, 0 ≤ g ∧ g < B 0 0 ∧ has (B 5 h) g = true ∧ ¬ fil B g = true) → post (some (vi 0)) σ) : Cl mX12_alsoEmpty [vr 94, vi h] σ post := by
  have wh := hW.1
  have e0 : σ 94 0 = B 0 0 := Ra_heads hR
  have wa := (hW.2.2.1 h h0 h1).2.2.1
  have ea : σ 99 h = B 5 h := Ra_also hR h0 h1
  refine EX12_alsoEmpty ?_
  have loop : ∀ (n : Nat) (j x : Int), 0 ≤ j → j + n = B 0 0 → (x = 1 ∧ (∃ g : Int, 0 ≤ g ∧ g < j ∧ has (B 5 h) g = true ∧ ¬ fil B g = true) ∨ x = 0 ∧ ¬ (∃ g : Int, 0 ≤ g ∧ g < j ∧ has (B 5 h) g = true ∧ ¬ fil B g = true)) → V mX12_alsoEmpty 4 [some (vr 94), some (vi h), some (vi x), some (vi j)] [] σ post := by
    intro n
    induction n with
    | zero =>
      intro j x j0 hj hx
      have ej : j = B 0 0 := by omega
      subst ej
      refine BX12_alsoEmpty_4 ⟨by omega, by omega, fun _ => ⟨hx.elim (fun z => Or.inr z.1) (fun z => Or.inl z.1), ?_⟩, fun q => absurd (by omega) q⟩
      rcases hx with ⟨e, y⟩ | ⟨e, y⟩
      · rw [e]; exact ht y
      · rw [e]; exact hf y
    | succ n ih =>
      intro j x j0 hj hx
      have rx : x = 0 ∨ x = 1 := hx.elim (fun z => Or.inr z.1) (fun z => Or.inl z.1)
      have no : x = 0 → ¬ (has (B 5 h) j = true ∧ ¬ fil B j = true) → V mX12_alsoEmpty 4 [some (vr 94), some (vi h), some (vi 0), some (vi (j + 1))] [] σ post := fun ex hn => ih (j + 1) 0 (by omega) (by omega) (Or.inr ⟨rfl, fun ⟨g, g0, g1, g2⟩ => by
        rcases hx with ⟨e, _⟩ | ⟨_, y⟩
        · omega
        · by_cases e : g = j
          · subst e; exact hn g2
          · exact y ⟨g, g0, by omega, g2⟩⟩)
      refine BX12_alsoEmpty_4 ⟨by omega, by omega, fun q => absurd q (by omega), fun _ => ⟨by omega, fun c => ?_, fun c => ⟨by omega, ?_⟩⟩⟩
      · refine ih (j + 1) 1 (by omega) (by omega) (Or.inl ⟨rfl, ?_⟩)
        rcases hx with ⟨_, g, g0, g1, g2⟩ | ⟨e, _⟩
        · exact ⟨g, g0, by omega, g2⟩
        · exact absurd e c
      · rw [ea]
        refine r_has wa.1 (by omega) j0 (by omega) (fun q => ⟨_, rfl, b1' (r_isFilled hW hR (by omega) (fun f => ⟨_, rfl, b1 (no c (fun z => z.2 f))⟩) (fun f => ⟨_, rfl, b0 ?_⟩))⟩) (fun q => ⟨_, rfl, b0' (no c (fun z => q z.1))⟩)
        exact ih (j + 1) 1 (by omega) (by omega) (Or.inl ⟨rfl, j, j0, by omega, q, f⟩)
  exact loop (B 0 0).toNat 0 0 (by omega) (by omega) (Or.inr ⟨rfl, fun ⟨g, g0, g1, _⟩ => by omega⟩)
theorem r_isTrouble {σ B : Sg} {post : Po} {w m h : Int} (hW : WfB B) (hR : RA (bk σ 94) B) (w0 : 0 ≤ w) (w1 : w ≤ 6) (m0 : 0 ≤ m) (m1 : m ≤ 20) (h0 : 0 ≤ h) (h1 : h < B 0 0) (ht : TRq B w m h → ∀ σ' : Sg, FrJ [107, 111] [24, 25, 26, 36] σ σ' → post (some (vi 1)) σ') (hf : ¬ TRq B w m h → ∀ σ' : Sg, FrJ [107, 111] [24, 25, 26, 36] σ σ' → post (some (vi 0)) σ') : Cl mX12_isTrouble [vr 94, vi h, vi w, vi m] σ post := by
  have wh := hW.1
  have rf : FrJ [107, 111] [24, 25, 26, 36] σ σ := FrJ.rf
  refine EX12_isTrouble ⟨by omega, fun c => ?_, fun c => ?_, fun c => ?_, fun c => ?_, fun c => ?_, fun c => ?_, fun c => ?_⟩
  · have c6 : w = 6 := by omega
    refine r_hasTwin hW hR h0 h1 (fun t σ' hF => ⟨_, rfl, Or.inr rfl, ht (Or.inr (Or.inr (Or.inr (Or.inr (Or.inr (Or.inr ⟨c6, t⟩)))))) σ' (hF.mo (by simp) (by simp))⟩) (fun t σ' hF => ⟨_, rfl, Or.inl rfl, hf (fun y => t ?_) σ' (hF.mo (by simp) (by simp))⟩)
    rcases y with y | y | y | y | y | y | y
    · omega
    · omega
    · omega
    · omega
    · omega
    · omega
    · exact y.2
  · refine r_foundFrom hW hR h0 h1 (fun v σ' hv hFS hF e36 => ?_) (fun hn σ' hF => ⟨_, rfl, by decide, fun d => absurd d (by decide), fun _ => ht (Or.inl ⟨c, hn⟩) σ' (hF.mo (by simp) (by simp))⟩)
    have cr := chn_r hW h0 h1 v
    have cn := FS_ne hW hFS (Nat.le_refl v)
    refine ⟨_, rfl, by omega, fun _ => hf (fun y => ?_) σ' (hF.mo (by simp) (by simp)), fun d => absurd (by omega) d⟩
    rcases y with y | y | y | y | y | y | y
    · exact y.2 v hFS
    · omega
    · omega
    · omega
    · omega
    · omega
    · omega
  · refine r_goesRound hW hR h0 h1 (fun t => ⟨_, rfl, Or.inr rfl, ht (Or.inr (Or.inl ⟨c, t⟩)) σ rf⟩) (fun t => ⟨_, rfl, Or.inl rfl, hf (fun y => t ?_) σ rf⟩)
    rcases y with y | y | y | y | y | y | y
    · omega
    · exact y.2
    · omega
    · omega
    · omega
    · omega
    · omega
  · have ws := (hW.2.2.1 h h0 h1).2.1
    have es : σ 98 h = B 4 h := Ra_see hR h0 h1
    refine r_isFilled hW hR (by omega) (fun f => ⟨_, rfl, b1' ⟨by omega, by omega, fun d => hf (fun y => ?_) σ rf, fun d => ht (Or.inr (Or.inr (Or.inl ⟨c, f, by omega⟩))) σ rf⟩⟩) (fun f => ⟨_, rfl, b0' (hf (fun y => ?_) σ rf)⟩)
    · rcases y with y | y | y | y | y | y | y
      · omega
      · omega
      · have := y.2.2; omega
      · omega
      · omega
      · omega
      · omega
    · rcases y with y | y | y | y | y | y | y
      · omega
      · omega
      · exact f y.2.1
      · omega
      · omega
      · omega
      · omega
  · have hRep := rL_Rep hW h (-1)
    have lb := Rep_b _ 1 (by omega) hRep
    refine r_tick hW hR (by omega) (by decide) (fun σ1 hF1 hT => ⟨rfl, r_runsTicked hT (fun x => tk_3 _ _ _ x _) hRep (fun σ2 hF2 => ⟨_, rfl, by omega, by omega, fun d => hf (fun y => ?_) σ2 ((hF1.mo (by simp) (by simp)).tr (hF2.mo (by simp) (by simp))), fun d => ?_⟩)⟩)
    · rcases y with y | y | y | y | y | y | y
      · omega
      · omega
      · omega
      · omega
      · omega
      · omega
      · omega
    · have hF3 : FrJ [107, 111] [24, 25, 26, 36] σ σ2 := (hF1.mo (by simp) (by simp)).tr (hF2.mo (by simp) (by simp))
      have hR2 : RA (bk σ2 94) B := hR.fr hF3 (by simp) (by simp)
      have cb := cnt_b (fun s => decide (0 < nM B h s)) (B 2 h).toNat
      have ws := (hW.2.2.1 h h0 h1).1
      refine r_fullSubs hW hR2 h0 h1 ⟨_, rfl, by omega, fun e => hf (fun y => e ?_) σ2 hF3, fun e => ht (Or.inr (Or.inr (Or.inr (Or.inl ⟨c, by omega, (full_0 hW h0 h1).1 e⟩)))) σ2 hF3⟩
      rcases y with y | y | y | y | y | y | y
      · omega
      · omega
      · omega
      · exact (full_0 hW h0 h1).2 y.2.2
      · omega
      · omega
      · omega
  · have cb := cnt_b (fun s => decide (0 < nM B h s)) (B 2 h).toNat
    have ws := (hW.2.2.1 h h0 h1).1
    refine r_fullSubs hW hR h0 h1 ⟨_, rfl, by omega, fun e => hf (fun y => e ?_) σ rf, fun e => ht (Or.inr (Or.inr (Or.inr (Or.inr (Or.inl ⟨c, ?_⟩))))) σ rf⟩
    · rcases y with y | y | y | y | y | y | y
      · omega
      · omega
      · omega
      · omega
      · rw [full_16 hW h0 h1]; exact y.2
      · omega
      · omega
    · rw [← full_16 hW h0 h1]; exact e
  · refine r_alsoEmpty hW hR h0 h1 (fun t => ⟨_, rfl, Or.inr rfl, ht (Or.inr (Or.inr (Or.inr (Or.inr (Or.inr (Or.inl ⟨c, t⟩)))))) σ rf⟩) (fun t => ⟨_, rfl, Or.inl rfl, hf (fun y => t ?_) σ rf⟩)
    rcases y with y | y | y | y | y | y | y
    · omega
    · omega
    · omega
    · omega
    · omega
    · exact y.2
    · omega
def SeR (B : Sg) (w m z : Int) : Prop := (0 ≤ z ∧ z < 65536) ∧ ∀ g : Int, 0 ≤ g → (has z g = true ↔ g < B 0 0 ∧ TRq B w m g)
theorem s_trouble : St_trouble Inv := by
  intro σ w m rw rm hI
  have hI' := hI
  obtain ⟨⟨h1, h2, h3, h4, h5⟩, h6, h7, ⟨hW, hR⟩, ⟨h10, h11⟩, h12⟩ := hI
  have wh := Wb_heads hW
  have er : σ 94 0 = σ 5 0 := Ra_heads hR
  have no : ¬ ((0 ≤ w ∧ w ≤ 6) ∧ 0 ≤ m ∧ m ≤ 20) → Cl mX12_trouble [vr 94, vi w, vi m] σ (pI fun z2 σ2 => -1002 = z2 ∧ rng (-1002) ∧ (Inv σ2 ∨ Inv (swp σ2))) := by
    intro hn
    refine EX12_trouble ⟨rw, r_in (by omega) (by omega) (by omega) (fun a b => ⟨_, rfl, b1' ⟨rm, r_in (by omega) (by omega) (by omega) (fun c d => absurd ⟨⟨a, b⟩, c, d⟩ hn) (fun _ => ⟨_, rfl, b0 ⟨_, rfl, rfl, by decide, Or.inl hI'⟩⟩)⟩⟩) (fun _ => ⟨_, rfl, b0' ⟨_, rfl, rfl, by decide, Or.inl hI'⟩⟩)⟩
  refine EX11_trouble ⟨rw, fun q => ⟨_, rfl, no (by omega)⟩, fun q => ⟨fun q2 => ⟨_, rfl, no (by omega)⟩, fun q2 => ⟨rm, fun q3 => ⟨_, rfl, no (by omega)⟩, fun q3 => ⟨fun q4 => ⟨h1.1, ?_⟩, fun q4 => ⟨_, rfl, no (by omega)⟩⟩⟩⟩⟩
  refine c_gatherP rfl (by decide) hW (fun σ1 hF1 hP => ⟨rfl, by rw [hF1 0 (by decide)]; exact h1.1, ?_⟩)
  have b5 : bk σ1 5 = bk σ 5 := bk5 (fun k a b => hF1 k (by simp; omega))
  refine c_filledHeads rfl (by rw [b5]; exact hW) (fun z z0 z1 hz => ⟨_, rfl, ?_⟩)
  rw [b5] at hz
  have M : List Nat := [70, 71, 72, 73, 79, 80]
  have loop : ∀ (n : Nat) (j x : Int) (τ : Sg), 0 ≤ j → j + n = σ 5 0 → Fr [70, 71, 72, 73, 79, 80] σ τ → τ 79 = σ1 79 → τ 80 = σ1 80 → (0 ≤ x ∧ x < 65536) → (∀ g : Int, 0 ≤ g → (has x g = true ↔ g < j ∧ TRq (bk σ 5) w m g)) → V mX11_trouble 49 [some (vr 0), some (vi w), some (vi m), some (vi z), some (vi x), some (vi j)] [] τ (pI fun z σ1 => Cl mX12_trouble [vr 94, vi w, vi m] σ1 (pI fun z2 σ2 => z = z2 ∧ rng z ∧ (Inv σ2 ∨ Inv (swp σ2)))) := by
    intro n
    induction n with
    | zero =>
      intro j x τ j0 hj hF e79 e80 hx hT
      have e5 : τ 5 = σ 5 := hF 5 (by decide)
      have e0 : τ 0 = σ 0 := hF 0 (by decide)
      have ej : j = σ 5 0 := by omega
      subst ej
      refine BX11_trouble_49 ⟨by rw [e0]; exact h1.1, by omega, by rw [e5]; omega, fun _ => ⟨_, rfl, ?_⟩, fun q => absurd (by rw [e5]; omega) q⟩
      have e94 : τ 94 = σ 94 := hF 94 (by decide)
      have hR1 : RA (bk τ 94) (bk σ 5) := by
        rw [bk94 (σ := σ) (σ' := τ) (by rw [e94]) (by rw [e94]) (fun k a b => hF k (by simp; omega))]; exact hR
      refine EX12_trouble ⟨rw, r_in (by omega) (by omega) (by omega) (fun _ _ => ⟨_, rfl, b1' ⟨rm, r_in (by omega) (by omega) (by omega) (fun _ _ => ⟨_, rfl, b1 ?_⟩) (fun y => absurd (by omega) y)⟩⟩) (fun y => absurd (by omega) y)⟩
      have rl : ∀ (n : Nat) (i y : Int) (υ : Sg), 0 ≤ i → i + n = σ 5 0 → FrJ [107, 111] [24, 25, 26, 36] τ υ → (0 ≤ y ∧ y < 65536) → (∀ g : Int, 0 ≤ g → (has y g = true ↔ g < i ∧ TRq (bk σ 5) w m g)) → V mX12_trouble 33 [some (vr 94), some (vi w), some (vi m), some (vi y), some (vi i)] [] υ (pI fun z2 σ2 => x = z2 ∧ rng x ∧ (Inv σ2 ∨ Inv (swp σ2))) := by
        intro n
        induction n with
        | zero =>
          intro i y υ i0 hi hF2 hy hT2
          have f0 : υ 94 0 = σ 5 0 := by rw [hF2.2 0 (by decide), e94]; exact er
          refine BX12_trouble_33 ⟨by omega, by rw [f0]; omega, fun _ => ⟨_, rfl, has_ext hx.1 hy.1 (fun g g0 => ?_), by omega, Or.inl (hI'.fr hF hF2 (by unfold ic; decide) (by unfold ic; decide) (by decide))⟩, fun q => absurd (by rw [f0]; omega) q⟩
          rw [Bool.eq_iff_iff, hT g g0, hT2 g g0, show i = σ 5 0 by omega]
        | succ n ih =>
          intro i y υ i0 hi hF2 hy hT2
          have f0 : υ 94 0 = σ 5 0 := by rw [hF2.2 0 (by decide), e94]; exact er
          have hR2 : RA (bk υ 94) (bk σ 5) := hR1.fr hF2 (by simp) (by simp)
          have s := iShl1_lt (h := i) (n := 16) i0 (by omega) (by decide)
          have o := iOr_lt (s := y) (t := iShl 1 i) (n := 16) (by decide) hy.1 hy.2 s.1 s.2
          refine BX12_trouble_33 ⟨by omega, by rw [f0]; omega, fun q => absurd q (by rw [f0]; omega), fun _ => r_isTrouble hW hR2 (by omega) (by omega) (by omega) (by omega) i0 (show i < σ 5 0 by omega) (fun t υ2 hF3 => ⟨_, rfl, r_one (by omega) ⟨_, rfl, ?_⟩⟩) (fun t υ2 hF3 => ⟨_, rfl, r_one (by omega) ⟨_, rfl, ?_⟩⟩)⟩
          · refine ih (i + 1) _ υ2 (by omega) (by omega) (hF2.tr hF3) o (fun g g0 => ?_)
            rw [has_or hy.1 (by omega) s.1 (by omega), has_shl i0 (by omega) g0, Bool.or_eq_true, hT2 g g0, decide_eq_true_iff]
            constructor
            · rintro (⟨a, b⟩ | a)
              · exact ⟨by omega, b⟩
              · subst a; exact ⟨by omega, t⟩
            · rintro ⟨a, b⟩
              by_cases e : g = i
              · exact Or.inr e
              · exact Or.inl ⟨by omega, b⟩
          · show V mX12_trouble 33 [some (vr 94), some (vi w), some (vi m), some (vi (iOr y (iShl 0 i))), some (vi (i + 1))] [] υ2 _
            rw [iShl0_e i0 (by omega), iOr_z hy.1 (by omega)]
            refine ih (i + 1) y υ2 (by omega) (by omega) (hF2.tr hF3) hy (fun g g0 => ?_)
            rw [hT2 g g0]
            constructor
            · rintro ⟨a, b⟩; exact ⟨by omega, b⟩
            · rintro ⟨a, b⟩
              by_cases e : g = i
              · subst e; exact absurd b t
              · exact ⟨by omega, b⟩
      exact rl (σ 5 0).toNat 0 0 τ (by omega) (by omega) FrJ.rf (by decide) (fun g g0 => by rw [has_0]; constructor; (intro z; cases z); (rintro ⟨a, _⟩; omega))
    | succ n ih =>
      intro j x τ j0 hj hF e79 e80 hx hT
      have e5 : τ 5 = σ 5 := hF 5 (by decide)
      have e0 : τ 0 = σ 0 := hF 0 (by decide)
      have t5 : bk τ 5 = bk σ 5 := bk5 (fun k a b => hF k (by simp; omega))
      have s := iShl1_lt (h := j) (n := 16) j0 (by omega) (by decide)
      have o := iOr_lt (s := x) (t := iShl 1 j) (n := 16) (by decide) hx.1 hx.2 s.1 s.2
      refine BX11_trouble_49 ⟨by rw [e0]; exact h1.1, by omega, by rw [e5]; omega, fun q => absurd q (by rw [e5]; omega), fun _ => c_hasTrouble (by rw [e0]; exact h1.1) (by rw [t5]; exact hW) ?_ (by omega) (by omega) (by omega) (by omega) j0 (by rw [e5]; omega) z0 z1 (by rw [t5]; exact hz) (fun t υ hF2 => ⟨_, rfl, b1' ?_⟩) (fun t υ hF2 => ⟨_, rfl, b0' ?_⟩)⟩
      · unfold PgOK
        rw [t5, e79, e80, e5]
        exact hP
      · rw [t5] at t
        refine ih (j + 1) _ υ (by omega) (by omega) (hF.tr (hF2.mo (by simp))) (by rw [hF2 79 (by decide)]; exact e79) (by rw [hF2 80 (by decide)]; exact e80) o (fun g g0 => ?_)
        rw [has_or hx.1 (by omega) s.1 (by omega), has_shl j0 (by omega) g0, Bool.or_eq_true, hT g g0, decide_eq_true_iff]
        constructor
        · rintro (⟨a, b⟩ | a)
          · exact ⟨by omega, b⟩
          · subst a; exact ⟨by omega, t⟩
        · rintro ⟨a, b⟩
          by_cases e : g = j
          · exact Or.inr e
          · exact Or.inl ⟨by omega, b⟩
      · rw [t5] at t
        refine ih (j + 1) x υ (by omega) (by omega) (hF.tr (hF2.mo (by simp))) (by rw [hF2 79 (by decide)]; exact e79) (by rw [hF2 80 (by decide)]; exact e80) hx (fun g g0 => ?_)
        rw [hT g g0]
        constructor
        · rintro ⟨a, b⟩; exact ⟨by omega, b⟩
        · rintro ⟨a, b⟩
          by_cases e : g = j
          · subst e; exact absurd b t
          · exact ⟨by omega, b⟩
  exact loop (σ 5 0).toNat 0 0 σ1 (by omega) (by omega) (hF1.mo (by simp)) rfl rfl (by decide) (fun g g0 => by rw [has_0]; constructor; (intro z; cases z); (rintro ⟨a, _⟩; omega))
