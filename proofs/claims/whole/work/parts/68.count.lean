/-! ===== PURE HALF, by hand: the reference's totals; count, head, print ===== -/
noncomputable def psr (B : Sg) (h : Int) : Int := chn B h (Classical.epsilon (fun v => FS B h v))
theorem psr_e {B : Sg} {h : Int} {v : Nat} (hv : FS B h v) : psr B h = chn B h v := by
  have := Classical.epsilon_spec (p := fun v => FS B h v) ⟨v, hv⟩
  unfold psr
  rw [FS_uniq this hv]
noncomputable def lin (B : Sg) (how w set h : Int) : Int := tens (hdB B how w h (if has set h = true then psr B h else h) 0)
theorem lin_0 (B : Sg) (how w h : Int) : lin B how w 0 h = tens (hdB B how w h h 0) := by
  unfold lin
  rw [has_0, if_neg (by decide)]
def postable (B : Sg) (h : Int) : Prop := ¬ fil B h = true ∧ ∃ v : Nat, FS B h v
theorem post_prd {B : Sg} (hW : WfB B) {h : Int} (h0 : 0 ≤ h) (h1 : h < B 0 0) (hp : postable B h) : prd B h := by
  obtain ⟨a, v, hv⟩ := hp
  have v1 : 1 ≤ v := by
    rcases Nat.eq_zero_or_pos v with z | z
    · subst z; exact absurd hv.1 a
    · exact z
  have ne := FS_ne hW hv (v := 1) v1
  have wse := (hW.2.2.1 h h0 h1).2.1
  have e : chn B h 1 = B 4 h := by
    rw [chn, chn, if_neg (by omega)]
  rw [e] at ne
  exact Or.inr (Or.inl (by omega))
theorem r_linesOfAll {σ B : Sg} {post : Po} {how w set : Int} (hW : WfB B) (hR : RA (bk σ 94) B) (hh : how = 0 ∨ how = 1) (h27 : σ 94 27 = how) (h28 : σ 94 28 = w) (w0 : 0 ≤ w ∧ w ≤ 80) (s0 : 0 ≤ set) (s1 : set < 2147483648) (hs : ∀ h : Int, 0 ≤ h → h < B 0 0 → has set h = true → postable B h) (hp : ∀ σ' : Sg, FrJ [107, 108, 109, 110] Jp σ σ' → post (some (vi (sumN (lin B how w set) (B 0 0).toNat))) σ') : Cl mX12_linesOfAll [vr 94, vi set] σ post := by
  have wh := hW.1
  refine EX12_linesOfAll ?_
  have loop : ∀ (n j : Nat) (τ : Sg), (j : Int) + n = B 0 0 → FrJ [107, 108, 109, 110] Jp σ τ → V mX12_linesOfAll 4 [some (vr 94), some (vi set), some (vi (sumN (lin B how w set) j)), some (vi (j : Int))] [] τ post := by
    intro n
    induction n with
    | zero =>
      intro j τ hj hF
      have e0 : τ 94 0 = B 0 0 := (hF.2 0 (by decide)).trans (Ra_heads hR)
      refine BX12_linesOfAll_4 ⟨by omega, by rw [e0]; omega, fun _ => ?_, fun z => absurd (by rw [e0]; omega) z⟩
      rw [show j = (B 0 0).toNat by omega]
      exact hp τ hF
    | succ n ih =>
      intro j τ hj hF
      have e0 : τ 94 0 = B 0 0 := (hF.2 0 (by decide)).trans (Ra_heads hR)
      have hR' : RA (bk τ 94) B := hR.fr hF (by decide) (by decide)
      have q27 : τ 94 27 = how := (hF.2 27 (by decide)).trans h27
      have q28 : τ 94 28 = w := (hF.2 28 (by decide)).trans h28
      refine BX12_linesOfAll_4 ⟨by omega, by rw [e0]; omega, fun z => absurd z (by rw [e0]; omega), fun _ => r_has s0 s1 (by omega) (by omega) (fun hy => ⟨_, rfl, b1' ?_⟩) (fun hy => ⟨_, rfl, b0' ?_⟩)⟩
      · have po := hs j (by omega) (by omega) hy
        obtain ⟨a, v, hv⟩ := id po
        refine r_linesOf (src := psr B j) (fold := 0) hW hR' hh q27 q28 w0 (by omega) (by omega) (Or.inr (Or.inr ⟨rfl, rfl, a, v, hv, psr_e hv⟩)) (Or.inr (post_prd hW (by omega) (by omega) po)) (fun σ1 hF1 => ⟨_, rfl, ?_⟩)
        have := ih (j + 1) σ1 (by omega) (hF.tr hF1)
        rw [sumN] at this
        unfold lin at this ⊢
        rw [if_pos hy] at this
        exact this
      · refine r_linesOf (src := j) (fold := 0) hW hR' hh q27 q28 w0 (by omega) (by omega) (Or.inl ⟨rfl, rfl, rfl⟩) (Or.inl rfl) (fun σ1 hF1 => ⟨_, rfl, ?_⟩)
        have := ih (j + 1) σ1 (by omega) (hF.tr hF1)
        rw [sumN] at this
        unfold lin at this ⊢
        rw [if_neg hy] at this
        exact this
  exact loop (B 0 0).toNat 0 σ (by omega) FrJ.rf
theorem tens_sum {B : Sg} (how w : Int) : tens (allB B how w (B 0 0).toNat) = sumN (lin B how w 0) (B 0 0).toNat := by
  rw [tens_all]
  have := ord_perm (key := hkey B how) (f := fun h => tens (hdB B how w h h 0)) (n := (B 0 0).toNat) (fun i => (tens_nn _).1)
  rw [this]
  exact sumN_congr _ (fun i hi => (lin_0 B how w i).symm)
theorem r_bytesOfAll {σ B : Sg} {post : Po} {how w : Int} (hW : WfB B) (hR : RA (bk σ 94) B) (hh : how = 0 ∨ how = 1) (h27 : σ 94 27 = how) (h28 : σ 94 28 = w) (w0 : 0 ≤ w ∧ w ≤ 80) (hp : ∀ σ' : Sg, FrJ [107, 108, 109, 110] Jp σ σ' → lies (σ' 109) (allB B how w (B 0 0).toNat) → post (some (vi ((allB B how w (B 0 0).toNat).length : Int))) σ') : Cl mX12_bytesOfAll [vr 94] σ post := by
  have wh := hW.1
  have al := all_len hW how w
  have F0 : FrJ [107, 108, 109, 110] Jp σ (up σ 94 31 0) := FrJ.rf.j (by decide)
  have R0 : RA (bk (up σ 94 31 0) 94) B := hR.fr F0 (by decide) (by decide)
  refine EX12_bytesOfAll (r_findOrder hW R0 (by rw [up_f (by decide), h27]; exact hh) (fun σ1 hF1 ho => ⟨rfl, ?_⟩))
  rw [up_f (by decide), h27] at ho
  have F1 : FrJ [107, 108, 109, 110] Jp σ σ1 := F0.tr (hF1.mo (by decide) (by decide))
  have P1 : PQ σ1 B how w := ⟨hR.fr F1 (by decide) (by decide), by rw [F1.2 27 (by decide)]; exact h27, by rw [F1.2 28 (by decide)]; exact h28, ho⟩
  have O1 : RO σ1 [] := ⟨by rw [hF1.2 31 (by decide), up_s]; rfl, fun i hi => by simp at hi⟩
  have loop : ∀ (n j : Nat) (τ : Sg), (j : Int) + n = B 0 0 → FrJ Mp Jp σ1 τ → RO τ (allB B how w j) → V mX12_bytesOfAll 11 [some (vr 94), some (vi (j : Int)), none] [] τ post := by
    intro n
    induction n with
    | zero =>
      intro j τ hj hF hO
      have P := P1.fr hF (by decide) (by decide)
      have e0 : τ 94 0 = B 0 0 := Ra_heads P.1
      refine BX12_bytesOfAll_11 ⟨by omega, by rw [e0]; omega, fun _ => ?_, fun z => absurd (by rw [e0]; omega) z⟩
      rw [show j = (B 0 0).toNat by omega] at hO
      rw [hO.1]
      exact hp τ (F1.tr (hF.mo (by decide) (by decide))) hO.2
    | succ n ih =>
      intro j τ hj hF hO
      have P := P1.fr hF (by decide) (by decide)
      have e0 : τ 94 0 = B 0 0 := Ra_heads P.1
      have o := (ord_b (key := hkey B how) (n := (B 0 0).toNat) (i := j) (by omega) (by omega)).1
      have lj := allB_up B how w (m := j) (B 0 0).toNat (by omega)
      have eo := P.2.2.2 j (by omega) (by omega)
      refine BX12_bytesOfAll_11 ⟨by omega, by rw [e0]; omega, fun z => absurd z (by rw [e0]; omega), fun _ => ⟨by omega, ?_⟩⟩
      rw [eo]
      refine r_isPrinted hW P.1 o.1 (by omega) (fun q => ⟨_, rfl, b1' ?_⟩) (fun q => ⟨_, rfl, b0' ?_⟩)
      · refine r_printHead hW P hh w0 o.1 (by omega) (Or.inl ⟨rfl, rfl, rfl⟩) q hO (by omega) (fun σ2 hF2 O2 => ⟨rfl, ih (j + 1) σ2 (by omega) (hF.tr hF2) O2⟩)
      · refine ih (j + 1) τ (by omega) hF ?_
        have wse := (hW.2.2.1 _ o.1 (by omega)).2.1
        rw [allB, hdB_np wse.1 q, List.append_nil]
        exact hO
  exact loop (B 0 0).toNat 0 σ1 (by omega) FrJ.rf O1
theorem cnt_cut {p : Int → Bool} {n : Nat} (h : ∀ i : Nat, n ≤ i → p i = false) : ∀ m : Nat, n ≤ m → cnt p m = cnt p n
  | 0, hm => by rw [show n = 0 by omega]
  | m + 1, hm => by
    by_cases e : n = m + 1
    · rw [e]
    · rw [cnt_s, h m (by omega), if_neg (by decide), cnt_cut h m (by omega)]
      omega
theorem fil_cnt {B : Sg} {z : Int} (hW : WfB B) (hz : ∀ g : Int, 0 ≤ g → has z g = fil B g) : cnt (fun g => has z g) 16 = cnt (fil B) (B 0 0).toNat := by
  have wh := hW.1
  rw [← cnt_cut (p := fil B) (n := (B 0 0).toNat) (fun i hi => by
    by_cases c : fil B i = true
    · have := fil_range hW c; omega
    · exact Bool.eq_false_iff.2 c) 16 (by omega)]
  exact cnt_congr 16 (fun i hi => hz i (by omega))
theorem Inv.pr {σ σ' : Sg} (h : Inv σ) (hF : FrJ [107, 108, 109, 110] Jp σ σ') : Inv σ' :=
  h.fr (M := []) Fr.rf hF (by simp) (by unfold ic; decide) (by decide)
theorem s_count : St_count Inv := by
  intro σ x rx hI
  have hI' := hI
  obtain ⟨⟨h1, h2, ⟨h3, h3'⟩, h4, h5⟩, h6, h7, ⟨hW, hR⟩, ⟨h10, h11⟩, h12⟩ := hI
  have wh := Wb_heads hW
  have wm := Wb_marks hW
  have er : σ 94 0 = σ 5 0 := Ra_heads hR
  have er7 : σ 94 7 = σ 5 7 := Ra_marks hR
  have ref : ∀ z : Int, rng z → (x < 0 ∨ 6 < x → z = -1002) → (x = 0 → z = σ 5 0) → (x = 1 → z = σ 5 7) → (x = 2 → z = σ 3 0) → (x = 3 → z = σ 90 0) → ¬ x = 4 → ¬ x = 5 → (x = 6 → z = cnt (fil (bk σ 5)) (σ 5 0).toNat) → Cl mX12_count [vr 94, vi x] σ (pI fun z2 σ2 => z = z2 ∧ rng z ∧ (Inv σ2 ∨ Inv (swp σ2))) := by
    intro z rz c0 c1 c2 c3 c4 c5 c6 c7
    refine EX12_count ⟨rx, fun c => ⟨_, rfl, c0 c, rz, Or.inl hI'⟩, fun c => ⟨_, rfl, by rw [er]; exact c1 c, rz, Or.inl hI'⟩, fun c => ⟨_, rfl, by rw [er7]; exact c2 c, rz, Or.inl hI'⟩, fun c => ⟨_, rfl, by rw [← h6.1]; exact c3 c, rz, Or.inl hI'⟩, fun c => ⟨_, rfl, by rw [← h7.1]; exact c4 c, rz, Or.inl hI'⟩, fun c => absurd c c5, fun c => absurd c c6, fun c => r_filled hW hR ⟨_, rfl, ⟨_, rfl, c7 c, rz, Or.inl hI'⟩⟩⟩
  refine EX11_count ⟨rx, fun c => ⟨_, rfl, ref _ (by decide) (fun _ => rfl) (by omega) (by omega) (by omega) (by omega) (by omega) (by omega) (by omega)⟩, fun c => ⟨h1.1, ⟨_, rfl, ref _ (by omega) (by omega) (fun _ => rfl) (by omega) (by omega) (by omega) (by omega) (by omega) (by omega)⟩⟩, fun c => ⟨h1.1, ⟨_, rfl, ref _ (by omega) (by omega) (by omega) (fun _ => rfl) (by omega) (by omega) (by omega) (by omega) (by omega)⟩⟩, fun c => ⟨_, rfl, ref _ (by have := h6.2.1; omega) (by omega) (by omega) (by omega) (fun _ => rfl) (by omega) (by omega) (by omega) (by omega)⟩, fun c => ⟨_, rfl, ref _ (by have := h7.2.1; omega) (by omega) (by omega) (by omega) (by omega) (fun _ => rfl) (by omega) (by omega) (by omega)⟩, fun c => ?_, fun c => ?_, fun c => ⟨h1.1, ?_⟩⟩
  · refine c_printAll hI' (fun τ hF hj e9 pr hI2 => ⟨rfl, ⟨_, rfl, ?_⟩⟩)
    obtain ⟨⟨k1, k2, ⟨k3, k3'⟩, k4, k5⟩, k6, k7, ⟨kW, kR⟩, ⟨k10, k11⟩, k12⟩ := id hI2
    have al := all_len kW (τ 0 3) (τ 0 4)
    have tb := tens_nn (allB (bk τ 5) (τ 0 3) (τ 0 4) (bk τ 5 0 0).toNat)
    have e := pr.2.1.2.1
    have e : τ 64 2 = tens (allB (bk τ 5) (τ 0 3) (τ 0 4) (bk τ 5 0 0).toNat) := e
    refine EX12_count ⟨rx, by omega, by omega, by omega, by omega, by omega, fun _ => ?_, by omega, by omega⟩
    refine r_linesOfAll kW kR k3' k3.symm k4.1.symm (by omega) (by decide) (by decide) (fun h _ _ z => by rw [has_0] at z; exact absurd z (by decide)) (fun σ2 hF2 => ⟨_, rfl, ⟨_, rfl, ?_, ?_, Or.inl (hI2.pr hF2)⟩⟩)
    · rw [e, tens_sum]
    · rw [e]; omega
  · refine c_printAll hI' (fun τ hF hj e9 pr hI2 => ⟨rfl, ⟨_, rfl, ?_⟩⟩)
    obtain ⟨⟨k1, k2, ⟨k3, k3'⟩, k4, k5⟩, k6, k7, ⟨kW, kR⟩, ⟨k10, k11⟩, k12⟩ := id hI2
    have al := all_len kW (τ 0 3) (τ 0 4)
    have e := pr.2.1.1
    have e : τ 64 1 = (allB (bk τ 5) (τ 0 3) (τ 0 4) (bk τ 5 0 0).toNat).length := e
    refine EX12_count ⟨rx, by omega, by omega, by omega, by omega, by omega, by omega, fun _ => ?_, by omega⟩
    refine r_bytesOfAll kW kR k3' k3.symm k4.1.symm (by omega) (fun σ2 hF2 _ => ⟨_, rfl, ⟨_, rfl, ?_, ?_, Or.inl (hI2.pr hF2)⟩⟩)
    · rw [e]
    · rw [e]; omega
  · refine c_filledHeads rfl hW (fun z z0 z1 hz => ⟨_, rfl, c_bitCount z0 z1 ⟨_, rfl, ⟨_, rfl, ?_⟩⟩⟩)
    have e := fil_cnt hW hz
    have b := cnt_b (fun g => has z g) 16
    refine ref _ (by omega) (by omega) (by omega) (by omega) (by omega) (by omega) (by omega) (by omega) (fun _ => e)
theorem s_head : St_head Inv := by
  intro σ h x rh rx hI
  have hI' := hI
  obtain ⟨⟨h1, h2, ⟨h3, h3'⟩, h4, h5⟩, h6, h7, ⟨hW, hR⟩, ⟨h10, h11⟩, h12⟩ := hI
  have wh := Wb_heads hW
  have er : σ 94 0 = σ 5 0 := Ra_heads hR
  refine EX11_head ⟨h1.1, c_hasHead rfl rh (by omega) (fun a b => ⟨_, rfl, b1 ⟨rx, ?_⟩⟩) (fun q => ⟨_, rfl, b0 ⟨_, rfl, EX12_head (r_noHead rh (by omega) (fun a b => absurd ⟨a, by omega⟩ q) (fun _ => ⟨_, rfl, b1' ⟨_, rfl, rfl, by decide, Or.inl hI'⟩⟩))⟩⟩)⟩
  have rf : ∀ (τ : Sg) (post : Po), τ 94 0 = σ 5 0 → _ → Cl mX12_head [vr 94, vi h, vi x] τ post := fun τ post e0 hK => EX12_head (r_noHead rh (by rw [e0]; omega) (fun _ _ => ⟨_, rfl, b0' hK⟩) (fun q => absurd ⟨a, by rw [e0]; exact b⟩ q))
  have w1 : 0 ≤ σ 7 h ∧ σ 7 h ≤ 6 := Wb_subs hW a b
  have w2 : -1 ≤ σ 9 h ∧ σ 9 h < σ 5 0 := Wb_see hW a b
  have w3 : 0 ≤ σ 10 h ∧ σ 10 h < 65536 ∧ ∀ g : Int, 0 ≤ g → has (σ 10 h) g = true → g < σ 5 0 := Wb_also hW a b
  have w4 : 0 ≤ σ 11 h ∧ σ 11 h ≤ 99 := Wb_ask hW a b
  refine ⟨fun c => ⟨_, rfl, rf σ _ er ⟨rx, fun _ => ⟨_, rfl, rfl, by decide, Or.inl hI'⟩, by omega, by omega, by omega, by omega, by omega, by omega, by omega⟩⟩, fun c => ⟨h1.1, by omega, ⟨_, rfl, rf σ _ er ⟨rx, by omega, fun _ => ⟨by omega, ⟨_, rfl, (Ra_subs hR a b).symm, by omega, Or.inl hI'⟩⟩, by omega, by omega, by omega, by omega, by omega, by omega⟩⟩⟩, fun c => ⟨h1.1, ?_⟩, fun c => ⟨h1.1, by omega, ⟨_, rfl, rf σ _ er ⟨rx, by omega, by omega, by omega, fun _ => ⟨by omega, ⟨_, rfl, (Ra_see hR a b).symm, by omega, Or.inl hI'⟩⟩, by omega, by omega, by omega, by omega⟩⟩⟩, fun c => ⟨h1.1, by omega, ⟨_, rfl, rf σ _ er ⟨rx, by omega, by omega, by omega, by omega, fun _ => ⟨by omega, ⟨_, rfl, (Ra_also hR a b).symm, by omega, Or.inl hI'⟩⟩, by omega, by omega, by omega⟩⟩⟩, fun c => ⟨h1.1, by omega, ⟨_, rfl, rf σ _ er ⟨rx, by omega, by omega, by omega, by omega, by omega, fun _ => ⟨by omega, ⟨_, rfl, (Ra_ask hR a b).symm, by omega, Or.inl hI'⟩⟩, by omega, by omega⟩⟩⟩, fun c => ⟨h1.1, ?_⟩, fun c => ?_⟩
  · refine c_gather rfl rfl (by decide) hW rh (by decide) (fun τ hF hb _ hl => ⟨rfl, ⟨_, rfl, ?_⟩⟩)
    have e94 : τ 94 = σ 94 := hF 94 (by decide)
    have hR1 : RA (bk τ 94) (bk σ 5) := by
      rw [bk94 (σ := σ) (σ' := τ) (by rw [e94]) (by rw [e94]) (fun k a b => hF k (by simp; omega))]; exact hR
    refine rf τ _ (by rw [e94]; exact er) ⟨rx, by omega, by omega, fun _ => ?_, by omega, by omega, by omega, by omega, by omega⟩
    refine r_tick hW hR1 rh (by decide) (fun υ hF2 hT => ⟨rfl, r_runsTicked hT (fun x => tk_3 _ _ _ x _) (rL_Rep hW h (-1)) (fun ω hF3 => ⟨_, rfl, ⟨_, rfl, ?_, by omega, Or.inl ?_⟩⟩)⟩)
    · rw [hl, arl_len]; omega
    · exact hI'.fr (N := [107]) (J := [24, 25, 26]) hF ((hF2.mo (by simp) (by simp)).tr (hF3.mo (by simp) (by simp))) (by unfold ic; decide) (by unfold ic; decide) (by decide)
  · refine c_filledHeads rfl hW (fun z z0 z1 hz => ⟨_, rfl, ?_⟩)
    have hz' := hz h a
    refine c_isIn z0 (by omega) a (by omega) (fun q => ⟨_, rfl, b1' ⟨_, rfl, ?_⟩⟩) (fun q => ⟨_, rfl, b0' ⟨_, rfl, ?_⟩⟩)
    · rw [hz'] at q
      exact rf σ _ er ⟨rx, by omega, by omega, by omega, by omega, by omega, by omega, fun _ => r_isFilled hW hR rh (fun _ => ⟨_, rfl, r_one (by omega) ⟨_, rfl, ⟨_, rfl, rfl, by decide, Or.inl hI'⟩⟩⟩) (fun y => absurd q y), by omega⟩
    · rw [hz'] at q
      exact rf σ _ er ⟨rx, by omega, by omega, by omega, by omega, by omega, by omega, fun _ => r_isFilled hW hR rh (fun y => absurd y q) (fun _ => ⟨_, rfl, r_one (by omega) ⟨_, rfl, ⟨_, rfl, rfl, by decide, Or.inl hI'⟩⟩⟩), by omega⟩
  · refine c_printAll hI' (fun τ hF hj e9 pr hI2 => ⟨rfl, by omega, ⟨_, rfl, ?_⟩⟩)
    obtain ⟨⟨k1, k2, ⟨k3, k3'⟩, k4, k5⟩, k6, k7, ⟨kW, kR⟩, ⟨k10, k11⟩, k12⟩ := id hI2
    have e5 : τ 5 = σ 5 := hF 5 (by decide)
    have e := pr.2.2 h a (by rw [e5]; exact b)
    have hb : h < bk τ 5 0 0 := by show h < τ 5 0; rw [e5]; exact b
    obtain ⟨q, q0, q1, q2, q3⟩ := hd_len kW (how := τ 0 3) (w := τ 0 4) (fold := 0) a hb a hb
    have n2 := nMb kW h (-2)
    have cb := (cnt_b (fun g => has (bk τ 5 5 h) g) 16).2
    have tb := tens_nn (hdB (bk τ 5) (τ 0 3) (τ 0 4) h h 0)
    refine rf τ _ (by rw [hF 94 (by decide)]; exact er) ⟨rx, by omega, by omega, by omega, by omega, by omega, by omega, by omega, fun _ => ?_⟩
    refine r_linesOf (src := h) (fold := 0) kW kR k3' k3.symm k4.1.symm (by omega) a hb (Or.inl ⟨rfl, rfl, rfl⟩) (Or.inl rfl) (fun σ2 hF2 => ⟨_, rfl, ⟨_, rfl, e, ?_, Or.inl (hI2.pr hF2)⟩⟩)
    rw [e]; omega
theorem s_print : St_print Inv := by
  intro σ i ri hI
  refine EX11_print (c_printAll hI (fun τ hF hj e9 pr hI2 => ⟨rfl, ri, ?_⟩))
  obtain ⟨⟨k1, k2, ⟨k3, k3'⟩, k4, k5⟩, k6, k7, ⟨kW, kR⟩, ⟨k10, k11⟩, k12⟩ := id hI2
  have wh := Wb_heads kW
  have al := all_len kW (τ 0 3) (τ 0 4)
  have gball := all_by kW (τ 0 3) (τ 0 4) (τ 5 0).toNat (by show (((τ 5 0).toNat : Nat) : Int) ≤ τ 5 0; omega)
  have e := pr.2.1.1
  have l65 := pr.2.1.2.2
  have al : ((allB (bk τ 5) (τ 0 3) (τ 0 4) (τ 5 0).toNat).length : Int) ≤ 2372 := al
  have ref : ∀ z : Int, rng z → (¬ (0 ≤ i ∧ i < τ 64 1) → z = -1) → (∀ k : Nat, (k : Int) = i → i < τ 64 1 → z = (allB (bk τ 5) (τ 0 3) (τ 0 4) (τ 5 0).toNat).getD k 0) → Cl mX12_print [vr 94, vi i] τ (pI fun z2 σ2 => z = z2 ∧ rng z ∧ (Inv σ2 ∨ Inv (swp σ2))) := by
    intro z rz y1 y2
    refine EX12_print ⟨ri, r_bytesOfAll kW kR k3' k3.symm k4.1.symm (by omega) (fun σ2 hF2 hl => ⟨_, rfl, ?_⟩)⟩
    have hl : lies (σ2 109) (allB (bk τ 5) (τ 0 3) (τ 0 4) (τ 5 0).toNat) := hl
    show rng (((allB (bk τ 5) (τ 0 3) (τ 0 4) (τ 5 0).toNat).length : Int) - 1) ∧ _
    refine ⟨by omega, r_in (by omega) (by omega) (by show rngL (((allB (bk τ 5) (τ 0 3) (τ 0 4) (τ 5 0).toNat).length : Int) - 1); omega) (fun a b => ⟨_, rfl, b1' ⟨?_, ⟨_, rfl, ?_, rz, Or.inl (hI2.pr hF2)⟩⟩⟩) (fun q => ⟨_, rfl, b0' ⟨_, rfl, y1 ?_, rz, Or.inl (hI2.pr hF2)⟩⟩)⟩
    · have b : i ≤ ((allB (bk τ 5) (τ 0 3) (τ 0 4) (τ 5 0).toNat).length : Int) - 1 := b
      omega
    · have b : i ≤ ((allB (bk τ 5) (τ 0 3) (τ 0 4) (τ 5 0).toNat).length : Int) - 1 := b
      have := hl i.toNat (by omega)
      rw [show ((i.toNat : Nat) : Int) = i by omega] at this
      rw [this]
      exact y2 i.toNat (by omega) (by omega)
    · have q : ¬ (0 ≤ i ∧ i ≤ ((allB (bk τ 5) (τ 0 3) (τ 0 4) (τ 5 0).toNat).length : Int) - 1) := q
      omega
  refine ⟨fun c => ⟨_, rfl, ref _ (by decide) (fun _ => rfl) (fun k hk _ => by omega)⟩, fun c => ⟨by omega, fun d => ⟨_, rfl, ref _ (by decide) (fun _ => rfl) (fun k hk _ => by omega)⟩, fun d => ⟨fun f => ⟨by omega, ⟨_, rfl, ?_⟩⟩, fun f => absurd (by omega) f⟩⟩⟩
  have := l65 i.toNat (by omega)
  rw [show ((i.toNat : Nat) : Int) = i by omega] at this
  have m := gball _ (getD_mm (L := allB (bk τ 5) (τ 0 3) (τ 0 4) (τ 5 0).toNat) (j := i.toNat) (by omega))
  rw [this]
  refine ref _ (by omega) (fun q => absurd ⟨by omega, by omega⟩ q) (fun k hk _ => ?_)
  rw [show k = i.toNat by omega]
