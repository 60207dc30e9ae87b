/-! ===== PURE HALF, by hand: add, drop, images ===== -/
theorem bk_row {σ : Sg} {k j : Nat} (a : 1 ≤ j) (b : j < 12) : bk σ k j = σ (k + j) := by
  unfold bk
  rw [if_neg (by omega), if_pos b]
theorem WfB.mk {B B' : Sg} (h : WfB B) (h0 : B' 0 0 = B 0 0) (hr : ∀ j, 1 ≤ j → j ≤ 6 → B' j = B j) (hm : 0 ≤ B' 0 7 ∧ B' 0 7 ≤ 60) (hM : ∀ k : Int, 0 ≤ k → k < B' 0 7 → WfM B' k) : WfB B' := by
  refine ⟨by rw [h0]; exact h.1, hm, fun i a b => ?_, hM, ?_⟩
  · have w := h.2.2.1 i a (by rw [h0] at b; exact b)
    unfold WfH ew at w ⊢
    rw [h0, hr 1 (by decide) (by decide), hr 2 (by decide) (by decide), hr 3 (by decide) (by decide), hr 4 (by decide) (by decide), hr 5 (by decide) (by decide), hr 6 (by decide) (by decide)]
    exact w
  · have w := h.2.2.2.2
    unfold alsoSum at w ⊢
    rw [h0, hr 5 (by decide) (by decide)]
    exact w
theorem RA.mk' {ρ ρ' B B' : Sg} (h : RA ρ B) (h0 : B' 0 0 = B 0 0) (hr : ∀ j, 1 ≤ j → j ≤ 6 → B' j = B j) (g0 : ρ' 0 0 = ρ 0 0) (gr : ∀ j, 1 ≤ j → j ≤ 6 → ρ' j = ρ j) (hm : ρ' 0 7 = B' 0 7) (hM : ∀ k : Int, 0 ≤ k → k < B' 0 7 → RM ρ' B' k) : RA ρ' B' := by
  refine ⟨by rw [h0, g0]; exact h.1, hm, fun i a b => ?_, hM⟩
  have w := h.2.2.1 i a (by rw [h0] at b; exact b)
  unfold RH ew at w ⊢
  rw [hr 1 (by decide) (by decide), hr 2 (by decide) (by decide), hr 3 (by decide) (by decide), hr 4 (by decide) (by decide), hr 5 (by decide) (by decide), hr 6 (by decide) (by decide), gr 1 (by decide) (by decide), gr 2 (by decide) (by decide), gr 3 (by decide) (by decide), gr 4 (by decide) (by decide), gr 5 (by decide) (by decide), gr 6 (by decide) (by decide)]
  exact w
theorem up5 {σ : Sg} {a b c d e : Nat} (hab : a < b) (hbc : b < c) (hcd : c < d) (hde : d < e) {i v1 v2 v3 v4 v5 : Int} :
    up (up (up (up (up σ a i v1) b i v2) c i v3) d i v4) e i v5 a = pt (σ a) i v1 ∧ up (up (up (up (up σ a i v1) b i v2) c i v3) d i v4) e i v5 b = pt (σ b) i v2 ∧ up (up (up (up (up σ a i v1) b i v2) c i v3) d i v4) e i v5 c = pt (σ c) i v3 ∧ up (up (up (up (up σ a i v1) b i v2) c i v3) d i v4) e i v5 d = pt (σ d) i v4 ∧ up (up (up (up (up σ a i v1) b i v2) c i v3) d i v4) e i v5 e = pt (σ e) i v5 ∧ ∀ k, k < a ∨ e < k → up (up (up (up (up σ a i v1) b i v2) c i v3) d i v4) e i v5 k = σ k := by
  refine ⟨?_, ?_, ?_, ?_, ?_, fun k hk => ?_⟩
  · rw [up_r (by omega), up_r (by omega), up_r (by omega), up_r (by omega), up_k]
  · rw [up_r (by omega), up_r (by omega), up_r (by omega), up_k, up_r (by omega)]
  · rw [up_r (by omega), up_r (by omega), up_k, up_r (by omega), up_r (by omega)]
  · rw [up_r (by omega), up_k, up_r (by omega), up_r (by omega), up_r (by omega)]
  · rw [up_k, up_r (by omega), up_r (by omega), up_r (by omega), up_r (by omega)]
  · rw [up_r (by omega), up_r (by omega), up_r (by omega), up_r (by omega), up_r (by omega)]
/-- both sides: marks anew in rows of this form -/
theorem Inv.ma {σ τ : Sg} (hI : Inv σ) (hk : ∀ k, k ≠ 0 → k ≠ 5 → ¬ (12 ≤ k ∧ k ≤ 16) → k ≠ 94 → ¬ (101 ≤ k ∧ k ≤ 105) → ic k → τ k = σ k) (h0 : ∀ j, j ≠ 9 → τ 0 j = σ 0 j) (h9 : τ 0 9 = 0) (h5 : τ 5 0 = σ 5 0) (h94 : ∀ j, j ∈ [(0 : Int), 14, 19, 27, 28, 47] → τ 94 j = σ 94 j) (e7 : τ 94 7 = τ 5 7) (hm : 0 ≤ τ 5 7 ∧ τ 5 7 ≤ 60) (hM : ∀ k : Int, 0 ≤ k → k < τ 5 7 → WfM (bk τ 5) k ∧ τ 101 k = τ 12 k ∧ τ 102 k = τ 13 k ∧ τ 103 k = τ 14 k ∧ τ 104 k = τ 15 k ∧ τ 105 k = τ 16 k) : Inv τ := by
  obtain ⟨hW, hR⟩ := hI.2.2.2.1
  have r5 : ∀ j, 1 ≤ j → j ≤ 6 → bk τ 5 j = bk σ 5 j := fun j a b => by
    rw [bk_row a (by omega), bk_row a (by omega), hk _ (by omega) (by omega) (by omega) (by omega) (by omega) (by unfold ic; omega)]
  have r94 : ∀ j, 1 ≤ j → j ≤ 6 → bk τ 94 j = bk σ 94 j := fun j a b => by
    rw [bk_row a (by omega), bk_row a (by omega), hk _ (by omega) (by omega) (by omega) (by omega) (by omega) (by unfold ic; omega)]
  refine hI.bo (fun k h => hk k (by omega) (by omega) (by omega) (by omega) (by omega) (by unfold ic; omega)) h0 (fun j hj => h94 j (by simp at hj ⊢; omega)) (hW.mk h5 r5 hm (fun k a b => (hM k a b).1)) (hR.mk' h5 r5 (h94 0 (by decide)) r94 e7 (fun k a b => (hM k a b).2)) (Or.inl h9) (fun q => by rw [h9] at q; cases q)
theorem s_add : St_add Inv := by
  intro σ h s p q mn rh rs rp rq hmn hI
  have hI' := hI
  obtain ⟨⟨h1, h2, h3, h4, h5⟩, h6, h7, ⟨hW, hR⟩, ⟨h10, h11⟩, h12⟩ := hI
  have wh := Wb_heads hW
  have wm := Wb_marks hW
  have er : σ 94 0 = σ 5 0 := Ra_heads hR
  have em : σ 94 7 = σ 5 7 := Ra_marks hR
  have no : ∀ z : Int, rng z → (¬ ((0 ≤ h ∧ h < σ 5 0) ∧ -1 ≤ s ∧ s < σ 7 h) → z = -1001) → ((0 ≤ h ∧ h < σ 5 0) ∧ -1 ≤ s ∧ s < σ 7 h → (¬ ((1 ≤ p ∧ p ≤ 99) ∧ (1 ≤ q ∧ q ≤ 99) ∧ p ≤ q) → z = -1002) ∧ (((1 ≤ p ∧ p ≤ 99) ∧ (1 ≤ q ∧ q ≤ 99) ∧ p ≤ q) → σ 5 7 = 60 ∧ z = -1004)) → Cl mX12_add [vr 94, vi h, vi s, vi p, vi q, vi mn] σ (pI fun z2 σ2 => z = z2 ∧ rng z ∧ (Inv σ2 ∨ Inv (swp σ2))) := by
    intro z rz y1 y2
    refine EX12_add (r_noHead rh (by omega) (fun a b => ⟨_, rfl, b0 ?_⟩) (fun q => ⟨_, rfl, b1 ⟨_, rfl, y1 (by omega), rz, Or.inl hI'⟩⟩))
    rw [er] at b
    have es : σ 95 h = σ 7 h := Ra_subs hR a b
    have ws : 0 ≤ σ 7 h ∧ σ 7 h ≤ 6 := Wb_subs hW a b
    refine r_noSub a (by omega) rs (by rw [es]; exact ws) (fun c d => ⟨_, rfl, b0' ?_⟩) (fun q => ⟨_, rfl, b1' ⟨_, rfl, y1 (by omega), rz, Or.inl hI'⟩⟩)
    have y3 := y2 (by omega)
    refine r_isPage rp (fun a1 a2 => ⟨_, rfl, b1' (r_isPage rq (fun a3 a4 => ⟨_, rfl, b1' ⟨rq, rp, fun c1 => ⟨by omega, fun c2 => ?_, fun c2 => ⟨_, rfl, by omega, rz, Or.inl hI'⟩⟩, fun c1 => ⟨_, rfl, by omega, rz, Or.inl hI'⟩⟩⟩) (fun c1 => ⟨_, rfl, b0' ⟨_, rfl, by omega, rz, Or.inl hI'⟩⟩))⟩) (fun c1 => ⟨_, rfl, b0' ⟨_, rfl, by omega, rz, Or.inl hI'⟩⟩)
    omega
  refine EX11_add ⟨h1.1, c_hasEntry rfl rh rs hW (fun a b c d => ⟨_, rfl, b1 ?_⟩) (fun w => ⟨_, rfl, b0 ⟨_, rfl, no _ (by decide) (fun _ => rfl) (fun z => absurd z w)⟩⟩)⟩
  have d : s < σ 7 h := d
  refine c_isPage rp (fun a1 a2 => ⟨_, rfl, b1' (c_isPage rq (fun a3 a4 => ⟨_, rfl, b1' ⟨rq, rp, fun c1 => ⟨h1.1, by omega, fun c2 => ?_, fun c2 => ⟨_, rfl, no _ (by decide) (fun z => by omega) (fun z => by omega)⟩⟩, fun c1 => ⟨_, rfl, no _ (by decide) (fun z => by omega) (fun z => by omega)⟩⟩⟩) (fun c1 => ⟨_, rfl, b0' ⟨_, rfl, no _ (by decide) (fun z => by omega) (fun z => by omega)⟩⟩))⟩) (fun c1 => ⟨_, rfl, b0' ⟨_, rfl, no _ (by decide) (fun z => by omega) (fun z => by omega)⟩⟩)
  have u7 : up σ 0 9 0 5 7 = σ 5 7 := up_o (by decide)
  refine EX0_putMark rfl ?_
  rw [u7]
  refine ⟨by omega, fun _ => ⟨by omega, hmn, ⟨_, rfl, ⟨_, rfl, ?_⟩⟩⟩, fun c3 => absurd c2 c3⟩
  have A := up5 (σ := up σ 0 9 0) (a := 5 + 7) (b := 5 + 8) (c := 5 + 9) (d := 5 + 10) (e := 5 + 11) (by decide) (by decide) (by decide) (by decide) (i := σ 5 7) (v1 := h) (v2 := s) (v3 := p) (v4 := q) (v5 := mn)
  obtain ⟨τ, eτ⟩ : ∃ τ : Sg, τ = up (up (up (up (up (up σ 0 9 0) (5 + 7) (σ 5 7) h) (5 + 8) (σ 5 7) s) (5 + 9) (σ 5 7) p) (5 + 10) (σ 5 7) q) (5 + 11) (σ 5 7) mn := ⟨_, rfl⟩
  rw [← eτ] at A ⊢
  obtain ⟨A1, A2, A3, A4, A5, A6⟩ := A
  have t94 : up τ 5 7 (σ 5 7 + 1) 94 = σ 94 := by rw [up_r (by decide), A6 94 (by omega), up_r (by decide)]
  have t95 : ∀ k, 95 ≤ k → up τ 5 7 (σ 5 7 + 1) k = σ k := fun k hk => by rw [up_r (by omega), A6 k (by omega), up_r (by omega)]
  refine EX12_add (r_noHead rh (by rw [t94]; omega) (fun a' b' => ⟨_, rfl, b0 ?_⟩) (fun w => absurd (by rw [t94]; omega) w))
  have es : up τ 5 7 (σ 5 7 + 1) 95 h = σ 7 h := by rw [t95 95 (by decide)]; exact Ra_subs hR a b
  have ws : 0 ≤ σ 7 h ∧ σ 7 h ≤ 6 := Wb_subs hW a b
  refine r_noSub a (by omega) rs (by rw [es]; exact ws) (fun c' d' => ⟨_, rfl, b0' ?_⟩) (fun w => absurd (by rw [es]; omega) w)
  refine r_isPage rp (fun _ _ => ⟨_, rfl, b1' (r_isPage rq (fun _ _ => ⟨_, rfl, b1' ⟨rq, rp, fun _ => ?_, fun w => absurd c1 w⟩⟩) (fun w => absurd (by omega) w))⟩) (fun w => absurd (by omega) w)
  have t947 : up τ 5 7 (σ 5 7 + 1) 94 7 = σ 5 7 := by rw [t94]; exact em
  rw [t947]
  refine ⟨by omega, fun _ => EX12_lay ?_, fun w => absurd w (by omega)⟩
  rw [t947]
  refine ⟨by omega, hmn, ⟨rfl, ⟨_, rfl, ?_⟩⟩⟩
  have C := up5 (σ := up τ 5 7 (σ 5 7 + 1)) (a := 101) (b := 102) (c := 103) (d := 104) (e := 105) (by decide) (by decide) (by decide) (by decide) (i := σ 5 7) (v1 := h) (v2 := s) (v3 := p) (v4 := q) (v5 := mn)
  obtain ⟨υ, eυ⟩ : ∃ υ : Sg, υ = up (up (up (up (up (up τ 5 7 (σ 5 7 + 1)) 101 (σ 5 7) h) 102 (σ 5 7) s) 103 (σ 5 7) p) 104 (σ 5 7) q) 105 (σ 5 7) mn := ⟨_, rfl⟩
  rw [← eυ] at C ⊢
  obtain ⟨C1, C2, C3, C4, C5, C6⟩ := C
  refine ⟨by rw [up_s], by omega, Or.inl ?_⟩
  -- the memory at the end
  have v5 : ∀ j, j ≠ 7 → up υ 94 7 (σ 5 7 + 1) 5 j = σ 5 j := fun j hj => by rw [up_r (by decide), C6 5 (by omega), up_f hj, A6 5 (by omega), up_r (by decide)]
  have v57 : up υ 94 7 (σ 5 7 + 1) 5 7 = σ 5 7 + 1 := by rw [up_r (by decide), C6 5 (by omega), up_s]
  have v94 : ∀ j, j ≠ 7 → up υ 94 7 (σ 5 7 + 1) 94 j = σ 94 j := fun j hj => by rw [up_f hj, C6 94 (by omega), t94]
  have v947 : up υ 94 7 (σ 5 7 + 1) 94 7 = σ 5 7 + 1 := up_s
  have vk : ∀ k, k ≠ 0 → k ≠ 5 → ¬ (12 ≤ k ∧ k ≤ 16) → k ≠ 94 → ¬ (101 ≤ k ∧ k ≤ 105) → up υ 94 7 (σ 5 7 + 1) k = σ k := fun k k1 k2 k3 k4 k5 => by rw [up_r k4, C6 k (by omega), up_r k2, A6 k (by omega), up_r k1]
  have v0 : ∀ j, j ≠ 9 → up υ 94 7 (σ 5 7 + 1) 0 j = σ 0 j := fun j hj => by rw [up_r (by decide), C6 0 (by omega), up_r (by decide), A6 0 (by omega), up_f hj]
  have v09 : up υ 94 7 (σ 5 7 + 1) 0 9 = 0 := by rw [up_r (by decide), C6 0 (by omega), up_r (by decide), A6 0 (by omega), up_s]
  have w12 : up υ 94 7 (σ 5 7 + 1) 12 = pt (σ 12) (σ 5 7) h := by rw [up_r (by decide), C6 12 (by omega), up_r (by decide), show τ 12 = _ from A1, up_r (by decide)]
  have w13 : up υ 94 7 (σ 5 7 + 1) 13 = pt (σ 13) (σ 5 7) s := by rw [up_r (by decide), C6 13 (by omega), up_r (by decide), show τ 13 = _ from A2, up_r (by decide)]
  have w14 : up υ 94 7 (σ 5 7 + 1) 14 = pt (σ 14) (σ 5 7) p := by rw [up_r (by decide), C6 14 (by omega), up_r (by decide), show τ 14 = _ from A3, up_r (by decide)]
  have w15 : up υ 94 7 (σ 5 7 + 1) 15 = pt (σ 15) (σ 5 7) q := by rw [up_r (by decide), C6 15 (by omega), up_r (by decide), show τ 15 = _ from A4, up_r (by decide)]
  have w16 : up υ 94 7 (σ 5 7 + 1) 16 = pt (σ 16) (σ 5 7) mn := by rw [up_r (by decide), C6 16 (by omega), up_r (by decide), show τ 16 = _ from A5, up_r (by decide)]
  have x1 : up υ 94 7 (σ 5 7 + 1) 101 = pt (σ 101) (σ 5 7) h := by rw [up_r (by decide), C1, t95 101 (by decide)]
  have x2 : up υ 94 7 (σ 5 7 + 1) 102 = pt (σ 102) (σ 5 7) s := by rw [up_r (by decide), C2, t95 102 (by decide)]
  have x3 : up υ 94 7 (σ 5 7 + 1) 103 = pt (σ 103) (σ 5 7) p := by rw [up_r (by decide), C3, t95 103 (by decide)]
  have x4 : up υ 94 7 (σ 5 7 + 1) 104 = pt (σ 104) (σ 5 7) q := by rw [up_r (by decide), C4, t95 104 (by decide)]
  have x5 : up υ 94 7 (σ 5 7 + 1) 105 = pt (σ 105) (σ 5 7) mn := by rw [up_r (by decide), C5, t95 105 (by decide)]
  refine hI'.ma (fun k k1 k2 k3 k4 k5 _ => vk k k1 k2 k3 k4 k5) v0 v09 (v5 0 (by decide)) (fun j hj => v94 j (by simp at hj; omega)) (v947.trans v57.symm) (by rw [v57]; omega) (fun k k0 k1 => ?_)
  rw [v57] at k1
  rw [w12, w13, w14, w15, w16, x1, x2, x3, x4, x5]
  have hWM : WfM (bk (up υ 94 7 (σ 5 7 + 1)) 5) k ↔ ((0 ≤ up υ 94 7 (σ 5 7 + 1) 12 k ∧ up υ 94 7 (σ 5 7 + 1) 12 k < up υ 94 7 (σ 5 7 + 1) 5 0) ∧ (-1 ≤ up υ 94 7 (σ 5 7 + 1) 13 k ∧ up υ 94 7 (σ 5 7 + 1) 13 k < up υ 94 7 (σ 5 7 + 1) 7 (up υ 94 7 (σ 5 7 + 1) 12 k)) ∧ (1 ≤ up υ 94 7 (σ 5 7 + 1) 14 k ∧ up υ 94 7 (σ 5 7 + 1) 14 k ≤ up υ 94 7 (σ 5 7 + 1) 15 k ∧ up υ 94 7 (σ 5 7 + 1) 15 k ≤ 99) ∧ (up υ 94 7 (σ 5 7 + 1) 16 k = 0 ∨ up υ 94 7 (σ 5 7 + 1) 16 k = 1)) := Iff.rfl
  rw [hWM, w12, w13, w14, w15, w16, v5 0 (by decide), vk 7 (by decide) (by decide) (by decide) (by decide) (by decide)]
  by_cases e : k = σ 5 7
  · subst e
    rw [pt_self, pt_self, pt_self, pt_self, pt_self, pt_self, pt_self, pt_self, pt_self, pt_self]
    exact ⟨⟨⟨a, b⟩, ⟨c, d⟩, by omega, hmn⟩, rfl, rfl, rfl, rfl, rfl⟩
  · rw [pt_ne e, pt_ne e, pt_ne e, pt_ne e, pt_ne e, pt_ne e, pt_ne e, pt_ne e, pt_ne e, pt_ne e]
    exact ⟨Wb_m hW k0 (by omega), Ra_m hR k0 (show k < σ 5 7 by omega)⟩
