/-! ===== PURE HALF, by hand: the class's press, see also ===== -/
theorem c_setAlso {σ : Sg} {post : Po} {k : Nat} {L : List Int} {w set how : Int} (hk : shp[k]? = some (0, 8, 7)) (hkk : 63 < k) (hW : WfB (bk σ 5)) (hO : ∀ i : Int, 0 ≤ i → i < σ 5 0 → σ 55 i = ord (hkey (bk σ 5) how) (σ 5 0).toNat i ∧ 0 ≤ σ 55 i ∧ σ 55 i < σ 5 0) (hS : SH σ k L 0 w []) (hL : (L.length : Int) + 600 ≤ 20000) (w0 : 0 ≤ w ∧ w ≤ 80) (s0 : 0 ≤ set) (s1 : set < 65536) (hne : set ≠ 0 → alsL (bk σ 5) how set (σ 5 0).toNat ≠ []) (h0 : set = 0 → post none σ) (hp : set ≠ 0 → ∀ σ' : Sg, Fr [k, k + 1, k + 2] σ σ' → SH σ' k (L ++ alsB (bk σ 5) how w set) 0 w [] → post none σ') : Cl mX4_setAlso [vr 53, vr k, vr 5, vi set] σ post := by
  have hk5 : shp[5]? = some (0, 0, 14) := rfl
  have wh := Wb_heads hW
  have t2 : (txB 2).length = 11 := by rw [tx_2]; rfl
  refine EX4_setAlso hk hk5 ⟨by omega, fun z => ?_, h0⟩
  have ph2 : ∀ (n : Nat) (j : Int) (τ : Sg) (K : List Int) (col : Int), 0 ≤ j → j + n = σ 5 0 → Fr [k, k + 1, k + 2] σ τ → SH τ k K col w [] → 0 < col → col ≤ 100 → (K.length : Int) + 18 * n + 160 ≤ 20000 → K ++ rowT w col ((alR (bk σ 5) how set j n).map (fun g => wbl (bk σ 5 1 g))) = L ++ alsB (bk σ 5) how w set → V mX4_setAlso 14 [some (vr 53), some (vr k), some (vr 5), some (vi set), some (vi j), none] [] τ post := by
    intro n
    induction n with
    | zero =>
      intro j τ K col j0 hj hG hT c0 c1 hK he
      have e5 : τ 5 = σ 5 := hG 5 (by simp; omega)
      refine BX4_setAlso_14 hk hk5 ⟨by omega, by rw [e5]; omega, fun _ => c_endRow hk hT (by omega) (by omega) (by omega) (fun σ' hX hY => ⟨rfl, hp z σ' (hG.tr (hX.mo (by intro a ha; simp at ha ⊢; omega))) ?_⟩), fun y => absurd (by rw [e5]; omega) y⟩
      rw [alR, List.map_nil, rowT] at he
      rw [← he]
      exact hY
    | succ n ih =>
      intro j τ K col j0 hj hG hT c0 c1 hK he
      have e5 : τ 5 = σ 5 := hG 5 (by simp; omega)
      have e55 : τ 55 = σ 55 := hG 55 (by simp; omega)
      have e6 : τ (5 + 1) = σ 6 := hG 6 (by simp; omega)
      obtain ⟨o1, o2, o3⟩ := hO j j0 (by omega)
      have o1' : ord (hkey (bk σ 5) how) (bk σ 5 0 0).toNat j = σ 55 j := o1.symm
      rw [alR, o1'] at he
      refine BX4_setAlso_14 hk hk5 ⟨by omega, by rw [e5]; omega, fun y => absurd y (by rw [e5]; omega), fun _ => ⟨by omega, ?_⟩⟩
      rw [e55]
      refine c_isIn s0 (by omega) o2 (by omega) (fun hy => ⟨_, rfl, b1' ⟨by omega, ?_⟩⟩) (fun hy => ⟨_, rfl, b0' (ih (j + 1) τ K col (by omega) (by omega) hG hT c0 c1 (by omega) ?_)⟩)
      · rw [e6]
        have ww : WW (σ 6 (σ 55 j)) := Wb_wh hW o2 o3
        have wl := wbl_len ww
        have cl := ww.2.1
        rw [if_pos hy, List.singleton_append, List.map_cons] at he
        have he' : K ++ rowT w col (wbl (σ 6 (σ 55 j)) :: (alR (bk σ 5) how set (j + 1) n).map (fun g => wbl (bk σ 5 1 g))) = L ++ alsB (bk σ 5) how w set := he
        refine c_putWord hk hT ww (by simp) (fun σ3 hF3 h3 => ⟨rfl, ?_⟩)
        rw [List.nil_append] at h3
        have hG3 : Fr [k, k + 1, k + 2] σ σ3 := hG.tr (hF3.mo (by intro a ha; simp at ha ⊢; omega))
        refine c_placeUnit hk h3 (by omega) (by omega) (gu_w ww) (by omega) (by omega) (fun y => by rw [y] at wl; simp at wl; omega) (fun _ σ4 hF4 => ⟨fun y => absurd y (by omega), fun _ hfit h4 => ⟨rfl, ?_⟩, fun _ hfit h4 => ⟨rfl, ?_⟩⟩)
        · rw [rowT_y hfit] at he'
          refine ih (j + 1) σ4 _ _ (by omega) (by omega) (hG3.tr (hF4.mo (by intro a ha; simp at ha ⊢; omega))) h4 (by omega) (by omega) (by rw [List.length_append, List.length_append]; simp; omega) ?_
          rw [← he']
          simp
        · rw [rowT_n hfit] at he'
          refine ih (j + 1) σ4 _ _ (by omega) (by omega) (hG3.tr (hF4.mo (by intro a ha; simp at ha ⊢; omega))) h4 (by omega) (by omega) (by rw [List.length_append, List.length_append]; simp; omega) ?_
          rw [← he']
          simp
      · rw [if_neg hy, List.nil_append] at he
        exact he
  have ph1 : ∀ (n : Nat) (j : Int) (τ : Sg), 0 ≤ j → j + n = σ 5 0 → Fr [k, k + 1, k + 2] σ τ → SH τ k L 0 w (txB 2) → alR (bk σ 5) how set j n ≠ [] → (∀ g gs, alR (bk σ 5) how set j n = g :: gs → L ++ rowB w (txB 2 ++ wbl (bk σ 5 1 g)) (gs.map (fun g => wbl (bk σ 5 1 g))) = L ++ alsB (bk σ 5) how w set) → V mX4_setAlso 14 [some (vr 53), some (vr k), some (vr 5), some (vi set), some (vi j), none] [] τ post := by
    intro n
    induction n with
    | zero => intro j τ j0 hj hG hT hn he; exact absurd rfl hn
    | succ n ih =>
      intro j τ j0 hj hG hT hn he
      have e5 : τ 5 = σ 5 := hG 5 (by simp; omega)
      have e55 : τ 55 = σ 55 := hG 55 (by simp; omega)
      have e6 : τ (5 + 1) = σ 6 := hG 6 (by simp; omega)
      obtain ⟨o1, o2, o3⟩ := hO j j0 (by omega)
      have o1' : ord (hkey (bk σ 5) how) (bk σ 5 0 0).toNat j = σ 55 j := o1.symm
      rw [alR, o1'] at he hn
      refine BX4_setAlso_14 hk hk5 ⟨by omega, by rw [e5]; omega, fun y => absurd y (by rw [e5]; omega), fun _ => ⟨by omega, ?_⟩⟩
      rw [e55]
      refine c_isIn s0 (by omega) o2 (by omega) (fun hy => ⟨_, rfl, b1' ⟨by omega, ?_⟩⟩) (fun hy => ⟨_, rfl, b0' ?_⟩)
      · rw [e6]
        have ww : WW (σ 6 (σ 55 j)) := Wb_wh hW o2 o3
        have wl := wbl_len ww
        have cl := ww.2.1
        rw [if_pos hy, List.singleton_append] at he
        have he' : L ++ rowB w (txB 2 ++ wbl (σ 6 (σ 55 j))) ((alR (bk σ 5) how set (j + 1) n).map (fun g => wbl (bk σ 5 1 g))) = L ++ alsB (bk σ 5) how w set := he _ _ rfl
        refine c_putWord hk hT ww (by omega) (fun σ3 hF3 h3 => ⟨rfl, ?_⟩)
        have ul : (txB 2 ++ wbl (σ 6 (σ 55 j))).length = 11 + (wlen (σ 6 (σ 55 j))).toNat := by rw [List.length_append, t2, wl]
        have hG3 : Fr [k, k + 1, k + 2] σ σ3 := hG.tr (hF3.mo (by intro a ha; simp at ha ⊢; omega))
        refine c_placeUnit hk h3 (by omega) (by omega) (gu_app (gu_tx (by decide)) (gu_w ww)) (by omega) (by omega) (fun y => by rw [y] at ul; simp at ul; omega) (fun _ σ4 hF4 => ⟨fun _ h4 => ⟨rfl, ?_⟩, fun y => absurd rfl y, fun y => absurd rfl y⟩)
        refine ph2 n (j + 1) σ4 _ _ (by omega) (by omega) (hG3.tr (hF4.mo (by intro a ha; simp at ha ⊢; omega))) h4 (by omega) (by omega) (by rw [List.length_append]; omega) ?_
        rw [← he']
        unfold rowB
        simp
      · rw [if_neg hy, List.nil_append] at he hn
        exact ih (j + 1) τ (by omega) (by omega) hG hT hn he
  refine c_putText hk (by decide) hS (by simp) (fun σ1 hF1 h1 => ⟨rfl, ?_⟩)
  rw [List.nil_append] at h1
  refine ph1 (σ 5 0).toNat 0 σ1 (by omega) (by omega) (hF1.mo (by intro a ha; simp at ha ⊢; omega)) h1 (by rw [alR_0]; exact hne z) (fun g gs hg => ?_)
  rw [alR_0] at hg
  have e : alsB (bk σ 5) how w set = rowB w (txB 2 ++ wbl (bk σ 5 1 g)) (gs.map (fun g => wbl (bk σ 5 1 g))) := by
    unfold alsB
    rw [show alsL (bk σ 5) how set (bk σ 5 0 0).toNat = g :: gs from hg, tx_2]
    rfl
  rw [e]
