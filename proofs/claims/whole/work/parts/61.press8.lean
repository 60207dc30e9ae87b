/-! ===== PURE HALF, by hand: the class's press, setHead ===== -/
theorem c_setHead {σ : Sg} {post : Po} {k : Nat} {L : List Int} {w h src fold how : Int} (hk : shp[k]? = some (0, 8, 7)) (hkk : 63 < k) (hW : WfB (bk σ 5)) (h0 : 0 ≤ h) (h1 : h < σ 5 0) (g0 : 0 ≤ src) (g1 : src < σ 5 0) (hf : fold = 0 ∨ fold = 1) (hh : how = 0 ∨ how = 1) (h53 : σ 53 2 = how) (hO : ∀ i : Int, 0 ≤ i → i < σ 5 0 → σ 55 i = ord (hkey (bk σ 5) how) (σ 5 0).toNat i) (hS : SH σ k L 0 w []) (w0 : 0 ≤ w ∧ w ≤ 80) (hL : ((L ++ hdB (bk σ 5) how w h src fold).length : Int) ≤ 18000) (hp : ∀ σ' : Sg, Fr [k, k + 1, k + 2, 58, 59, 60, 61, 62, 63] σ σ' → SH σ' k (L ++ hdB (bk σ 5) how w h src fold) 0 w [] → post (some (vi (tens (hdB (bk σ 5) how w h src fold)))) σ') : Cl mX4_setHead [vr 53, vr k, vr 5, vi h, vi src, vi fold] σ post := by
  have hk5 : shp[5]? = some (0, 0, 14) := rfl
  have wh := Wb_heads hW
  have ww : WW (σ 6 h) := Wb_wh hW h0 h1
  have wl := wbl_len ww
  have cl := ww.2.1
  have ws : -1 ≤ σ 9 h ∧ σ 9 h < σ 5 0 := Wb_see hW h0 h1
  have wa : 0 ≤ σ 10 h ∧ σ 10 h < 65536 ∧ ∀ g : Int, 0 ≤ g → has (σ 10 h) g = true → g < σ 5 0 := Wb_also hW h0 h1
  have lb : σ k 2 = tens L := hS.2.1
  have nb := cnt_b (isM (bk σ 5) src (-2)) (bk σ 5 0 7).toNat
  have nb2 : 0 ≤ nM (bk σ 5) src (-2) ∧ nM (bk σ 5) src (-2) ≤ 60 := by
    have := hW.2.1
    unfold nM
    omega
  have room : (L.length : Int) + 200 ≤ 18700 := by rw [List.length_append] at hL; omega
  have body := c_body (post := post) (lb := σ k 2) hk hkk hW h0 h1 g0 g1 hf hh h53 hO hS w0 lb rfl
  have b5 : ∀ υ : Sg, Fr [k, k + 1, k + 2] σ υ → bk υ 5 = bk σ 5 := fun υ hG => bkf (fun a x y => hG a (by simp; omega))
  have fin : ∀ (τ : Sg) (X : List Int), Fr [k, k + 1, k + 2] σ τ → SH τ k (L ++ X) 0 w [] → ((L ++ X).length : Int) ≤ 18700 → X ++ (if σ 10 h ≠ 0 then alsB (bk σ 5) how w (σ 10 h) else []) = hdB (bk σ 5) how w h src fold → V mX4_setHead 226 [some (vr 53), some (vr k), some (vr 5), some (vi h), none, none, some (vi (σ k 2)), none, none, none, none] [] τ post := by
    intro τ X hG hT hX he
    have q5 : τ 5 = σ 5 := hG 5 (by simp; omega)
    have q10 : τ 10 = σ 10 := hG 10 (by simp; omega)
    refine c_226 (how := how) hk hkk (by rw [b5 τ hG]; exact hW) h0 (by rw [q5]; exact h1) (fun i i0 i1 => by rw [hG 55 (by simp; omega), b5 τ hG, q5]; exact hO i i0 (by rw [q5] at i1; exact i1)) hT hX w0 lb (fun σ' hF' h' => ?_)
    rw [b5 τ hG, q10, he] at h' ⊢
    exact hp σ' ((hG.tr hF').mo (by intro a ha; simp at ha ⊢; omega)) h'
  have none_ : ¬ 0 < nM (bk σ 5) src (-2) → ¬ (src = h ∧ σ 9 h ≠ -1) → (rng (σ 10 h)) ∧ ((σ 10 h = 0 → V mX4_setHead 226 [some (vr 53), some (vr k), some (vr 5), some (vi h), none, none, some (vi (σ k 2)), none, none, none, none] [] σ post) ∧ (¬ σ 10 h = 0 → Cl mX8_putWord [vr k, vl (σ 6 h)] σ (pV fun σ2 => Cl mX8_endRow [vr k] σ2 (pV fun σ3 => V mX4_setHead 226 [some (vr 53), some (vr k), some (vr 5), some (vi h), none, none, some (vi (σ k 2)), none, none, none, none] [] σ3 post)))) := by
    intro hn hs
    have hd : hdB (bk σ 5) how w h src fold = (if σ 10 h ≠ 0 then rowB w (wbl (σ 6 h)) [] else []) ++ (if σ 10 h ≠ 0 then alsB (bk σ 5) how w (σ 10 h) else []) := by
      unfold hdB
      rw [if_neg hn]
      have : ¬ (src = h ∧ bk σ 5 4 h ≠ -1) := hs
      rw [if_neg this]
      rfl
    refine ⟨by omega, fun z => fin σ [] Fr.rf (by rw [List.append_nil]; exact hS) (by rw [List.append_nil]; omega) ?_, fun z => c_putWord hk hS ww (by simp) (fun σ2 hF2 h2 => ⟨rfl, c_endRow1 hk h2 (by omega) (fun y => by rw [List.nil_append] at y; rw [y] at wl; simp at wl; omega) (by rw [List.nil_append]; omega) (by rw [List.nil_append]; exact gu_w ww) (by omega) (fun σ3 hF3 h3 => ⟨rfl, fin σ3 (rowB w (wbl (σ 6 h)) []) ((hF2.mo (by intro a ha; simp at ha ⊢; omega)).tr (hF3.mo (by intro a ha; simp at ha ⊢; omega))) (by rw [List.nil_append] at h3; exact h3) ?_ ?_⟩)⟩)⟩
    · rw [hd, if_neg (fun y => y z), if_neg (fun y => y z)]
    · rw [hd, if_pos z, List.length_append] at hL
      rw [List.length_append] at hL ⊢
      omega
    · rw [hd, if_pos z, if_pos z]
  refine EX4_setHead hk hk5 ⟨by omega, by omega, fun z => c_marksOf hk5 hW (by omega) ⟨_, rfl, by omega, fun y => ⟨by omega, none_ (by omega) (fun q => z q.1)⟩, fun y => ⟨by omega, ?_⟩⟩, fun z => ⟨by omega, c_marksOf hk5 hW (by omega) ⟨_, rfl, by omega, fun y => ⟨show rng (σ 9 h) by omega, fun q => none_ (by omega) (fun q2 => q2.2 q), fun q => ?_⟩, fun y => ?_⟩⟩⟩
  · have := body (by omega) hL hp
    rw [if_neg z] at this
    exact this
  · have q' : ¬ σ 9 h = -1 := q
    have hd : hdB (bk σ 5) how w h src fold = rowB w (wbl (σ 6 h) ++ txB 3 ++ wbl (σ 6 (σ 9 h))) [] ++ (if σ 10 h ≠ 0 then alsB (bk σ 5) how w (σ 10 h) else []) := by
      unfold hdB
      rw [if_neg (by omega)]
      have : src = h ∧ bk σ 5 4 h ≠ -1 := ⟨z, q'⟩
      rw [if_pos this, tx_3]
      simp [seeB]
      rfl
    refine c_putWord hk hS ww (by simp) (fun σ2 hF2 h2 => ⟨rfl, ?_⟩)
    rw [List.nil_append] at h2
    have hG2 : Fr [k, k + 1, k + 2] σ σ2 := hF2.mo (by intro a ha; simp at ha ⊢; omega)
    refine c_setSee hk hkk (by decide) (by rw [b5 σ2 hG2]; exact hW) h2 (by omega) (by rw [wl]; omega) (gu_w ww) w0 ws.1 (by rw [hG2 5 (by simp; omega)]; exact ws.2) (fun y => absurd y q') (fun _ σ3 hF3 h3 => ⟨rfl, fin σ3 _ (hG2.tr hF3) h3 ?_ ?_⟩)
    · rw [hG2 6 (by simp; omega)]
      rw [hd, List.length_append, List.length_append] at hL
      show ((L ++ rowB w (wbl (σ 6 h) ++ txB 3 ++ wbl (σ 6 (σ 9 h))) []).length : Int) ≤ 18700
      rw [List.length_append]
      omega
    · rw [hG2 6 (by simp; omega), hd]
  · have := body (by omega) hL hp
    rw [if_pos z] at this
    exact this
