/-! ===== PURE HALF, by hand: the class's press, setHead ===== -/
theorem c_body {σ : Sg} {post : Po} {k : Nat} {L : List Int} {w h src fold lb v how : Int} (hk : shp[k]? = some (0, 8, 7)) (hkk : 63 < k) (hW : WfB (bk σ 5)) (h0 : 0 ≤ h) (h1 : h < σ 5 0) (g0 : 0 ≤ src) (g1 : src < σ 5 0) (hf : fold = 0 ∨ fold = 1) (hh : how = 0 ∨ how = 1) (h53 : σ 53 2 = how) (hO : ∀ i : Int, 0 ≤ i → i < σ 5 0 → σ 55 i = ord (hkey (bk σ 5) how) (σ 5 0).toNat i) (hS : SH σ k L 0 w []) (w0 : 0 ≤ w ∧ w ≤ 80) (hlb : lb = tens L) (hv : v = if src = h then σ 9 h else -1) (hn : 0 < nM (bk σ 5) src (-2)) (hL : ((L ++ hdB (bk σ 5) how w h src fold).length : Int) ≤ 18000) (hp : ∀ σ' : Sg, Fr [k, k + 1, k + 2, 58, 59, 60, 61, 62, 63] σ σ' → SH σ' k (L ++ hdB (bk σ 5) how w h src fold) 0 w [] → post (some (vi (tens (hdB (bk σ 5) how w h src fold)))) σ') : Cl mX8_putWord [vr k, vl (σ 6 h)] σ (pV fun σ4 => (rng fold) ∧ ((fold = 0 → Cl mX4_setRuns [vr 53, vr k, vr 5, vi src, vi (-1)] σ4 (pV fun σ5 => (fold = 0 → Cl mX0_markedSubs [vr 5, vi src] σ5 (pI fun z6 σ6 => Cl mX4_arrangeSubs [vr 53, vr 5, vi src, vi (σ6 53 2)] σ6 (pV fun σ7 => V mX4_setHead 93 [some (vr 53), some (vr k), some (vr 5), some (vi h), some (vi src), none, some (vi lb), some (vi v), some (vi z6), some (vi 0), none] [] σ7 post))) ∧ (¬ fold = 0 → Cl mX4_arrangeSubs [vr 53, vr 5, vi src, vi (σ5 53 2)] σ5 (pV fun σ8 => V mX4_setHead 93 [some (vr 53), some (vr k), some (vr 5), some (vi h), some (vi src), none, some (vi lb), some (vi v), some (vi 0), some (vi 0), none] [] σ8 post)))) ∧ (¬ fold = 0 → Cl mX4_setRuns [vr 53, vr k, vr 5, vi src, vi (-2)] σ4 (pV fun σ9 => (fold = 0 → Cl mX0_markedSubs [vr 5, vi src] σ9 (pI fun z10 σ10 => Cl mX4_arrangeSubs [vr 53, vr 5, vi src, vi (σ10 53 2)] σ10 (pV fun σ11 => V mX4_setHead 93 [some (vr 53), some (vr k), some (vr 5), some (vi h), some (vi src), none, some (vi lb), some (vi v), some (vi z10), some (vi 0), none] [] σ11 post))) ∧ (¬ fold = 0 → Cl mX4_arrangeSubs [vr 53, vr 5, vi src, vi (σ9 53 2)] σ9 (pV fun σ12 => V mX4_setHead 93 [some (vr 53), some (vr k), some (vr 5), some (vi h), some (vi src), none, some (vi lb), some (vi v), some (vi 0), some (vi 0), none] [] σ12 post)))))) := by
  have hk5 : shp[5]? = some (0, 0, 14) := rfl
  have wh := Wb_heads hW
  have ww : WW (σ 6 h) := Wb_wh hW h0 h1
  have wl := wbl_len ww
  have cl := ww.2.1
  have ws : -1 ≤ σ 9 h ∧ σ 9 h < σ 5 0 := Wb_see hW h0 h1
  have v01 : -1 ≤ v ∧ v < σ 5 0 := by rw [hv]; split <;> omega
  have sr : (if src = h ∧ bk σ 5 4 h ≠ -1 then rowB w ([32, 32] ++ seeB ++ wbl (bk σ 5 1 (bk σ 5 4 h))) [] else []) = (if v = -1 then [] else rowB w (txB 1 ++ wbl (σ 6 v)) []) := by
    rw [tx_1, hv]
    by_cases c : src = h
    · rw [if_pos c]
      by_cases d : σ 9 h = -1
      · rw [if_pos d]; exact if_neg (fun z => z.2 d)
      · rw [if_neg d]; exact if_pos ⟨c, d⟩
    · rw [if_neg c, if_pos rfl]; exact if_neg (fun z => c z.1)
  have hd : hdB (bk σ 5) how w h src fold = rowB w (wbl (σ 6 h)) ((rL (bk σ 5) src (if fold = 1 then -2 else -1)).map runB) ++ ((if fold = 1 then [] else subsB (bk σ 5) how w src) ++ (if v = -1 then [] else rowB w (txB 1 ++ wbl (σ 6 v)) [])) ++ (if σ 10 h ≠ 0 then alsB (bk σ 5) how w (σ 10 h) else []) := by
    unfold hdB
    rw [if_pos hn, sr, List.append_assoc (rowB _ _ _)]
    rfl
  rw [hd] at hL hp
  have b5 : ∀ υ : Sg, Fr [k, k + 1, k + 2, 58, 59, 60, 61, 62, 63] σ υ → bk υ 5 = bk σ 5 := fun υ hG => bkf (fun a x y => hG a (by simp; omega))
  have mid : ∀ (τ : Sg) (set : Int), Fr [k, k + 1, k + 2, 58, 59, 60, 61, 62, 63] σ τ → SH τ k (L ++ rowB w (wbl (σ 6 h)) ((rL (bk σ 5) src (if fold = 1 then -2 else -1)).map runB)) 0 w [] → 0 ≤ set → set < 64 → catN (fun i => subX (bk σ 5) w src (ord (skey (bk σ 5) how src) (σ 7 src).toNat i) set) (σ 7 src).toNat = (if fold = 1 then [] else subsB (bk σ 5) how w src) → Cl mX4_arrangeSubs [vr 53, vr 5, vi src, vi (τ 53 2)] τ (pV fun σ7 => V mX4_setHead 93 [some (vr 53), some (vr k), some (vr 5), some (vi h), some (vi src), none, some (vi lb), some (vi v), some (vi set), some (vi 0), none] [] σ7 post) := by
    intro τ set hG hT s0 s1 hc
    have q5 : τ 5 = σ 5 := hG 5 (by simp; omega)
    have q6 : τ 6 = σ 6 := hG 6 (by simp; omega)
    have q7 : τ 7 = σ 7 := hG 7 (by simp; omega)
    have q10 : τ 10 = σ 10 := hG 10 (by simp; omega)
    refine c_mid (how := how) hk hkk (by rw [b5 τ hG]; exact hW) h0 (by rw [q5]; exact h1) g0 (by rw [q5]; exact g1) hh (by rw [hG 53 (by simp; omega)]; exact h53) (fun i i0 i1 => by rw [hG 55 (by simp; omega), b5 τ hG, q5]; exact hO i i0 (by rw [q5] at i1; exact i1)) hT w0 s0 s1 hlb v01.1 (by rw [q5]; exact v01.2) ?_ (fun σ' hF' h' => ?_)
    · rw [b5 τ hG, q7, q6, hc]
      rw [List.length_append, List.length_append] at hL
      rw [List.length_append, List.length_append]
      rw [List.length_append] at hL
      omega
    · rw [b5 τ hG, q7, q6, q10, hc] at h' ⊢
      exact hp σ' (hG.tr hF') h'
  have room : (L.length : Int) + 1300 ≤ 20000 := by rw [List.length_append] at hL; omega
  refine c_putWord hk hS ww (by simp) (fun σ4 hF4 h4 => ⟨rfl, by omega, fun z => ?_, fun z => ?_⟩)
  · rw [List.nil_append] at h4
    have hG4 : Fr [k, k + 1, k + 2, 58, 59, 60, 61, 62, 63] σ σ4 := hF4.mo (by intro a ha; simp at ha ⊢; omega)
    refine c_setRuns hk hkk (by rw [b5 σ4 hG4]; exact hW) h4 room (fun y => by rw [y] at wl; simp at wl; omega) (by omega) (gu_w ww) w0 (by omega) (by decide) (fun σ5 hF5 h5 => ⟨rfl, fun _ => ?_, fun y => absurd z y⟩)
    have hG5 : Fr [k, k + 1, k + 2, 58, 59, 60, 61, 62, 63] σ σ5 := hG4.tr (hF5.mo (by intro a ha; simp at ha ⊢; omega))
    rw [b5 σ4 hG4] at h5
    refine c_markedSubs hk5 (by rw [b5 σ5 hG5]; exact hW) (by omega) (fun z6 a b c => ⟨_, rfl, mid σ5 z6 hG5 ?_ a b ?_⟩)
    · rw [if_neg (by omega)]; exact h5
    · rw [if_neg (show ¬ fold = 1 by omega)]
      rw [b5 σ5 hG5] at c
      exact sub_open c
  · rw [List.nil_append] at h4
    have hG4 : Fr [k, k + 1, k + 2, 58, 59, 60, 61, 62, 63] σ σ4 := hF4.mo (by intro a ha; simp at ha ⊢; omega)
    refine c_setRuns hk hkk (by rw [b5 σ4 hG4]; exact hW) h4 room (fun y => by rw [y] at wl; simp at wl; omega) (by omega) (gu_w ww) w0 (by omega) (by decide) (fun σ5 hF5 h5 => ⟨rfl, fun y => absurd y z, fun _ => ?_⟩)
    have hG5 : Fr [k, k + 1, k + 2, 58, 59, 60, 61, 62, 63] σ σ5 := hG4.tr (hF5.mo (by intro a ha; simp at ha ⊢; omega))
    rw [b5 σ4 hG4] at h5
    refine mid σ5 0 hG5 ?_ (by decide) (by decide) ?_
    · rw [if_pos (by omega)]; exact h5
    · rw [if_pos (show fold = 1 by omega)]
      exact sub_fold _
