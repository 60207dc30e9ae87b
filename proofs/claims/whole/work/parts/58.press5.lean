/-! ===== PURE HALF, by hand: the class's press, a head with marks ===== -/
theorem catN_congr {f g : Int → List Int} : ∀ n : Nat, (∀ i : Nat, i < n → f i = g i) → catN f n = catN g n
  | 0, _ => rfl
  | n + 1, h => by rw [catN, catN, catN_congr n (fun i hi => h i (by omega)), h n (by omega)]
theorem catN_nil {f : Int → List Int} : ∀ n : Nat, (∀ i : Nat, i < n → f i = []) → catN f n = []
  | 0, _ => rfl
  | n + 1, h => by rw [catN, catN_nil n (fun i hi => h i (by omega)), h n (by omega)]; rfl
/-- from the subs on: v the see to print or -1, set the subs to print -/
theorem c_mid {σ : Sg} {post : Po} {k : Nat} {L R : List Int} {w h src lb v set how : Int} (hk : shp[k]? = some (0, 8, 7)) (hkk : 63 < k) (hW : WfB (bk σ 5)) (h0 : 0 ≤ h) (h1 : h < σ 5 0) (g0 : 0 ≤ src) (g1 : src < σ 5 0) (hh : how = 0 ∨ how = 1) (h53 : σ 53 2 = how) (hO : ∀ i : Int, 0 ≤ i → i < σ 5 0 → σ 55 i = ord (hkey (bk σ 5) how) (σ 5 0).toNat i) (hS : SH σ k (L ++ R) 0 w []) (w0 : 0 ≤ w ∧ w ≤ 80) (s0 : 0 ≤ set) (s1 : set < 64) (hlb : lb = tens L) (v0 : -1 ≤ v) (v1 : v < σ 5 0) (hL : ((L ++ R ++ (catN (fun i => subX (bk σ 5) w src (ord (skey (bk σ 5) how src) (σ 7 src).toNat i) set) (σ 7 src).toNat ++ (if v = -1 then [] else rowB w (txB 1 ++ wbl (σ 6 v)) []))).length : Int) ≤ 18700) (hp : ∀ σ' : Sg, Fr [k, k + 1, k + 2, 58, 59, 60, 61, 62, 63] σ σ' → SH σ' k (L ++ (R ++ (catN (fun i => subX (bk σ 5) w src (ord (skey (bk σ 5) how src) (σ 7 src).toNat i) set) (σ 7 src).toNat ++ (if v = -1 then [] else rowB w (txB 1 ++ wbl (σ 6 v)) [])) ++ (if σ 10 h ≠ 0 then alsB (bk σ 5) how w (σ 10 h) else []))) 0 w [] → post (some (vi (tens (R ++ (catN (fun i => subX (bk σ 5) w src (ord (skey (bk σ 5) how src) (σ 7 src).toNat i) set) (σ 7 src).toNat ++ (if v = -1 then [] else rowB w (txB 1 ++ wbl (σ 6 v)) [])) ++ (if σ 10 h ≠ 0 then alsB (bk σ 5) how w (σ 10 h) else []))))) σ') : Cl mX4_arrangeSubs [vr 53, vr 5, vi src, vi (σ 53 2)] σ (pV fun σ7 => V mX4_setHead 93 [some (vr 53), some (vr k), some (vr 5), some (vi h), some (vi src), none, some (vi lb), some (vi v), some (vi set), some (vi 0), none] [] σ7 post) := by
  have hk5 : shp[5]? = some (0, 0, 14) := rfl
  have wh := Wb_heads hW
  have ws : 0 ≤ σ 7 src ∧ σ 7 src ≤ 6 := Wb_subs hW g0 g1
  rw [h53]
  refine c_arrangeSubs hk5 rfl (by decide) hW g0 g1 hh (fun σ1 hF1 hA => ⟨rfl, ?_⟩)
  have b5 : ∀ υ : Sg, Fr [k, k + 1, k + 2, 58, 59, 60, 61, 62, 63] σ υ → bk υ 5 = bk σ 5 := fun υ hG => bkf (fun a x y => hG a (by simp; omega))
  have hG1 : Fr [k, k + 1, k + 2, 58, 59, 60, 61, 62, 63] σ σ1 := hF1.mo (by intro a ha; simp at ha ⊢; omega)
  have e7 : σ1 7 = σ 7 := hG1 7 (by simp; omega)
  have e5 : σ1 5 = σ 5 := hG1 5 (by simp; omega)
  rw [List.length_append, List.length_append] at hL
  refine c_subs93 (od := fun i => ord (skey (bk σ 5) how src) (σ 7 src).toNat i) hk hkk (by rw [b5 σ1 hG1]; exact hW) g0 (by rw [e5]; exact g1) (fun i i0 i1 => ?_) (hS.fr hF1 (by simp; omega) (by simp; omega) (by simp; omega)) w0 s0 s1 ?_ (fun σ2 hF2 h2 => ?_)
  · rw [e7] at i1
    have := ord_b (key := skey (bk σ 5) how src) (n := (σ 7 src).toNat) i0 (by omega)
    rw [e7]
    exact ⟨hA i i0 i1, by omega, by omega⟩
  · rw [b5 σ1 hG1, e7]
    rw [List.length_append] at hL
    rw [List.length_append]
    omega
  · rw [b5 σ1 hG1, e7] at h2
    have hG2 : Fr [k, k + 1, k + 2, 58, 59, 60, 61, 62, 63] σ σ2 := hG1.tr (hF2.mo (by intro a ha; simp at ha ⊢; omega))
    have q5 : σ2 5 = σ 5 := hG2 5 (by simp; omega)
    have q6 : σ2 6 = σ 6 := hG2 6 (by simp; omega)
    have last : ∀ (σ3 : Sg), Fr [k, k + 1, k + 2] σ2 σ3 → SH σ3 k (L ++ (R ++ (catN (fun i => subX (bk σ 5) w src (ord (skey (bk σ 5) how src) (σ 7 src).toNat i) set) (σ 7 src).toNat ++ (if v = -1 then [] else rowB w (txB 1 ++ wbl (σ 6 v)) [])))) 0 w [] → V mX4_setHead 226 [some (vr 53), some (vr k), some (vr 5), some (vi h), none, none, some (vi lb), none, none, none, none] [] σ3 post := by
      intro σ3 hF3 h3
      have hG3 : Fr [k, k + 1, k + 2, 58, 59, 60, 61, 62, 63] σ σ3 := hG2.tr (hF3.mo (by intro a ha; simp at ha ⊢; omega))
      have r5 : σ3 5 = σ 5 := hG3 5 (by simp; omega)
      have r10 : σ3 10 = σ 10 := hG3 10 (by simp; omega)
      refine c_226 (how := how) hk hkk (by rw [b5 σ3 hG3]; exact hW) h0 (by rw [r5]; exact h1) (fun i i0 i1 => by rw [hG3 55 (by simp; omega), b5 σ3 hG3, r5]; exact hO i i0 (by rw [r5] at i1; exact i1)) h3 (by rw [List.length_append, List.length_append]; omega) w0 hlb (fun σ' hF' h' => ?_)
      rw [b5 σ3 hG3, r10] at h' ⊢
      exact hp σ' (hG3.tr (hF'.mo (by intro a ha; simp at ha ⊢; omega))) h'
    rw [List.length_append] at hL
    refine c_setSee hk hkk (by decide) (by rw [b5 σ2 hG2]; exact hW) h2 (by rw [List.length_append, List.length_append]; omega) (by simp) (by intro x hx; simp at hx) w0 v0 (by rw [q5]; exact v1) (fun z => ⟨rfl, last σ2 Fr.rf ?_⟩) (fun z σ3 hF3 h3 => ⟨rfl, last σ3 hF3 ?_⟩)
    · rw [if_pos z, List.append_nil, ← List.append_assoc]
      exact h2
    · rw [if_neg z, ← List.append_assoc, ← List.append_assoc]
      rw [List.nil_append, q6] at h3
      exact h3
