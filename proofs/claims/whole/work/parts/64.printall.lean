/-! ===== PURE HALF, by hand: the class's printAll ===== -/
theorem ord_perm {key f : Int → Int} {n : Nat} (hf : ∀ i : Int, 0 ≤ f i) : sumN (fun i => f (ord key n i)) n = sumN f n := by
  have a := sumN_ord (key := key) (n := n) hf
  have b := sumN_perm (φ := plc key n) (n := n) n (fun i => f (ord key n i)) (fun i => hf _) (fun i i0 i1 => plc_b (key := key) i0 i1) (fun i j i0 i1 j0 j1 e => plc_inj (key := key) (n := n) i0 i1 j0 j1 e)
  have c : sumN (fun i => f (ord key n (plc key n i))) n = sumN f n := sumN_congr n (fun i hi => by
    have pb := plc_b (key := key) (n := n) (j := i) (by omega) (by omega)
    have e := (ord_b (key := key) (n := n) pb.1 pb.2).2
    have o := (ord_b (key := key) (n := n) pb.1 pb.2).1
    rw [plc_inj (key := key) (n := n) o.1 o.2 (by omega) (by omega) e])
  rw [c] at b
  omega
theorem tens_nn : ∀ L : List Int, 0 ≤ tens L ∧ tens L ≤ L.length
  | [] => by rw [tens]; exact ⟨by decide, by simp⟩
  | b :: L => by
    have := tens_nn L
    rw [tens, List.length_cons]
    split <;> omega
def Fp : List Nat := [0, 1, 53, 55, 56, 58, 59, 60, 61, 62, 63, 64, 65, 66]
theorem c_printAll {σ : Sg} {post : Po} (hI : Inv σ) (hp : ∀ σ' : Sg, Fr Fp σ σ' → (∀ j, j ≠ 9 → σ' 0 j = σ 0 j) → σ' 0 9 = 1 → PrOK σ' → Inv σ' → post none σ') : Cl mX11_printAll [vr 0] σ post := by
  have hI' := hI
  obtain ⟨⟨h1, h2, ⟨h3, h3'⟩, h4, h5⟩, h6, h7, ⟨hW, hR⟩, ⟨h10, h11⟩, h12⟩ := hI
  have wh := Wb_heads hW
  refine EX11_printAll ⟨by omega, fun c => ⟨h1.1, ?_⟩, fun c => hp σ Fr.rf (fun _ _ => rfl) (by omega) (h12 (by omega)) hI'⟩
  refine c_arrange rfl rfl (by decide) hW h3' (fun τ hF hj e2 ho => ⟨rfl, EX8_clear rfl ⟨rfl, ?_⟩⟩)
  have al := all_len hW (σ 0 3) (σ 0 4)
  have al : ((allB (bk σ 5) (σ 0 3) (σ 0 4) (σ 5 0).toNat).length : Int) ≤ 2372 := al
  have hX : ∀ υ : Sg, Fr [1, 53, 55, 56, 58, 59, 60, 61, 62, 63, 64, 65, 66] σ υ → bk υ 5 = bk σ 5 ∧ υ 0 = σ 0 ∧ υ 5 = σ 5 := fun υ hG => ⟨bk5 (fun k x y => hG k (by simp; omega)), hG 0 (by decide), hG 5 (by decide)⟩
  have loop : ∀ (n j : Nat) (υ : Sg), (j : Int) + n = σ 5 0 → Fr [1, 53, 55, 56, 58, 59, 60, 61, 62, 63, 64, 65, 66] σ υ → υ 53 2 = σ 0 3 → (∀ i : Int, 0 ≤ i → i < σ 5 0 → υ 55 i = ord (hkey (bk σ 5) (σ 0 3)) (σ 5 0).toNat i) → SH υ 64 (allB (bk σ 5) (σ 0 3) (σ 0 4) j) 0 (σ 0 4) [] → (∀ i : Int, 0 ≤ i → i < j → υ 1 (ord (hkey (bk σ 5) (σ 0 3)) (σ 5 0).toNat i) = tens (hdB (bk σ 5) (σ 0 3) (σ 0 4) (ord (hkey (bk σ 5) (σ 0 3)) (σ 5 0).toNat i) (ord (hkey (bk σ 5) (σ 0 3)) (σ 5 0).toNat i) 0)) → V mX11_printAll 36 [some (vr 0), some (vi (j : Int)), none] [] υ post := by
    intro n
    induction n with
    | zero =>
      intro j υ hj hG q53 q55 hS hH
      obtain ⟨x5, x0, x50⟩ := hX υ hG
      refine BX11_printAll_36 ⟨by rw [x0]; exact h1.1, by omega, by rw [x50]; omega, fun _ => ?_, fun q => absurd (by rw [x50]; omega) q⟩
      have ej : j = (σ 5 0).toNat := by omega
      obtain ⟨s1, s2, s3, s4, s5, s6, s7⟩ := hS
      rw [ej] at s1 s2 s7
      have u : ∀ a, a ≠ 0 → up υ 0 9 1 a = υ a := fun a ha => up_r ha
      have uj : ∀ j : Int, j ≠ 9 → up υ 0 9 1 0 j = σ 0 j := fun j hj => by rw [up_f hj, x0]
      have b5 : bk (up υ 0 9 1) 5 = bk σ 5 := by rw [bk5 (σ := υ) (fun k x y => u k (by omega)), x5]
      have prok : PrOK (up υ 0 9 1) := by
        unfold PrOK
        rw [u 53 (by decide), u 5 (by decide), u 55 (by decide), u 64 (by decide), u 65 (by decide), u 1 (by decide), uj 3 (by decide), uj 4 (by decide), b5, x50]
        refine ⟨⟨q53, q55⟩, ⟨s1, s2, fun i hi => s7 i hi ?_⟩, fun h h0 h1 => ?_⟩
        · have : outN 64 = 3072 := by decide
          omega
        · have pb := plc_b (key := hkey (bk σ 5) (σ 0 3)) (n := (σ 5 0).toNat) (j := h) h0 (by omega)
          have e := (ord_b (key := hkey (bk σ 5) (σ 0 3)) (n := (σ 5 0).toNat) pb.1 pb.2).2
          have o := (ord_b (key := hkey (bk σ 5) (σ 0 3)) (n := (σ 5 0).toNat) pb.1 pb.2).1
          have ee := plc_inj (key := hkey (bk σ 5) (σ 0 3)) (n := (σ 5 0).toNat) o.1 o.2 h0 (by omega) e
          have := hH (plc (hkey (bk σ 5) (σ 0 3)) (σ 5 0).toNat h) pb.1 (by omega)
          rw [ee] at this
          exact this
      have fr : Fr Fp σ (up υ 0 9 1) := fun a ha => by
        rw [u a (by intro z; subst z; exact ha (by decide))]
        exact hG a (fun z => ha (by unfold Fp; simp at z ⊢; omega))
      refine hp _ fr uj up_s prok ?_
      have fz : ∀ k, k ∉ Fp → up υ 0 9 1 k = σ k := fr
      have e94 : up υ 0 9 1 94 = σ 94 := fz 94 (by decide)
      refine hI'.re ?_ (h6.co (by rw [fz 3 (by decide)]) (by rw [e94]) (fz 4 (by decide)) (fz 106 (by decide))) (h7.co (by rw [fz 90 (by decide)]) (by rw [e94]) (fz 91 (by decide)) (fz 92 (by decide)) (fz 118 (by decide)) (fz 119 (by decide))) (fun k a b => fz k (by unfold Fp; simp; omega)) (fun k a b => fz k (by unfold Fp; simp; omega)) (by rw [e94]) (by rw [e94]) (fun k a b => fz k (by unfold Fp; simp; omega)) (fun _ => prok)
      unfold ScOK
      rw [uj 1 (by decide), uj 3 (by decide), uj 4 (by decide), e94, fz 3 (by decide)]
      exact ⟨h1, h2, ⟨h3, h3'⟩, h4, Or.inr up_s⟩
    | succ n ih =>
      intro j υ hj hG q53 q55 hS hH
      obtain ⟨x5, x0, x50⟩ := hX υ hG
      have o := (ord_b (key := hkey (bk σ 5) (σ 0 3)) (n := (σ 5 0).toNat) (i := j) (by omega) (by omega)).1
      have ej := q55 j (by omega) (by omega)
      have lj := allB_up (bk σ 5) (σ 0 3) (σ 0 4) (m := j + 1) (σ 5 0).toNat (by omega)
      have lj2 : allB (bk σ 5) (σ 0 3) (σ 0 4) (j + 1) = allB (bk σ 5) (σ 0 3) (σ 0 4) j ++ hdB (bk σ 5) (σ 0 3) (σ 0 4) (ord (hkey (bk σ 5) (σ 0 3)) (σ 5 0).toNat j) (ord (hkey (bk σ 5) (σ 0 3)) (σ 5 0).toNat j) 0 := rfl
      refine BX11_printAll_36 ⟨by rw [x0]; exact h1.1, by omega, by rw [x50]; omega, fun q => absurd q (by rw [x50]; omega), fun _ => ⟨by omega, ?_⟩⟩
      rw [ej]
      refine c_setHead (how := σ 0 3) rfl (by decide) (by rw [x5]; exact hW) o.1 (by rw [x50]; omega) o.1 (by rw [x50]; omega) (Or.inl rfl) h3' q53 (fun i i0 i1 => by rw [x5, x50]; rw [x50] at i1; exact q55 i i0 i1) hS (by omega) (by rw [x5, ← lj2]; omega) (fun σ' hF' h' => ⟨_, rfl, ⟨o.1, by omega⟩, ?_⟩)
      rw [x5, ← lj2] at h'
      rw [x5]
      have G2 : Fr [1, 53, 55, 56, 58, 59, 60, 61, 62, 63, 64, 65, 66] σ σ' := hG.tr (hF'.mo (by intro a ha; simp at ha ⊢; omega))
      refine ih (j + 1) _ (by omega) (G2.u (by simp)) ?_ (fun i i0 i1 => ?_) ?_ (fun i i0 i1 => ?_)
      · rw [up_r (by decide), hF' 53 (by simp)]; exact q53
      · rw [up_r (by decide), hF' 55 (by simp)]; exact q55 i i0 i1
      · exact h'.fr (M := [1]) (fun a ha => up_r (by simpa using ha)) (by decide) (by decide) (by decide)
      · by_cases e : i = j
        · subst e; exact up_s
        · rw [up_f (fun z => e (ord_inj i0 (by omega) (by omega) (by omega) z)), hF' 1 (by simp)]
          exact hH i i0 (by omega)
  have u64 : ∀ a, a ≠ 64 → up (up (up (up (up τ 64 1 0) 64 2 0) 64 3 0) 64 6 0) 64 4 (τ 0 4) a = τ a := fun a ha => by
    rw [up_r ha, up_r ha, up_r ha, up_r ha, up_r ha]
  refine loop (σ 5 0).toNat 0 _ (by omega) ?_ ?_ (fun i i0 i1 => ?_) ?_ (fun i i0 i1 => by omega)
  · intro a ha
    rw [u64 a (by intro z; subst z; exact ha (by decide))]
    exact hF a (fun z => ha (by simp at z ⊢; omega))
  · rw [u64 53 (by decide)]; exact e2
  · rw [u64 55 (by decide)]; exact ho i i0 i1
  · have e04 : τ 0 4 = σ 0 4 := by rw [hF 0 (by decide)]
    rw [e04]
    refine ⟨?_, ?_, ?_, ?_, ?_, fun i hi => by simp at hi, fun i hi => by simp [allB] at hi⟩
    · rw [up_f (by decide), up_f (by decide), up_f (by decide), up_f (by decide), up_s]; rfl
    · rw [up_f (by decide), up_f (by decide), up_f (by decide), up_s]; rfl
    · rw [up_f (by decide), up_f (by decide), up_s]
    · exact up_s
    · rw [up_f (by decide), up_s]; rfl
