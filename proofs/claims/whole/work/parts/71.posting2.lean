/-! ===== PURE HALF, by hand: what may be posted, on both sides; posting ===== -/
noncomputable def pl (B : Sg) : Nat → List Int
  | 0 => []
  | n + 1 => @ite _ (postable B n ∧ (pl B n).length < 10) (Classical.propDecidable _) (pl B n ++ [(n : Int)]) (pl B n)
theorem pl_t {B : Sg} {n : Nat} (h : postable B n ∧ (pl B n).length < 10) : pl B (n + 1) = pl B n ++ [(n : Int)] := by
  rw [pl, if_pos h]
theorem pl_f {B : Sg} {n : Nat} (h : ¬ (postable B n ∧ (pl B n).length < 10)) : pl B (n + 1) = pl B n := by
  rw [pl, if_neg h]
theorem pl_len {B : Sg} : ∀ n : Nat, (pl B n).length ≤ 10
  | 0 => by rw [pl]; decide
  | n + 1 => by
    have := pl_len (B := B) n
    by_cases h : postable B n ∧ (pl B n).length < 10
    · rw [pl_t h, List.length_append]; show (pl B n).length + 1 ≤ 10; omega
    · rw [pl_f h]; exact this
theorem pl_full {B : Sg} {n : Nat} (h : (pl B n).length = 10) : ∀ d : Nat, pl B (n + d) = pl B n
  | 0 => rfl
  | d + 1 => by
    have ih := pl_full h d
    rw [← Nat.add_assoc, pl_f (fun z => by rw [ih] at z; omega), ih]
theorem pl_in {B : Sg} : ∀ (n i : Nat), i < (pl B n).length → (0 ≤ (pl B n).getD i 0 ∧ (pl B n).getD i 0 < n) ∧ postable B ((pl B n).getD i 0)
  | 0, i, h => by rw [pl] at h; simp at h
  | n + 1, i, h => by
    by_cases c : postable B n ∧ (pl B n).length < 10
    · rw [pl_t c] at h ⊢
      by_cases e : i < (pl B n).length
      · rw [gd_l e]
        have := pl_in n i e
        exact ⟨by omega, this.2⟩
      · rw [List.length_append] at h
        have h : i < (pl B n).length + 1 := h
        rw [gd_r (by omega), show i - (pl B n).length = 0 by omega]
        show (0 ≤ (n : Int) ∧ (n : Int) < ((n + 1 : Nat) : Int)) ∧ postable B (n : Int)
        exact ⟨by omega, c.1⟩
    · rw [pl_f c] at h ⊢
      have := pl_in n i h
      exact ⟨by omega, this.2⟩
theorem pl_inc {B : Sg} : ∀ (n i : Nat), i + 1 < (pl B n).length → (pl B n).getD i 0 < (pl B n).getD (i + 1) 0
  | 0, i, h => by rw [pl] at h; simp at h
  | n + 1, i, h => by
    by_cases c : postable B n ∧ (pl B n).length < 10
    · rw [pl_t c] at h ⊢
      rw [List.length_append] at h
      have h : i + 1 < (pl B n).length + 1 := h
      rw [gd_l (by omega)]
      by_cases e : i + 1 < (pl B n).length
      · rw [gd_l e]
        exact pl_inc n i e
      · rw [gd_r (by omega), show i + 1 - (pl B n).length = 0 by omega]
        exact (pl_in n i (by omega)).1.2
    · rw [pl_f c] at h ⊢
      exact pl_inc n i h
noncomputable def stp (B : Sg) (h : Int) : Nat := Classical.epsilon (fun v => FS B h v)
theorem stp_e {B : Sg} {h : Int} {v : Nat} (hv : FS B h v) : stp B h = v := FS_uniq (Classical.epsilon_spec (p := fun v => FS B h v) ⟨v, hv⟩) hv
noncomputable def svO (B : Sg) (h : Int) : Int := B 6 h * (stp B h : Int)
noncomputable def mrO (B : Sg) (how w h : Int) : Int := tens (hdB B how w h (psr B h) 0) - tens (hdB B how w h h 0)
noncomputable def fB (B : Sg) (n : Nat) (i : Int) : Int := iShl 1 ((pl B n).getD i.toNat 0)
noncomputable def fS (B : Sg) (n : Nat) (i : Int) : Int := svO B ((pl B n).getD i.toNat 0)
noncomputable def fL (B : Sg) (how w : Int) (n : Nat) (i : Int) : Int := mrO B how w ((pl B n).getD i.toNat 0)
theorem hd_tens {B : Sg} (hW : WfB B) {how w h src fold : Int} (h0 : 0 ≤ h) (h1 : h < B 0 0) (g0 : 0 ≤ src) (g1 : src < B 0 0) : 0 ≤ tens (hdB B how w h src fold) ∧ tens (hdB B how w h src fold) ≤ 1400 := by
  have a := hd_cap hW (how := how) (w := w) (fold := fold) h0 h1 g0 g1
  have b := tens_nn (hdB B how w h src fold)
  have c := (cnt_b (fun g => has (B 5 h) g) 16).2
  omega
theorem ok_B {B : Sg} {n : Nat} (hn : n ≤ 16) : okF (fB B n) (pl B n).length := fun i hi => by
  have a := (pl_in n i hi).1
  have b := iShl1_lt (h := (pl B n).getD i 0) (n := 16) a.1 (by omega) (by decide)
  unfold fB
  rw [Int.toNat_natCast]
  omega
theorem ok_S {B : Sg} (hW : WfB B) {n : Nat} (hn : (n : Int) ≤ B 0 0) : okF (fS B n) (pl B n).length := fun i hi => by
  obtain ⟨a, _, v, hv⟩ := pl_in n i hi
  have v15 := FS_15 hW a.1 (by omega) hv
  have wa := (hW.2.2.1 _ a.1 (show _ < B 0 0 by omega)).2.2.2.1
  unfold fS svO
  rw [Int.toNat_natCast, stp_e hv]
  have m0 : 0 ≤ B 6 ((pl B n).getD i 0) * (v : Int) := Int.mul_nonneg wa.1 (by omega)
  have m1 : B 6 ((pl B n).getD i 0) * (v : Int) ≤ 99 * 15 := Int.mul_le_mul wa.2 (by omega) (by omega) (by decide)
  omega
theorem ok_L {B : Sg} (hW : WfB B) {how w : Int} {n : Nat} (hn : (n : Int) ≤ B 0 0) : okF (fL B how w n) (pl B n).length := fun i hi => by
  obtain ⟨a, hp⟩ := pl_in n i hi
  have pr := psr_r hW hp
  have x := hd_tens hW (how := how) (w := w) (fold := 0) a.1 (show _ < B 0 0 by omega) pr.1 pr.2
  have y := hd_tens hW (how := how) (w := w) (fold := 0) a.1 (show _ < B 0 0 by omega) a.1 (show _ < B 0 0 by omega)
  unfold fL mrO
  rw [Int.toNat_natCast]
  omega
def Fq : List Nat := [67, 68, 69, 58, 59, 60, 61, 62, 63, 81, 82, 83, 84]
/-- rows of what may be posted -/
def PB (σ B : Sg) (how w : Int) (j : Nat) : Prop := σ 81 3 = (pl B j).length ∧ ∀ i : Nat, i < (pl B j).length → σ 82 i = iShl 1 ((pl B j).getD i 0) ∧ σ 83 i = svO B ((pl B j).getD i 0) ∧ σ 84 i = mrO B how w ((pl B j).getD i 0)
theorem PB.fr {σ σ' B : Sg} {how w : Int} {j : Nat} {M : List Nat} (h : PB σ B how w j) (hF : Fr M σ σ') (hM : ∀ k ∈ M, k < 81 ∨ 84 < k) : PB σ' B how w j := by
  unfold PB
  rw [hF 81 (fun z => by have := hM _ z; omega), hF 82 (fun z => by have := hM _ z; omega), hF 83 (fun z => by have := hM _ z; omega), hF 84 (fun z => by have := hM _ z; omega)]
  exact h
theorem c_offer {σ B : Sg} {post : Po} {how w : Int} {j : Nat} (hB : PB σ B how w j) (hpo : postable B j) (hp : ∀ σ' : Sg, Fr [81, 82, 83, 84] σ σ' → PB σ' B how w (j + 1) → post none σ') : Cl mX3_offer [vr 81, vi (iShl 1 (j : Int)), vi (svO B j), vi (mrO B how w j)] σ post := by
  obtain ⟨h3, hr⟩ := hB
  have l := pl_len (B := B) j
  refine EX3_offer ⟨by omega, fun c => hp σ Fr.rf ?_, fun c => ⟨by omega, hp _ ((((Fr.rf.u (by simp)).u (by simp)).u (by simp)).u (by simp)) ?_⟩⟩
  · unfold PB
    rw [pl_f (fun z => by omega)]
    exact ⟨h3, hr⟩
  · have e := pl_t (B := B) (n := j) ⟨hpo, by omega⟩
    unfold PB
    rw [e, List.length_append]
    refine ⟨by rw [up_s, h3]; rfl, fun i hi => ?_⟩
    have hi : i < (pl B j).length + 1 := hi
    rw [up_r (by decide), up_r (by decide), up_r (by decide), up_k, up_r (by decide), up_r (by decide), up_k, up_r (by decide), up_r (by decide), up_k, up_r (by decide), up_r (by decide), h3]
    by_cases c2 : i < (pl B j).length
    · rw [gd_l c2, pt_ne (by omega), pt_ne (by omega), pt_ne (by omega)]
      exact hr i c2
    · have ei : i = (pl B j).length := by omega
      rw [gd_r (by omega), ei, Nat.sub_self, pt_self, pt_self, pt_self]
      exact ⟨rfl, rfl, rfl⟩
theorem c_offerPosts {σ : Sg} {post : Po} (hI : Inv σ) (pr : PrOK σ) (hp : ∀ σ' : Sg, Fr Fq σ σ' → PB σ' (bk σ 5) (σ 0 3) (σ 0 4) (σ 5 0).toNat → post none σ') : Cl mX11_offerPosts [vr 0] σ post := by
  obtain ⟨⟨h1, h2, ⟨h3, h3'⟩, h4, h5⟩, h6, h7, ⟨hW, hR⟩, ⟨h10, h11⟩, h12⟩ := id hI
  have wh := Wb_heads hW
  refine EX11_offerPosts ⟨h1.1, c_filledHeads rfl hW (fun f f0 f1 hf => ⟨_, rfl, h1.1, c_postable rfl hW (fun z z0 z1 hz => ⟨_, rfl, EX8_clear rfl ⟨rfl, EX3_clear ⟨rfl, ?_⟩⟩⟩)⟩)⟩
  have loop : ∀ (n j : Nat) (υ : Sg) (L : List Int), (j : Int) + n = σ 5 0 → Fr Fq σ υ → SH υ 67 L 0 (σ 0 4) [] → (L.length : Int) ≤ cap (bk σ 5) j → PB υ (bk σ 5) (σ 0 3) (σ 0 4) j → V mX11_offerPosts 40 [some (vr 0), some (vi f), some (vi z), some (vi (j : Int)), none, none] [] υ post := by
    intro n
    induction n with
    | zero =>
      intro j υ L hj hF hS hL hB
      obtain ⟨e5, e0, e50, e1⟩ := hF.b5 (by decide)
      refine BX11_offerPosts_40 ⟨by rw [e0]; exact h1.1, by omega, by rw [e50]; omega, fun _ => hp υ hF ?_, fun q => absurd (by rw [e50]; omega) q⟩
      rw [show (σ 5 0).toNat = j by omega]
      exact hB
    | succ n ih =>
      intro j υ L hj hF hS hL hB
      obtain ⟨e5, e0, e50, e1⟩ := hF.b5 (by decide)
      have hz' := hz j (by omega)
      have cu := cap_up (bk σ 5) (m := j) (j + 1) (by omega)
      refine BX11_offerPosts_40 ⟨by rw [e0]; exact h1.1, by omega, by rw [e50]; omega, fun q => absurd q (by rw [e50]; omega), fun _ => c_isIn z0 (by omega) (by omega) (by omega) (fun hy => ⟨_, rfl, b1' ⟨by rw [e0]; exact h1.1, by omega, ?_⟩⟩) (fun hy => ⟨_, rfl, b0' (ih (j + 1) υ L (by omega) hF hS (by omega) ?_)⟩)⟩
      · have po := (hz'.1 hy).2
        obtain ⟨nf, v, hv⟩ := id po
        have hf' : ∀ g : Int, 0 ≤ g → has f g = fil (bk υ 5) g := fun g hg => by rw [e5]; exact hf g hg
        refine c_stepsToFilled rfl (by rw [e5]; exact hW) (by omega) (by rw [e50]; omega) f0 f1 hf' (fun w w15 hw => ⟨_, rfl, by rw [e0]; exact h1.1, ?_⟩) (fun hno => absurd hv (by rw [e5] at hno; exact hno v))
        rw [e5] at hw
        refine c_sourceOf (by rw [e0]; exact h1.1) (by rw [e5]; exact hW) (by omega) (by rw [e50]; omega) f0 f1 hf' (by rw [e5]; exact po) ⟨_, rfl, ?_⟩
        rw [e5]
        have pr2 := psr_r hW po
        have c := hd_cap hW (how := σ 0 3) (w := σ 0 4) (fold := 0) (h := (j : Int)) (by omega) (show (j : Int) < bk σ 5 0 0 by show (j : Int) < σ 5 0; omega) pr2.1 pr2.2
        have cs := cap_s (bk σ 5) j
        have cb := cap_b hW (n := j + 1) (by show ((j + 1 : Nat) : Int) ≤ σ 5 0; omega)
        refine c_setHead (how := σ 0 3) rfl (by decide) (by rw [e5]; exact hW) (by omega) (by rw [e50]; omega) pr2.1 (by rw [e50]; exact pr2.2) (Or.inl rfl) h3' (by rw [hF 53 (by decide)]; exact pr.1.1) (fun i i0 i1 => by rw [hF 55 (by decide), e5, e50]; rw [e50] at i1; exact pr.1.2 i i0 i1) hS (by omega) (by rw [e5, List.length_append]; omega) (fun σ' hF' h' => ⟨_, rfl, ?_⟩)
        rw [e5] at h'
        rw [e5]
        have F2 : Fr Fq σ σ' := hF.tr (hF'.mo (by decide))
        have eL : σ' 1 j = tens (hdB (bk σ 5) (σ 0 3) (σ 0 4) j j 0) := by
          rw [F2 1 (by decide)]
          exact pr.2.2 j (by omega) (by omega)
        have eS : υ 11 j * (w : Int) = svO (bk σ 5) j := by
          unfold svO
          rw [stp_e hw, hF 11 (by decide)]
          rfl
        dsimp only
        rw [eL, eS]
        have B2 : PB σ' (bk σ 5) (σ 0 3) (σ 0 4) j := hB.fr hF' (by decide)
        refine c_offer B2 po (fun σ3 hF3 B3 => ⟨rfl, ih (j + 1) σ3 _ (by omega) (F2.tr (hF3.mo (by decide))) (h'.fr hF3 (by decide) (by decide) (by decide)) (by rw [List.length_append]; omega) B3⟩)
      · unfold PB
        rw [pl_f (fun y => hy (hz'.2 ⟨by omega, y.1⟩))]
        exact hB
  refine loop (σ 5 0).toNat 0 _ [] (by omega) ?_ ?_ (by show (0 : Int) ≤ 0; decide) ⟨?_, fun i hi => by rw [pl] at hi; simp at hi⟩
  · exact (Fr_clear.mo (by decide)).u (by decide)
  · exact SH_clear.fr (M := [81]) (Fr.rf.u (by simp)) (by decide) (by decide) (by decide)
  · rw [up_s, pl]; rfl
/-- rows of the reference -/
def PM (σ B : Sg) (how w : Int) (j : Nat) : Prop := ∀ i : Nat, i < (pl B j).length → σ 112 i = (pl B j).getD i 0 ∧ σ 113 i = mrO B how w ((pl B j).getD i 0) ∧ σ 114 i = svO B ((pl B j).getD i 0)
theorem PM.fr {σ σ' B : Sg} {how w : Int} {j : Nat} {M : List Nat} {J : List Int} (h : PM σ B how w j) (hF : FrJ M J σ σ') (hM : ∀ k ∈ M, k < 112 ∨ 114 < k) : PM σ' B how w j := by
  unfold PM
  rw [hF.1 112 (fun z => by have := hM _ z; omega) (by decide), hF.1 113 (fun z => by have := hM _ z; omega) (by decide), hF.1 114 (fun z => by have := hM _ z; omega) (by decide)]
  exact h
def Mq : List Nat := [107, 108, 109, 110, 112, 113, 114]
def Jq : List Int := [24, 25, 26, 31, 32, 33, 35, 36, 38, 39, 40]
theorem iOr_p {a c : Int} (a0 : 0 ≤ a) (c0 : 0 ≤ c) (c1 : c < 31) (a1 : a < iShl 1 c) : iOr a (iShl 1 c) = a + iShl 1 c := by
  have e := iShl1_e c0 c1
  have p := Nat.two_pow_pos c.toNat
  have q : (2 : Nat) ^ c.toNat ≤ 2 ^ 30 := Nat.pow_le_pow_right (by decide) (by omega)
  have n := Nat.two_pow_add_eq_or_of_lt (i := c.toNat) (b := a.toNat) (by omega) 1
  rw [Nat.mul_one] at n
  rw [e, iOr_e a0 (by omega) (by omega) (by omega), Int.toNat_natCast, Nat.or_comm, ← n]
  omega
theorem iShl1_mono {a b : Int} (a0 : 0 ≤ a) (ab : a < b) (b1 : b < 31) : 2 * iShl 1 a ≤ iShl 1 b := by
  rw [iShl1_e a0 (by omega), iShl1_e (by omega) b1]
  have : (2 : Nat) ^ (a.toNat + 1) ≤ 2 ^ b.toNat := Nat.pow_le_pow_right (by decide) (by omega)
  rw [Nat.pow_succ] at this
  omega
