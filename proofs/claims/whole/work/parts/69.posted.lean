/-! ===== PURE HALF, by hand: heads that can be posted; posted ===== -/
theorem iAnd_neg {a b : Int} (ra : rng a) (rb : rng b) (ha : a < 0) (hb : b < 0) : iAnd a b < 0 := by
  have ma : (iI a).toBitVec.msb = true := by
    rw [BitVec.msb_eq_toInt, decide_eq_true_iff]
    have := iI_toInt ra
    show (iI a).toInt < 0
    omega
  have mb : (iI b).toBitVec.msb = true := by
    rw [BitVec.msb_eq_toInt, decide_eq_true_iff]
    have := iI_toInt rb
    show (iI b).toInt < 0
    omega
  have m : (iI a &&& iI b).toBitVec.msb = true := by
    rw [Int32.toBitVec_and, BitVec.msb_and, ma, mb]
    rfl
  rw [BitVec.msb_eq_toInt, decide_eq_true_iff] at m
  exact m
theorem iXor_neg {b : Int} (hb : 0 ≤ b) (hb2 : b < 2147483648) : rng (iXor b (-1)) ∧ iXor b (-1) < 0 := by
  refine ⟨rng_of _, ?_⟩
  have mb : (iI b).toBitVec.msb = false := by
    rw [BitVec.msb_eq_toInt, decide_eq_false_iff_not]
    have := iI_toInt (a := b) (by omega)
    show ¬ (iI b).toInt < 0
    omega
  have m1 : (iI (-1)).toBitVec.msb = true := by decide +kernel
  have m : (iI b ^^^ iI (-1)).toBitVec.msb = true := by
    rw [Int32.toBitVec_xor, BitVec.msb_xor, mb, m1]
    rfl
  rw [BitVec.msb_eq_toInt, decide_eq_true_iff] at m
  exact m
theorem sub_iff {x z : Int} (x0 : 0 ≤ x) (x1 : x < 2147483648) (z0 : 0 ≤ z) (z1 : z < 2147483648) : iAnd x (iXor z (-1)) = 0 ↔ ∀ i : Int, 0 ≤ i → has x i = true → has z i = true := by
  obtain ⟨a, b, c⟩ := iAndN x0 x1 z0 z1
  constructor
  · intro e i i0 hi
    have := c i i0
    rw [e, has_0, hi] at this
    cases h : has z i
    · rw [h] at this; cases this
    · rfl
  · intro h
    refine has_ext a (by decide) (fun i i0 => ?_)
    rw [c i i0, has_0]
    cases hx : has x i
    · rfl
    · rw [h i i0 hx]; rfl
theorem has_m {n i : Int} (n0 : 0 ≤ n) (n1 : n ≤ 16) (i0 : 0 ≤ i) : has (iShl 1 n - 1) i = decide (i < n) ∧ 0 ≤ iShl 1 n - 1 ∧ iShl 1 n - 1 < 65536 ∧ iShl 1 n = ((2 ^ n.toNat : Nat) : Int) := by
  have e := iShl1_e n0 (show n < 31 by omega)
  have p := Nat.two_pow_pos n.toNat
  have q : (2 : Nat) ^ n.toNat ≤ 2 ^ 16 := Nat.pow_le_pow_right (by decide) (by omega)
  have t : (((2 ^ n.toNat : Nat) : Int) - 1).toNat = 2 ^ n.toNat - 1 := by omega
  refine ⟨?_, by omega, by omega, e⟩
  unfold has
  rw [e, t, Nat.testBit_two_pow_sub_one]
  by_cases c : i < n
  · rw [decide_eq_true c, decide_eq_true (by omega)]
  · rw [decide_eq_false c, decide_eq_false (by omega)]
theorem out_iff {x n : Int} (rx : rng x) (n0 : 0 ≤ n) (n1 : n ≤ 16) : iAnd x (iXor (iShl 1 n - 1) (-1)) = 0 ↔ 0 ≤ x ∧ x ≤ iShl 1 n - 1 := by
  obtain ⟨_, m0, m1, m2⟩ := has_m (i := 0) n0 n1 (by decide)
  by_cases c : x < 0
  · obtain ⟨a, b⟩ := iXor_neg m0 (by omega)
    have := iAnd_neg rx a c b
    constructor <;> intro h <;> omega
  · rw [sub_iff (by omega) (by omega) m0 (by omega)]
    constructor
    · intro h
      refine ⟨by omega, ?_⟩
      have : x.toNat < 2 ^ n.toNat := Nat.lt_pow_two_of_testBit _ (fun i hi => by
        by_cases t : x.toNat.testBit i = true
        · have := h i (by omega) (by unfold has; simpa using t)
          rw [(has_m n0 n1 (by omega)).1, decide_eq_true_iff] at this
          omega
        · exact Bool.eq_false_iff.2 t)
      omega
    · intro h i i0 hi
      rw [(has_m n0 n1 i0).1, decide_eq_true_iff]
      have := has_lt (n := n.toNat) (by
        have e : ((2 ^ n.toNat : Nat) : Int) = 2 ^ n.toNat := by simp
        omega) hi
      omega
theorem c_postable {σ : Sg} {post : Po} {k : Nat} (hk : shp[k]? = some (0, 0, 14)) (hW : WfB (bk σ k)) (hp : ∀ z : Int, 0 ≤ z → z < 65536 → (∀ g : Int, 0 ≤ g → (has z g = true ↔ g < σ k 0 ∧ postable (bk σ k) g)) → post (some (vi z)) σ) : Cl mX3_postable [vr 81, vr k] σ post := by
  have wh := Wb_heads hW
  refine EX3_postable hk (c_filledHeads hk hW (fun f f0 f1 hf => ⟨_, rfl, ?_⟩))
  have loop : ∀ (n j : Nat) (x : Int), (j : Int) + n = σ k 0 → 0 ≤ x → x < 65536 → (∀ g : Int, 0 ≤ g → (has x g = true ↔ g < j ∧ postable (bk σ k) g)) → V mX3_postable 10 [none, some (vr k), some (vi f), some (vi x), some (vi (j : Int))] [] σ post := by
    intro n
    induction n with
    | zero =>
      intro j x hj x0 x1 hx
      refine BX3_postable_10 hk ⟨by omega, by omega, fun _ => hp x x0 x1 (fun g g0 => ?_), fun q => absurd (by omega) q⟩
      rw [hx g g0, show (j : Int) = σ k 0 by omega]
    | succ n ih =>
      intro j x hj x0 x1 hx
      have no : ¬ postable (bk σ k) j → V mX3_postable 10 [none, some (vr k), some (vi f), some (vi x), some (vi ((j : Int) + 1))] [] σ post := fun hn => ih (j + 1) x (by omega) x0 x1 (fun g g0 => by
        rw [hx g g0]
        constructor
        · rintro ⟨a, b⟩; exact ⟨by omega, b⟩
        · rintro ⟨a, b⟩
          refine ⟨?_, b⟩
          by_cases e : g = j
          · rw [e] at b; exact absurd b hn
          · omega)
      refine BX3_postable_10 hk ⟨by omega, by omega, fun q => absurd q (by omega), fun _ => c_stepsToFilled hk hW (by omega) (by omega) f0 f1 hf (fun w w15 hw => ⟨_, rfl, by omega, fun c => no (fun z => ?_), fun c => ?_⟩) (fun hno => ⟨_, rfl, by decide, fun _ => no (fun z => ?_), fun c => absurd (by decide) c⟩)⟩
      · have e : w = 0 := by omega
        subst e
        exact z.1 hw.1
      · have s := iShl1_lt (h := (j : Int)) (n := 16) (by omega) (by omega) (by decide)
        have o := iOr_lt (s := x) (t := iShl 1 (j : Int)) (n := 16) (by decide) x0 x1 s.1 s.2
        refine ih (j + 1) _ (by omega) o.1 o.2 (fun g g0 => ?_)
        have pj : postable (bk σ k) j := ⟨hw.2 0 (by omega), w, hw⟩
        rw [has_or x0 (by omega) s.1 (by omega), has_shl (by omega) (by omega) g0, Bool.or_eq_true, hx g g0, decide_eq_true_iff]
        constructor
        · rintro (⟨a, b⟩ | a)
          · exact ⟨by omega, b⟩
          · rw [a]; exact ⟨by omega, pj⟩
        · rintro ⟨a, b⟩
          by_cases e : g = j
          · exact Or.inr e
          · exact Or.inl ⟨by omega, b⟩
      · obtain ⟨_, v, hv⟩ := z
        exact hno v hv
  exact loop (σ k 0).toNat 0 0 (by omega) (by decide) (by decide) (fun g g0 => by
    rw [has_0]
    constructor
    · intro z; cases z
    · rintro ⟨a, _⟩; omega)
theorem c_sourceOf {σ : Sg} {post : Po} {h z : Int} (h01 : σ 0 1 = 5) (hW : WfB (bk σ 5)) (h0 : 0 ≤ h) (h1 : h < σ 5 0) (z0 : 0 ≤ z) (z1 : z < 65536) (hz : ∀ g : Int, 0 ≤ g → has z g = fil (bk σ 5) g) (hpo : postable (bk σ 5) h) (hp : post (some (vi (psr (bk σ 5) h))) σ) : Cl mX11_sourceOf [vr 0, vi h, vi z] σ post := by
  obtain ⟨a, v, hv⟩ := hpo
  refine EX11_sourceOf ⟨h01, c_stepsToFilled rfl hW h0 h1 z0 z1 hz (fun w w15 hw => ⟨_, rfl, c_headAfter rfl hW h0 h1 w15 (fun v hv => FS_ne hW hw hv) ⟨_, rfl, ?_⟩⟩) (fun hno => absurd hv (hno v))⟩
  rw [← psr_e hw]
  exact hp
theorem r_canPost {σ B : Sg} {post : Po} {h : Int} (hW : WfB B) (hR : RA (bk σ 94) B) (h0 : 0 ≤ h) (h1 : h < B 0 0) (ht : postable B h → ∀ σ' : Sg, FrJ [] [36] σ σ' → post (some (vi 1)) σ') (hf : ¬ postable B h → ∀ σ' : Sg, FrJ [] [36] σ σ' → post (some (vi 0)) σ') : Cl mX12_canPost [vr 94, vi h] σ post := by
  have wh := hW.1
  refine EX12_canPost (r_isFilled hW hR (by omega) (fun q => ⟨_, rfl, b1 (hf (fun z => z.1 q) σ FrJ.rf)⟩) (fun q => ⟨_, rfl, b0 ?_⟩))
  refine r_foundFrom hW hR h0 h1 (fun w σ' w15 hw hF _ => ⟨_, rfl, ?_⟩) (fun hno σ' hF => ⟨_, rfl, by decide, fun _ => hf (fun z => ?_) σ' hF, fun c => absurd (by decide) c⟩)
  · have r := fil_range hW hw.1
    exact ⟨by omega, fun c => absurd c (by omega), fun _ => ht ⟨q, w, hw⟩ σ' hF⟩
  · obtain ⟨_, v, hv⟩ := z
    exact hno v hv
/-- room on the trial's sheet -/
noncomputable def cap (B : Sg) (n : Nat) : Int := sumN (fun h => 842 + 30 * cnt (fun g => has (B 5 h) g) 16) n
theorem cap_s (B : Sg) (n : Nat) : cap B (n + 1) = cap B n + (842 + 30 * cnt (fun g => has (B 5 n) g) 16) := rfl
theorem cap_up (B : Sg) {m : Nat} : ∀ n : Nat, m ≤ n → cap B m ≤ cap B n
  | 0, h => by rw [show m = 0 by omega]; exact Int.le_refl _
  | n + 1, h => by
    by_cases e : m = n + 1
    · rw [e]; exact Int.le_refl _
    · have := cap_up B (m := m) n (by omega)
      have := (cnt_b (fun g => has (B 5 n) g) 16).1
      rw [cap_s]
      omega
theorem cap_b {B : Sg} (hW : WfB B) {n : Nat} (hn : (n : Int) ≤ B 0 0) : cap B n ≤ 13712 := by
  have w := hW.1
  have a := cap_up B (m := n) (B 0 0).toNat (by omega)
  have e : cap B (B 0 0).toNat = 842 * ((B 0 0).toNat : Int) + 30 * sumN (fun h => cnt (fun g => has (B 5 h) g) 16) (B 0 0).toNat := by
    unfold cap
    rw [sumN_add (fun _ => 842) (fun h => 30 * cnt (fun g => has (B 5 h) g) 16), sumN_con, sumN_mul]
  have b := also_sum hW rfl
  omega
theorem hd_cap {B : Sg} (hW : WfB B) {how w h src fold : Int} (h0 : 0 ≤ h) (h1 : h < B 0 0) (g0 : 0 ≤ src) (g1 : src < B 0 0) : ((hdB B how w h src fold).length : Int) ≤ 842 + 30 * cnt (fun g => has (B 5 h) g) 16 := by
  obtain ⟨q, q0, q1, q2, q3⟩ := hd_len hW (how := how) (w := w) (fold := fold) h0 h1 g0 g1
  have := nMb hW src (-2)
  omega
theorem SH_clear {σ : Sg} {k : Nat} {w : Int} : SH (up (up (up (up (up σ k 1 0) k 2 0) k 3 0) k 6 0) k 4 w) k [] 0 w [] := by
  refine ⟨?_, ?_, ?_, ?_, ?_, fun i hi => by simp at hi, fun i hi => by simp at hi⟩
  · rw [up_f (by decide), up_f (by decide), up_f (by decide), up_f (by decide), up_s]; rfl
  · rw [up_f (by decide), up_f (by decide), up_f (by decide), up_s]; rfl
  · rw [up_f (by decide), up_f (by decide), up_s]
  · exact up_s
  · rw [up_f (by decide), up_s]; rfl
theorem Fr_clear {σ : Sg} {k : Nat} {w : Int} : Fr [k] σ (up (up (up (up (up σ k 1 0) k 2 0) k 3 0) k 6 0) k 4 w) :=
  ((((Fr.rf.u (by simp)).u (by simp)).u (by simp)).u (by simp)).u (by simp)
def Ft : List Nat := [67, 68, 69, 58, 59, 60, 61, 62, 63]
theorem psr_r {B : Sg} (hW : WfB B) {h : Int} (hp : postable B h) : 0 ≤ psr B h ∧ psr B h < B 0 0 := by
  obtain ⟨_, v, hv⟩ := hp
  rw [psr_e hv]
  exact fil_range hW hv.1
theorem Fr.b5 {σ σ' : Sg} {M : List Nat} (h : Fr M σ σ') (hM : ∀ k ∈ M, 16 < k) : bk σ' 5 = bk σ 5 ∧ σ' 0 = σ 0 ∧ σ' 5 = σ 5 ∧ σ' 1 = σ 1 :=
  ⟨bk5 (fun k x y => h k (fun z => by have := hM k z; omega)), h 0 (fun z => by have := hM 0 z; omega), h 5 (fun z => by have := hM 5 z; omega), h 1 (fun z => by have := hM 1 z; omega)⟩
/-- a head on the trial's sheet -/
theorem c_trial {σ τ : Sg} {post : Po} {h src fold : Int} {L : List Int} (hW : WfB (bk σ 5)) (h3' : σ 0 3 = 0 ∨ σ 0 3 = 1) (h4 : 20 ≤ σ 0 4 ∧ σ 0 4 ≤ 80) (pr : PrOK σ) (hF : Fr Ft σ τ) (h0 : 0 ≤ h) (h1 : h < σ 5 0) (g0 : 0 ≤ src) (g1 : src < σ 5 0) (hf : fold = 0 ∨ fold = 1) (hS : SH τ 67 L 0 (σ 0 4) []) {n : Nat} (hn : (n : Int) = h) (hL : (L.length : Int) ≤ cap (bk σ 5) n) (hp : ∀ (σ' : Sg) (L' : List Int), Fr Ft σ σ' → SH σ' 67 L' 0 (σ 0 4) [] → (L'.length : Int) ≤ cap (bk σ 5) (n + 1) → post (some (vi (tens (hdB (bk σ 5) (σ 0 3) (σ 0 4) h src fold)))) σ') : Cl mX4_setHead [vr 53, vr 67, vr 5, vi h, vi src, vi fold] τ post := by
  obtain ⟨e5, e0, e50, e1⟩ := hF.b5 (by decide)
  have c := hd_cap hW (how := σ 0 3) (w := σ 0 4) (fold := fold) h0 (show h < bk σ 5 0 0 from h1) g0 (show src < bk σ 5 0 0 from g1)
  have cs := cap_s (bk σ 5) n
  rw [hn] at cs
  have cb := cap_b hW (n := n + 1) (by show ((n + 1 : Nat) : Int) ≤ σ 5 0; omega)
  have len : ((L ++ hdB (bk σ 5) (σ 0 3) (σ 0 4) h src fold).length : Int) ≤ cap (bk σ 5) (n + 1) := by
    rw [List.length_append]
    omega
  refine c_setHead (how := σ 0 3) rfl (by decide) (by rw [e5]; exact hW) h0 (by rw [e50]; exact h1) g0 (by rw [e50]; exact g1) hf h3' (by rw [hF 53 (by decide)]; exact pr.1.1) (fun i i0 i1 => by rw [hF 55 (by decide), e5, e50]; rw [e50] at i1; exact pr.1.2 i i0 i1) hS (by omega) (by rw [e5]; omega) (fun σ' hF' h' => ?_)
  rw [e5] at h' ⊢
  exact hp σ' _ (hF.tr (hF'.mo (by decide))) h' len
theorem s_posted : St_posted Inv := by
  intro σ x rx hI
  have hI' := hI
  obtain ⟨⟨h1, h2, ⟨h3, h3'⟩, h4, h5⟩, h6, h7, ⟨hW, hR⟩, ⟨h10, h11⟩, h12⟩ := hI
  have wh := Wb_heads hW
  have er : σ 94 0 = σ 5 0 := Ra_heads hR
  have oi := out_iff (x := x) (n := σ 5 0) rx wh.1 wh.2
  obtain ⟨_, m0, m1, m2⟩ := has_m (n := σ 5 0) (i := 0) wh.1 wh.2 (by decide)
  have ref : ∀ (z : Int) (τ : Sg) (B : Sg), rng z → Inv τ → τ 94 0 = σ 5 0 → WfB B → RA (bk τ 94) B → B 0 0 = σ 5 0 → (∀ g, postable B g ↔ postable (bk σ 5) g) → (¬ (0 ≤ x ∧ x ≤ iShl 1 (σ 5 0) - 1) → z = -1001) → ((0 ≤ x ∧ x ≤ iShl 1 (σ 5 0) - 1) → ¬ (∀ g : Int, 0 ≤ g → g < σ 5 0 → has x g = true → postable (bk σ 5) g) → z = -1003) → ((0 ≤ x ∧ x ≤ iShl 1 (σ 5 0) - 1) → (∀ g : Int, 0 ≤ g → g < σ 5 0 → has x g = true → postable (bk σ 5) g) → z = sumN (lin B (τ 0 3) (τ 0 4) x) (σ 5 0).toNat) → Cl mX12_posted [vr 94, vi x] τ (pI fun z2 σ2 => z = z2 ∧ rng z ∧ (Inv σ2 ∨ Inv (swp σ2))) := by
    intro z τ B rz hIt e0 kW kR eB ep y1 y2 y3
    obtain ⟨⟨k1, k2, ⟨k3, k3'⟩, k4, k5⟩, _⟩ := id hIt
    refine EX12_posted (EX12_noSet ⟨rx, by rw [e0]; omega, ?_⟩)
    rw [e0]
    refine r_in (by omega) (by decide) (by omega) (fun a b => ⟨_, rfl, b1 ⟨_, rfl, b0' ?_⟩⟩) (fun q => ⟨_, rfl, b0 ⟨_, rfl, b1' ⟨_, rfl, y1 q, rz, Or.inl hIt⟩⟩⟩)
    have loop : ∀ (n j : Nat) (υ : Sg), (j : Int) + n = σ 5 0 → FrJ [107, 108, 109, 110] Jp τ υ → (∀ g : Int, 0 ≤ g → g < j → has x g = true → postable (bk σ 5) g) → V mX12_posted 14 [some (vr 94), some (vi x), some (vi (j : Int))] [] υ (pI fun z2 σ2 => z = z2 ∧ rng z ∧ (Inv σ2 ∨ Inv (swp σ2))) := by
      intro n
      induction n with
      | zero =>
        intro j υ hj hF hg
        have q0 : υ 94 0 = σ 5 0 := (hF.2 0 (by decide)).trans e0
        have hR' : RA (bk υ 94) B := kR.fr hF (by decide) (by decide)
        refine BX12_posted_14 ⟨by omega, by rw [q0]; omega, fun _ => ?_, fun c => absurd (by rw [q0]; omega) c⟩
        refine r_linesOfAll (how := τ 0 3) (w := τ 0 4) kW hR' k3' (by rw [hF.2 27 (by decide)]; exact k3.symm) (by rw [hF.2 28 (by decide)]; exact k4.1.symm) (by omega) a (by omega) (fun g g0 g1 hx => (ep g).2 (hg g g0 (by omega) hx)) (fun σ2 hF2 => ⟨_, rfl, ⟨_, rfl, ?_, rz, Or.inl (hIt.pr (hF.tr hF2))⟩⟩)
        rw [eB]
        exact y3 ⟨a, b⟩ (fun g g0 g1 hx => hg g g0 (by omega) hx)
      | succ n ih =>
        intro j υ hj hF hg
        have q0 : υ 94 0 = σ 5 0 := (hF.2 0 (by decide)).trans e0
        have hR' : RA (bk υ 94) B := kR.fr hF (by decide) (by decide)
        refine BX12_posted_14 ⟨by omega, by rw [q0]; omega, fun c => absurd c (by rw [q0]; omega), fun _ => r_has a (by omega) (by omega) (by omega) (fun hy => ⟨_, rfl, b1' ?_⟩) (fun hy => ⟨_, rfl, b0' (ih (j + 1) υ (by omega) hF (fun g g0 g1 hx => ?_))⟩)⟩
        · refine r_canPost kW hR' (by omega) (by omega) (fun hpo σ' hF' => ⟨_, rfl, b1 (ih (j + 1) σ' (by omega) (hF.tr (hF'.mo (by decide) (by decide))) (fun g g0 g1 hx => ?_))⟩) (fun hpo σ' hF' => ⟨_, rfl, b0 ⟨_, rfl, y2 ⟨a, b⟩ (fun hall => hpo ((ep _).2 (hall j (by omega) (by omega) hy))), rz, Or.inl (hIt.pr (hF.tr (hF'.mo (by decide) (by decide))))⟩⟩)
          by_cases e : g = j
          · rw [e]; exact (ep _).1 hpo
          · exact hg g g0 (by omega) hx
        · by_cases e : g = j
          · rw [e] at hx; exact absurd hx hy
          · exact hg g g0 (by omega) hx
    exact loop (σ 5 0).toNat 0 τ (by omega) FrJ.rf (fun g g0 g1 => by omega)
  refine EX11_posted ⟨h1.1, fun c => ?_, fun c => ⟨_, rfl, ref _ σ (bk σ 5) (by decide) hI' er hW hR rfl (fun _ => Iff.rfl) (fun _ => rfl) (fun z => absurd (oi.2 z) c) (fun z => absurd (oi.2 z) c)⟩⟩
  have c' := oi.1 c
  refine c_postable rfl hW (fun z z0 z1 hz => ⟨_, rfl, fun d => ?_, fun d => ⟨_, rfl, ref _ σ (bk σ 5) (by decide) hI' er hW hR rfl (fun _ => Iff.rfl) (fun q => absurd c' q) (fun _ _ => rfl) (fun _ hall => absurd ((sub_iff c'.1 (by omega) z0 (by omega)).2 (fun i i0 hi => ?_)) d)⟩⟩)
  · have d' := (sub_iff c'.1 (by omega) z0 (by omega)).1 d
    have pall : ∀ g : Int, 0 ≤ g → has x g = true → g < σ 5 0 ∧ postable (bk σ 5) g := fun g g0 hx => (hz g g0).1 (d' g g0 hx)
    refine c_printAll hI' (fun τ hF hj e9 pr hI2 => ⟨rfl, EX8_clear rfl ⟨rfl, ?_⟩⟩)
    obtain ⟨⟨k1, k2, ⟨k3, k3'⟩, k4, k5⟩, k6, k7, ⟨kW, kR⟩, ⟨k10, k11⟩, k12⟩ := id hI2
    have e5 : bk τ 5 = bk σ 5 := bk5 (fun k a b => hF k (by unfold Fp; simp; omega))
    have e50 : τ 5 = σ 5 := hF 5 (by decide)
    have e94 : τ 94 = σ 94 := hF 94 (by decide)
    have F0 : Fr Ft τ (up (up (up (up (up τ 67 1 0) 67 2 0) 67 3 0) 67 6 0) 67 4 (τ 0 4)) := Fr_clear.mo (by decide)
    obtain ⟨f5, f0, f50, f1⟩ := F0.b5 (by decide)
    refine ⟨by rw [f0]; exact k1.1, c_filledHeads rfl (by rw [f5]; exact kW) (fun f f0' f1' hf => ⟨_, rfl, ?_⟩)⟩
    rw [f5] at hf
    have loop : ∀ (n j : Nat) (υ : Sg) (L : List Int), (j : Int) + n = σ 5 0 → Fr Ft τ υ → SH υ 67 L 0 (τ 0 4) [] → (L.length : Int) ≤ cap (bk τ 5) j → V mX11_posted 75 [some (vr 0), some (vi x), none, some (vi f), some (vi (sumN (lin (bk τ 5) (τ 0 3) (τ 0 4) x) j)), some (vi (j : Int))] [] υ (pI fun z σ1 => Cl mX12_posted [vr 94, vi x] σ1 (pI fun z2 σ2 => z = z2 ∧ rng z ∧ (Inv σ2 ∨ Inv (swp σ2)))) := by
      intro n
      induction n with
      | zero =>
        intro j υ L hj hG hS hL
        obtain ⟨g5, g0, g50, g1⟩ := hG.b5 (by decide)
        refine BX11_posted_75 ⟨by rw [g0]; exact k1.1, by omega, by rw [g50, e50]; omega, fun _ => ⟨_, rfl, ?_⟩, fun q => absurd (by rw [g50, e50]; omega) q⟩
        have eg94 : υ 94 = σ 94 := (hG 94 (by decide)).trans e94
        have hIu : Inv υ := hI2.fr (N := []) (J := []) hG FrJ.rf (by unfold ic; decide) (by simp) (by simp)
        have hRu : RA (bk υ 94) (bk τ 5) := by
          rw [bk94 (σ := τ) (σ' := υ) (by rw [hG 94 (by decide)]) (by rw [hG 94 (by decide)]) (fun k a b => hG k (by unfold Ft; simp; omega))]; exact kR
        refine ref _ υ (bk τ 5) ?_ hIu (by rw [eg94]; exact er) kW hRu (by rw [e5]; rfl) (fun g => by rw [e5]) (fun q => absurd c' q) (fun _ q => absurd (fun g g0 g1 hx => (pall g g0 hx).2) q) (fun _ _ => ?_)
        · have b : ∀ m : Nat, (m : Int) ≤ σ 5 0 → 0 ≤ sumN (lin (bk τ 5) (τ 0 3) (τ 0 4) x) m ∧ sumN (lin (bk τ 5) (τ 0 3) (τ 0 4) x) m ≤ cap (bk τ 5) m := by
            intro m
            induction m with
            | zero => intro _; exact ⟨Int.le_refl _, Int.le_refl _⟩
            | succ m ihm =>
              intro hm
              have a := ihm (by omega)
              have hm2 : (m : Int) < bk τ 5 0 0 := by show (m : Int) < τ 5 0; rw [e50]; omega
              have sr : 0 ≤ (if has x (m : Int) = true then psr (bk τ 5) m else m) ∧ (if has x (m : Int) = true then psr (bk τ 5) m else m) < bk τ 5 0 0 := by
                split
                · rename_i hx
                  exact psr_r kW (by rw [e5]; exact (pall m (by omega) hx).2)
                · exact ⟨by omega, hm2⟩
              have hc := hd_cap kW (how := τ 0 3) (w := τ 0 4) (fold := 0) (by omega) hm2 sr.1 sr.2
              have tb := tens_nn (hdB (bk τ 5) (τ 0 3) (τ 0 4) m (if has x (m : Int) = true then psr (bk τ 5) m else m) 0)
              rw [sumN, cap_s]
              unfold lin at a ⊢
              omega
          have b1 := b j (by omega)
          have b2 := cap_b kW (n := j) (by show (j : Int) ≤ τ 5 0; rw [e50]; omega)
          omega
        · rw [show (σ 5 0).toNat = j by omega, g0]
      | succ n ih =>
        intro j υ L hj hG hS hL
        obtain ⟨g5, g0, g50, g1⟩ := hG.b5 (by decide)
        refine BX11_posted_75 ⟨by rw [g0]; exact k1.1, by omega, by rw [g50, e50]; omega, fun q => absurd q (by rw [g50, e50]; omega), fun _ => c_isIn c'.1 (by omega) (by omega) (by omega) (fun hy => ⟨_, rfl, b1' ⟨by rw [g0]; exact k1.1, ?_⟩⟩) (fun hy => ⟨_, rfl, b0' ⟨by omega, ?_⟩⟩)⟩
        · have po := (pall j (by omega) hy).2
          rw [← e5] at po
          refine c_sourceOf (by rw [g0]; exact k1.1) (by rw [g5]; exact kW) (by omega) (by rw [g50, e50]; omega) f0' f1' (fun g hg => by rw [g5]; exact hf g hg) (by rw [g5]; exact po) ⟨_, rfl, ?_⟩
          rw [g5]
          have pr2 := psr_r kW po
          refine c_trial kW k3' k4.2 pr hG (by omega) (by rw [e50]; omega) pr2.1 pr2.2 (Or.inl rfl) hS rfl hL (fun σ' L' hF' hS' hL' => ⟨_, rfl, ?_⟩)
          have := ih (j + 1) σ' L' (by omega) hF' hS' hL'
          rw [sumN] at this
          unfold lin at this ⊢
          rw [if_pos hy] at this
          exact this
        · have e := pr.2.2 j (by omega) (by rw [e50]; omega)
          have := ih (j + 1) υ L (by omega) hG hS (by
            have := cap_up (bk τ 5) (m := j) (j + 1) (by omega)
            omega)
          rw [sumN] at this
          unfold lin at this ⊢
          rw [if_neg hy] at this
          rw [g1, e]
          exact this
    exact loop (σ 5 0).toNat 0 _ [] (by omega) F0 SH_clear (by show (0 : Int) ≤ 0; decide)
  · have r := has_lt (n := (σ 5 0).toNat) (by
      have e : ((2 ^ (σ 5 0).toNat : Nat) : Int) = 2 ^ (σ 5 0).toNat := by simp
      omega) hi
    exact (hz i i0).2 ⟨by omega, hall i i0 (by omega) hi⟩
