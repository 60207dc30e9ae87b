/-! ===== PURE HALF, by hand: feed, asked ===== -/
theorem iByte_e (a : Int) : iByte a = if a % 256 < 128 then a % 256 else a % 256 - 256 := by
  unfold iByte
  rw [Int8.toInt_toInt32, Int32.toInt_toInt8]
  have e : (iI a).toInt = a.bmod (2 ^ 32) := by
    unfold iI
    rw [Int32.toInt_ofInt]
  rw [e, Int.bmod_bmod_of_dvd (by decide)]
  show Int.bmod a 256 = _
  unfold Int.bmod
  show (if a % 256 < (256 + 1) / 2 then a % 256 else a % 256 - 256) = _
  rfl
theorem lmod (y : Int64) : y.toInt % 256 = (y.toBitVec.toNat : Int) % 256 := by
  show y.toBitVec.toInt % 256 = _
  rw [BitVec.toInt_eq_toNat_cond]
  split
  · rfl
  · rw [pw64]; omega
theorem lUshr_n (x : Int) {n : Nat} (hn : n < 64) : ((lI x).toUInt64 >>> ((iI (n : Int)).toInt64.toUInt64 &&& Int64.toUInt64 63)).toInt64.toBitVec.toNat = (x % 18446744073709551616).toNat / 2 ^ n := by
  have hs := ushL_tab n hn
  have e : ((lI x).toUInt64 >>> ((iI (n : Int)).toInt64.toUInt64 &&& Int64.toUInt64 63)).toInt64.toBitVec = (lI x).toBitVec >>> n := by
    have h2 := UInt64.toBitVec_shiftRight (lI x).toUInt64 ((iI (n : Int)).toInt64.toUInt64 &&& Int64.toUInt64 63)
    exact h2.trans (congrArg (fun z : Nat => (lI x).toBitVec >>> z) hs)
  rw [e, BitVec.toNat_ushiftRight, Nat.shiftRight_eq_div_pow, nB64]
theorem lShr_e {x b : Int} (rx : rngL x) (h0 : 0 ≤ b) (h1 : b < 64) : lShr x b = x / 2 ^ b.toNat := by
  obtain ⟨n, rfl⟩ : ∃ n : Nat, b = n := ⟨b.toNat, by omega⟩
  have hs := shL_tab n (by omega)
  unfold lShr
  show ((lI x).toBitVec.sshiftRight (((iI (n : Int)).toInt64 &&& 63).toBitVec.smod 64).toNat).toInt = _
  rw [hs, BitVec.toInt_sshiftRight]
  show (lI x).toInt >>> n = _
  rw [lI_toInt rx, Int.shiftRight_eq_div_pow]
  simp
theorem lAnd255 (z : Int) : lAnd z 255 = z % 256 := by
  have h1 := tI64 (x := lI z &&& lI 255) (n := (z % 18446744073709551616).toNat % 256) (by
    rw [Int64.toBitVec_and, BitVec.toNat_and, nB64, nB64]
    show (z % 18446744073709551616).toNat &&& (2 ^ 8 - 1) = _
    rw [Nat.and_two_pow_sub_one_eq_mod]) (by omega)
  unfold lAnd
  rw [h1]
  omega
/-- byte e of a long, 0 .. 255 -/
def ub (x e : Int) : Int := x / 2 ^ (8 * e).toNat % 256
theorem ub_r {x e : Int} (rx : rngL x) (e0 : 0 ≤ e) (e1 : e < 8) : lAnd (lShr x (8 * e)) 255 = ub x e := by
  rw [lShr_e rx (by omega) (by omega), lAnd255]
  rfl
theorem ub_c {x e : Int} (e0 : 0 ≤ e) (e1 : e < 8) : iByte (iByte (lUshr x (8 * e))) = if ub x e < 128 then ub x e else ub x e - 256 := by
  have key : lUshr x (8 * e) % 256 = ub x e := by
    unfold lUshr ub
    rw [lmod]
    obtain ⟨n, hn⟩ : ∃ n : Nat, 8 * e = n := ⟨(8 * e).toNat, by omega⟩
    rw [hn, lUshr_n x (by omega), Int.toNat_natCast]
    have : n = 0 ∨ n = 8 ∨ n = 16 ∨ n = 24 ∨ n = 32 ∨ n = 40 ∨ n = 48 ∨ n = 56 := by omega
    rcases this with rfl | rfl | rfl | rfl | rfl | rfl | rfl | rfl
    · show (((x % 18446744073709551616).toNat / 1 : Nat) : Int) % 256 = x / 1 % 256
      omega
    · show (((x % 18446744073709551616).toNat / 256 : Nat) : Int) % 256 = x / 256 % 256
      omega
    · show (((x % 18446744073709551616).toNat / 65536 : Nat) : Int) % 256 = x / 65536 % 256
      omega
    · show (((x % 18446744073709551616).toNat / 16777216 : Nat) : Int) % 256 = x / 16777216 % 256
      omega
    · show (((x % 18446744073709551616).toNat / 4294967296 : Nat) : Int) % 256 = x / 4294967296 % 256
      omega
    · show (((x % 18446744073709551616).toNat / 1099511627776 : Nat) : Int) % 256 = x / 1099511627776 % 256
      omega
    · show (((x % 18446744073709551616).toNat / 281474976710656 : Nat) : Int) % 256 = x / 281474976710656 % 256
      omega
    · show (((x % 18446744073709551616).toNat / 72057594037927936 : Nat) : Int) % 256 = x / 72057594037927936 % 256
      omega
  have hb : 0 ≤ ub x e ∧ ub x e < 256 := by
    unfold ub
    exact ⟨Int.emod_nonneg _ (by decide), Int.emod_lt_of_pos _ (by decide)⟩
  rw [iByte_e, iByte_e, key]
  by_cases c : ub x e < 128
  · rw [if_pos c, if_pos (by omega)]; omega
  · rw [if_neg c, if_neg (by omega)]; omega
theorem ub_b (x e : Int) : 0 ≤ ub x e ∧ ub x e < 256 := by
  unfold ub
  exact ⟨Int.emod_nonneg _ (by decide), Int.emod_lt_of_pos _ (by decide)⟩
/-- bytes come behind: f is the row, t its length, n bytes of g from n - 1 down -/
def fed (f g : Int → Int) (t n m : Int) : Int → Int := fun i => if t ≤ i ∧ i < t + m then g (n - 1 - (i - t)) else f i
theorem fed_s {f g : Int → Int} {t n m : Int} (hm : 0 ≤ m) : pt (fed f g t n m) (t + m) (g (n - 1 - m)) = fed f g t n (m + 1) := by
  funext i
  by_cases e : i = t + m
  · subst e
    rw [pt_self]
    unfold fed
    rw [if_pos (by omega), show t + m - t = m by omega]
  · rw [pt_ne e]
    unfold fed
    by_cases c : t ≤ i ∧ i < t + m
    · rw [if_pos c, if_pos (by omega)]
    · rw [if_neg c, if_neg (by omega)]
theorem fed_0 {f g : Int → Int} {t n : Int} : fed f g t n 0 = f := by
  funext i
  unfold fed
  rw [if_neg (by omega)]
theorem s_feed : St_feed Inv := by
  intro σ n x rn rx hI
  have hI' := hI
  obtain ⟨⟨h1, h2, h3, h4, h5⟩, ⟨t1, t2, t3⟩, h7, h8, ⟨h10, h11⟩, h12⟩ := hI
  have no : ∀ z : Int, rng z → (¬ (1 ≤ n ∧ n ≤ 8) → z = -1002) → (1 ≤ n ∧ n ≤ 8 → ¬ σ 3 0 + n ≤ 600 ∧ z = -1004) → Cl mX12_feed [vr 94, vi n, vl x] σ (pI fun z2 σ2 => z = z2 ∧ rng z ∧ (Inv σ2 ∨ Inv (swp σ2))) := by
    intro z rz y1 y2
    refine EX12_feed ⟨rn, r_in (by omega) (by omega) (by omega) (fun a b => ⟨_, rfl, b1 ⟨by omega, fun c => ?_, fun c => ⟨_, rfl, (y2 ⟨a, b⟩).2, rz, Or.inl hI'⟩⟩⟩) (fun q => ⟨_, rfl, b0 ⟨_, rfl, y1 q, rz, Or.inl hI'⟩⟩)⟩
    have := y2 ⟨a, b⟩
    omega
  refine EX11_feed ⟨rn, fun q => ⟨_, rfl, no _ (by decide) (fun _ => rfl) (fun z => by omega)⟩, fun q => ⟨fun q2 => ⟨by omega, fun q3 => ?_, fun q3 => ⟨_, rfl, no _ (by decide) (fun z => by omega) (fun _ => ⟨q3, rfl⟩)⟩⟩, fun q2 => ⟨_, rfl, no _ (by decide) (fun _ => rfl) (fun z => by omega)⟩⟩⟩
  -- the reference's loop
  have ref : ∀ (m : Nat) (p : Int) (τ : Sg) (z : Int), 0 ≤ p → p + m = n → z = σ 3 0 + n → (∀ k, k ≠ 3 → k ≠ 4 → k ≠ 94 → k ≠ 106 → τ k = σ k) → (∀ j, j ≠ 0 → τ 3 j = σ 3 j) → τ 3 0 = σ 3 0 + n → τ 4 = fed (σ 4) (fun e => if ub x e < 128 then ub x e else ub x e - 256) (σ 3 0) n n → (∀ j, j ≠ 14 → τ 94 j = σ 94 j) → τ 94 14 = σ 3 0 + p → τ 106 = fed (σ 106) (ub x) (σ 3 0) n p → V mX12_feed 37 [some (vr 94), none, some (vl x), none, some (vi (n - 1 - p))] [] τ (pI fun z2 σ2 => z = z2 ∧ rng z ∧ (Inv σ2 ∨ Inv (swp σ2))) := by
    intro m
    induction m with
    | zero =>
      intro p τ z p0 hp hz hk h3' e3 e4 h94 e94 e106
      have ep : p = n := by omega
      subst ep
      refine BX12_feed_37 ⟨by omega, fun _ => ⟨_, rfl, by rw [e94]; exact hz, by omega, Or.inl ?_⟩, fun w => absurd (by omega) w⟩
      refine hI'.re ?_ ⟨by rw [e3, e94], by rw [e3]; omega, fun i i0 i1 => ?_⟩ (h7.co (by rw [hk 90 (by decide) (by decide) (by decide) (by decide)]) (h94 47 (by decide)) (hk 91 (by decide) (by decide) (by decide) (by decide)) (hk 92 (by decide) (by decide) (by decide) (by decide)) (hk 118 (by decide) (by decide) (by decide) (by decide)) (hk 119 (by decide) (by decide) (by decide) (by decide))) (fun k a b => hk k (by omega) (by omega) (by omega) (by omega)) (fun k a b => hk k (by omega) (by omega) (by omega) (by omega)) (h94 0 (by decide)) (h94 7 (by decide)) (fun k a b => hk k (by omega) (by omega) (by omega) (by omega)) (fun w => ?_)
      · unfold ScOK
        rw [hk 0 (by decide) (by decide) (by decide) (by decide), h3' 5 (by decide), h3' 2 (by decide), h94 19 (by decide), h94 27 (by decide), h94 28 (by decide)]
        exact ⟨h1, h2, h3, h4, h5⟩
      · rw [e3] at i1
        rw [e106, e4]
        unfold fed
        by_cases c : σ 3 0 ≤ i ∧ i < σ 3 0 + p
        · rw [if_pos c, if_pos c]
          have := ub_b x (p - 1 - (i - σ 3 0))
          exact ⟨by omega, rfl⟩
        · rw [if_neg c, if_neg c]
          exact t3 i i0 (by omega)
      · have e0 := hk 0 (by decide) (by decide) (by decide) (by decide)
        rw [e0] at w
        exact (h12 w).co ⟨by rw [e0], by rw [e0]⟩ (hk 1 (by decide) (by decide) (by decide) (by decide)) (bk5 (fun k a b => hk k (by omega) (by omega) (by omega) (by omega))) (by rw [hk 53 (by decide) (by decide) (by decide) (by decide)]) (hk 55 (by decide) (by decide) (by decide) (by decide)) ⟨by rw [hk 64 (by decide) (by decide) (by decide) (by decide)], by rw [hk 64 (by decide) (by decide) (by decide) (by decide)]⟩ (hk 65 (by decide) (by decide) (by decide) (by decide))
    | succ m ih =>
      intro p τ z p0 hp hz hk h3' e3 e4 h94 e94 e106
      refine BX12_feed_37 ⟨by omega, fun w => absurd w (by omega), fun _ => ⟨by omega, ?_⟩⟩
      rw [ub_r rx (by omega) (by omega), show n - 1 - p + -1 = n - 1 - (p + 1) by omega]
      refine ih (p + 1) _ z (by omega) (by omega) hz (fun k a b c d => by rw [up_r c, up_r d]; exact hk k a b c d) (fun j hj => by rw [up_r (by decide), up_r (by decide)]; exact h3' j hj) (by rw [up_r (by decide), up_r (by decide)]; exact e3) (by rw [up_r (by decide), up_r (by decide)]; exact e4) (fun j hj => by rw [up_f hj, up_o (by decide)]; exact h94 j hj) (by rw [up_s, e94]; omega) ?_
      rw [up_r (by decide), up_k, e94, e106, fed_s p0]
  refine EX5_takeBytes ?_
  have cls : ∀ (m : Nat) (p : Int) (τ : Sg), 0 ≤ p → p + m = n → (∀ k, k ≠ 3 → k ≠ 4 → τ k = σ k) → (∀ j, j ≠ 0 → τ 3 j = σ 3 j) → τ 3 0 = σ 3 0 + p → τ 4 = fed (σ 4) (fun e => if ub x e < 128 then ub x e else ub x e - 256) (σ 3 0) n p → V mX5_takeBytes 5 [some (vr 3), none, some (vl x), none, some (vi (n - 1 - p))] [] τ (pI fun z1 σ1 => (pI fun z σ1 => Cl mX12_feed [vr 94, vi n, vl x] σ1 (pI fun z2 σ2 => z = z2 ∧ rng z ∧ (Inv σ2 ∨ Inv (swp σ2)))) (some (vi z1)) σ1) := by
    intro m
    induction m with
    | zero =>
      intro p τ p0 hp hk h3' e3 e4
      refine BX5_takeBytes_5 ⟨by omega, fun _ => ⟨_, rfl, ⟨_, rfl, ?_⟩⟩, fun w => absurd (by omega) w⟩
      have ep : p = n := by omega
      subst ep
      have e94 : τ 94 = σ 94 := hk 94 (by decide) (by decide)
      refine EX12_feed ⟨rn, r_in (by omega) (by omega) (by omega) (fun a b => ⟨_, rfl, b1 ⟨by rw [e94]; omega, fun c => ?_, fun c => absurd (by rw [e94]; omega) c⟩⟩) (fun q => absurd (by omega) q)⟩
      have := ref p.toNat 0 τ (τ 3 0) (by omega) (by omega) e3 (fun k a b _ _ => hk k a b) h3' e3 e4 (fun j _ => by rw [e94]) (by rw [e94]; omega) (by rw [hk 106 (by decide) (by decide), fed_0])
      rw [show p - 1 - 0 = p - 1 by omega] at this
      exact this
    | succ m ih =>
      intro p τ p0 hp hk h3' e3 e4
      refine BX5_takeBytes_5 ⟨by omega, fun w => absurd w (by omega), fun _ => ⟨by omega, fun w => absurd w (by omega), fun _ => ⟨by omega, ?_⟩⟩⟩
      rw [ub_c (by omega) (by omega), show n - 1 - p + -1 = n - 1 - (p + 1) by omega]
      refine ih (p + 1) _ (by omega) (by omega) (fun k a b => by rw [up_r a, up_r b]; exact hk k a b) (fun j hj => by rw [up_f hj, up_o (by decide)]; exact h3' j hj) (by rw [up_s, e3]; omega) ?_
      rw [up_r (by decide), up_k, e3, e4]
      exact fed_s (g := fun e => if ub x e < 128 then ub x e else ub x e - 256) p0
  have := cls n.toNat 0 σ (by omega) (by omega) (fun _ _ _ => rfl) (fun _ _ => rfl) (by omega) (by rw [fed_0])
  rw [show n - 1 - 0 = n - 1 by omega] at this
  exact this
/-! what is printed doesn't ask how often a head is asked for -/
theorem isM_co {B B' : Sg} (h : ∀ j, j ≠ 6 → B' j = B j) : isM B' = isM B := by
  funext a b c
  unfold isM
  rw [h 7 (by decide), h 8 (by decide)]
theorem tk_co {B B' : Sg} (h : ∀ j, j ≠ 6 → B' j = B j) : tk B' = tk B := by
  have e : ∀ (a b p : Int) (n : Nat), tkN B' a b p n = tkN B a b p n := by
    intro a b p n
    induction n with
    | zero => rfl
    | succ n ih => rw [tkN, tkN, ih, isM_co h, h 9 (by decide), h 10 (by decide), h 11 (by decide)]
  funext a b p
  unfold tk
  rw [e, h 0 (by decide)]
theorem hdB_co {B B' : Sg} (h : ∀ j, j ≠ 6 → B' j = B j) : hdB B' = hdB B := by
  have hn : nM B' = nM B := by
    funext a b
    unfold nM
    rw [isM_co h, h 0 (by decide)]
  have hr : rL B' = rL B := by
    funext a b
    unfold rL
    rw [tk_co h]
  have he : ew B' = ew B := by
    funext a b
    unfold ew
    rw [h 1 (by decide), h 3 (by decide)]
  have hk : hkey B' = hkey B := by
    funext a b
    unfold hkey
    rw [h 1 (by decide)]
  have hs : skey B' = skey B := by
    funext a b c
    unfold skey
    rw [h 3 (by decide)]
  have hsub : subB B' = subB B := by
    funext a b c d
    unfold subB
    rw [hn, hr, he]
  have hsubs : subsB B' = subsB B := by
    funext a b c
    unfold subsB
    rw [hsub, hs, h 2 (by decide)]
  have hal : ∀ (a b : Int) (n : Nat), alsL B' a b n = alsL B a b n := by
    intro a b n
    induction n with
    | zero => rfl
    | succ n ih => rw [alsL, alsL, ih, hk, h 0 (by decide)]
  have halB : alsB B' = alsB B := by
    funext a b c
    unfold alsB
    rw [hal, h 0 (by decide), h 1 (by decide)]
  funext a b c d e
  unfold hdB
  rw [hn, hr, hsubs, halB, h 1 (by decide), h 4 (by decide), h 5 (by decide)]
theorem allB_co {B B' : Sg} (h : ∀ j, j ≠ 6 → B' j = B j) (how w : Int) : ∀ n : Nat, allB B' how w n = allB B how w n
  | 0 => rfl
  | n + 1 => by
    have hk : hkey B' = hkey B := by
      funext a b
      unfold hkey
      rw [h 1 (by decide)]
    rw [allB, allB, allB_co h how w n, hdB_co h, hk, h 0 (by decide)]
theorem s_asked : St_asked Inv := by
  intro σ h v rh rv hI
  have hI' := hI
  obtain ⟨⟨h1, h2, h3, h4, h5⟩, h6, h7, ⟨hW, hR⟩, ⟨h10, h11⟩, h12⟩ := hI
  have wh := Wb_heads hW
  have er : σ 94 0 = σ 5 0 := Ra_heads hR
  have no : ∀ z : Int, rng z → (¬ (0 ≤ h ∧ h < σ 5 0) → z = -1001) → (0 ≤ h ∧ h < σ 5 0 → ¬ (0 ≤ v ∧ v ≤ 99) ∧ z = -1002) → Cl mX12_asked [vr 94, vi h, vi v] σ (pI fun z2 σ2 => z = z2 ∧ rng z ∧ (Inv σ2 ∨ Inv (swp σ2))) := by
    intro z rz y1 y2
    refine EX12_asked (r_noHead rh (by omega) (fun a b => ⟨_, rfl, b0' ⟨rv, r_in (by omega) (by omega) (by omega) (fun c d => ?_) (fun q => ⟨_, rfl, b0 ⟨_, rfl, (y2 (by omega)).2, rz, Or.inl hI'⟩⟩)⟩⟩) (fun q => ⟨_, rfl, b1' ⟨_, rfl, y1 (by omega), rz, Or.inl hI'⟩⟩))
    have := y2 (by omega)
    omega
  refine EX11_asked ⟨h1.1, c_hasHead rfl rh (by omega) (fun a b => ⟨_, rfl, b1 ⟨rv, fun c => ⟨_, rfl, no _ (by decide) (fun z => by omega) (fun _ => ⟨by omega, rfl⟩)⟩, fun c => ⟨fun d => ⟨h1.1, by omega, ⟨_, rfl, ?_⟩⟩, fun d => ⟨_, rfl, no _ (by decide) (fun z => by omega) (fun _ => ⟨by omega, rfl⟩)⟩⟩⟩⟩) (fun q => ⟨_, rfl, b0 ⟨_, rfl, no _ (by decide) (fun _ => rfl) (fun z => absurd z q)⟩⟩)⟩
  have wa : 0 ≤ σ 11 h ∧ σ 11 h ≤ 99 := Wb_ask hW a b
  have e94 : up σ 11 h v 94 = σ 94 := up_r (by decide)
  refine EX12_asked (r_noHead rh (by rw [e94]; omega) (fun a' b' => ⟨_, rfl, b0' ⟨rv, r_in (by omega) (by omega) (by omega) (fun _ _ => ⟨_, rfl, b1 ⟨by omega, _, rfl, ?_, by omega, Or.inl ?_⟩⟩) (fun q => absurd (by omega) q)⟩⟩) (fun q => absurd (by rw [e94]; omega) q))
  · rw [up_o (by decide)]
    exact (Ra_ask hR a b).symm
  · obtain ⟨τ, eτ⟩ : ∃ τ : Sg, τ = up (up σ 11 h v) 100 h v := ⟨_, rfl⟩
    rw [← eτ]
    have tk : ∀ k, k ≠ 11 → k ≠ 100 → τ k = σ k := fun k x y => by rw [eτ, up_r y, up_r x]
    have t11 : τ 11 = pt (σ 11) h v := by rw [eτ, up_r (by decide), up_k]
    have t100 : τ 100 = pt (σ 100) h v := by rw [eτ, up_k, up_r (by decide)]
    have r5 : ∀ j, j ≠ 6 → bk τ 5 j = bk σ 5 j := fun j hj => by
      by_cases j0 : j = 0
      · subst j0
        show (fun x => if x = 0 then τ 5 0 else τ 5 7) = fun x => if x = 0 then σ 5 0 else σ 5 7
        rw [tk 5 (by decide) (by decide)]
      · by_cases j12 : j < 12
        · rw [bk_row (by omega) j12, bk_row (by omega) j12, tk _ (by omega) (by omega)]
        · unfold bk
          rw [if_neg j0, if_neg j12, if_neg j0, if_neg j12]
    have r94 : ∀ j, j ≠ 6 → bk τ 94 j = bk σ 94 j := fun j hj => by
      by_cases j0 : j = 0
      · subst j0
        show (fun x => if x = 0 then τ 94 0 else τ 94 7) = fun x => if x = 0 then σ 94 0 else σ 94 7
        rw [tk 94 (by decide) (by decide)]
      · by_cases j12 : j < 12
        · rw [bk_row (by omega) j12, bk_row (by omega) j12, tk _ (by omega) (by omega)]
        · unfold bk
          rw [if_neg j0, if_neg j12, if_neg j0, if_neg j12]
    have q6 : bk τ 5 6 = pt (σ 11) h v := t11
    have q6' : bk τ 94 6 = pt (σ 100) h v := t100
    refine hI'.bo (fun k hk => tk k (by omega) (by omega)) (fun j _ => by rw [tk 0 (by decide) (by decide)]) (fun j _ => by rw [tk 94 (by decide) (by decide)]) ?_ ?_ (by rw [tk 0 (by decide) (by decide)]; exact h5) (fun q => ?_)
    · refine ⟨by rw [r5 0 (by decide)]; exact hW.1, by rw [r5 0 (by decide)]; exact hW.2.1, fun i x y => ?_, fun k x y => ?_, ?_⟩
      · rw [r5 0 (by decide)] at y
        obtain ⟨w1, w2, w3, w4, w5⟩ := hW.2.2.1 i x y
        refine ⟨by rw [r5 2 (by decide)]; exact w1, by rw [r5 4 (by decide), r5 0 (by decide)]; exact w2, by rw [r5 5 (by decide), r5 0 (by decide)]; exact w3, ?_, by unfold ew at w5 ⊢; rw [r5 1 (by decide), r5 2 (by decide), r5 3 (by decide)]; exact w5⟩
        rw [q6]
        by_cases e : i = h
        · rw [e, pt_self]; omega
        · rw [pt_ne e]; exact w4
      · rw [r5 0 (by decide)] at y
        have w := hW.2.2.2.1 k x y
        unfold WfM at w ⊢
        rw [r5 0 (by decide), r5 2 (by decide), r5 7 (by decide), r5 8 (by decide), r5 9 (by decide), r5 10 (by decide), r5 11 (by decide)]
        exact w
      · have w := hW.2.2.2.2
        unfold alsoSum at w ⊢
        rw [r5 0 (by decide), r5 5 (by decide)]
        exact w
    · refine ⟨by rw [r5 0 (by decide), r94 0 (by decide)]; exact hR.1, by rw [r5 0 (by decide), r94 0 (by decide)]; exact hR.2.1, fun i x y => ?_, fun k x y => ?_⟩
      · rw [r5 0 (by decide)] at y
        obtain ⟨w1, w2, w3, w4, w5⟩ := hR.2.2.1 i x y
        refine ⟨by rw [r5 2 (by decide), r94 1 (by decide)]; exact w1, by rw [r5 4 (by decide), r94 4 (by decide)]; exact w2, by rw [r5 5 (by decide), r94 5 (by decide)]; exact w3, ?_, by unfold ew at w5 ⊢; rw [r5 1 (by decide), r5 2 (by decide), r5 3 (by decide), r94 2 (by decide), r94 3 (by decide)]; exact w5⟩
        rw [q6, q6']
        by_cases e : i = h
        · rw [e, pt_self, pt_self]
        · rw [pt_ne e, pt_ne e]; exact w4
      · rw [r5 0 (by decide)] at y
        have w := hR.2.2.2 k x y
        unfold RM at w ⊢
        rw [r5 7 (by decide), r5 8 (by decide), r5 9 (by decide), r5 10 (by decide), r5 11 (by decide), r94 7 (by decide), r94 8 (by decide), r94 9 (by decide), r94 10 (by decide), r94 11 (by decide)]
        exact w
    · rw [tk 0 (by decide) (by decide)] at q
      have p := h12 q
      have hk : hkey (bk τ 5) = hkey (bk σ 5) := by
        funext x y
        unfold hkey
        rw [r5 1 (by decide)]
      unfold PrOK at p ⊢
      rw [allB_co r5, hdB_co r5, hk, tk 0 (by decide) (by decide), tk 1 (by decide) (by decide), tk 5 (by decide) (by decide), tk 53 (by decide) (by decide), tk 55 (by decide) (by decide), tk 64 (by decide) (by decide), tk 65 (by decide) (by decide)]
      exact p
