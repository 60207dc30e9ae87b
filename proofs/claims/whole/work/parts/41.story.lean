/-! ===== PURE HALF, by hand: story ===== -/
theorem iI_nI {n : Nat} (h : n < 2147483648) : iI (n : Int) = nI n := Int32.toInt_inj.mp (by rw [iI_toInt ⟨by omega, by omega⟩, nI_toInt (by omega)])
theorem iDiv_e {a d : Int} (a0 : 0 ≤ a) (a1 : a < 2147483648) (d0 : 0 < d) (d1 : d < 2147483648) : iDiv a d = a / d := by
  obtain ⟨m, rfl⟩ : ∃ m : Nat, a = m := ⟨a.toNat, by omega⟩
  obtain ⟨n, rfl⟩ : ∃ n : Nat, d = n := ⟨d.toNat, by omega⟩
  unfold iDiv
  have h1 : m / n ≤ m := Nat.div_le_self _ _
  rw [iI_nI (by omega), iI_nI (by omega), pk_div (by omega) (by omega) (by omega), nI_toInt (by omega)]
  simp
def stC (sh : Int → Int) (c i prev : Int) : Int := if prev = -1 ∨ sh prev = sh i then 0 else c
def lle (s l : Int × Int) : Prop := s.1 < l.1 ∨ s.1 = l.1 ∧ s.2 ≤ l.2
/-- what the last r pairs of n come to, behind prev: paid, and how many are left out -/
def dpS (sh : Int → Int) (n : Nat) (c : Int) : Nat → Int → Int × Int
  | 0, _ => (0, 0)
  | r + 1, prev => if (dpS sh n c r ((n : Int) - (r + 1))).1 + stC sh c ((n : Int) - (r + 1)) prev < (dpS sh n c r prev).1 + 1 ∨ (dpS sh n c r ((n : Int) - (r + 1))).1 + stC sh c ((n : Int) - (r + 1)) prev = (dpS sh n c r prev).1 + 1 ∧ (dpS sh n c r ((n : Int) - (r + 1))).2 ≤ (dpS sh n c r prev).2 + 1
    then ((dpS sh n c r ((n : Int) - (r + 1))).1 + stC sh c ((n : Int) - (r + 1)) prev, (dpS sh n c r ((n : Int) - (r + 1))).2)
    else ((dpS sh n c r prev).1 + 1, (dpS sh n c r prev).2 + 1)
theorem stC_b {sh : Int → Int} {c i prev : Int} (c0 : 0 ≤ c) : 0 ≤ stC sh c i prev ∧ stC sh c i prev ≤ c := by
  unfold stC
  split <;> omega
theorem dpS_b {sh : Int → Int} {n : Nat} {c : Int} (c0 : 0 ≤ c) : ∀ (r : Nat) (prev : Int), (0 ≤ (dpS sh n c r prev).1 ∧ (dpS sh n c r prev).1 ≤ r) ∧ 0 ≤ (dpS sh n c r prev).2 ∧ (dpS sh n c r prev).2 ≤ r
  | 0, prev => by rw [dpS]; decide
  | r + 1, prev => by
    have a := dpS_b (sh := sh) (n := n) c0 r ((n : Int) - (r + 1))
    have b := dpS_b (sh := sh) (n := n) c0 r prev
    have s := stC_b (sh := sh) (c := c) (i := (n : Int) - (r + 1)) (prev := prev) c0
    rw [dpS]
    split
    · show (0 ≤ (dpS sh n c r ((n : Int) - (r + 1))).1 + stC sh c ((n : Int) - (r + 1)) prev ∧ (dpS sh n c r ((n : Int) - (r + 1))).1 + stC sh c ((n : Int) - (r + 1)) prev ≤ ((r + 1 : Nat) : Int)) ∧ 0 ≤ (dpS sh n c r ((n : Int) - (r + 1))).2 ∧ (dpS sh n c r ((n : Int) - (r + 1))).2 ≤ ((r + 1 : Nat) : Int)
      omega
    · show (0 ≤ (dpS sh n c r prev).1 + 1 ∧ (dpS sh n c r prev).1 + 1 ≤ ((r + 1 : Nat) : Int)) ∧ 0 ≤ (dpS sh n c r prev).2 + 1 ∧ (dpS sh n c r prev).2 + 1 ≤ ((r + 1 : Nat) : Int)
      omega
def vS (u : Int) (p : Int × Int) : Int := u * p.1 + p.2
/-- if pair i stands behind prev; if it is left out -/
def stV (sh : Int → Int) (n : Nat) (c u : Int) (i : Nat) (prev : Int) : Int := vS u (dpS sh n c (n - (i + 1)) i) + u * stC sh c i prev
def lvV (sh : Int → Int) (n : Nat) (c u : Int) (i : Nat) (prev : Int) : Int := vS u (dpS sh n c (n - (i + 1)) prev) + (u + 1)
def chs (sh : Int → Int) (n : Nat) (c : Int) (i : Nat) (prev : Int) : Prop := (dpS sh n c (n - (i + 1)) i).1 + stC sh c i prev < (dpS sh n c (n - (i + 1)) prev).1 + 1 ∨ (dpS sh n c (n - (i + 1)) i).1 + stC sh c i prev = (dpS sh n c (n - (i + 1)) prev).1 + 1 ∧ (dpS sh n c (n - (i + 1)) i).2 ≤ (dpS sh n c (n - (i + 1)) prev).2 + 1
theorem chs_v {sh : Int → Int} {n : Nat} {c u : Int} (c0 : 0 ≤ c) (c1 : c ≤ 20) (hu : u = 32 ∨ u = 100) (hn : n ≤ 20) {i : Nat} (hi : i < n) (prev : Int) : (stV sh n c u i prev ≤ lvV sh n c u i prev ↔ chs sh n c i prev) ∧ (0 ≤ stV sh n c u i prev ∧ stV sh n c u i prev ≤ 10000) ∧ (0 ≤ lvV sh n c u i prev ∧ lvV sh n c u i prev ≤ 10000) := by
  have a := dpS_b (sh := sh) (n := n) c0 (n - (i + 1)) i
  have b := dpS_b (sh := sh) (n := n) c0 (n - (i + 1)) prev
  have s := stC_b (sh := sh) (c := c) (i := i) (prev := prev) c0
  unfold stV lvV vS chs
  obtain ⟨x1, hx1⟩ : ∃ x, x = (dpS sh n c (n - (i + 1)) i).1 := ⟨_, rfl⟩
  obtain ⟨x2, hx2⟩ : ∃ x, x = (dpS sh n c (n - (i + 1)) i).2 := ⟨_, rfl⟩
  obtain ⟨y1, hy1⟩ : ∃ x, x = (dpS sh n c (n - (i + 1)) prev).1 := ⟨_, rfl⟩
  obtain ⟨y2, hy2⟩ : ∃ x, x = (dpS sh n c (n - (i + 1)) prev).2 := ⟨_, rfl⟩
  obtain ⟨t, ht⟩ : ∃ x, x = stC sh c i prev := ⟨_, rfl⟩
  rw [← hx1, ← hx2] at a ⊢
  rw [← hy1, ← hy2] at b ⊢
  rw [← ht] at s ⊢
  rcases hu with rfl | rfl
  · omega
  · omega
theorem dpS_v {sh : Int → Int} {n : Nat} {c u : Int} (c0 : 0 ≤ c) (c1 : c ≤ 20) (hu : u = 32 ∨ u = 100) (hn : n ≤ 20) {i : Nat} (hi : i < n) (prev : Int) : vS u (dpS sh n c (n - i) prev) = if stV sh n c u i prev ≤ lvV sh n c u i prev then stV sh n c u i prev else lvV sh n c u i prev := by
  have k := (chs_v (sh := sh) c0 c1 hu hn hi prev).1
  obtain ⟨r, hr⟩ : ∃ r, n - i = r + 1 := ⟨n - (i + 1), by omega⟩
  have er : n - (i + 1) = r := by omega
  have ei : (n : Int) - (r + 1) = i := by omega
  rw [hr, dpS, ei]
  by_cases h : chs sh n c i prev
  · rw [if_pos (k.2 h)]
    unfold chs at h
    rw [er] at h
    rw [if_pos h]
    unfold stV vS
    rw [er, Int.mul_add]
    omega
  · rw [if_neg (fun z => h (k.1 z))]
    unfold chs at h
    rw [er] at h
    rw [if_neg h]
    unfold lvV vS
    rw [er, Int.mul_add]
    omega
/-- the latest that stands ahead of pair k -/
def lst (sh : Int → Int) (n : Nat) (c : Int) : Nat → Int
  | 0 => -1
  | k + 1 => if (dpS sh n c (n - (k + 1)) k).1 + stC sh c k (lst sh n c k) < (dpS sh n c (n - (k + 1)) (lst sh n c k)).1 + 1 ∨ (dpS sh n c (n - (k + 1)) k).1 + stC sh c k (lst sh n c k) = (dpS sh n c (n - (k + 1)) (lst sh n c k)).1 + 1 ∧ (dpS sh n c (n - (k + 1)) k).2 ≤ (dpS sh n c (n - (k + 1)) (lst sh n c k)).2 + 1 then k else lst sh n c k
theorem lst_b (sh : Int → Int) (n : Nat) (c : Int) : ∀ k : Nat, -1 ≤ lst sh n c k ∧ lst sh n c k < k
  | 0 => by rw [lst]; decide
  | k + 1 => by
    have := lst_b sh n c k
    rw [lst]
    split <;> omega
theorem lst_t {sh : Int → Int} {n : Nat} {c : Int} {k : Nat} (h : chs sh n c k (lst sh n c k)) : lst sh n c (k + 1) = k := by
  unfold chs at h
  rw [lst, if_pos h]
theorem lst_f {sh : Int → Int} {n : Nat} {c : Int} {k : Nat} (h : ¬ chs sh n c k (lst sh n c k)) : lst sh n c (k + 1) = lst sh n c k := by
  unfold chs at h
  rw [lst, if_neg h]
/-! the class -/
def CS (τ : Sg) (sh : Int → Int) (n : Nat) (c : Int) (i : Nat) : Prop := ∀ (k : Nat) (l : Int), i ≤ k → k ≤ n → -1 ≤ l → l < k → τ 93 (k * 21 + l + 1) = vS 32 (dpS sh n c (n - k) l)
theorem c_ifStands {τ : Sg} {post : Po} {sh : Int → Int} {n : Nat} {c : Int} {i : Nat} {l : Int} (hn : n ≤ 20) (hi : i < n) (l0 : -1 ≤ l) (l1 : l < i) (hS : CS τ sh n c (i + 1)) (hsh : ∀ j : Int, 0 ≤ j → j < n → τ 92 j = sh j ∧ rng (sh j)) (hp : post (some (vi (stV sh n c 32 i l))) τ) : Cl mX9_ifStands [vr 90, vi (i : Int), vi l, vi c] τ post := by
  have e := hS (i + 1) i (by omega) (by omega) (by omega) (by omega)
  have ex : (((i : Int) + 1) * 21 + i + 1) = ((i + 1 : Nat) : Int) * 21 + i + 1 := by omega
  have h2 := hsh i (by omega) (by omega)
  unfold stV stC at hp
  refine EX9_ifStands ⟨by omega, fun q => ⟨by omega, ?_⟩, fun q => ?_⟩
  · rw [if_pos (Or.inl q)] at hp
    rw [ex, e]
    rw [Int.mul_zero] at hp
    exact hp
  · have h1 := hsh l (by omega) (by omega)
    refine ⟨by omega, by omega, by rw [h1.1]; exact h1.2, by rw [h2.1]; exact h2.2, fun q2 => ⟨by omega, ?_⟩, fun q2 => ⟨by omega, ?_⟩⟩
    · rw [h1.1, h2.1] at q2
      rw [if_pos (Or.inr q2)] at hp
      rw [ex, e]
      rw [Int.mul_zero] at hp
      exact hp
    · rw [h1.1, h2.1] at q2
      rw [if_neg (fun z => z.elim q q2)] at hp
      rw [ex, e, Int.mul_comm c 32]
      exact hp
theorem c_ifLeftOut {τ : Sg} {post : Po} {sh : Int → Int} {n : Nat} {c : Int} {i : Nat} {l : Int} (hn : n ≤ 20) (hi : i < n) (l0 : -1 ≤ l) (l1 : l < i) (hS : CS τ sh n c (i + 1)) (hp : post (some (vi (lvV sh n c 32 i l))) τ) : Cl mX9_ifLeftOut [vr 90, vi (i : Int), vi l] τ post := by
  have e := hS (i + 1) l (by omega) (by omega) (by omega) (by omega)
  have ex : (((i : Int) + 1) * 21 + l + 1) = ((i + 1 : Nat) : Int) * 21 + l + 1 := by omega
  unfold lvV at hp
  refine EX9_ifLeftOut ⟨by omega, ?_⟩
  rw [ex, e]
  exact hp
theorem c_weigh {σ : Sg} {post : Po} {sh : Int → Int} {n : Nat} {c : Int} (hn : n ≤ 20) (en : σ 90 0 = n) (c0 : 0 ≤ c) (c1 : c ≤ 20) (hsh : ∀ j : Int, 0 ≤ j → j < n → σ 92 j = sh j ∧ rng (sh j)) (hp : ∀ σ' : Sg, Fr [93] σ σ' → CS σ' sh n c 0 → post none σ') : Cl mX9_weigh [vr 90, vi c] σ post := by
  refine EX9_weigh ?_
  have rows : ∀ (i : Nat) (τ : Sg), i ≤ n → Fr [93] σ τ → CS τ sh n c i → V mX9_weigh 40 [some (vr 90), some (vi c), some (vi ((i : Int) - 1)), none] [] τ post := by
    intro i
    induction i with
    | zero =>
      intro τ hi hF hS
      exact BX9_weigh_40 ⟨by omega, fun _ => hp τ hF hS, fun q => absurd (by omega) q⟩
    | succ i ih =>
      intro τ hi hF hS
      refine BX9_weigh_40 ⟨by omega, fun q => absurd q (by omega), fun _ => ?_⟩
      rw [show ((i + 1 : Nat) : Int) - 1 = i by omega]
      have inner : ∀ (m : Nat) (l : Int) (υ : Sg), -1 ≤ l → l + m = i → Fr [93] σ υ → CS υ sh n c (i + 1) → (∀ l' : Int, -1 ≤ l' → l' < l → υ 93 ((i : Int) * 21 + l' + 1) = vS 32 (dpS sh n c (n - i) l')) → V mX9_weigh 46 [some (vr 90), some (vi c), some (vi (i : Int)), some (vi l)] [] υ post := by
        intro m
        induction m with
        | zero =>
          intro l υ l0 hl hF2 hS2 hr
          refine BX9_weigh_46 ⟨by omega, by omega, fun _ => ?_, fun q => absurd (by omega) q⟩
          have := ih υ (by omega) hF2 (fun k l' a b d e => by
            by_cases ek : k = i
            · subst ek; exact hr l' d (by omega)
            · exact hS2 k l' (by omega) b d e)
          rw [show (i : Int) - 1 = i + -1 by omega] at this
          exact this
        | succ m ihm =>
          intro l υ l0 hl hF2 hS2 hr
          have cv := chs_v (sh := sh) c0 c1 (Or.inl rfl) hn (show i < n by omega) l
          have hsh2 : ∀ j : Int, 0 ≤ j → j < n → υ 92 j = sh j ∧ rng (sh j) := fun j a b => by rw [hF2 92 (by decide)]; exact hsh j a b
          refine BX9_weigh_46 ⟨by omega, by omega, fun q => absurd q (by omega), fun _ => c_ifStands hn (by omega) l0 (by omega) hS2 hsh2 ⟨_, rfl, c_ifLeftOut hn (by omega) l0 (by omega) hS2 ⟨_, rfl, c_min (by omega) (by omega) (fun z hz => ⟨_, rfl, by omega, ?_⟩)⟩⟩⟩
          have ez : z = vS 32 (dpS sh n c (n - i) l) := by
            rw [dpS_v c0 c1 (Or.inl rfl) hn (show i < n by omega)]
            by_cases d : stV sh n c 32 i l ≤ lvV sh n c 32 i l
            · rw [if_pos d]; omega
            · rw [if_neg d]; omega
          refine ihm (l + 1) _ (by omega) (by omega) (hF2.u (by simp)) (fun k l' a b d e => ?_) (fun l' a b => ?_)
          · rw [up_f (by omega)]
            exact hS2 k l' a b d e
          · by_cases e : l' = l
            · subst e; rw [up_s]; exact ez
            · rw [up_f (by omega)]
              exact hr l' a (by omega)
      exact inner (i + 1) (-1) τ (by omega) (by omega) hF hS (fun l' a b => by omega)
  have zero : ∀ (m : Nat) (l : Int) (τ : Sg), -1 ≤ l → l + m = n → Fr [93] σ τ → (∀ l' : Int, -1 ≤ l' → l' < l → τ 93 ((n : Int) * 21 + l' + 1) = 0) → V mX9_weigh 2 [some (vr 90), some (vi c), some (vi l), none] [] τ post := by
    intro m
    induction m with
    | zero =>
      intro l τ l0 hl hF hr
      have e0 : τ 90 0 = n := by rw [hF 90 (by decide)]; exact en
      refine BX9_weigh_2 ⟨by omega, by rw [e0]; omega, fun _ => ?_, fun q => absurd (by rw [e0]; omega) q⟩
      rw [e0]
      exact rows n τ (Nat.le_refl n) hF (fun k l' a b d e => by
        have ek : k = n := by omega
        subst ek
        rw [hr l' d (by omega), Nat.sub_self]
        rfl)
    | succ m ih =>
      intro l τ l0 hl hF hr
      have e0 : τ 90 0 = n := by rw [hF 90 (by decide)]; exact en
      refine BX9_weigh_2 ⟨by omega, by rw [e0]; omega, fun q => absurd q (by rw [e0]; omega), fun _ => ?_⟩
      rw [e0]
      refine ⟨by omega, ih (l + 1) _ (by omega) (by omega) (hF.u (by simp)) (fun l' a b => ?_)⟩
      by_cases e : l' = l
      · subst e; exact up_s
      · rw [up_f (by omega)]; exact hr l' a (by omega)
  exact zero (n + 1) (-1) σ (by omega) (by omega) Fr.rf (fun l' a b => by omega)
theorem c_standsAt {τ : Sg} {post : Po} {sh : Int → Int} {n w : Nat} {c : Int} (hn : n ≤ 20) (en : τ 90 0 = n) (hw : w < n) (c0 : 0 ≤ c) (c1 : c ≤ 20) (hS : CS τ sh n c 0) (hsh : ∀ j : Int, 0 ≤ j → j < n → τ 92 j = sh j ∧ rng (sh j)) (ht : chs sh n c w (lst sh n c w) → post (some (vi 1)) τ) (hf : ¬ chs sh n c w (lst sh n c w) → post (some (vi 0)) τ) : Cl mX9_standsAt [vr 90, vi (w : Int), vi c] τ post := by
  refine EX9_standsAt ?_
  have hSi : ∀ i, CS τ sh n c i := fun i k l a b d e => hS k l (by omega) b d e
  have loop : ∀ (m i : Nat), i + m = w + 1 → V mX9_standsAt 5 [some (vr 90), some (vi (w : Int)), some (vi c), some (vi (lst sh n c i)), some (vi (i : Int))] [] τ post := by
    intro m
    induction m with
    | zero =>
      intro i hi
      have ei : i = w + 1 := by omega
      subst ei
      have lb := lst_b sh n c (w + 1)
      refine BX9_standsAt_5 ⟨by omega, by omega, fun _ => ⟨by omega, fun q => hf (fun z => q (lst_t z)), fun q => ht ?_⟩, fun q => absurd (by omega) q⟩
      by_cases z : chs sh n c w (lst sh n c w)
      · exact z
      · rw [lst_f z] at q
        have := lst_b sh n c w
        omega
    | succ m ih =>
      intro i hi
      have lb := lst_b sh n c i
      have cv := chs_v (sh := sh) c0 c1 (Or.inl rfl) hn (show i < n by omega) (lst sh n c i)
      refine BX9_standsAt_5 ⟨by omega, by omega, fun q => absurd q (by omega), fun _ => ⟨by omega, fun q => absurd q (by omega), fun _ => c_ifStands hn (by omega) lb.1 lb.2 (hSi _) hsh ⟨_, rfl, c_ifLeftOut hn (by omega) lb.1 lb.2 (hSi _) ⟨_, rfl, by omega, by omega, fun q => ?_, fun q => ?_⟩⟩⟩⟩
      · have := ih (i + 1) (by omega)
        rw [lst_f (fun z => by have := cv.1.2 z; omega)] at this
        exact this
      · have := ih (i + 1) (by omega)
        rw [lst_t (cv.1.1 (by omega))] at this
        exact this
  exact loop (w + 1) 0 (by omega)
/-! the reference: prev 20 is none -/
def pv (p : Int) : Int := if p = 20 then -1 else p
def RS (τ : Sg) (sh : Int → Int) (n : Nat) (c : Int) (i : Nat) : Prop := ∀ (k : Nat) (p : Int), i ≤ k → k ≤ n → 0 ≤ p → p ≤ 20 → τ 120 (21 * k + p) = vS 100 (dpS sh n c (n - k) (pv p))
theorem r_standing {τ : Sg} {post : Po} {sh : Int → Int} {n : Nat} {c : Int} {i : Nat} {p : Int} (hn : n ≤ 20) (hi : i < n) (p0 : 0 ≤ p) (p1 : p ≤ 20) (hS : RS τ sh n c (i + 1)) (hsh : ∀ j : Int, 0 ≤ j → j < 20 → τ 119 j - τ 118 j = sh j ∧ rng (sh j)) (hp : post (some (vi (stV sh n c 100 i (pv p)))) τ) : Cl mX12_standing [vr 94, vi (i : Int), vi p, vi c] τ post := by
  have e := hS (i + 1) i (by omega) (by omega) (by omega) (by omega)
  have pi : pv (i : Int) = i := by unfold pv; rw [if_neg (by omega)]
  rw [pi] at e
  have ex : (21 * ((i : Int) + 1) + i) = 21 * ((i + 1 : Nat) : Int) + i := by omega
  have h2 := hsh i (by omega) (by omega)
  unfold stV stC at hp
  refine EX12_standing ⟨by omega, fun q => ⟨by omega, ?_⟩, fun q => ?_⟩
  · have ep : pv p = -1 := by unfold pv; rw [if_pos (by omega)]
    rw [if_pos (Or.inl ep), Int.mul_zero] at hp
    rw [ex, e]
    exact hp
  · have ep : pv p = p := by unfold pv; rw [if_neg (by omega)]
    have h1 := hsh p (by omega) (by omega)
    rw [ep] at hp
    refine ⟨by omega, by omega, by rw [h2.1]; exact h2.2, by rw [h1.1]; exact h1.2, fun q2 => ⟨by omega, ?_⟩, fun q2 => ⟨by omega, ?_⟩⟩
    · rw [h1.1, h2.1] at q2
      rw [if_pos (Or.inr q2.symm), Int.mul_zero] at hp
      rw [ex, e]
      exact hp
    · rw [h1.1, h2.1] at q2
      rw [if_neg (fun z => z.elim (by omega) (fun y => q2 y.symm))] at hp
      rw [ex, e]
      exact hp
theorem r_leaving {τ : Sg} {post : Po} {sh : Int → Int} {n : Nat} {c : Int} {i : Nat} {p : Int} (hn : n ≤ 20) (hi : i < n) (p0 : 0 ≤ p) (p1 : p ≤ 20) (hS : RS τ sh n c (i + 1)) (hp : post (some (vi (lvV sh n c 100 i (pv p)))) τ) : Cl mX12_leaving [vr 94, vi (i : Int), vi p] τ post := by
  have e := hS (i + 1) p (by omega) (by omega) (by omega) (by omega)
  have ex : (21 * ((i : Int) + 1) + p) = 21 * ((i + 1 : Nat) : Int) + p := by omega
  unfold lvV at hp
  refine EX12_leaving ⟨by omega, ?_⟩
  rw [ex, e]
  exact hp
theorem r_story {σ : Sg} {post : Po} {sh : Int → Int} {n : Nat} {c x : Int} (hn : n ≤ 20) (en : σ 94 47 = n) (c0 : 0 ≤ c) (c1 : c ≤ 20) (x0 : -1 ≤ x) (x1 : x < n) (hsh : ∀ j : Int, 0 ≤ j → j < 20 → σ 119 j - σ 118 j = sh j ∧ rng (sh j)) (hm : x = -1 → ∀ σ' : Sg, FrJ [120] [] σ σ' → post (some (vi (dpS sh n c n (-1)).1)) σ') (ht : 0 ≤ x → chs sh n c x.toNat (lst sh n c x.toNat) → ∀ σ' : Sg, FrJ [120] [] σ σ' → post (some (vi 1)) σ') (hf : 0 ≤ x → ¬ chs sh n c x.toNat (lst sh n c x.toNat) → ∀ σ' : Sg, FrJ [120] [] σ σ' → post (some (vi 0)) σ') : Cl mX12_story [vr 94, vi c, vi x] σ post := by
  refine EX12_story ⟨by omega, by omega, r_in (by omega) (by omega) (by omega) (fun _ _ => ⟨_, rfl, b1 ⟨by omega, r_in (by omega) (by omega) (by omega) (fun _ _ => ⟨_, rfl, b1 ?_⟩) (fun q => absurd (by omega) q)⟩⟩) (fun q => absurd (by omega) q)⟩
  rw [en]
  -- the end
  have fin : ∀ τ : Sg, FrJ [120] [] σ τ → RS τ sh n c 0 → V mX12_story 43 [some (vr 94), some (vi c), some (vi x), some (vi (-1)), none, none, none] [] τ post := by
    intro τ hF hS
    have hSi : ∀ i, RS τ sh n c i := fun i k p a b d e => hS k p (by omega) b d e
    have hsh2 : ∀ j : Int, 0 ≤ j → j < 20 → τ 119 j - τ 118 j = sh j ∧ rng (sh j) := fun j a b => by rw [hF.1 119 (by simp) (by decide), hF.1 118 (by simp) (by decide)]; exact hsh j a b
    refine BX12_story_43 ⟨by omega, fun _ => ⟨by omega, fun q => ?_, fun q => ?_⟩, fun q => absurd (by omega) q⟩
    · obtain ⟨w, rfl⟩ : ∃ w : Nat, x = w := ⟨x.toNat, by omega⟩
      have loop : ∀ (m i : Nat) (p : Int), i + m = w → 0 ≤ p → p ≤ 20 → pv p = lst sh n c i → V mX12_story 160 [some (vr 94), some (vi c), some (vi (w : Int)), some (vi p), some (vi (i : Int)), none, none] [] τ post := by
        intro m
        induction m with
        | zero =>
          intro i p hi p0 p1 hp
          have ei : i = w := by omega
          subst ei
          have cv := chs_v (sh := sh) c0 c1 (Or.inr rfl) hn (show i < n by omega) (lst sh n c i)
          refine BX12_story_160 ⟨by omega, by omega, fun _ => r_standing hn (by omega) p0 p1 (hSi _) hsh2 ⟨_, rfl, r_leaving hn (by omega) p0 p1 (hSi _) ⟨_, rfl, ?_⟩⟩, fun q => absurd (by omega) q⟩
          rw [hp]
          refine ⟨by omega, by omega, fun q2 => r_one (by omega) ⟨_, rfl, hf (by omega) (fun z => ?_) τ hF⟩, fun q2 => r_one (by omega) ⟨_, rfl, ht (by omega) ?_ τ hF⟩⟩
          · rw [Int.toNat_natCast] at z
            have := cv.1.2 z
            omega
          · rw [Int.toNat_natCast]
            exact cv.1.1 (by omega)
        | succ m ih =>
          intro i p hi p0 p1 hp
          have cv := chs_v (sh := sh) c0 c1 (Or.inr rfl) hn (show i < n by omega) (lst sh n c i)
          refine BX12_story_160 ⟨by omega, by omega, fun q => absurd q (by omega), fun _ => r_standing hn (by omega) p0 p1 (hSi _) hsh2 ⟨_, rfl, r_leaving hn (by omega) p0 p1 (hSi _) ⟨_, rfl, ?_⟩⟩⟩
          rw [hp]
          refine ⟨by omega, by omega, fun q2 => ih (i + 1) p (by omega) p0 p1 ?_, fun q2 => ih (i + 1) i (by omega) (by omega) (by omega) ?_⟩
          · rw [lst_f (fun z => by have := cv.1.2 z; omega)]; exact hp
          · rw [lst_t (cv.1.1 (by omega))]; unfold pv; rw [if_neg (by omega)]
      exact loop w 0 20 (by omega) (by omega) (by omega) rfl
    · have e := hS 0 20 (by omega) (by omega) (by omega) (by omega)
      have b := dpS_b (sh := sh) (n := n) c0 n (-1)
      have e : τ 120 20 = 100 * (dpS sh n c n (-1)).1 + (dpS sh n c n (-1)).2 := e
      rw [e, iDiv_e (by omega) (by omega) (by decide) (by decide)]
      have : (100 * (dpS sh n c n (-1)).1 + (dpS sh n c n (-1)).2) / 100 = (dpS sh n c n (-1)).1 := by omega
      rw [this]
      exact hm q τ hF
  have rows : ∀ (i : Nat) (τ : Sg), i ≤ n → FrJ [120] [] σ τ → RS τ sh n c (i + 1) → V mX12_story 43 [some (vr 94), some (vi c), some (vi x), some (vi (i : Int)), none, none, none] [] τ post := by
    intro i
    induction i with
    | zero =>
      intro τ hi hF hS
      refine BX12_story_43 ⟨by omega, fun q => absurd q (by omega), fun _ => ?_⟩
      have inner : ∀ (m : Nat) (p : Int) (υ : Sg), 0 ≤ p → p + m = 21 → FrJ [120] [] σ υ → RS υ sh n c 1 → (∀ p' : Int, 0 ≤ p' → p' < p → υ 120 (21 * 0 + p') = vS 100 (dpS sh n c (n - 0) (pv p'))) → V mX12_story 50 [some (vr 94), some (vi c), some (vi x), some (vi ((0 : Nat) : Int)), some (vi p), none, none] [] υ post := by
        intro m
        induction m with
        | zero =>
          intro p υ p0 hp hF2 hS2 hr
          refine BX12_story_50 ⟨by omega, fun _ => ?_, fun q => absurd (by omega) q⟩
          exact fin υ hF2 (fun k p' a b d e => by
            by_cases ek : k = 0
            · subst ek; exact hr p' d (by omega)
            · exact hS2 k p' (by omega) b d e)
        | succ m ihm =>
          intro p υ p0 hp hF2 hS2 hr
          have e47 : υ 94 47 = n := by rw [hF2.2 47 (by simp)]; exact en
          have hsh2 : ∀ j : Int, 0 ≤ j → j < 20 → υ 119 j - υ 118 j = sh j ∧ rng (sh j) := fun j a b => by rw [hF2.1 119 (by simp) (by decide), hF2.1 118 (by simp) (by decide)]; exact hsh j a b
          have go : ∀ z : Int, z = vS 100 (dpS sh n c (n - 0) (pv p)) → V mX12_story 50 [some (vr 94), some (vi c), some (vi x), some (vi ((0 : Nat) : Int)), some (vi (p + 1)), none, none] [] (up υ 120 (21 * ((0 : Nat) : Int) + p) z) post := by
            intro z hz
            refine ihm (p + 1) _ (by omega) (by omega) (hF2.u (by simp) (by decide)) (fun k p' a b d e => ?_) (fun p' a b => ?_)
            · rw [up_f (by omega)]; exact hS2 k p' a b d e
            · by_cases e : p' = p
              · subst e; exact up_s.trans hz
              · rw [up_f (by omega)]; exact hr p' a (by omega)
          refine BX12_story_50 ⟨by omega, fun q => absurd q (by omega), fun _ => ⟨by omega, by rw [e47]; omega, fun q => ?_, fun q => ⟨by omega, go 0 ?_⟩⟩⟩
          · rw [e47] at q
            have cv := chs_v (sh := sh) c0 c1 (Or.inr rfl) hn (show 0 < n by omega) (pv p)
            have dv := dpS_v (sh := sh) c0 c1 (Or.inr rfl) hn (show 0 < n by omega) (pv p)
            refine r_standing hn (by omega) p0 (by omega) hS2 hsh2 ⟨_, rfl, r_leaving hn (by omega) p0 (by omega) hS2 ⟨_, rfl, by omega, by omega, fun q2 => ⟨by omega, go _ ?_⟩, fun q2 => ⟨by omega, go _ ?_⟩⟩⟩
            · rw [dv]
              by_cases e : stV sh n c 100 0 (pv p) ≤ lvV sh n c 100 0 (pv p)
              · rw [if_pos e]; omega
              · rw [if_neg e]
            · rw [dv, if_pos (by omega)]
          · rw [e47] at q
            have : n = 0 := by omega
            subst this
            rfl
      exact inner 21 0 τ (by omega) (by omega) hF hS (fun p' a b => by omega)
    | succ i ih =>
      intro τ hi hF hS
      refine BX12_story_43 ⟨by omega, fun q => absurd q (by omega), fun _ => ?_⟩
      have inner : ∀ (m : Nat) (p : Int) (υ : Sg), 0 ≤ p → p + m = 21 → FrJ [120] [] σ υ → RS υ sh n c (i + 1 + 1) → (∀ p' : Int, 0 ≤ p' → p' < p → υ 120 (21 * ((i + 1 : Nat) : Int) + p') = vS 100 (dpS sh n c (n - (i + 1)) (pv p'))) → V mX12_story 50 [some (vr 94), some (vi c), some (vi x), some (vi ((i + 1 : Nat) : Int)), some (vi p), none, none] [] υ post := by
        intro m
        induction m with
        | zero =>
          intro p υ p0 hp hF2 hS2 hr
          refine BX12_story_50 ⟨by omega, fun _ => ?_, fun q => absurd (by omega) q⟩
          have := ih υ (by omega) hF2 (fun k p' a b d e => by
            by_cases ek : k = i + 1
            · subst ek; exact hr p' d (by omega)
            · exact hS2 k p' (by omega) b d e)
          rw [show (i : Int) = ((i + 1 : Nat) : Int) + -1 by omega] at this
          exact this
        | succ m ihm =>
          intro p υ p0 hp hF2 hS2 hr
          have e47 : υ 94 47 = n := by rw [hF2.2 47 (by simp)]; exact en
          have hsh2 : ∀ j : Int, 0 ≤ j → j < 20 → υ 119 j - υ 118 j = sh j ∧ rng (sh j) := fun j a b => by rw [hF2.1 119 (by simp) (by decide), hF2.1 118 (by simp) (by decide)]; exact hsh j a b
          have go : ∀ z : Int, z = vS 100 (dpS sh n c (n - (i + 1)) (pv p)) → V mX12_story 50 [some (vr 94), some (vi c), some (vi x), some (vi ((i + 1 : Nat) : Int)), some (vi (p + 1)), none, none] [] (up υ 120 (21 * ((i + 1 : Nat) : Int) + p) z) post := by
            intro z hz
            refine ihm (p + 1) _ (by omega) (by omega) (hF2.u (by simp) (by decide)) (fun k p' a b d e => ?_) (fun p' a b => ?_)
            · rw [up_f (by omega)]; exact hS2 k p' a b d e
            · by_cases e : p' = p
              · subst e; exact up_s.trans hz
              · rw [up_f (by omega)]; exact hr p' a (by omega)
          refine BX12_story_50 ⟨by omega, fun q => absurd q (by omega), fun _ => ⟨by omega, by rw [e47]; omega, fun q => ?_, fun q => ⟨by omega, go 0 ?_⟩⟩⟩
          · rw [e47] at q
            have cv := chs_v (sh := sh) c0 c1 (Or.inr rfl) hn (show i + 1 < n by omega) (pv p)
            have dv := dpS_v (sh := sh) c0 c1 (Or.inr rfl) hn (show i + 1 < n by omega) (pv p)
            refine r_standing hn (by omega) p0 (by omega) hS2 hsh2 ⟨_, rfl, r_leaving hn (by omega) p0 (by omega) hS2 ⟨_, rfl, by omega, by omega, fun q2 => ⟨by omega, go _ ?_⟩, fun q2 => ⟨by omega, go _ ?_⟩⟩⟩
            · rw [dv]
              by_cases e : stV sh n c 100 (i + 1) (pv p) ≤ lvV sh n c 100 (i + 1) (pv p)
              · rw [if_pos e]; omega
              · rw [if_neg e]
            · rw [dv, if_pos (by omega)]
          · rw [e47] at q
            have : n = i + 1 := by omega
            subst this
            rw [Nat.sub_self]
            rfl
      exact inner 21 0 τ (by omega) (by omega) hF hS (fun p' a b => by omega)
  exact rows n σ (Nat.le_refl n) FrJ.rf (fun k p a b => by omega)
theorem s_story : St_story Inv := by
  intro σ c x rc rx hI
  have hI' := hI
  obtain ⟨p1, p2, p3, p4⟩ := hI.2.2.1
  obtain ⟨n, hn⟩ : ∃ n : Nat, σ 90 0 = n := ⟨(σ 90 0).toNat, by omega⟩
  have no : ∀ z : Int, rng z → (¬ (-1 ≤ x ∧ x < σ 90 0) → z = -1001) → (-1 ≤ x ∧ x < σ 90 0 → ¬ (0 ≤ c ∧ c ≤ 20) ∧ z = -1002) → Cl mX12_story [vr 94, vi c, vi x] σ (pI fun z2 σ2 => z = z2 ∧ rng z ∧ (Inv σ2 ∨ Inv (swp σ2))) := by
    intro z rz y1 y2
    refine EX12_story ⟨rx, by omega, r_in (by omega) (by omega) (by omega) (fun a b => ⟨_, rfl, b1 ⟨rc, r_in (by omega) (by omega) (by omega) (fun d e => ?_) (fun _ => ⟨_, rfl, b0 ⟨_, rfl, (y2 (by omega)).2, rz, Or.inl hI'⟩⟩)⟩⟩) (fun q => ⟨_, rfl, b0 ⟨_, rfl, y1 (by omega), rz, Or.inl hI'⟩⟩)⟩
    have := y2 (by omega)
    omega
  have main : -1 ≤ x → x < σ 90 0 → 0 ≤ c → c ≤ 20 → Cl mX9_weigh [vr 90, vi c] σ (pV fun σ1 => (¬ x = (-1) → Cl mX9_standsAt [vr 90, vi x, vi c] σ1 (pI fun z2 σ2 => (rng z2) ∧ ((z2 = 0 → (pI fun z σ1 => Cl mX12_story [vr 94, vi c, vi x] σ1 (pI fun z2 σ2 => z = z2 ∧ rng z ∧ (Inv σ2 ∨ Inv (swp σ2)))) (some (vi 0)) σ2) ∧ (¬ z2 = 0 → (pI fun z σ1 => Cl mX12_story [vr 94, vi c, vi x] σ1 (pI fun z2 σ2 => z = z2 ∧ rng z ∧ (Inv σ2 ∨ Inv (swp σ2)))) (some (vi 1)) σ2)))) ∧ (x = (-1) → Cl mX9_leastCost [vr 90] σ1 (pI fun z3 σ3 => (pI fun z σ1 => Cl mX12_story [vr 94, vi c, vi x] σ1 (pI fun z2 σ2 => z = z2 ∧ rng z ∧ (Inv σ2 ∨ Inv (swp σ2)))) (some (vi z3)) σ3))) := by
    intro x0 x1 c0 c1
    have hshC : ∀ j : Int, 0 ≤ j → j < n → σ 92 j = σ 119 j - σ 118 j ∧ rng (σ 119 j - σ 118 j) := fun j a b => by
      have := p3 j a (by omega)
      have := p4 j a (by omega)
      omega
    have hshR : ∀ j : Int, 0 ≤ j → j < 20 → σ 119 j - σ 118 j = σ 119 j - σ 118 j ∧ rng (σ 119 j - σ 118 j) := fun j a b => by
      have := p4 j a b
      omega
    refine c_weigh (sh := fun j => σ 119 j - σ 118 j) (n := n) (by omega) hn c0 c1 hshC (fun τ hF hS => ⟨rfl, fun q => ?_, fun q => ?_⟩)
    · obtain ⟨w, rfl⟩ : ∃ w : Nat, x = w := ⟨x.toNat, by omega⟩
      have e94 : τ 94 = σ 94 := hF 94 (by decide)
      have e118 : τ 118 = σ 118 := hF 118 (by decide)
      have e119 : τ 119 = σ 119 := hF 119 (by decide)
      have fin : ∀ σ' : Sg, FrJ [120] [] τ σ' → Inv σ' := fun σ' hF2 => hI'.fr hF hF2 (by unfold ic; decide) (by unfold ic; decide) (by decide)
      refine c_standsAt (sh := fun j => σ 119 j - σ 118 j) (n := n) (by omega) (by rw [hF 90 (by decide)]; exact hn) (by omega) c0 c1 hS (fun j a b => by rw [hF 92 (by decide)]; exact hshC j a b) (fun t => ⟨_, rfl, b1' ⟨_, rfl, ?_⟩⟩) (fun t => ⟨_, rfl, b0' ⟨_, rfl, ?_⟩⟩)
      · refine r_story (sh := fun j => σ 119 j - σ 118 j) (n := n) (by omega) (by rw [e94]; omega) c0 c1 x0 (by omega) (by rw [e118, e119]; exact hshR) (fun z => by omega) (fun _ _ σ' hF2 => ⟨_, rfl, rfl, by decide, Or.inl (fin σ' hF2)⟩) (fun _ z => ?_)
        rw [Int.toNat_natCast] at z
        exact absurd t z
      · refine r_story (sh := fun j => σ 119 j - σ 118 j) (n := n) (by omega) (by rw [e94]; omega) c0 c1 x0 (by omega) (by rw [e118, e119]; exact hshR) (fun z => by omega) (fun _ z => ?_) (fun _ _ σ' hF2 => ⟨_, rfl, rfl, by decide, Or.inl (fin σ' hF2)⟩)
        rw [Int.toNat_natCast] at z
        exact absurd z t
    · have e94 : τ 94 = σ 94 := hF 94 (by decide)
      have e118 : τ 118 = σ 118 := hF 118 (by decide)
      have e119 : τ 119 = σ 119 := hF 119 (by decide)
      have fin : ∀ σ' : Sg, FrJ [120] [] τ σ' → Inv σ' := fun σ' hF2 => hI'.fr hF hF2 (by unfold ic; decide) (by unfold ic; decide) (by decide)
      have b := dpS_b (sh := fun j => σ 119 j - σ 118 j) (n := n) c0 n (-1)
      have ev : ∀ m : Nat, m = n → (-1 : Int) < 0 → True := fun _ _ _ => trivial
      refine EX9_leastCost ⟨_, rfl, ⟨_, rfl, ?_⟩⟩
      have e : τ 93 0 = 32 * (dpS (fun j => σ 119 j - σ 118 j) n c n (-1)).1 + (dpS (fun j => σ 119 j - σ 118 j) n c n (-1)).2 := by
        have e0 := hS 0 (-1) (by omega) (by omega) (by omega) (by omega)
        rw [show ((0 : Nat) : Int) * 21 + -1 + 1 = 0 by decide, Nat.sub_zero] at e0
        exact e0
      rw [e, iDiv_e (by omega) (by omega) (by decide) (by decide)]
      have e2 : (32 * (dpS (fun j => σ 119 j - σ 118 j) n c n (-1)).1 + (dpS (fun j => σ 119 j - σ 118 j) n c n (-1)).2) / 32 = (dpS (fun j => σ 119 j - σ 118 j) n c n (-1)).1 := by omega
      rw [e2]
      exact r_story (sh := fun j => σ 119 j - σ 118 j) (n := n) (by omega) (by rw [e94]; omega) c0 c1 x0 (by omega) (by rw [e118, e119]; exact hshR) (fun _ σ' hF2 => ⟨_, rfl, rfl, by omega, Or.inl (fin σ' hF2)⟩) (fun z => by omega) (fun z => by omega)
  refine EX11_story ⟨rx, fun q => ⟨rc, fun q2 => ⟨_, rfl, no _ (by decide) (fun z => by omega) (fun _ => ⟨by omega, rfl⟩)⟩, fun q2 => ⟨fun q3 => main (by omega) (by omega) (by omega) q3, fun q3 => ⟨_, rfl, no _ (by decide) (fun z => by omega) (fun _ => ⟨by omega, rfl⟩)⟩⟩⟩, fun q => ⟨fun q2 => ⟨_, rfl, no _ (by decide) (fun _ => rfl) (fun z => by omega)⟩, fun q2 => ⟨by omega, fun q3 => ⟨rc, fun q4 => ⟨_, rfl, no _ (by decide) (fun z => by omega) (fun _ => ⟨by omega, rfl⟩)⟩, fun q4 => ⟨fun q5 => main (by omega) q3 (by omega) q5, fun q5 => ⟨_, rfl, no _ (by decide) (fun z => by omega) (fun _ => ⟨by omega, rfl⟩)⟩⟩⟩, fun q3 => ⟨_, rfl, no _ (by decide) (fun _ => rfl) (fun z => by omega)⟩⟩⟩⟩
