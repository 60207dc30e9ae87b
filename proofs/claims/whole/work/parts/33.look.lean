/-! ===== PURE HALF, by hand: heads that are filled; look ===== -/
def fil (B : Sg) (h : Int) : Bool := decide (0 < nM B h (-2))
theorem isM_all {B : Sg} {h k : Int} : isM B h (-2) k = decide (B 7 k = h) := by
  unfold isM
  by_cases e : B 7 k = h
  · rw [decide_eq_true e]; simp [e]
  · rw [decide_eq_false e]; simp [e]
theorem fil_iff {B : Sg} {h : Int} : fil B h = true ↔ ∃ k : Nat, (k : Nat) < (B 0 7).toNat ∧ B 7 k = h := by
  unfold fil nM
  rw [decide_eq_true_iff, cnt_pos]
  constructor
  · rintro ⟨i, h1, h2⟩; exact ⟨i, h1, (isM_iff.1 h2).1⟩
  · rintro ⟨i, h1, h2⟩; exact ⟨i, h1, isM_iff.2 ⟨h2, Or.inl rfl⟩⟩
theorem fil_range {B : Sg} (hW : WfB B) {h : Int} (hf : fil B h = true) : 0 ≤ h ∧ h < B 0 0 := by
  obtain ⟨k, h1, h2⟩ := fil_iff.1 hf
  have := (hW.2.2.2.1 k (by omega) (by omega)).1
  omega
theorem nM_b {B : Sg} (hW : WfB B) (h s : Int) : 0 ≤ nM B h s ∧ nM B h s ≤ 60 := by
  have := cnt_b (isM B h s) (B 0 7).toNat
  have := hW.2.1
  unfold nM
  omega
theorem c_marksOf {σ : Sg} {post : Po} {k : Nat} {h : Int} (hk : shp[k]? = some (0, 0, 14)) (hW : WfB (bk σ k)) (rh : rng h) (hp : post (some (vi (nM (bk σ k) h (-2)))) σ) : Cl mX0_marksOf [vr k, vi h] σ post := by
  have wm := Wb_marks hW
  have wh := Wb_heads hW
  refine EX0_marksOf hk ?_
  have loop : ∀ (n j : Nat) (x : Int), (j : Int) + n = σ k 7 → x = cnt (isM (bk σ k) h (-2)) j → V mX0_marksOf 4 [some (vr k), some (vi h), some (vi x), some (vi (j : Int))] [] σ post := by
    intro n
    induction n with
    | zero =>
      intro j x hj hx
      refine BX0_marksOf_4 hk ⟨by omega, by omega, fun _ => ?_, fun q => absurd (by omega) q⟩
      have e : nM (bk σ k) h (-2) = x := by
        unfold nM
        rw [hx, show (bk σ k 0 7).toNat = j from by show (σ k 7).toNat = j; omega]
      rw [← e]
      exact hp
    | succ n ih =>
      intro j x hj hx
      have w := Wb_m hW (i := j) (by omega) (by omega)
      refine BX0_marksOf_4 hk ⟨by omega, by omega, fun q => absurd q (by omega), fun _ => ⟨by omega, by omega, rh, fun q => ?_, fun q => ?_⟩⟩
      · exact ih (j + 1) x (by omega) (by rw [cnt_f (fun z => q (isM_iff.1 z).1)]; exact hx)
      · exact ih (j + 1) (x + 1) (by omega) (by rw [cnt_t (isM_iff.2 ⟨q, Or.inl rfl⟩), hx])
  exact loop (σ k 7).toNat 0 0 (by omega) rfl
theorem c_filledHeads {σ : Sg} {post : Po} {k : Nat} (hk : shp[k]? = some (0, 0, 14)) (hW : WfB (bk σ k)) (hp : ∀ z : Int, 0 ≤ z → z < 65536 → (∀ g : Int, 0 ≤ g → has z g = fil (bk σ k) g) → post (some (vi z)) σ) : Cl mX0_filledHeads [vr k] σ post := by
  have wm := Wb_marks hW
  have wh := Wb_heads hW
  refine EX0_filledHeads hk ?_
  have loop : ∀ (n j : Nat) (x : Int), (j : Int) + n = σ k 7 → 0 ≤ x → x < 65536 → (∀ g : Int, 0 ≤ g → (has x g = true ↔ ∃ i : Nat, i < j ∧ σ (k + 7) i = g)) → V mX0_filledHeads 4 [some (vr k), some (vi x), some (vi (j : Int))] [] σ post := by
    intro n
    induction n with
    | zero =>
      intro j x hj x0 x1 hx
      refine BX0_filledHeads_4 hk ⟨by omega, by omega, fun _ => hp x x0 x1 (fun g g0 => ?_), fun q => absurd (by omega) q⟩
      have e : (bk σ k 0 7).toNat = j := by show (σ k 7).toNat = j; omega
      rw [Bool.eq_iff_iff, hx g g0, fil_iff, e]
      exact Iff.rfl
    | succ n ih =>
      intro j x hj x0 x1 hx
      have w := Wb_m hW (i := j) (by omega) (by omega)
      have s := iShl1_lt (h := σ (k + 7) j) (n := 16) w.1.1 (by omega) (by decide)
      have o := iOr_lt (s := x) (t := iShl 1 (σ (k + 7) j)) (n := 16) (by decide) x0 x1 s.1 s.2
      refine BX0_filledHeads_4 hk ⟨by omega, by omega, fun q => absurd q (by omega), fun _ => ⟨by omega, ih (j + 1) _ (by omega) o.1 o.2 (fun g g0 => ?_)⟩⟩
      rw [has_or x0 (by omega) s.1 (by omega), has_shl w.1.1 (by omega) g0, Bool.or_eq_true, hx g g0, decide_eq_true_iff]
      constructor
      · rintro (⟨i, h1, h2⟩ | h1)
        · exact ⟨i, by omega, h2⟩
        · exact ⟨j, by omega, h1.symm⟩
      · rintro ⟨i, h1, h2⟩
        by_cases e : i = j
        · subst e; exact Or.inr h2.symm
        · exact Or.inl ⟨i, by omega, h2⟩
  exact loop (σ k 7).toNat 0 0 (by omega) (by omega) (by omega) (fun g g0 => by rw [has_0]; constructor; (intro z; cases z); (rintro ⟨i, h1, _⟩; omega))
theorem c_markedSubs {σ : Sg} {post : Po} {k : Nat} {h : Int} (hk : shp[k]? = some (0, 0, 14)) (hW : WfB (bk σ k)) (rh : rng h) (hp : ∀ z : Int, 0 ≤ z → z < 64 → (∀ g : Int, 0 ≤ g → has z g = decide (0 < nM (bk σ k) h g)) → post (some (vi z)) σ) : Cl mX0_markedSubs [vr k, vi h] σ post := by
  have wm := Wb_marks hW
  have wh := Wb_heads hW
  refine EX0_markedSubs hk ?_
  have loop : ∀ (n j : Nat) (x : Int), (j : Int) + n = σ k 7 → 0 ≤ x → x < 64 → (∀ g : Int, 0 ≤ g → (has x g = true ↔ ∃ i : Nat, i < j ∧ isM (bk σ k) h g i = true)) → V mX0_markedSubs 4 [some (vr k), some (vi h), some (vi x), some (vi (j : Int))] [] σ post := by
    intro n
    induction n with
    | zero =>
      intro j x hj x0 x1 hx
      refine BX0_markedSubs_4 hk ⟨by omega, by omega, fun _ => hp x x0 x1 (fun g g0 => ?_), fun q => absurd (by omega) q⟩
      have e : (bk σ k 0 7).toNat = j := by show (σ k 7).toNat = j; omega
      rw [Bool.eq_iff_iff, hx g g0, decide_eq_true_iff]
      unfold nM
      rw [cnt_pos, e]
    | succ n ih =>
      intro j x hj x0 x1 hx
      have w := Wb_m hW (i := j) (by omega) (by omega)
      have ws := Wb_subs hW w.1.1 w.1.2
      have no : (∀ g : Int, 0 ≤ g → ¬ isM (bk σ k) h g j = true) → V mX0_markedSubs 4 [some (vr k), some (vi h), some (vi x), some (vi ((j : Int) + 1))] [] σ post := by
        intro hn
        refine ih (j + 1) x (by omega) x0 x1 (fun g g0 => ?_)
        rw [hx g g0]
        constructor
        · rintro ⟨i, h1, h2⟩; exact ⟨i, by omega, h2⟩
        · rintro ⟨i, h1, h2⟩
          by_cases e : i = j
          · subst e; exact absurd h2 (hn g g0)
          · exact ⟨i, by omega, h2⟩
      refine BX0_markedSubs_4 hk ⟨by omega, by omega, fun q => absurd q (by omega), fun _ => ⟨by omega, by omega, rh, fun q => no (fun g g0 z => q (isM_iff.1 z).1), fun q => ⟨by omega, fun q2 => no (fun g g0 z => ?_), fun q2 => ?_⟩⟩⟩
      · have z2 : g = -2 ∨ σ (k + 8) j = g := (isM_iff.1 z).2
        omega
      · have s := iShl1_lt (h := σ (k + 8) j) (n := 6) (by omega) (by omega) (by decide)
        have o := iOr_lt (s := x) (t := iShl 1 (σ (k + 8) j)) (n := 6) (by decide) x0 x1 s.1 s.2
        refine ih (j + 1) _ (by omega) o.1 o.2 (fun g g0 => ?_)
        rw [has_or x0 (by omega) s.1 (by omega), has_shl (by omega) (by omega) g0, Bool.or_eq_true, hx g g0, decide_eq_true_iff]
        constructor
        · rintro (⟨i, h1, h2⟩ | h1)
          · exact ⟨i, by omega, h2⟩
          · exact ⟨j, by omega, isM_iff.2 ⟨q, Or.inr h1.symm⟩⟩
        · rintro ⟨i, h1, h2⟩
          by_cases e : i = j
          · subst e
            have z2 : g = -2 ∨ σ (k + 8) i = g := (isM_iff.1 h2).2
            exact Or.inr (by omega)
          · exact Or.inl ⟨i, by omega, h2⟩
  exact loop (σ k 7).toNat 0 0 (by omega) (by omega) (by omega) (fun g g0 => by rw [has_0]; constructor; (intro z; cases z); (rintro ⟨i, h1, _⟩; omega))
/-! the reference -/
theorem r_marksOf {σ B : Sg} {post : Po} {h s : Int} (hW : WfB B) (hR : RA (bk σ 94) B) (rh : rng h) (rs : rng s) (hp : post (some (vi (nM B h s))) σ) : Cl mX12_marksOf [vr 94, vi h, vi s] σ post := by
  have wm := hW.2.1
  have e7 : σ 94 7 = B 0 7 := Ra_marks hR
  refine EX12_marksOf ?_
  have loop : ∀ (n j : Nat) (x : Int), (j : Int) + n = B 0 7 → x = cnt (isM B h s) j → V mX12_marksOf 5 [some (vr 94), some (vi h), some (vi s), some (vi x), some (vi (j : Int))] [] σ post := by
    intro n
    induction n with
    | zero =>
      intro j x hj hx
      refine BX12_marksOf_5 ⟨by omega, by omega, fun _ => ?_, fun q => absurd (by omega) q⟩
      have e : nM B h s = x := by
        unfold nM
        rw [hx, show (B 0 7).toNat = j by omega]
      rw [← e]
      exact hp
    | succ n ih =>
      intro j x hj hx
      refine BX12_marksOf_5 ⟨by omega, by omega, fun q => absurd q (by omega), fun _ => r_isOf hW hR (by omega) (by omega) rh rs (fun q => ⟨_, rfl, r_one (by omega) ⟨_, rfl, ?_⟩⟩) (fun q => ⟨_, rfl, r_one (by omega) ⟨_, rfl, ?_⟩⟩)⟩
      · exact ih (j + 1) (x + 1) (by omega) (by rw [cnt_t q, hx])
      · exact ih (j + 1) (x + 0) (by omega) (by rw [cnt_f q, hx]; omega)
  exact loop (B 0 7).toNat 0 0 (by omega) rfl
theorem r_isFilled {σ B : Sg} {post : Po} {h : Int} (hW : WfB B) (hR : RA (bk σ 94) B) (rh : rng h) (ht : fil B h = true → post (some (vi 1)) σ) (hf : ¬ fil B h = true → post (some (vi 0)) σ) : Cl mX12_isFilled [vr 94, vi h] σ post := by
  have b := nM_b hW h (-2)
  unfold fil at ht hf
  rw [decide_eq_true_iff] at ht hf
  exact EX12_isFilled (r_marksOf hW hR rh (by decide) ⟨_, rfl, by omega, fun q => hf (by omega), fun q => ht (by omega)⟩)
theorem r_fullSubs {σ B : Sg} {post : Po} {h : Int} (hW : WfB B) (hR : RA (bk σ 94) B) (h0 : 0 ≤ h) (h1 : h < B 0 0) (hp : post (some (vi (cnt (fun s => decide (0 < nM B h s)) (B 2 h).toNat))) σ) : Cl mX12_fullSubs [vr 94, vi h] σ post := by
  have wh := hW.1
  have ws := (hW.2.2.1 h h0 h1).1
  have es : σ 95 h = B 2 h := Ra_subs hR h0 h1
  refine EX12_fullSubs ?_
  have loop : ∀ (n j : Nat) (x : Int), (j : Int) + n = B 2 h → x = cnt (fun s => decide (0 < nM B h s)) j → V mX12_fullSubs 4 [some (vr 94), some (vi h), some (vi x), some (vi (j : Int))] [] σ post := by
    intro n
    induction n with
    | zero =>
      intro j x hj hx
      refine BX12_fullSubs_4 ⟨by omega, by omega, by omega, fun _ => ?_, fun q => absurd (by omega) q⟩
      have e : (B 2 h).toNat = j := by omega
      rw [hx, ← e]
      exact hp
    | succ n ih =>
      intro j x hj hx
      have b := nM_b hW h j
      refine BX12_fullSubs_4 ⟨by omega, by omega, by omega, fun q => absurd q (by omega), fun _ => r_marksOf hW hR (by omega) (by omega) ⟨_, rfl, by omega, fun q => r_one (by omega) ⟨_, rfl, ?_⟩, fun q => r_one (by omega) ⟨_, rfl, ?_⟩⟩⟩
      · exact ih (j + 1) (x + 0) (by omega) (by rw [cnt_f (by rw [decide_eq_true_iff]; omega), hx]; omega)
      · exact ih (j + 1) (x + 1) (by omega) (by rw [cnt_t (by rw [decide_eq_true_iff]; omega), hx])
  exact loop (B 2 h).toNat 0 0 (by omega) rfl
theorem r_filled {σ B : Sg} {post : Po} (hW : WfB B) (hR : RA (bk σ 94) B) (hp : post (some (vi (cnt (fil B) (B 0 0).toNat))) σ) : Cl mX12_filled [vr 94] σ post := by
  have wh := hW.1
  have eh : σ 94 0 = B 0 0 := Ra_heads hR
  refine EX12_filled ?_
  have loop : ∀ (n j : Nat) (x : Int), (j : Int) + n = B 0 0 → x = cnt (fil B) j → V mX12_filled 4 [some (vr 94), some (vi x), some (vi (j : Int))] [] σ post := by
    intro n
    induction n with
    | zero =>
      intro j x hj hx
      refine BX12_filled_4 ⟨by omega, by omega, fun _ => ?_, fun q => absurd (by omega) q⟩
      have e : (B 0 0).toNat = j := by omega
      rw [hx, ← e]
      exact hp
    | succ n ih =>
      intro j x hj hx
      refine BX12_filled_4 ⟨by omega, by omega, fun q => absurd q (by omega), fun _ => r_isFilled hW hR (by omega) (fun q => ⟨_, rfl, r_one (by omega) ⟨_, rfl, ?_⟩⟩) (fun q => ⟨_, rfl, r_one (by omega) ⟨_, rfl, ?_⟩⟩)⟩
      · exact ih (j + 1) (x + 1) (by omega) (by rw [cnt_t q, hx])
      · exact ih (j + 1) (x + 0) (by omega) (by rw [cnt_f q, hx]; omega)
  exact loop (B 0 0).toNat 0 0 (by omega) rfl
/-! the way by see -/
def chn (B : Sg) (h : Int) : Nat → Int
  | 0 => h
  | n + 1 => if chn B h n = -1 then -1 else B 4 (chn B h n)
theorem chn_add (B : Sg) (h : Int) (i : Nat) : ∀ j : Nat, chn B (chn B h i) j = chn B h (i + j)
  | 0 => rfl
  | j + 1 => by
    show (if chn B (chn B h i) j = -1 then -1 else B 4 (chn B (chn B h i) j)) = if chn B h (i + j) = -1 then -1 else B 4 (chn B h (i + j))
    rw [chn_add B h i j]
theorem chn_r {B : Sg} (hW : WfB B) {h : Int} (h0 : 0 ≤ h) (h1 : h < B 0 0) : ∀ n : Nat, -1 ≤ chn B h n ∧ chn B h n < B 0 0
  | 0 => by show -1 ≤ h ∧ h < B 0 0; omega
  | n + 1 => by
    have ih := chn_r hW h0 h1 n
    have wh := hW.1
    show -1 ≤ (if chn B h n = -1 then -1 else B 4 (chn B h n)) ∧ (if chn B h n = -1 then -1 else B 4 (chn B h n)) < B 0 0
    by_cases e : chn B h n = -1
    · rw [if_pos e]; omega
    · rw [if_neg e]
      exact (hW.2.2.1 _ (by omega) ih.2).2.1
/-- no more apart than places -/
theorem pigeon : ∀ (n w : Nat) (f : Nat → Int), (∀ i, i ≤ w → 0 ≤ f i ∧ f i < n) → (∀ i j, i ≤ w → j ≤ w → f i = f j → i = j) → w + 1 ≤ n
  | 0, w, f, h1, _ => by have := h1 0 (by omega); omega
  | n + 1, w, f, h1, h2 => by
    by_cases hw : w = 0
    · omega
    · by_cases hx : ∃ i, i ≤ w ∧ f i = n
      · obtain ⟨i, hi, hf⟩ := hx
        have := pigeon n (w - 1) (fun j => if j = i then f w else f j) (fun j hj => by
          show 0 ≤ (if j = i then f w else f j) ∧ (if j = i then f w else f j) < n
          by_cases e : j = i
          · rw [if_pos e]
            have := h1 w (by omega)
            have : f w ≠ n := fun z => by have := h2 w i (by omega) hi (by rw [z, hf]); omega
            omega
          · rw [if_neg e]
            have := h1 j (by omega)
            have : f j ≠ n := fun z => e (h2 j i (by omega) hi (by rw [z, hf]))
            omega) (fun a b ha hb hab => by
          have hab : (if a = i then f w else f a) = (if b = i then f w else f b) := hab
          by_cases ea : a = i
          · rw [if_pos ea] at hab
            by_cases eb : b = i
            · omega
            · rw [if_neg eb] at hab
              have := h2 w b (by omega) (by omega) hab
              omega
          · rw [if_neg ea] at hab
            by_cases eb : b = i
            · rw [if_pos eb] at hab
              have := h2 a w (by omega) (by omega) hab
              omega
            · rw [if_neg eb] at hab
              exact h2 a b (by omega) (by omega) hab)
        omega
      · have := pigeon n w f (fun i hi => by
          have := h1 i hi
          have : f i ≠ n := fun z => hx ⟨i, hi, z⟩
          omega) h2
        omega
def FS (B : Sg) (h : Int) (w : Nat) : Prop := fil B (chn B h w) = true ∧ ∀ v, v < w → ¬ fil B (chn B h v) = true
theorem fil_m1 {B : Sg} (hW : WfB B) : ¬ fil B (-1) = true := fun z => by have := fil_range hW z; omega
theorem chn_m1 {B : Sg} {h : Int} {n : Nat} (e : chn B h n = -1) : ∀ m : Nat, chn B h (n + m) = -1
  | 0 => e
  | m + 1 => by
    show (if chn B h (n + m) = -1 then -1 else B 4 (chn B h (n + m))) = -1
    rw [if_pos (chn_m1 e m)]
theorem FS_ne {B : Sg} (hW : WfB B) {h : Int} {w v : Nat} (hF : FS B h w) (hv : v ≤ w) : chn B h v ≠ -1 := fun e => by
  have := chn_m1 e (w - v)
  rw [show v + (w - v) = w by omega] at this
  have h1 := hF.1
  rw [this] at h1
  exact fil_m1 hW h1
theorem FS_15 {B : Sg} (hW : WfB B) {h : Int} (h0 : 0 ≤ h) (h1 : h < B 0 0) {w : Nat} (hF : FS B h w) : w ≤ 15 := by
  have wh := hW.1
  have := pigeon (B 0 0).toNat w (fun i => chn B h i) (fun i hi => by
    have a := chn_r hW h0 h1 i
    have b := FS_ne hW hF hi
    show 0 ≤ chn B h i ∧ chn B h i < ((B 0 0).toNat : Int)
    omega) (fun i j hi hj e => by
    have key : ∀ i j, i < j → j ≤ w → chn B h i = chn B h j → False := by
      intro i j hij hj e
      have := chn_add B h i (w - j)
      rw [e, chn_add B h j (w - j), show j + (w - j) = w by omega] at this
      have h2 := hF.2 (i + (w - j)) (by omega)
      rw [← this] at h2
      exact h2 hF.1
    rcases Nat.lt_trichotomy i j with l | l | l
    · exact (key i j l hj e).elim
    · exact l
    · exact (key j i l hi e.symm).elim)
  omega
theorem FS_uniq {B : Sg} {h : Int} {w v : Nat} (a : FS B h w) (b : FS B h v) : w = v := by
  rcases Nat.lt_trichotomy w v with l | l | l
  · exact absurd a.1 (b.2 w l)
  · exact l
  · exact absurd b.1 (a.2 v l)
theorem c_stepsToFilled {σ : Sg} {post : Po} {k : Nat} {h z : Int} (hk : shp[k]? = some (0, 0, 14)) (hW : WfB (bk σ k)) (h0 : 0 ≤ h) (h1 : h < σ k 0) (z0 : 0 ≤ z) (z1 : z < 65536) (hz : ∀ g : Int, 0 ≤ g → has z g = fil (bk σ k) g) (hy : ∀ w : Nat, w ≤ 15 → FS (bk σ k) h w → post (some (vi (w : Int))) σ) (hn : (∀ w : Nat, ¬ FS (bk σ k) h w) → post (some (vi (-1))) σ) : Cl mX0_stepsToFilled [vr k, vi h, vi z] σ post := by
  have wh := Wb_heads hW
  refine EX0_stepsToFilled hk ?_
  have loop : ∀ (n w : Nat) (x : Int), w + n = 16 → x = chn (bk σ k) h w → x ≠ -1 → (∀ v, v < w → ¬ fil (bk σ k) (chn (bk σ k) h v) = true) → V mX0_stepsToFilled 5 [some (vr k), none, some (vi z), some (vi x), some (vi (w : Int))] [] σ post := by
    intro n
    induction n with
    | zero =>
      intro w x hw hx hx1 hno
      refine BX0_stepsToFilled_5 hk ⟨by omega, fun _ => hn (fun v hF => ?_), fun q => absurd (by omega) q⟩
      have := FS_15 hW h0 h1 hF
      exact hno v (by omega) hF.1
    | succ n ih =>
      intro w x hw hx hx1 hno
      have xr := chn_r hW h0 h1 w
      rw [← hx] at xr
      have xr : -1 ≤ x ∧ x < σ k 0 := xr
      refine BX0_stepsToFilled_5 hk ⟨by omega, fun q => absurd q (by omega), fun _ => c_isIn z0 (by omega) (by omega) (by omega) (fun q => ⟨_, rfl, b1' (hy w (by omega) ⟨?_, hno⟩)⟩) (fun q => ⟨_, rfl, b0' ?_⟩)⟩
      · rw [← hx, ← hz x (by omega)]; exact q
      · rw [hz x (by omega)] at q
        have ws := Wb_see hW (i := x) (by omega) xr.2
        have nx : chn (bk σ k) h (w + 1) = σ (k + 4) x := by
          show (if chn (bk σ k) h w = -1 then -1 else bk σ k 4 (chn (bk σ k) h w)) = _
          rw [← hx, if_neg hx1]
          rfl
        have no2 : ∀ v, v < w + 1 → ¬ fil (bk σ k) (chn (bk σ k) h v) = true := fun v hv => by
          by_cases e : v = w
          · rw [e, ← hx]; exact q
          · exact hno v (by omega)
        refine ⟨by omega, by omega, fun c => ih (w + 1) _ (by omega) nx.symm c no2, fun c => hn (fun v hF => ?_)⟩
        by_cases e : v < w + 1
        · exact no2 v e hF.1
        · have := chn_m1 (nx.trans c) (v - (w + 1))
          rw [show w + 1 + (v - (w + 1)) = v by omega] at this
          have h2 := hF.1
          rw [this] at h2
          exact fil_m1 hW h2
  exact loop 16 0 h (by omega) rfl (by omega) (fun v hv => by omega)
theorem c_headAfter {σ : Sg} {post : Po} {k : Nat} {h : Int} {w : Nat} (hk : shp[k]? = some (0, 0, 14)) (hW : WfB (bk σ k)) (h0 : 0 ≤ h) (h1 : h < σ k 0) (hw : w ≤ 15) (hne : ∀ v, v ≤ w → chn (bk σ k) h v ≠ -1) (hp : post (some (vi (chn (bk σ k) h w))) σ) : Cl mX0_headAfter [vr k, vi h, vi (w : Int)] σ post := by
  have wh := Wb_heads hW
  refine EX0_headAfter hk ?_
  have loop : ∀ (n j : Nat) (x : Int), j + n = w → x = chn (bk σ k) h j → V mX0_headAfter 5 [some (vr k), none, some (vi (w : Int)), some (vi x), some (vi (j : Int))] [] σ post := by
    intro n
    induction n with
    | zero =>
      intro j x hj hx
      have e : j = w := by omega
      subst e
      exact BX0_headAfter_5 hk ⟨by omega, by omega, fun _ => by rw [hx]; exact hp, fun q => absurd (by omega) q⟩
    | succ n ih =>
      intro j x hj hx
      have xr := chn_r hW h0 h1 j
      have x1 := hne j (by omega)
      rw [← hx] at xr x1
      have xr : -1 ≤ x ∧ x < σ k 0 := xr
      have ws := Wb_see hW (i := x) (by omega) xr.2
      have nx : chn (bk σ k) h (j + 1) = σ (k + 4) x := by
        show (if chn (bk σ k) h j = -1 then -1 else bk σ k 4 (chn (bk σ k) h j)) = _
        rw [← hx, if_neg x1]
        rfl
      have n1 := hne (j + 1) (by omega)
      rw [nx] at n1
      exact BX0_headAfter_5 hk ⟨by omega, by omega, fun q => absurd q (by omega), fun _ => ⟨by omega, by omega, fun c => absurd c n1, fun _ => ih (j + 1) _ (by omega) nx.symm⟩⟩
  exact loop w 0 h (by omega) rfl
theorem r_foundFrom {σ B : Sg} {post : Po} {h : Int} (hW : WfB B) (hR : RA (bk σ 94) B) (h0 : 0 ≤ h) (h1 : h < B 0 0) (hy : ∀ (w : Nat) (σ' : Sg), w ≤ 15 → FS B h w → FrJ [] [36] σ σ' → σ' 94 36 = w → post (some (vi (chn B h w))) σ') (hn : (∀ w : Nat, ¬ FS B h w) → ∀ σ' : Sg, FrJ [] [36] σ σ' → post (some (vi (-1))) σ') : Cl mX12_foundFrom [vr 94, vi h] σ post := by
  have wh := hW.1
  refine EX12_foundFrom ?_
  have loop : ∀ (n w : Nat) (x : Int) (τ : Sg), w + n = 16 → x = chn B h w → x ≠ -1 → (∀ v, v < w → ¬ fil B (chn B h v) = true) → FrJ [] [36] σ τ → τ 94 36 = w → V mX12_foundFrom 7 [some (vr 94), none, some (vi x)] [] τ post := by
    intro n
    induction n with
    | zero =>
      intro w x τ hw hx hx1 hno hF e36
      have hR' : RA (bk τ 94) B := hR.fr hF (by simp) (by simp)
      have xr := chn_r hW h0 h1 w
      rw [← hx] at xr
      have es : τ 98 x = B 4 x := Ra_see hR' (by omega) xr.2
      have ws := (hW.2.2.1 x (by omega) xr.2).2.1
      have nf : ¬ fil B x = true := fun z => by
        have := FS_15 hW h0 h1 (w := w) ⟨by rw [← hx]; exact z, hno⟩
        omega
      have none : ∀ v : Nat, ¬ FS B h v := fun v hF => by
        have := FS_15 hW h0 h1 hF
        exact hno v (by omega) hF.1
      have last : Cl mX12_isFilled [vr 94, vi x] τ (pI fun z2 σ2 => (rng z2) ∧ ((z2 = 0 → post (some (vi (-1))) σ2) ∧ (¬ z2 = 0 → post (some (vi x)) σ2))) := r_isFilled hW hR' (by omega) (fun q => absurd q nf) (fun _ => ⟨_, rfl, b0' (hn none τ hF)⟩)
      exact BX12_foundFrom_7 (r_isFilled hW hR' (by omega) (fun q => absurd q nf) (fun _ => ⟨_, rfl, b0 ⟨by omega, by omega, fun _ => last, fun _ => ⟨by omega, fun _ => last, fun q => absurd (by omega) q⟩⟩⟩))
    | succ n ih =>
      intro w x τ hw hx hx1 hno hF e36
      have hR' : RA (bk τ 94) B := hR.fr hF (by simp) (by simp)
      have xr := chn_r hW h0 h1 w
      rw [← hx] at xr
      have es : τ 98 x = B 4 x := Ra_see hR' (by omega) xr.2
      have ws := (hW.2.2.1 x (by omega) xr.2).2.1
      refine BX12_foundFrom_7 (r_isFilled hW hR' (by omega) (fun q => ⟨_, rfl, b1 ?_⟩) (fun q => ⟨_, rfl, b0 ⟨by omega, by omega, fun c => ?_, fun c => ⟨by omega, fun c2 => absurd c2 (by omega), fun _ => ?_⟩⟩⟩))
      · refine r_isFilled hW hR' (by omega) (fun _ => ⟨_, rfl, b1' ?_⟩) (fun q2 => absurd q q2)
        rw [hx]
        exact hy w τ (by omega) ⟨by rw [← hx]; exact q, hno⟩ hF e36
      · refine r_isFilled hW hR' (by omega) (fun q2 => absurd q2 q) (fun _ => ⟨_, rfl, b0' (hn (fun v hFS => ?_) τ hF)⟩)
        have nx : chn B h (w + 1) = -1 := by
          show (if chn B h w = -1 then -1 else B 4 (chn B h w)) = _
          rw [← hx, if_neg hx1]
          omega
        by_cases e : v < w + 1
        · by_cases e2 : v = w
          · rw [e2] at hFS
            have := hFS.1
            rw [← hx] at this
            exact q this
          · exact hno v (by omega) hFS.1
        · have := chn_m1 nx (v - (w + 1))
          rw [show w + 1 + (v - (w + 1)) = v by omega] at this
          have h2 := hFS.1
          rw [this] at h2
          exact fil_m1 hW h2
      · have nx : chn B h (w + 1) = τ 98 x := by
          show (if chn B h w = -1 then -1 else B 4 (chn B h w)) = _
          rw [← hx, if_neg hx1, es]
        refine ih (w + 1) _ _ (by omega) nx.symm (by omega) (fun v hv => ?_) (hF.j (by decide)) (by rw [up_s, e36]; omega)
        by_cases e : v = w
        · rw [e, ← hx]; exact q
        · exact hno v (by omega)
  exact loop 16 0 h _ (by omega) rfl (by omega) (fun v hv => by omega) (FrJ.rf.j (by decide)) up_s
theorem s_look : St_look Inv := by
  intro σ h w rh rw hI
  have hI' := hI
  obtain ⟨⟨h1, h2, h3, h4, h5⟩, h6, h7, ⟨hW, hR⟩, ⟨h10, h11⟩, h12⟩ := hI
  have wh := Wb_heads hW
  have er : σ 94 0 = σ 5 0 := Ra_heads hR
  have no : ∀ z : Int, rng z → (¬ (0 ≤ h ∧ h < σ 5 0) → z = -1001) → (0 ≤ h ∧ h < σ 5 0 → ¬ (0 ≤ w ∧ w ≤ 1) ∧ z = -1002) → Cl mX12_look [vr 94, vi h, vi w] σ (pI fun z2 σ2 => z = z2 ∧ rng z ∧ (Inv σ2 ∨ Inv (swp σ2))) := by
    intro z rz y1 y2
    refine EX12_look (r_noHead rh (by omega) (fun a b => ⟨_, rfl, b0' ⟨rw, r_in (by omega) (by omega) (by omega) (fun c d => ?_) (fun q => ⟨_, rfl, b0 ⟨_, rfl, (y2 (by omega)).2, rz, Or.inl hI'⟩⟩)⟩⟩) (fun q => ⟨_, rfl, b1' ⟨_, rfl, y1 (by omega), rz, Or.inl hI'⟩⟩))
    have := y2 (by omega)
    omega
  refine EX11_look ⟨h1.1, c_hasHead rfl rh (by omega) (fun a b => ⟨_, rfl, b1 ⟨rw, fun c => ⟨_, rfl, no _ (by decide) (fun z => by omega) (fun _ => ⟨by omega, rfl⟩)⟩, fun c => ⟨fun d => ⟨h1.1, c_filledHeads rfl hW (fun z z0 z1 hz => ⟨_, rfl, ?_⟩)⟩, fun d => ⟨_, rfl, no _ (by decide) (fun z => by omega) (fun _ => ⟨by omega, rfl⟩)⟩⟩⟩⟩) (fun q => ⟨_, rfl, b0 ⟨_, rfl, no _ (by decide) (fun _ => rfl) (fun z => absurd z q)⟩⟩)⟩
  have fin : ∀ σ' : Sg, FrJ [] [36] σ σ' → Inv σ' := fun σ' hF => hI'.fr (M := []) Fr.rf hF (by simp) (by simp) (by decide)
  have ref : ∀ z : Int, rng z → ((∀ v : Nat, ¬ FS (bk σ 5) h v) → z = -1) → (∀ v : Nat, v ≤ 15 → FS (bk σ 5) h v → (w = 0 → z = chn (bk σ 5) h v) ∧ (w = 1 → z = v)) → Cl mX12_look [vr 94, vi h, vi w] σ (pI fun z2 σ2 => z = z2 ∧ rng z ∧ (Inv σ2 ∨ Inv (swp σ2))) := by
    intro z rz y1 y2
    refine EX12_look (r_noHead rh (by omega) (fun a b => ⟨_, rfl, b0' ⟨rw, r_in (by omega) (by omega) (by omega) (fun c d => ⟨_, rfl, b1 ?_⟩) (fun q => absurd (by omega) q)⟩⟩) (fun q => absurd (by omega) q))
    refine r_foundFrom hW hR a (show h < σ 5 0 by omega) (fun v σ' hv hFS hF e36 => ?_) (fun hn σ' hF => ⟨_, rfl, by decide, fun _ => ⟨_, rfl, y1 hn, rz, Or.inl (fin σ' hF)⟩, fun q => absurd (by decide) q⟩)
    have cr := chn_r hW a (show h < σ 5 0 by omega) v
    have cr : -1 ≤ chn (bk σ 5) h v ∧ chn (bk σ 5) h v < σ 5 0 := cr
    have cn := FS_ne hW hFS (Nat.le_refl v)
    have y3 := y2 v hv hFS
    refine ⟨_, rfl, by omega, fun q => absurd q (by omega), fun q => ⟨fun q2 => ⟨_, rfl, ?_, rz, Or.inl (fin σ' hF)⟩, fun q2 => ⟨_, rfl, y3.1 q2, rz, Or.inl (fin σ' hF)⟩⟩⟩
    rw [e36]
    exact y3.2 (by omega)
  refine c_stepsToFilled rfl hW a b z0 z1 hz (fun v hv hFS => ⟨_, rfl, fun q => ⟨_, rfl, ref _ (by omega) (fun hn => absurd hFS (hn v)) (fun v' hv' hF' => ⟨fun c => by omega, fun _ => by rw [FS_uniq hFS hF']⟩)⟩, fun q => ⟨by omega, fun q2 => ⟨h1.1, ?_⟩, fun q2 => absurd q2 (by omega)⟩⟩) (fun hn => ⟨_, rfl, fun q => ⟨_, rfl, ref _ (by decide) (fun _ => rfl) (fun v hv hF => absurd hF (hn v))⟩, fun q => ⟨by decide, fun q2 => absurd rfl q2, fun _ => ⟨_, rfl, ref _ (by decide) (fun _ => rfl) (fun v hv hF => absurd hF (hn v))⟩⟩⟩)
  have cr : -1 ≤ chn (bk σ 5) h v ∧ chn (bk σ 5) h v < σ 5 0 := chn_r hW a b v
  exact c_headAfter rfl hW a b hv (fun v' hv' => FS_ne hW hFS hv') ⟨_, rfl, ⟨_, rfl, ref _ (by omega) (fun hn => absurd hFS (hn v)) (fun v' hv' hF' => ⟨fun _ => by rw [FS_uniq hFS hF'], fun c => by omega⟩)⟩⟩
