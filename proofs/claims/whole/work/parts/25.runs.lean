/-! ===== PURE HALF, by hand: runs ===== -/
def tadd (T : Int → Int) (p q mn : Int) : Int → Int := fun x => if p ≤ x ∧ x ≤ q then (if mn = 0 ∧ T x ≠ 3 then 1 else 3) else T x
theorem tadd_in {T : Int → Int} {p q mn x : Int} (h : p ≤ x ∧ x ≤ q) : tadd T p q mn x = if mn = 0 ∧ T x ≠ 3 then 1 else 3 := if_pos h
theorem tadd_out {T : Int → Int} {p q mn x : Int} (h : ¬ (p ≤ x ∧ x ≤ q)) : tadd T p q mn x = T x := if_neg h
theorem tadd_ne {T : Int → Int} {p q mn x : Int} : tadd T p q mn x ≠ 0 ↔ (p ≤ x ∧ x ≤ q) ∨ T x ≠ 0 := by
  by_cases h : p ≤ x ∧ x ≤ q
  · rw [tadd_in h]
    constructor
    · intro _; exact Or.inl h
    · intro _; split <;> decide
  · rw [tadd_out h]
    constructor
    · intro z; exact Or.inr z
    · rintro (z | z)
      · exact absurd z h
      · exact z
theorem tadd_3 {T : Int → Int} {p q mn x : Int} : tadd T p q mn x = 3 ↔ ((p ≤ x ∧ x ≤ q) ∧ mn ≠ 0) ∨ T x = 3 := by
  by_cases h : p ≤ x ∧ x ≤ q
  · rw [tadd_in h]
    by_cases h2 : mn = 0 ∧ T x ≠ 3
    · rw [if_pos h2]
      constructor
      · intro z; exact absurd z (by decide)
      · rintro (z | z)
        · exact absurd h2.1 z.2
        · exact absurd z h2.2
    · rw [if_neg h2]
      refine ⟨fun _ => ?_, fun _ => rfl⟩
      by_cases h3 : mn = 0
      · right
        by_cases h4 : T x = 3
        · exact h4
        · exact absurd ⟨h3, h4⟩ h2
      · exact Or.inl ⟨h, h3⟩
  · rw [tadd_out h]
    exact ⟨fun z => Or.inr z, fun z => z.elim (fun w => absurd w.1 h) id⟩
/-- rows of runs, and the pages that they tell of -/
def AR (f t m : Int → Int) (n : Int) (T : Int → Int) : Prop :=
  (0 ≤ n ∧ n ≤ 60) ∧ (∀ i : Int, 0 ≤ i → i < n → 1 ≤ f i ∧ f i ≤ t i ∧ t i ≤ 99) ∧ (∀ i j : Int, 0 ≤ i → i < j → j < n → t i + 1 < f j) ∧ (∀ x : Int, T x ≠ 0 ↔ ∃ i : Int, (0 ≤ i ∧ i < n) ∧ f i ≤ x ∧ x ≤ t i) ∧
  ∀ i : Int, 0 ≤ i → i < n → (m i = 0 ∧ ∀ x : Int, f i ≤ x → x ≤ t i → T x ≠ 3) ∨ (m i = 1 ∧ ∃ x : Int, f i ≤ x ∧ x ≤ t i ∧ T x = 3)
theorem AR_50 {f t m : Int → Int} {n : Int} {T : Int → Int} (h : AR f t m n T) : n ≤ 50 := by
  have key : ∀ i : Nat, (i : Int) < n → 1 + 2 * (i : Int) ≤ f i := by
    intro i
    induction i with
    | zero => intro hi; have := (h.2.1 0 (by omega) hi).1; simpa using this
    | succ i ih =>
      intro hi
      have h1 := ih (by omega)
      have h2 := h.2.2.1 i (i + 1) (by omega) (by omega) (by omega)
      have h3 := h.2.1 i (by omega) (by omega)
      have e : ((i + 1 : Nat) : Int) = (i : Int) + 1 := by omega
      rw [e]
      omega
  by_cases q : n ≤ 50
  · exact q
  · have h1 := key (n - 1).toNat (by have := h.1; omega)
    have e : (((n - 1).toNat : Nat) : Int) = n - 1 := by have := h.1; omega
    rw [e] at h1
    have h2 := h.2.1 (n - 1) (by omega) (by omega)
    omega
theorem AR_0 {f t m : Int → Int} : AR f t m 0 (fun _ => 0) :=
  ⟨by omega, fun i a b => by omega, fun i j a b c => by omega, fun x => ⟨fun z => absurd rfl z, fun ⟨i, hi, _⟩ => by omega⟩, fun i a b => by omega⟩
def L2 (f t m : Int → Int) (n p q mn a b lo hi sm : Int) : Prop :=
  (0 ≤ a ∧ a ≤ b ∧ b ≤ n) ∧ (∀ i : Int, 0 ≤ i → i < a → t i + 1 < p) ∧ (∀ i : Int, a ≤ i → i < n → p ≤ t i + 1) ∧ (1 ≤ lo ∧ lo ≤ p ∧ q ≤ hi ∧ hi ≤ 99) ∧ (∀ x : Int, (lo ≤ x ∧ x ≤ hi) ↔ ((p ≤ x ∧ x ≤ q) ∨ ∃ i : Int, (a ≤ i ∧ i < b) ∧ f i ≤ x ∧ x ≤ t i)) ∧ ((sm = 0 ∧ mn = 0 ∧ ∀ i : Int, a ≤ i → i < b → m i = 0) ∨ (sm = 1 ∧ (mn = 1 ∨ ∃ i : Int, a ≤ i ∧ i < b ∧ m i = 1)))
theorem L2_0 {f t m : Int → Int} {n p q mn a : Int} (hp : 1 ≤ p ∧ p ≤ q ∧ q ≤ 99) (hm : mn = 0 ∨ mn = 1) (ha : 0 ≤ a ∧ a ≤ n) (h1 : ∀ i : Int, 0 ≤ i → i < a → t i + 1 < p) (h2 : ∀ i : Int, a ≤ i → i < n → p ≤ t i + 1) : L2 f t m n p q mn a a p q mn := by
  refine ⟨by omega, h1, h2, by omega, fun x => ⟨fun z => Or.inl z, ?_⟩, ?_⟩
  · rintro (z | ⟨i, hi, _⟩)
    · exact z
    · omega
  · rcases hm with z | z
    · exact Or.inl ⟨z, z, fun i a b => by omega⟩
    · exact Or.inr ⟨z, Or.inl z⟩
theorem L2_s {f t m : Int → Int} {n p q mn a b lo hi sm : Int} {T : Int → Int} (hA : AR f t m n T) (h : L2 f t m n p q mn a b lo hi sm) (hb : b < n) (hq : f b ≤ q + 1) {lo' hi' smN : Int} (e1 : (lo' = lo ∧ lo ≤ f b) ∨ (lo' = f b ∧ f b ≤ lo)) (e2 : (hi' = hi ∧ t b ≤ hi) ∨ (hi' = t b ∧ hi ≤ t b)) (e3 : (smN = 0 ∧ sm = 0 ∧ m b = 0) ∨ (smN = 1 ∧ (sm = 1 ∨ m b = 1))) : L2 f t m n p q mn a (b + 1) lo' hi' smN := by
  have h1 := h.1
  have h2 := h.2.1
  have h3 := h.2.2.1
  have h4 := h.2.2.2.1
  have h5 := h.2.2.2.2.1
  have w := hA.2.1 b (by omega) hb
  have pt := h3 b (by omega) hb
  refine ⟨by omega, h2, h3, by omega, fun x => ⟨fun z => ?_, fun z => ?_⟩, ?_⟩
  · by_cases c : lo ≤ x ∧ x ≤ hi
    · rcases (h5 x).1 c with d | ⟨i, d1, d2⟩
      · exact Or.inl d
      · exact Or.inr ⟨i, by omega, d2⟩
    · exact Or.inr ⟨b, by omega, by omega⟩
  · rcases z with z | ⟨i, d1, d2⟩
    · omega
    · by_cases e : i = b
      · subst e; omega
      · have := (h5 x).2 (Or.inr ⟨i, by omega, d2⟩)
        omega
  · have h6 := h.2.2.2.2.2
    rcases e3 with ⟨c1, c2, c3⟩ | ⟨c1, c2⟩
    · left
      rcases h6 with ⟨d1, d2, d3⟩ | ⟨d1, d2⟩
      · refine ⟨c1, d2, fun i y1 y2 => ?_⟩
        by_cases e : i = b
        · subst e; exact c3
        · exact d3 i y1 (by omega)
      · omega
    · right
      refine ⟨c1, ?_⟩
      rcases c2 with c2 | c2
      · rcases h6 with ⟨d1, d2, d3⟩ | ⟨d1, d2⟩
        · omega
        · rcases d2 with d2 | ⟨i, y1, y2, y3⟩
          · exact Or.inl d2
          · exact Or.inr ⟨i, y1, by omega, y3⟩
      · exact Or.inr ⟨b, by omega, by omega, c2⟩
/-- the merged rows -/
def mrg (f : Int → Int) (n a b v : Int) : Int → Int := pt (cpR f f b (a + 1) (n - b)) a v
theorem mrg_lo {f : Int → Int} {n a b v i : Int} (h : i < a) : mrg f n a b v i = f i := by
  unfold mrg
  rw [pt_ne (by omega)]
  unfold cpR
  rw [if_neg (by omega)]
theorem mrg_at {f : Int → Int} {n a b v : Int} : mrg f n a b v a = v := pt_self
theorem mrg_hi {f : Int → Int} {n a b v i : Int} (h : a < i) (h2 : i < a + 1 + (n - b)) : mrg f n a b v i = f (b + (i - (a + 1))) := by
  unfold mrg
  rw [pt_ne (by omega)]
  unfold cpR
  rw [if_pos (by omega)]
theorem AR_put {f t m : Int → Int} {n p q mn a b lo hi sm : Int} {T : Int → Int} (hA : AR f t m n T) (hp : 1 ≤ p ∧ p ≤ q ∧ q ≤ 99) (hmn : mn = 0 ∨ mn = 1) (h : L2 f t m n p q mn a b lo hi sm) (he : n ≤ b ∨ q + 1 < f b) : AR (mrg f n a b lo) (mrg t n a b hi) (mrg m n a b sm) (a + 1 + (n - b)) (tadd T p q mn) := by
  have h50 := AR_50 hA
  obtain ⟨a1, a2, a3, a4, a5⟩ := hA
  obtain ⟨h1, h2, h3, h4, h5, h6⟩ := h
  have far : ∀ j : Int, b ≤ j → j < n → q + 1 < f j := by
    intro j j1 j2
    rcases he with e | e
    · omega
    · by_cases c : j = b
      · subst c; exact e
      · have := a3 b j (by omega) (by omega) j2
        have := a2 b (by omega) (by omega)
        omega
  have lo_f : ∀ i : Int, 0 ≤ i → i < a → t i + 1 < lo := by
    intro i i0 i1
    have y := h2 i i0 i1
    rcases (h5 lo).1 (by omega) with d | ⟨j, d1, d2⟩
    · omega
    · have := a3 i j i0 (by omega) (by omega)
      omega
  have hi_f : ∀ j : Int, b ≤ j → j < n → hi + 1 < f j := by
    intro j j1 j2
    have y := far j j1 j2
    rcases (h5 hi).1 (by omega) with d | ⟨i, d1, d2⟩
    · omega
    · have := a3 i j (by omega) (by omega) j2
      omega
  -- a page of [p, q] in an old run: that run is among the merged ones
  have inm : ∀ (x i : Int), p ≤ x → x ≤ q → 0 ≤ i → i < n → f i ≤ x → x ≤ t i → a ≤ i ∧ i < b := by
    intro x i x1 x2 i0 i1 y1 y2
    refine ⟨Int.not_lt.mp (fun z => ?_), Int.not_le.mp (fun z => ?_)⟩
    · have := h2 i i0 z; omega
    · have := far i z i1; omega
  refine ⟨by omega, fun i i0 i1 => ?_, fun i j i0 ij j1 => ?_, fun x => ?_, fun i i0 i1 => ?_⟩
  · by_cases c : i < a
    · rw [mrg_lo c, mrg_lo c]; exact a2 i i0 (by omega)
    · by_cases c2 : i = a
      · subst c2; rw [mrg_at, mrg_at]; omega
      · rw [mrg_hi (by omega) i1, mrg_hi (by omega) i1]; exact a2 _ (by omega) (by omega)
  · by_cases c : i < a
    · rw [mrg_lo c]
      by_cases d : j < a
      · rw [mrg_lo d]; exact a3 i j i0 ij (by omega)
      · by_cases d2 : j = a
        · subst d2; rw [mrg_at]; exact lo_f i i0 c
        · rw [mrg_hi (by omega) j1]; exact a3 i _ i0 (by omega) (by omega)
    · by_cases c2 : i = a
      · subst c2
        rw [mrg_at, mrg_hi (by omega) j1]
        exact hi_f _ (by omega) (by omega)
      · rw [mrg_hi (by omega) (by omega), mrg_hi (by omega) j1]
        exact a3 _ _ (by omega) (by omega) (by omega)
  · rw [tadd_ne]
    constructor
    · intro z
      rcases z with z | z
      · refine ⟨a, by omega, ?_⟩
        rw [mrg_at, mrg_at]
        exact (h5 x).2 (Or.inl z)
      · obtain ⟨i, y1, y2⟩ := (a4 x).1 z
        by_cases c : i < a
        · exact ⟨i, by omega, by rw [mrg_lo c, mrg_lo c]; exact y2⟩
        · by_cases c2 : i < b
          · refine ⟨a, by omega, ?_⟩
            rw [mrg_at, mrg_at]
            exact (h5 x).2 (Or.inr ⟨i, by omega, y2⟩)
          · refine ⟨a + 1 + (i - b), by omega, ?_⟩
            rw [mrg_hi (by omega) (by omega), mrg_hi (by omega) (by omega), show b + (a + 1 + (i - b) - (a + 1)) = i by omega]
            exact y2
    · rintro ⟨i, y1, y2⟩
      by_cases c : i < a
      · rw [mrg_lo c, mrg_lo c] at y2
        exact Or.inr ((a4 x).2 ⟨i, by omega, y2⟩)
      · by_cases c2 : i = a
        · subst c2
          rw [mrg_at, mrg_at] at y2
          rcases (h5 x).1 y2 with d | ⟨j, d1, d2⟩
          · exact Or.inl d
          · exact Or.inr ((a4 x).2 ⟨j, by omega, d2⟩)
        · rw [mrg_hi (by omega) (by omega), mrg_hi (by omega) (by omega)] at y2
          exact Or.inr ((a4 x).2 ⟨_, by omega, y2⟩)
  · have old : ∀ j : Int, 0 ≤ j → j < n → (∀ x : Int, f j ≤ x → x ≤ t j → ¬ (p ≤ x ∧ x ≤ q)) → (m j = 0 ∧ ∀ x : Int, f j ≤ x → x ≤ t j → tadd T p q mn x ≠ 3) ∨ (m j = 1 ∧ ∃ x : Int, f j ≤ x ∧ x ≤ t j ∧ tadd T p q mn x = 3) := by
      intro j j0 j1 hno
      rcases a5 j j0 j1 with ⟨y1, y2⟩ | ⟨y1, x, y2, y3, y4⟩
      · exact Or.inl ⟨y1, fun x x1 x2 => by rw [tadd_out (hno x x1 x2)]; exact y2 x x1 x2⟩
      · exact Or.inr ⟨y1, x, y2, y3, tadd_3.2 (Or.inr y4)⟩
    by_cases c : i < a
    · rw [mrg_lo c, mrg_lo c, mrg_lo c]
      exact old i i0 (by omega) (fun x x1 x2 z => by have := h2 i i0 c; omega)
    · by_cases c2 : i = a
      · subst c2
        rw [mrg_at, mrg_at, mrg_at]
        rcases h6 with ⟨d1, d2, d3⟩ | ⟨d1, d2⟩
        · refine Or.inl ⟨d1, fun x x1 x2 z => ?_⟩
          rcases tadd_3.1 z with z | z
          · exact z.2 d2
          · obtain ⟨j, y1, y2⟩ := (a4 x).1 (by rw [z]; decide)
            have hj : i ≤ j ∧ j < b := by
              rcases (h5 x).1 ⟨x1, x2⟩ with e | ⟨j', e1, e2⟩
              · exact inm x j e.1 e.2 y1.1 y1.2 y2.1 y2.2
              · have e3 : j = j' := by
                  rcases Int.lt_trichotomy j j' with l | l | l
                  · have := a3 j j' y1.1 l (by omega); omega
                  · exact l
                  · have := a3 j' j (by omega) l y1.2; omega
                omega
            rcases a5 j y1.1 y1.2 with ⟨w1, w2⟩ | ⟨w1, _⟩
            · exact w2 x y2.1 y2.2 z
            · have := d3 j hj.1 hj.2; omega
        · refine Or.inr ⟨d1, ?_⟩
          rcases d2 with d2 | ⟨j, y1, y2, y3⟩
          · exact ⟨p, by omega, by omega, tadd_3.2 (Or.inl ⟨by omega, by omega⟩)⟩
          · rcases a5 j (by omega) (by omega) with ⟨w1, _⟩ | ⟨_, x, w2, w3, w4⟩
            · omega
            · have := (h5 x).2 (Or.inr ⟨j, ⟨y1, y2⟩, w2, w3⟩)
              exact ⟨x, this.1, this.2, tadd_3.2 (Or.inr w4)⟩
      · rw [mrg_hi (by omega) i1, mrg_hi (by omega) i1, mrg_hi (by omega) i1]
        exact old _ (by omega) (by omega) (fun x x1 x2 z => by have := far (b + (i - (a + 1))) (by omega) (by omega); omega)
theorem c_min {σ : Sg} {post : Po} {a b : Int} (ra : rng a) (rb : rng b) (hp : ∀ z : Int, (z = a ∧ a ≤ b) ∨ (z = b ∧ b ≤ a) → post (some (vi z)) σ) : Cl mJ9_min_7cf53 [vi a, vi b] σ post :=
  EJ9_min_7cf53 (by
    refine ⟨ra, rb, ?_⟩
    first
    | exact ⟨fun q => hp _ (by omega), fun q => hp _ (by omega)⟩
    | exact ⟨fun q => hp _ (Or.inl ⟨rfl, by omega⟩), fun q => hp _ (Or.inr ⟨rfl, by omega⟩)⟩)
theorem c_max {σ : Sg} {post : Po} {a b : Int} (ra : rng a) (rb : rng b) (hp : ∀ z : Int, (z = a ∧ b ≤ a) ∨ (z = b ∧ a ≤ b) → post (some (vi z)) σ) : Cl mJ9_max_7cf53 [vi a, vi b] σ post :=
  EJ9_max_7cf53 (by
    refine ⟨ra, rb, ?_⟩
    first
    | exact ⟨fun q => hp _ (by omega), fun q => hp _ (by omega)⟩
    | exact ⟨fun q => hp _ (Or.inl ⟨rfl, by omega⟩), fun q => hp _ (Or.inr ⟨rfl, by omega⟩)⟩)
theorem c_put {σ : Sg} {post : Po} {k : Nat} {p q mn : Int} {T : Int → Int} (hk : shp[k]? = some (0, 7, 4)) (hA : AR (σ (k + 1)) (σ (k + 2)) (σ (k + 3)) (σ k 0) T) (hpq : 1 ≤ p ∧ p ≤ q ∧ q ≤ 99) (hmn : mn = 0 ∨ mn = 1) (hp : ∀ σ' : Sg, Fr [k, k + 1, k + 2, k + 3] σ σ' → AR (σ' (k + 1)) (σ' (k + 2)) (σ' (k + 3)) (σ' k 0) (tadd T p q mn) → post none σ') : Cl mX7_put [vr k, vi p, vi q, vi mn] σ post := by
  refine EX7_put hk ?_
  have a1 := hA.1
  have h50 := AR_50 hA
  have fin : ∀ (a b lo hi sm : Int), L2 (σ (k + 1)) (σ (k + 2)) (σ (k + 3)) (σ k 0) p q mn a b lo hi sm → (σ k 0 ≤ b ∨ q + 1 < σ (k + 1) b) → ∀ τ1 : Sg, τ1 = (st σ (k + 1) (cpR (σ (k + 1)) (σ (k + 1)) b (a + 1) (σ k 0 - b))) → ∀ τ2 : Sg, τ2 = (st τ1 (k + 2) (cpR (τ1 (k + 2)) (τ1 (k + 2)) b (a + 1) (σ k 0 - b))) → ∀ τ3 : Sg, τ3 = (st τ2 (k + 3) (cpR (τ2 (k + 3)) (τ2 (k + 3)) b (a + 1) (σ k 0 - b))) → post none (up (up (up (up τ3 (k + 1) a lo) (k + 2) a hi) (k + 3) a sm) k 0 (a + 1 + (σ k 0 - b))) := by
    intro a b lo hi sm h2 he τ1 e1 τ2 e2 τ3 e3
    have m0 : k ∈ [k, k + 1, k + 2, k + 3] := by simp
    have m1 : k + 1 ∈ [k, k + 1, k + 2, k + 3] := by simp
    have m2 : k + 2 ∈ [k, k + 1, k + 2, k + 3] := by simp
    have m3 : k + 3 ∈ [k, k + 1, k + 2, k + 3] := by simp
    refine hp _ (((((Fr.u (Fr.u (Fr.u (Fr.u (σ' := τ3) ?_ m1) m2) m3) m0))))) ?_
    · rw [e3, e2, e1]
      exact Fr.s (Fr.s (Fr.s Fr.rf m1) m2) m3
    · have r1 : up (up (up (up τ3 (k + 1) a lo) (k + 2) a hi) (k + 3) a sm) k 0 (a + 1 + (σ k 0 - b)) (k + 1) = mrg (σ (k + 1)) (σ k 0) a b lo := by
        rw [up_r (by omega), up_r (by omega), up_r (by omega), up_k, e3, st_ne (by omega), e2, st_ne (by omega), e1, st_self]; rfl
      have r2 : up (up (up (up τ3 (k + 1) a lo) (k + 2) a hi) (k + 3) a sm) k 0 (a + 1 + (σ k 0 - b)) (k + 2) = mrg (σ (k + 2)) (σ k 0) a b hi := by
        rw [up_r (by omega), up_r (by omega), up_k, up_r (by omega), e3, st_ne (by omega), e2, st_self, e1, st_ne (by omega)]; rfl
      have r3 : up (up (up (up τ3 (k + 1) a lo) (k + 2) a hi) (k + 3) a sm) k 0 (a + 1 + (σ k 0 - b)) (k + 3) = mrg (σ (k + 3)) (σ k 0) a b sm := by
        rw [up_r (by omega), up_k, up_r (by omega), up_r (by omega), e3, st_self, e2, st_ne (by omega), e1, st_ne (by omega)]; rfl
      rw [r1, r2, r3, up_s]
      exact AR_put hA hpq hmn h2 he
  have loop2 : ∀ (nn : Nat) (a b lo hi sm : Int), b + nn = σ k 0 → L2 (σ (k + 1)) (σ (k + 2)) (σ (k + 3)) (σ k 0) p q mn a b lo hi sm → V mX7_put 44 [some (vr k), none, some (vi q), none, some (vi a), some (vi b), some (vi lo), some (vi hi), some (vi sm), none] [] σ post := by
    intro nn
    induction nn with
    | zero =>
      intro a b lo hi sm hb h2
      have y1 := h2.1
      have y6 : sm = 0 ∨ sm = 1 := h2.2.2.2.2.2.elim (fun z => Or.inl z.1) (fun z => Or.inr z.1)
      refine BX7_put_44 hk ⟨by omega, by omega, fun _ => ⟨by omega, fun _ => ⟨by omega, fun τ1 e1 => ⟨by omega, fun τ2 e2 => ⟨by omega, fun τ3 e3 => ⟨by omega, by omega, fin a b lo hi sm h2 (by omega) τ1 e1 τ2 e2 τ3 e3⟩⟩⟩⟩, fun z => absurd (by omega) z⟩, fun z => absurd (by omega) z⟩
    | succ nn ih =>
      intro a b lo hi sm hb h2
      have y1 := h2.1
      have y4 := h2.2.2.2.1
      have y6 : sm = 0 ∨ sm = 1 := h2.2.2.2.2.2.elim (fun z => Or.inl z.1) (fun z => Or.inr z.1)
      have w := hA.2.1 b (by omega) (by omega)
      have w5 : σ (k + 3) b = 0 ∨ σ (k + 3) b = 1 := (hA.2.2.2.2 b (by omega) (by omega)).elim (fun z => Or.inl z.1) (fun z => Or.inr z.1)
      refine BX7_put_44 hk ⟨by omega, by omega, fun z => absurd z (by omega), fun _ => ⟨by omega, by omega, by omega, fun c => ⟨by omega, fun _ => ⟨by omega, fun τ1 e1 => ⟨by omega, fun τ2 e2 => ⟨by omega, fun τ3 e3 => ⟨by omega, by omega, fin a b lo hi sm h2 (by omega) τ1 e1 τ2 e2 τ3 e3⟩⟩⟩⟩, fun z => absurd (by omega) z⟩, fun c => ?_⟩⟩
      refine c_min (by omega) (by omega) (fun z7 d7 => ⟨_, rfl, c_max (by omega) (by omega) (fun z8 d8 => ⟨_, rfl, by omega, fun c2 => ?_, fun c2 => ⟨by omega, fun c3 => ?_, fun c3 => ?_⟩⟩)⟩)
      · exact ih a (b + 1) z7 z8 1 (by omega) (L2_s hA h2 (by omega) (by omega) (by omega) (by omega) (by omega))
      · exact ih a (b + 1) z7 z8 0 (by omega) (L2_s hA h2 (by omega) (by omega) (by omega) (by omega) (by omega))
      · exact ih a (b + 1) z7 z8 1 (by omega) (L2_s hA h2 (by omega) (by omega) (by omega) (by omega) (by omega))
  have loop1 : ∀ (nn : Nat) (a : Int), 0 ≤ a → a + nn = σ k 0 → (∀ i : Int, 0 ≤ i → i < a → σ (k + 2) i + 1 < p) → V mX7_put 3 [some (vr k), some (vi p), some (vi q), some (vi mn), some (vi a), none, none, none, none, none] [] σ post := by
    intro nn
    induction nn with
    | zero =>
      intro a a0 ha h1
      refine BX7_put_3 hk ⟨by omega, by omega, fun _ => ?_, fun z => absurd (by omega) z⟩
      exact loop2 0 a a p q mn (by omega) (L2_0 hpq hmn (by omega) h1 (fun i i0 i1 => by omega))
    | succ nn ih =>
      intro a a0 ha h1
      have w := hA.2.1 a (by omega) (by omega)
      refine BX7_put_3 hk ⟨by omega, by omega, fun z => absurd z (by omega), fun _ => ⟨by omega, by omega, by omega, fun c => ?_, fun c => ?_⟩⟩
      · refine loop2 (nn + 1) a a p q mn (by omega) (L2_0 hpq hmn (by omega) h1 (fun i i0 i1 => ?_))
        by_cases e : i = a
        · subst e; exact c
        · have := hA.2.2.1 a i (by omega) (by omega) i1
          have := hA.2.1 i (by omega) i1
          omega
      · refine ih (a + 1) (by omega) (by omega) (fun i i0 i1 => ?_)
        by_cases e : i = a
        · subst e; omega
        · exact h1 i i0 (by omega)
  exact loop1 (σ k 0).toNat 0 (by omega) (by omega) (fun i i0 i1 => by omega)
