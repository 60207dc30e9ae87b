/-! ===== PURE HALF, by hand: the text, places in it, on both sides ===== -/
def isL (c : Int) : Bool := decide ((97 ≤ c ∧ c ≤ 122) ∨ c = 95)
def isF (c : Int) : Bool := decide (48 ≤ c ∧ c ≤ 57)
def isB (c : Int) : Bool := decide (c = 32)
def skp (f : Int → Bool) (t : Int → Int) (N : Int) : Nat → Int → Int
  | 0, p => p
  | n + 1, p => if p < N ∧ f (t p) = true then skp f t N n (p + 1) else p
def sk (f : Int → Bool) (t : Int → Int) (N p : Int) : Int := skp f t N (N - p).toNat p
theorem sk_stop {f : Int → Bool} {t : Int → Int} {N p : Int} (h : ¬ (p < N ∧ f (t p) = true)) : sk f t N p = p := by
  unfold sk
  cases (N - p).toNat with
  | zero => rfl
  | succ n => rw [skp, if_neg h]
theorem sk_go {f : Int → Bool} {t : Int → Int} {N p : Int} (h1 : p < N) (h2 : f (t p) = true) : sk f t N p = sk f t N (p + 1) := by
  unfold sk
  rw [show (N - p).toNat = (N - (p + 1)).toNat + 1 by omega, skp, if_pos ⟨h1, h2⟩]
theorem sk_all {f : Int → Bool} {t : Int → Int} {N : Int} : ∀ (n : Nat) (p : Int), p + n = N → (p ≤ sk f t N p ∧ sk f t N p ≤ N) ∧ (∀ i : Int, p ≤ i → i < sk f t N p → f (t i) = true) ∧ (sk f t N p < N → ¬ f (t (sk f t N p)) = true)
  | 0, p, h => by
    rw [sk_stop (by omega)]
    exact ⟨by omega, fun i a b => by omega, fun z => by omega⟩
  | n + 1, p, h => by
    by_cases c : f (t p) = true
    · obtain ⟨a, b, d⟩ := sk_all (f := f) (t := t) (N := N) n (p + 1) (by omega)
      rw [sk_go (by omega) c]
      refine ⟨by omega, fun i i0 i1 => ?_, d⟩
      by_cases e : i = p
      · rw [e]; exact c
      · exact b i (by omega) i1
    · rw [sk_stop (fun z => c z.2)]
      exact ⟨by omega, fun i a b => by omega, fun _ => c⟩
theorem sk_b {f : Int → Bool} {t : Int → Int} {N p : Int} (hp : p ≤ N) : p ≤ sk f t N p ∧ sk f t N p ≤ N := (sk_all (N - p).toNat p (by omega)).1
def tsg (c : Int) : Int := if c < 128 then c else c - 256
theorem tsg_e {c x : Int} (c0 : 0 ≤ c ∧ c ≤ 255) (x0 : 0 ≤ x ∧ x < 128) : tsg c = x ↔ c = x := by
  unfold tsg
  split <;> omega
theorem tsg_r {c : Int} (c0 : 0 ≤ c ∧ c ≤ 255) : -128 ≤ tsg c ∧ tsg c ≤ 127 := by
  unfold tsg
  split <;> omega
theorem isL_t {c : Int} (c0 : 0 ≤ c ∧ c ≤ 255) : isL (tsg c) = isL c := by
  unfold isL tsg
  split
  · rfl
  · rw [decide_eq_false (by omega), decide_eq_false (by omega)]
theorem isF_t {c : Int} (c0 : 0 ≤ c ∧ c ≤ 255) : isF (tsg c) = isF c := by
  unfold isF tsg
  split
  · rfl
  · rw [decide_eq_false (by omega), decide_eq_false (by omega)]
theorem isL_iff {c : Int} : isL c = true ↔ (97 ≤ c ∧ c ≤ 122) ∨ c = 95 := by unfold isL; rw [decide_eq_true_iff]
theorem isF_iff {c : Int} : isF c = true ↔ 48 ≤ c ∧ c ≤ 57 := by unfold isF; rw [decide_eq_true_iff]
theorem isB_iff {c : Int} : isB c = true ↔ c = 32 := by unfold isB; rw [decide_eq_true_iff]
/-- bytes of a text -/
def okT (t : Int → Int) (N : Int) : Prop := (0 ≤ N ∧ N ≤ 600) ∧ ∀ i : Int, 0 ≤ i → i < N → 0 ≤ t i ∧ t i ≤ 255
/-- the class's text; its place alone changes -/
def CT (σ : Sg) (t : Int → Int) (N : Int) : Prop := σ 3 0 = N ∧ ∀ i : Int, 0 ≤ i → i < N → σ 4 i = tsg (t i)
def P4 (σ σ' : Sg) : Prop := (∀ k, k ≠ 3 → σ' k = σ k) ∧ ∀ j : Int, j ≠ 4 → σ' 3 j = σ 3 j
theorem P4.rf {σ : Sg} : P4 σ σ := ⟨fun _ _ => rfl, fun _ _ => rfl⟩
theorem P4.tr {a b c : Sg} (h : P4 a b) (h2 : P4 b c) : P4 a c := ⟨fun k hk => (h2.1 k hk).trans (h.1 k hk), fun j hj => (h2.2 j hj).trans (h.2 j hj)⟩
theorem P4.u {σ σ' : Sg} {v : Int} (h : P4 σ σ') : P4 σ (up σ' 3 4 v) := ⟨fun k hk => (up_r hk).trans (h.1 k hk), fun j hj => (up_f hj).trans (h.2 j hj)⟩
theorem CT.p4 {σ σ' : Sg} {t : Int → Int} {N : Int} (h : CT σ t N) (hP : P4 σ σ') : CT σ' t N := by
  unfold CT
  rw [hP.2 0 (by decide), hP.1 4 (by decide)]
  exact h
theorem c_isLetter {σ : Sg} {post : Po} {x : Int} (rx : rng x) (ht : isL x = true → post (some (vi 1)) σ) (hf : ¬ isL x = true → post (some (vi 0)) σ) : Cl mX5_isLetter [vi x] σ post := by
  rw [isL_iff] at ht hf
  exact EX5_isLetter ⟨rx, fun c => ⟨fun d => hf (by omega), fun d => ht (by omega)⟩, fun c => ⟨fun d => ht (by omega), fun d => ⟨fun e => hf (by omega), fun e => ht (by omega)⟩⟩⟩
theorem c_isFigure {σ : Sg} {post : Po} {x : Int} (rx : rng x) (ht : isF x = true → post (some (vi 1)) σ) (hf : ¬ isF x = true → post (some (vi 0)) σ) : Cl mX5_isFigure [vi x] σ post := by
  rw [isF_iff] at ht hf
  exact EX5_isFigure ⟨rx, fun c => hf (by omega), fun c => ⟨fun d => hf (by omega), fun d => ht (by omega)⟩⟩
theorem c_skipBlanks {σ : Sg} {post : Po} {t : Int → Int} {N p : Int} (hN : okT t N) (hT : CT σ t N) (h4 : σ 3 4 = p) (p0 : 0 ≤ p) (p1 : p ≤ N) (hp : ∀ σ' : Sg, P4 σ σ' → σ' 3 4 = sk isB t N p → post none σ') : Cl mX5_skipBlanks [vr 3] σ post := by
  have loop : ∀ (n : Nat) (x : Int) (τ : Sg), x + n = N → 0 ≤ x → P4 σ τ → τ 3 4 = x → sk isB t N x = sk isB t N p → V mX5_skipBlanks 0 [some (vr 3)] [] τ post := by
    intro n
    induction n with
    | zero =>
      intro x τ hx x0 hP e hs
      have e0 := (hT.p4 hP).1
      have n1 := hN.1
      refine BX5_skipBlanks_0 ⟨by omega, by omega, fun _ => hp τ hP ?_, fun c => absurd (by omega) c⟩
      rw [← hs, sk_stop (by omega)]
      exact e
    | succ n ih =>
      intro x τ hx x0 hP e hs
      obtain ⟨e0, et⟩ := hT.p4 hP
      have n1 := hN.1
      have b := hN.2 x x0 (by omega)
      have r := tsg_r b
      have eq := tsg_e b (x := 32) (by decide)
      refine BX5_skipBlanks_0 ⟨by omega, by omega, fun c => absurd c (by omega), fun _ => ⟨by omega, ?_⟩⟩
      rw [e, et x x0 (by omega)]
      refine ⟨by omega, fun c => hp τ hP ?_, fun c => ih (x + 1) _ (by omega) (by omega) hP.u up_s ?_⟩
      · rw [← hs, sk_stop (fun z => c (eq.2 (isB_iff.1 z.2)))]
        exact e
      · rw [← hs, sk_go (by omega) (isB_iff.2 (eq.1 c))]
  exact Cl_of [some (vr 3)] (by decide) (SubL_s SubL_0) (fun ad => Nat.le_refl _) (loop (N - p).toNat p σ (by omega) p0 P4.rf h4 rfl)
theorem c_skipWord {σ : Sg} {post : Po} {t : Int → Int} {N p : Int} (hN : okT t N) (hT : CT σ t N) (h4 : σ 3 4 = p) (p0 : 0 ≤ p) (p1 : p ≤ N) (hp : ∀ σ' : Sg, P4 σ σ' → σ' 3 4 = sk isL t N p → post none σ') : Cl mX5_skipWord [vr 3] σ post := by
  have loop : ∀ (n : Nat) (x : Int) (τ : Sg), x + n = N → 0 ≤ x → P4 σ τ → τ 3 4 = x → sk isL t N x = sk isL t N p → V mX5_skipWord 0 [some (vr 3)] [] τ post := by
    intro n
    induction n with
    | zero =>
      intro x τ hx x0 hP e hs
      have e0 := (hT.p4 hP).1
      have n1 := hN.1
      refine BX5_skipWord_0 ⟨by omega, by omega, fun _ => hp τ hP ?_, fun c => absurd (by omega) c⟩
      rw [← hs, sk_stop (by omega)]
      exact e
    | succ n ih =>
      intro x τ hx x0 hP e hs
      obtain ⟨e0, et⟩ := hT.p4 hP
      have n1 := hN.1
      have b := hN.2 x x0 (by omega)
      have r := tsg_r b
      refine BX5_skipWord_0 ⟨by omega, by omega, fun c => absurd c (by omega), fun _ => ⟨by omega, ?_⟩⟩
      rw [e, et x x0 (by omega)]
      refine c_isLetter (by omega) (fun c => ⟨_, rfl, b1' ?_⟩) (fun c => ⟨_, rfl, b0' (hp τ hP ?_)⟩)
      · rw [isL_t b] at c
        rw [e]
        exact ih (x + 1) _ (by omega) (by omega) hP.u up_s (by rw [← hs, sk_go (by omega) c])
      · rw [isL_t b] at c
        rw [← hs, sk_stop (fun z => c z.2)]
        exact e
  exact Cl_of [some (vr 3)] (by decide) (SubL_s SubL_0) (fun ad => Nat.le_refl _) (loop (N - p).toNat p σ (by omega) p0 P4.rf h4 rfl)
theorem c_skipNumber {σ : Sg} {post : Po} {t : Int → Int} {N p : Int} (hN : okT t N) (hT : CT σ t N) (h4 : σ 3 4 = p) (p0 : 0 ≤ p) (p1 : p ≤ N) (hp : ∀ σ' : Sg, P4 σ σ' → σ' 3 4 = sk isF t N p → post none σ') : Cl mX5_skipNumber [vr 3] σ post := by
  have loop : ∀ (n : Nat) (x : Int) (τ : Sg), x + n = N → 0 ≤ x → P4 σ τ → τ 3 4 = x → sk isF t N x = sk isF t N p → V mX5_skipNumber 0 [some (vr 3)] [] τ post := by
    intro n
    induction n with
    | zero =>
      intro x τ hx x0 hP e hs
      have e0 := (hT.p4 hP).1
      have n1 := hN.1
      refine BX5_skipNumber_0 ⟨by omega, by omega, fun _ => hp τ hP ?_, fun c => absurd (by omega) c⟩
      rw [← hs, sk_stop (by omega)]
      exact e
    | succ n ih =>
      intro x τ hx x0 hP e hs
      obtain ⟨e0, et⟩ := hT.p4 hP
      have n1 := hN.1
      have b := hN.2 x x0 (by omega)
      have r := tsg_r b
      refine BX5_skipNumber_0 ⟨by omega, by omega, fun c => absurd c (by omega), fun _ => ⟨by omega, ?_⟩⟩
      rw [e, et x x0 (by omega)]
      refine c_isFigure (by omega) (fun c => ⟨_, rfl, b1' ?_⟩) (fun c => ⟨_, rfl, b0' (hp τ hP ?_)⟩)
      · rw [isF_t b] at c
        rw [e]
        exact ih (x + 1) _ (by omega) (by omega) hP.u up_s (by rw [← hs, sk_go (by omega) c])
      · rw [isF_t b] at c
        rw [← hs, sk_stop (fun z => c z.2)]
        exact e
  exact Cl_of [some (vr 3)] (by decide) (SubL_s SubL_0) (fun ad => Nat.le_refl _) (loop (N - p).toNat p σ (by omega) p0 P4.rf h4 rfl)
/-- the byte at a place, or 0 behind the end -/
theorem c_byteHere {σ : Sg} {post : Po} {t : Int → Int} {N p : Int} (hN : okT t N) (hT : CT σ t N) (h4 : σ 3 4 = p) (p0 : 0 ≤ p) (p1 : p ≤ N) (hp : ∀ z : Int, rng z → ((z = 0 ∧ p = N) ∨ (z = tsg (t p) ∧ p < N)) → post (some (vi z)) σ) : Cl mX5_byteHere [vr 3] σ post := by
  obtain ⟨e0, et⟩ := hT
  have n1 := hN.1
  refine EX5_byteHere ⟨by omega, by omega, fun c => hp 0 (by decide) (Or.inl ⟨rfl, by omega⟩), fun c => ⟨by omega, ?_⟩⟩
  have r := tsg_r (hN.2 p p0 (by omega))
  rw [h4, et p p0 (by omega)]
  exact hp _ (by omega) (Or.inr ⟨rfl, by omega⟩)
/-- whether there is a byte of a kind -/
def at_ (f : Int → Bool) (t : Int → Int) (N p : Int) : Prop := p < N ∧ f (t p) = true
theorem bh_L {t : Int → Int} {N p z : Int} (hN : okT t N) (p0 : 0 ≤ p) (hz : (z = 0 ∧ p = N) ∨ (z = tsg (t p) ∧ p < N)) : isL z = true ↔ at_ isL t N p := by
  unfold at_
  rcases hz with ⟨a, b⟩ | ⟨a, b⟩
  · subst a
    rw [isL_iff]
    constructor <;> intro h <;> omega
  · subst a
    rw [isL_t (hN.2 p p0 b)]
    constructor
    · intro h; exact ⟨b, h⟩
    · intro h; exact h.2
theorem bh_F {t : Int → Int} {N p z : Int} (hN : okT t N) (p0 : 0 ≤ p) (hz : (z = 0 ∧ p = N) ∨ (z = tsg (t p) ∧ p < N)) : isF z = true ↔ at_ isF t N p := by
  unfold at_
  rcases hz with ⟨a, b⟩ | ⟨a, b⟩
  · subst a
    rw [isF_iff]
    constructor <;> intro h <;> omega
  · subst a
    rw [isF_t (hN.2 p p0 b)]
    constructor
    · intro h; exact ⟨b, h⟩
    · intro h; exact h.2
theorem bh_c {t : Int → Int} {N p z x : Int} (hN : okT t N) (p0 : 0 ≤ p) (x0 : 0 < x ∧ x < 128) (hz : (z = 0 ∧ p = N) ∨ (z = tsg (t p) ∧ p < N)) : z = x ↔ (p < N ∧ t p = x) := by
  rcases hz with ⟨a, b⟩ | ⟨a, b⟩
  · constructor <;> intro h <;> omega
  · have := tsg_e (hN.2 p p0 b) (x := x) (by omega)
    subst a
    rw [this]
    constructor
    · intro h; exact ⟨b, h⟩
    · intro h; exact h.2
/-- a word told at a place -/
def isWd (t : Int → Int) (q e : Int) (u : List Int) : Prop := e - q = u.length ∧ ∀ i : Nat, i < u.length → t (q + i) = u.getD i 0
theorem tx_tab2 : ∀ i : Nat, i < 9 → (slI i = slen.getD i 0 ∧ slen.getD i 0 ≤ 11) ∧ ∀ j : Nat, j < slen.getD i 0 → 0 ≤ scI i (j : Int) ∧ scI i (j : Int) < 128 := by decide +kernel
theorem txB_gd {i j : Nat} (hj : j < slen.getD i 0) : (txB i).getD j 0 = scI i (j : Int) := by
  unfold txB txN
  rw [List.getD_eq_getElem?_getD, List.getElem?_map, List.getElem?_range hj]
  rfl
theorem c_isWord {σ : Sg} {post : Po} {t : Int → Int} {N q e : Int} {i : Nat} (hN : okT t N) (hT : CT σ t N) (hi : i < 9) (q0 : 0 ≤ q) (qe : q ≤ e) (eN : e ≤ N) (ht : isWd t q e (txB i) → post (some (vi 1)) σ) (hf : ¬ isWd t q e (txB i) → post (some (vi 0)) σ) : Cl mX5_isWord [vr 3, vi q, vi e, vr (200 + i)] σ post := by
  obtain ⟨⟨a1, a2⟩, a3⟩ := tx_tab2 i hi
  have n1 := hN.1
  obtain ⟨e0, et⟩ := hT
  have len : (txB i).length = slen.getD i 0 := txN_len i _
  refine EX5_isWord hi ⟨by omega, by omega, fun c => ?_, fun c => hf (fun z => c (by rw [z.1, len, a1]))⟩
  have loop : ∀ (n j : Nat), j + n = slen.getD i 0 → (∀ k : Nat, k < j → t (q + k) = (txB i).getD k 0) → V mX5_isWord 15 [some (vr 3), some (vi q), none, some (vr (200 + i)), some (vi (j : Int))] [] σ post := by
    intro n
    induction n with
    | zero =>
      intro j hj hk
      exact BX5_isWord_15 hi ⟨by omega, by omega, fun _ => ht ⟨by omega, fun k hk2 => hk k (by omega)⟩, fun z => absurd (by omega) z⟩
    | succ n ih =>
      intro j hj hk
      have b := hN.2 (q + j) (by omega) (by omega)
      have r := tsg_r b
      have s := a3 j (by omega)
      have eq := tsg_e b (x := scI i (j : Int)) s
      refine BX5_isWord_15 hi ⟨by omega, by omega, fun z => absurd z (by omega), fun _ => ⟨by omega, by omega, ?_⟩⟩
      rw [et (q + j) (by omega) (by omega)]
      refine ⟨by omega, by omega, fun c2 => ih (j + 1) (by omega) (fun k hk2 => ?_), fun c2 => hf (fun z => c2 (eq.2 ?_))⟩
      · by_cases d : k = j
        · rw [d, txB_gd (by omega)]; exact eq.1 c2
        · exact hk k (by omega)
      · rw [z.2 j (by omega), txB_gd (by omega)]
  exact loop (slen.getD i 0) 0 (by omega) (fun k hk => by omega)
def fitW (t : Int → Int) (q e : Int) : Prop := e - q ≤ 12 ∧ t q ≠ 95 ∧ t (e - 1) ≠ 95 ∧ ∀ i : Int, q + 1 ≤ i → i < e → ¬ (t i = 95 ∧ t (i - 1) = 95)
theorem c_isFit {σ : Sg} {post : Po} {t : Int → Int} {N q e : Int} (hN : okT t N) (hT : CT σ t N) (q0 : 0 ≤ q) (qe : q < e) (eN : e ≤ N) (ht : fitW t q e → post (some (vi 1)) σ) (hf : ¬ fitW t q e → post (some (vi 0)) σ) : Cl mX5_isFit [vr 3, vi q, vi e] σ post := by
  have n1 := hN.1
  obtain ⟨e0, et⟩ := hT
  have bt : ∀ i : Int, q ≤ i → i < e → rng (σ 4 i) ∧ (σ 4 i = 95 ↔ t i = 95) := fun i a b => by
    have b2 := hN.2 i (by omega) (by omega)
    have r := tsg_r b2
    rw [et i (by omega) (by omega)]
    exact ⟨by omega, tsg_e b2 (by decide)⟩
  have b1 := bt q (by omega) qe
  have b2 := bt (e - 1) (by omega) (by omega)
  refine EX5_isFit ⟨by omega, fun c => hf (fun z => by have := z.1; omega), fun c => ⟨by omega, b1.1, fun c2 => hf (fun z => z.2.1 (b1.2.1 c2)), fun c2 => ⟨by omega, b2.1, fun c3 => ?_, fun c3 => hf (fun z => z.2.2.1 (b2.2.1 c3))⟩⟩⟩
  have loop : ∀ (n : Nat) (x : Int), x + n = e → q + 1 ≤ x → (∀ i : Int, q + 1 ≤ i → i < x → ¬ (t i = 95 ∧ t (i - 1) = 95)) → V mX5_isFit 38 [some (vr 3), none, some (vi e), some (vi x)] [] σ post := by
    intro n
    induction n with
    | zero =>
      intro x hx x0 hk
      exact BX5_isFit_38 ⟨by omega, by omega, fun _ => ht ⟨by omega, fun z => c2 (b1.2.2 z), fun z => c3 (b2.2.2 z), fun i a b => hk i a (by omega)⟩, fun z => absurd (by omega) z⟩
    | succ n ih =>
      intro x hx x0 hk
      have y1 := bt x (by omega) (by omega)
      have y2 := bt (x - 1) (by omega) (by omega)
      have go : ¬ (t x = 95 ∧ t (x - 1) = 95) → V mX5_isFit 38 [some (vr 3), none, some (vi e), some (vi (x + 1))] [] σ post := fun hno => ih (x + 1) (by omega) (by omega) (fun i a b => by
        by_cases d : i = x
        · rw [d]; exact hno
        · exact hk i a (by omega))
      exact BX5_isFit_38 ⟨by omega, by omega, fun z => absurd z (by omega), fun _ => ⟨by omega, y1.1, fun d => go (fun z => d (y1.2.2 z.1)), fun d => ⟨by omega, y2.1, fun d2 => go (fun z => d2 (y2.2.2 z.2)), fun d2 => hf (fun z => z.2.2.2 x x0 (by omega) ⟨y1.2.1 d, y2.2.1 d2⟩)⟩⟩⟩
  exact loop (e - (q + 1)).toNat (q + 1) (by omega) (by omega) (fun i a b => by omega)
def wdL (t : Int → Int) (q : Int) (n : Nat) : List Int := (List.range n).map (fun i : Nat => t (q + i) - 94)
theorem wdL_s (t : Int → Int) (q : Int) (n : Nat) : wdL t q (n + 1) = wdL t q n ++ [t (q + n) - 94] := by
  unfold wdL
  rw [List.range_succ, List.map_append]
  rfl
theorem wdL_len (t : Int → Int) (q : Int) (n : Nat) : (wdL t q n).length = n := by
  unfold wdL
  simp
theorem wdL_gd {t : Int → Int} {q : Int} {n i : Nat} (hi : i < n) : (wdL t q n).getD i 0 = t (q + i) - 94 := by
  unfold wdL
  rw [List.getD_eq_getElem?_getD, List.getElem?_map, List.getElem?_range hi]
  rfl
theorem wdL_b {t : Int → Int} {q e : Int} (hL : ∀ i : Int, q ≤ i → i < e → isL (t i) = true) {n : Nat} (hn : q + n ≤ e) : ∀ d ∈ wdL t q n, 1 ≤ d ∧ d ≤ 28 := by
  intro d hd
  unfold wdL at hd
  obtain ⟨i, hi, ed⟩ := List.mem_map.1 hd
  rw [List.mem_range] at hi
  have := isL_iff.1 (hL (q + i) (by omega) (by omega))
  omega
def pkW (t : Int → Int) (q e : Int) : Int := pkL (wdL t q (e - q).toNat)
theorem pkW_cd {t : Int → Int} {q e : Int} (hL : ∀ i : Int, q ≤ i → i < e → isL (t i) = true) (qe : q ≤ e) {i : Nat} (hi : i < 12) : cd (pkW t q e) i = if (i : Int) < e - q then t (q + i) - 94 else 0 := by
  unfold pkW
  rw [cd_pkL _ i (fun d hd => by have := wdL_b hL (n := (e - q).toNat) (by omega) d hd; omega) hi]
  by_cases c : (i : Int) < e - q
  · rw [if_pos c, wdL_gd (by omega)]
  · rw [if_neg c, List.getD_eq_getElem?_getD, List.getElem?_eq_none (by rw [wdL_len]; omega)]
    rfl
theorem pkW_ww {t : Int → Int} {q e : Int} (hL : ∀ i : Int, q ≤ i → i < e → isL (t i) = true) (qe : q < e) (q12 : e - q ≤ 12) : WW (pkW t q e) ∧ wlen (pkW t q e) = e - q := by
  have pb := pkL_b (wdL t q (e - q).toNat) (fun d hd => by have := wdL_b hL (n := (e - q).toNat) (by omega) d hd; omega)
  have nz : ∀ i : Nat, i < 12 → (cd (pkW t q e) i ≠ 0 ↔ (i : Int) < e - q) ∧ cd (pkW t q e) i ≤ 28 := fun i hi => by
    rw [pkW_cd hL (by omega) hi]
    by_cases c : (i : Int) < e - q
    · have := isL_iff.1 (hL (q + i) (by omega) (by omega))
      rw [if_pos c]
      exact ⟨⟨fun _ => c, fun _ => by omega⟩, by omega⟩
    · rw [if_neg c]
      exact ⟨⟨fun z => absurd rfl z, fun z => absurd z c⟩, by decide⟩
  have wl : wlen (pkW t q e) = e - q := by
    unfold wlen
    have e1 : cnt (fun i => decide (cd (pkW t q e) i ≠ 0)) 12 = cnt (fun i => decide (i < e - q)) 12 := cnt_congr 12 (fun i hi => by
      have := (nz i hi).1
      by_cases c : (i : Int) < e - q
      · rw [decide_eq_true (this.2 c), decide_eq_true c]
      · rw [decide_eq_false (fun z => c (this.1 z)), decide_eq_false c])
    rw [e1]
    have key : ∀ n : Nat, cnt (fun i => decide (i < e - q)) n = if (n : Int) ≤ e - q then (n : Int) else e - q := by
      intro n
      induction n with
      | zero => rw [cnt, if_pos (by omega)]; rfl
      | succ n ih =>
        rw [cnt_s, ih]
        by_cases c : (n : Int) < e - q
        · rw [show (if decide ((n : Int) < e - q) = true then (1 : Int) else 0) = 1 from if_pos (decide_eq_true c), if_pos (by omega), if_pos (by omega)]; omega
        · rw [show (if decide ((n : Int) < e - q) = true then (1 : Int) else 0) = 0 from if_neg (by rw [decide_eq_true_iff]; exact c), if_neg (show ¬ ((n + 1 : Nat) : Int) ≤ e - q by omega)]
          split <;> omega
    rw [key 12]
    split <;> omega
  refine ⟨⟨pb, by omega, fun i i0 i1 => ?_⟩, wl⟩
  have := nz i.toNat (by omega)
  rw [show ((i.toNat : Nat) : Int) = i by omega] at this
  rw [wl]
  exact ⟨⟨fun z => this.1.2 z, fun z => this.1.1 z⟩, this.2⟩
theorem c_packWord {σ : Sg} {post : Po} {t : Int → Int} {N q e : Int} (hN : okT t N) (hT : CT σ t N) (h4 : σ 3 4 = e) (q0 : 0 ≤ q) (qe : q ≤ e) (eN : e ≤ N) (q12 : e - q ≤ 12) (hL : ∀ i : Int, q ≤ i → i < e → isL (t i) = true) (hp : post (some (vl (pkW t q e))) σ) : Cl mX5_packWord [vr 3, vi q] σ post := by
  have n1 := hN.1
  obtain ⟨e0, et⟩ := hT
  refine EX5_packWord ?_
  have loop : ∀ (n j : Nat), q + j + n = e → V mX5_packWord 5 [some (vr 3), some (vi q), some (vl (pkL (wdL t q j))), none, some (vi (q + j))] [] σ post := by
    intro n
    induction n with
    | zero =>
      intro j hj
      refine BX5_packWord_5 ⟨by omega, by omega, fun _ => ?_, fun z => absurd (by omega) z⟩
      unfold pkW at hp
      rw [show (e - q).toNat = j by omega] at hp
      exact hp
    | succ n ih =>
      intro j hj
      have b := hN.2 (q + j) (by omega) (by omega)
      have l := isL_iff.1 (hL (q + j) (by omega) (by omega))
      have et2 : σ 4 (q + j) = t (q + j) := by
        rw [et (q + j) (by omega) (by omega)]
        unfold tsg
        rw [if_pos (by omega)]
      refine BX5_packWord_5 ⟨by omega, by omega, fun z => absurd z (by omega), fun _ => ⟨by omega, ?_⟩⟩
      rw [et2]
      refine c_codeAt (by omega) (by omega) (by omega) (by omega) ⟨_, rfl, ?_⟩
      have key := lOr_app (l := wdL t q j) (d := t (q + j) - 94) (by rw [wdL_len]; omega) (fun x hx => by have := wdL_b hL (n := j) (by omega) x hx; omega) (by omega) (by omega)
      rw [wdL_len] at key
      have step := ih (j + 1) (by omega)
      rw [wdL_s, ← key] at step
      show V mX5_packWord 5 [some (vr 3), some (vi q), some (vl (lOr (pkL (wdL t q j)) ((t (q + j) - 94) * 32 ^ (11 - (q + (j : Int) - q)).toNat))), none, some (vi (q + (j : Int) + 1))] [] σ post
      rw [show q + (j : Int) - q = j by omega, show q + (j : Int) + 1 = q + ((j + 1 : Nat) : Int) by omega]
      exact step
  have := loop (e - q).toNat 0 (by omega)
  rw [show q + ((0 : Nat) : Int) = q by omega] at this
  exact this
