/-! ===== PURE HALF, by hand: the reference's reader, words and numbers ===== -/
def RJs : List Int := [0, 7, 15, 16, 17, 18, 19, 20, 21, 22]
def RFr (σ0 σ : Sg) : Prop := (∀ c : Nat, c ≠ 94 → c < 95 ∨ 105 < c → σ c = σ0 c) ∧ ∀ j : Int, j ∉ RJs → σ 94 j = σ0 94 j
def RR (σ0 σ : Sg) (B : Sg) (s a k p : Int) : Prop := RFr σ0 σ ∧ (σ 94 18 = 0 ∧ σ 94 19 = -1) ∧ (σ 94 20 = s ∧ σ 94 21 = a ∧ σ 94 22 = k) ∧ σ 94 15 = p ∧ RA (bk σ 94) B
def RX (σ0 σ : Sg) (n q : Int) : Prop := RFr σ0 σ ∧ (σ 94 18 = n ∧ σ 94 19 = q) ∧ (1 ≤ n ∧ n ≤ 6)
def U0 (σ0 : Sg) (t : Int → Int) (N : Int) : Prop := okT t N ∧ σ0 94 14 = N ∧ ∀ i : Int, 0 ≤ i → i < N → σ0 106 i = t i
theorem RFr.t {σ0 σ : Sg} {t : Int → Int} {N : Int} (h : RFr σ0 σ) (hU : U0 σ0 t N) : σ 94 14 = N ∧ ∀ i : Int, 0 ≤ i → i < N → σ 106 i = t i := by
  refine ⟨(h.2 14 (by decide)).trans hU.2.1, fun i i0 i1 => ?_⟩
  rw [h.1 106 (by decide) (by decide)]
  exact hU.2.2 i i0 i1
theorem RFr.u {σ0 σ : Sg} {j v : Int} (h : RFr σ0 σ) (hj : j ∈ RJs) : RFr σ0 (up σ 94 j v) := ⟨fun c c4 cc => (up_r c4).trans (h.1 c c4 cc), fun i hi => (up_f (fun z => hi (by rw [z]; exact hj))).trans (h.2 i hi)⟩
theorem RFr.r {σ0 σ : Sg} {k : Nat} {j v : Int} (h : RFr σ0 σ) (k0 : 95 ≤ k) (k1 : k ≤ 105) : RFr σ0 (up σ k j v) := ⟨fun c c4 cc => (up_r (by omega)).trans (h.1 c c4 cc), fun i hi => (up_o (by omega)).trans (h.2 i hi)⟩
/-- what only places of the reader change -/
def Q4 (J : List Int) (σ σ' : Sg) : Prop := (∀ k, k ≠ 94 → σ' k = σ k) ∧ ∀ j : Int, j ∉ J → σ' 94 j = σ 94 j
theorem Q4.rf {J : List Int} {σ : Sg} : Q4 J σ σ := ⟨fun _ _ => rfl, fun _ _ => rfl⟩
theorem Q4.u {J : List Int} {σ σ' : Sg} {j v : Int} (h : Q4 J σ σ') (hj : j ∈ J) : Q4 J σ (up σ' 94 j v) := ⟨fun k hk => (up_r hk).trans (h.1 k hk), fun i hi => (up_f (fun z => hi (by rw [z]; exact hj))).trans (h.2 i hi)⟩
theorem Q4.tr {J : List Int} {a b c : Sg} (h : Q4 J a b) (h2 : Q4 J b c) : Q4 J a c := ⟨fun k hk => (h2.1 k hk).trans (h.1 k hk), fun j hj => (h2.2 j hj).trans (h.2 j hj)⟩
theorem Q4.mo {J K : List Int} {a b : Sg} (h : Q4 J a b) (hs : ∀ j, j ∈ J → j ∈ K) : Q4 K a b := ⟨h.1, fun j hj => h.2 j (fun z => hj (hs j z))⟩
theorem RR.q4 {σ0 σ σ' : Sg} {s a k p p' : Int} {B : Sg} (h : RR σ0 σ B s a k p) (hQ : Q4 [15, 16, 17] σ σ') (h15 : σ' 94 15 = p') : RR σ0 σ' B s a k p' := by
  obtain ⟨a1, a2, a3, a4, a5⟩ := h
  refine ⟨⟨fun c c4 cc => (hQ.1 c c4).trans (a1.1 c c4 cc), fun j hj => (hQ.2 j (fun z => hj (by unfold RJs; simp at z ⊢; omega))).trans (a1.2 j hj)⟩, ?_, ?_, h15, ?_⟩
  · rw [hQ.2 18 (by decide), hQ.2 19 (by decide)]; exact a2
  · rw [hQ.2 20 (by decide), hQ.2 21 (by decide), hQ.2 22 (by decide)]; exact a3
  · rw [bk94 (σ := σ) (σ' := σ') (hQ.2 0 (by decide)) (hQ.2 7 (by decide)) (fun c x y => hQ.1 c (by omega))]; exact a5
theorem r_wantT {σ0 σ : Sg} {post : Po} {s a k p x n q : Int} {B : Sg} (h : RR σ0 σ B s a k p) (rx : rng x) (hx : ¬ x = 0) (hp : post (some (vi 1)) σ) : Cl mX12_want [vr 94, vi x, vi n, vi q] σ post := by
  have e := h.2.1.1
  exact EX12_want ⟨rx, fun _ => ⟨by omega, fun c => absurd e c, fun _ => hp⟩, fun c => absurd c hx⟩
theorem r_wantF {σ0 σ : Sg} {post : Po} {s a k p n q : Int} {B : Sg} (h : RR σ0 σ B s a k p) (n0 : 1 ≤ n ∧ n ≤ 6) (hp : ∀ σ' : Sg, RX σ0 σ' n q → post (some (vi 0)) σ') : Cl mX12_want [vr 94, vi 0, vi n, vi q] σ post := by
  have e := h.2.1.1
  refine EX12_want ⟨by decide, fun c => absurd rfl c, fun _ => ⟨by omega, fun c => absurd e c, fun _ => ⟨by omega, fun _ => hp _ ⟨(h.1.u (by decide)).u (by decide), ⟨?_, up_s⟩, n0⟩, fun c => by omega⟩⟩⟩
  rw [up_f (by decide), up_s]
theorem RX.ne {σ0 σ : Sg} {n q : Int} (h : RX σ0 σ n q) : rng (σ 94 18) ∧ ¬ σ 94 18 = 0 := by
  have := h.2.1.1
  have := h.2.2
  omega
theorem RR.eq {σ0 σ : Sg} {s a k p : Int} {B : Sg} (h : RR σ0 σ B s a k p) : rng (σ 94 18) ∧ σ 94 18 = 0 := by
  have := h.2.1.1
  omega
/-- the byte here, blanks skipped -/
theorem r_here {σ0 σ : Sg} {post : Po} {t : Int → Int} {N p : Int} (hU : U0 σ0 t N) (hF : RFr σ0 σ) (h15 : σ 94 15 = p) (p0 : 0 ≤ p) (p1 : p ≤ N) (hp : ∀ (σ' : Sg) (z : Int), Q4 [15] σ σ' → σ' 94 15 = sk isB t N p → rng z → ((z = -1 ∧ sk isB t N p = N) ∨ (z = t (sk isB t N p) ∧ sk isB t N p < N)) → post (some (vi z)) σ') : Cl mX12_here [vr 94] σ post := by
  obtain ⟨e14, e106⟩ := hF.t hU
  have n1 := hU.1.1
  have loop : ∀ (n : Nat) (x : Int) (τ : Sg), x + n = N → 0 ≤ x → Q4 [15] σ τ → τ 94 15 = x → sk isB t N x = sk isB t N p → V mX12_here 0 [some (vr 94)] [] τ post := by
    intro n
    induction n with
    | zero =>
      intro x τ hx x0 hQ e hs
      have e0 : τ 94 14 = N := (hQ.2 14 (by decide)).trans e14
      have st : sk isB t N x = x := sk_stop (by omega)
      refine BX12_here_0 ⟨by omega, by omega, fun _ => ⟨fun _ => hp τ (-1) hQ (by rw [← hs, st]; exact e) (by decide) (Or.inl ⟨rfl, by omega⟩), fun c => absurd (by omega) c⟩, fun c => absurd (by omega) c⟩
    | succ n ih =>
      intro x τ hx x0 hQ e hs
      have e0 : τ 94 14 = N := (hQ.2 14 (by decide)).trans e14
      have eb : τ 106 x = t x := by rw [hQ.1 106 (by decide)]; exact e106 x x0 (by omega)
      have b := hU.1.2 x x0 (by omega)
      refine BX12_here_0 ⟨by omega, by omega, fun c => absurd c (by omega), fun _ => ⟨by omega, ?_⟩⟩
      rw [e, eb]
      refine ⟨by omega, fun c => ⟨fun d => absurd d (by omega), fun _ => ?_⟩, fun c => ih (x + 1) _ (by omega) (by omega) (hQ.u (by decide)) up_s ?_⟩
      · have st : sk isB t N x = x := sk_stop (fun z => c (isB_iff.1 z.2))
        rw [hs] at st
        exact hp τ (t x) hQ (by rw [st]; exact e) (by omega) (Or.inr ⟨by rw [st], by omega⟩)
      · rw [← hs, sk_go (by omega) (isB_iff.2 c)]
  exact Cl_of [some (vr 94)] (by decide) (SubL_s SubL_0) (fun ad => Nat.le_refl _) (loop (N - p).toNat p σ (by omega) p0 Q4.rf h15 rfl)
theorem r_hereO {σ0 σ : Sg} {post : Po} {t : Int → Int} {N s a k p : Int} {B : Sg} (hU : U0 σ0 t N) (h : RR σ0 σ B s a k p) (p0 : 0 ≤ p) (p1 : p ≤ N) (hp : ∀ (σ' : Sg) (z : Int), RR σ0 σ' B s a k (sk isB t N p) → rng z → ((z = -1 ∧ sk isB t N p = N) ∨ (z = t (sk isB t N p) ∧ sk isB t N p < N)) → post (some (vi z)) σ') : Cl mX12_here [vr 94] σ post :=
  r_here hU h.1 h.2.2.2.1 p0 p1 (fun σ' z hQ h15 rz hz => hp σ' z (h.q4 (hQ.mo (by decide)) h15) rz hz)
theorem hz_c {t : Int → Int} {N q z x : Int} (x0 : 0 ≤ x) (hz : (z = -1 ∧ q = N) ∨ (z = t q ∧ q < N)) : z = x ↔ (q < N ∧ t q = x) := by
  constructor <;> intro h <;> omega
theorem r_isLetter {σ : Sg} {post : Po} {x : Int} (rx : rng x) (ht : isL x = true → post (some (vi 1)) σ) (hf : ¬ isL x = true → post (some (vi 0)) σ) : Cl mX12_isLetter [vi x] σ post := by
  rw [isL_iff] at ht hf
  exact EX12_isLetter ⟨rx, r_in (by omega) (by decide) (by decide) (fun a b => ⟨_, rfl, b1 (ht (Or.inl ⟨a, b⟩))⟩) (fun q => ⟨_, rfl, b0 ⟨fun c => hf (by omega), fun c => ht (by omega)⟩⟩)⟩
theorem sk_idem {f : Int → Bool} {t : Int → Int} {N p : Int} (hp : p ≤ N) : sk f t N (sk f t N p) = sk f t N p := by
  obtain ⟨a, b, c⟩ := sk_all (f := f) (t := t) (N := N) (N - p).toNat p (by omega)
  exact sk_stop (fun z => c z.1 z.2)
theorem r_takeWord {σ0 σ : Sg} {post : Po} {t : Int → Int} {N s a k p : Int} {B : Sg} (hU : U0 σ0 t N) (h : RR σ0 σ B s a k p) (p0 : 0 ≤ p) (p1 : p ≤ N) (hp : ∀ σ' : Sg, RR σ0 σ' B s a k (sk isL t N (sk isB t N p)) → σ' 94 16 = sk isB t N p → σ' 94 17 = sk isL t N (sk isB t N p) - sk isB t N p → post none σ') : Cl mX12_takeWord [vr 94] σ post := by
  have kb := sk_b (f := isB) (t := t) p1
  have n1 := hU.1.1
  refine EX12_takeWord (r_here hU h.1 h.2.2.2.1 p0 p1 (fun σ1 z hQ h15 rz hz => ⟨_, rfl, ?_⟩))
  generalize sk isB t N p = q at *
  rw [h15]
  obtain ⟨e14, e106⟩ := h.1.t hU
  have loop : ∀ (n : Nat) (x : Int) (τ : Sg), x + n = N → q ≤ x → Q4 [15, 16, 17] σ τ → τ 94 15 = x → τ 94 16 = q → sk isL t N x = sk isL t N q → V mX12_takeWord 13 [some (vr 94), none] [] τ post := by
    intro n
    induction n with
    | zero =>
      intro x τ hx x0 hQ e eq hs
      have e0 : τ 94 14 = N := (hQ.2 14 (by decide)).trans e14
      have st : sk isL t N x = x := sk_stop (by omega)
      rw [hs] at st
      rw [st] at hp
      refine BX12_takeWord_13 ⟨by omega, by omega, fun _ => hp _ (h.q4 (hQ.u (by decide)) (by rw [up_f (by decide)]; exact e)) (by rw [up_f (by decide)]; exact eq) (by rw [up_s, e, eq]), fun c => absurd (by omega) c⟩
    | succ n ih =>
      intro x τ hx x0 hQ e eq hs
      have e0 : τ 94 14 = N := (hQ.2 14 (by decide)).trans e14
      have eb : τ 106 x = t x := by rw [hQ.1 106 (by decide)]; exact e106 x (by omega) (by omega)
      have b := hU.1.2 x (by omega) (by omega)
      refine BX12_takeWord_13 ⟨by omega, by omega, fun c => absurd c (by omega), fun _ => ⟨by omega, ?_⟩⟩
      rw [e, eb]
      refine r_isLetter (by omega) (fun c => ⟨_, rfl, b1' ?_⟩) (fun c => ⟨_, rfl, b0' ?_⟩)
      · rw [e]
        exact ih (x + 1) _ (by omega) (by omega) (hQ.u (by decide)) up_s (by rw [up_f (by decide)]; exact eq) (by rw [← hs, sk_go (by omega) c])
      · have st : sk isL t N x = x := sk_stop (fun z => c z.2)
        rw [hs] at st
        rw [st] at hp
        exact hp _ (h.q4 (hQ.u (by decide)) (by rw [up_f (by decide)]; exact e)) (by rw [up_f (by decide)]; exact eq) (by rw [up_s, e, eq])
  exact loop (N - q).toNat q _ (by omega) (Int.le_refl _) ((hQ.mo (by decide)).u (by decide)) (by rw [up_f (by decide)]; exact h15) up_s rfl
theorem r_isWord {σ0 σ : Sg} {post : Po} {t : Int → Int} {N q e : Int} {u : List Int} (hU : U0 σ0 t N) (hF : RFr σ0 σ) (h16 : σ 94 16 = q) (h17 : σ 94 17 = e - q) (q0 : 0 ≤ q) (qe : q ≤ e) (eN : e ≤ N) (hu : u.length ≤ 5) (hb : ∀ i : Nat, rng (u.getD i 0)) (ht : isWd t q e u → post (some (vi 1)) σ) (hf : ¬ isWd t q e u → post (some (vi 0)) σ) : Cl mX12_isWord [vr 94, vi (u.length : Int), vi (u.getD 0 0), vi (u.getD 1 0), vi (u.getD 2 0), vi (u.getD 3 0), vi (u.getD 4 0)] σ post := by
  obtain ⟨e14, e106⟩ := hF.t hU
  have n1 := hU.1.1
  have zero : ∀ x : Int, rng x → ¬ isWd t q e u → V mX12_isWord 18 [some (vr 94), some (vi (u.length : Int)), some (vi (u.getD 0 0)), some (vi (u.getD 1 0)), some (vi (u.getD 2 0)), some (vi (u.getD 3 0)), some (vi (u.getD 4 0)), some (vi 0), some (vi x)] [] σ post := fun x rx hn => BX12_isWord_18 ⟨rx, by omega, fun _ => ⟨Or.inl rfl, hf hn⟩, fun _ => ⟨by decide, fun _ => ⟨Or.inl rfl, hf hn⟩, fun c => absurd rfl c⟩⟩
  refine EX12_isWord ⟨by omega, by omega, fun c => zero 0 (by decide) (fun z => c (by rw [h17]; exact z.1)), fun c => ?_⟩
  have len : e - q = u.length := by omega
  have loop : ∀ (n j : Nat), j + n = u.length → (∀ k : Nat, k < j → t (q + k) = u.getD k 0) → V mX12_isWord 18 [some (vr 94), some (vi (u.length : Int)), some (vi (u.getD 0 0)), some (vi (u.getD 1 0)), some (vi (u.getD 2 0)), some (vi (u.getD 3 0)), some (vi (u.getD 4 0)), some (vi 1), some (vi (j : Int))] [] σ post := by
    intro n
    induction n with
    | zero =>
      intro j hj hk
      exact BX12_isWord_18 ⟨by omega, by omega, fun _ => ⟨Or.inr rfl, ht ⟨len, fun k hk2 => hk k (by omega)⟩⟩, fun z => absurd (by omega) z⟩
    | succ n ih =>
      intro j hj hk
      have et : σ 106 (q + j) = t (q + j) := e106 (q + j) (by omega) (by omega)
      have b := hU.1.2 (q + j) (by omega) (by omega)
      have yes : t (q + j) = u.getD j 0 → V mX12_isWord 18 [some (vr 94), some (vi (u.length : Int)), some (vi (u.getD 0 0)), some (vi (u.getD 1 0)), some (vi (u.getD 2 0)), some (vi (u.getD 3 0)), some (vi (u.getD 4 0)), some (vi 1), some (vi ((j : Int) + 1))] [] σ post := fun y => ih (j + 1) (by omega) (fun k hk2 => by
        by_cases d : k = j
        · rw [d]; exact y
        · exact hk k (by omega))
      have no : ¬ t (q + j) = u.getD j 0 → V mX12_isWord 18 [some (vr 94), some (vi (u.length : Int)), some (vi (u.getD 0 0)), some (vi (u.getD 1 0)), some (vi (u.getD 2 0)), some (vi (u.getD 3 0)), some (vi (u.getD 4 0)), some (vi 0), some (vi ((j : Int) + 1))] [] σ post := fun y => zero _ (by omega) (fun z => y (z.2 j (by omega)))
      refine BX12_isWord_18 ⟨by omega, by omega, fun z => absurd z (by omega), fun _ => ⟨by decide, fun z => absurd z (by decide), fun _ => ⟨by omega, ?_⟩⟩⟩
      rw [h16, et]
      have r := hb j
      have j5 : j = 0 ∨ j = 1 ∨ j = 2 ∨ j = 3 ∨ j = 4 := by omega
      rcases j5 with d | d | d | d | d <;> subst d
      · exact ⟨fun z => absurd rfl z, fun _ => ⟨by omega, r, no, yes⟩⟩
      · exact ⟨fun _ => ⟨fun z => absurd rfl z, fun _ => ⟨by omega, r, no, yes⟩⟩, fun z => absurd z (by decide)⟩
      · exact ⟨fun _ => ⟨fun _ => ⟨fun z => absurd rfl z, fun _ => ⟨by omega, r, no, yes⟩⟩, fun z => absurd z (by decide)⟩, fun z => absurd z (by decide)⟩
      · exact ⟨fun _ => ⟨fun _ => ⟨fun _ => ⟨fun z => absurd rfl z, fun _ => ⟨by omega, r, no, yes⟩⟩, fun z => absurd z (by decide)⟩, fun z => absurd z (by decide)⟩, fun z => absurd z (by decide)⟩
      · exact ⟨fun _ => ⟨fun _ => ⟨fun _ => ⟨fun _ => ⟨by omega, r, no, yes⟩, fun z => absurd z (by decide)⟩, fun z => absurd z (by decide)⟩, fun z => absurd z (by decide)⟩, fun z => absurd z (by decide)⟩
  exact loop u.length 0 (by omega) (fun k hk => by omega)
theorem r_isName {σ0 σ : Sg} {post : Po} {t : Int → Int} {N q e : Int} (hU : U0 σ0 t N) (hF : RFr σ0 σ) (h16 : σ 94 16 = q) (h17 : σ 94 17 = e - q) (q0 : 0 ≤ q) (qe : q < e) (eN : e ≤ N) (ht : fitW t q e → post (some (vi 1)) σ) (hf : ¬ fitW t q e → post (some (vi 0)) σ) : Cl mX12_isName [vr 94] σ post := by
  obtain ⟨e14, e106⟩ := hF.t hU
  have n1 := hU.1.1
  have zero : ∀ x : Int, rng x → ¬ fitW t q e → V mX12_isName 58 [some (vr 94), some (vi 0), some (vi x)] [] σ post := fun x rx hn => BX12_isName_58 ⟨rx, by omega, fun _ => ⟨Or.inl rfl, hf hn⟩, fun _ => ⟨by decide, fun _ => ⟨Or.inl rfl, hf hn⟩, fun c => absurd rfl c⟩⟩
  have bt : ∀ i : Int, q ≤ i → i < e → σ 106 i = t i ∧ 0 ≤ t i ∧ t i ≤ 255 := fun i a b => ⟨e106 i (by omega) (by omega), hU.1.2 i (by omega) (by omega)⟩
  have b1 := bt q (by omega) qe
  have b2 := bt (e - 1) (by omega) (by omega)
  refine EX12_isName ⟨by omega, ?_⟩
  rw [h17]
  refine r_in (by omega) (by decide) (by decide) (fun c0 c1 => ⟨_, rfl, b1' ?_⟩) (fun c => ⟨_, rfl, b0' (zero 1 (by decide) (fun z => by have := z.1; omega))⟩)
  rw [h17, h16, show q + (e - q) - 1 = e - 1 by omega, b1.1, b2.1]
  refine ⟨by omega, by omega, fun d => zero 1 (by decide) (fun z => z.2.1 d), fun d => ⟨by omega, by omega, fun d2 => zero 1 (by decide) (fun z => z.2.2.1 d2), fun d2 => ?_⟩⟩
  have loop : ∀ (n j : Nat), (j : Int) + n = e - q → 1 ≤ j → (∀ i : Int, q + 1 ≤ i → i < q + j → ¬ (t i = 95 ∧ t (i - 1) = 95)) → V mX12_isName 58 [some (vr 94), some (vi 1), some (vi (j : Int))] [] σ post := by
    intro n
    induction n with
    | zero =>
      intro j hj j1 hk
      exact BX12_isName_58 ⟨by omega, by omega, fun _ => ⟨Or.inr rfl, ht ⟨c1, d, d2, fun i x y => hk i x (by omega)⟩⟩, fun z => absurd (by omega) z⟩
    | succ n ih =>
      intro j hj j1 hk
      have y1 := bt (q + j) (by omega) (by omega)
      have y2 := bt (q + j - 1) (by omega) (by omega)
      have go : ¬ (t (q + j) = 95 ∧ t (q + j - 1) = 95) → V mX12_isName 58 [some (vr 94), some (vi 1), some (vi ((j : Int) + 1))] [] σ post := fun hno => ih (j + 1) (by omega) (by omega) (fun i x y => by
        by_cases f : i = q + j
        · rw [f]; exact hno
        · exact hk i x (by omega))
      refine BX12_isName_58 ⟨by omega, by omega, fun z => absurd z (by omega), fun _ => ⟨by decide, fun z => absurd z (by decide), fun _ => ⟨by omega, ?_⟩⟩⟩
      rw [h16, y1.1, y2.1]
      exact ⟨by omega, fun f => go (fun z => f z.1), fun f => ⟨by omega, by omega, fun f2 => zero _ (by omega) (fun z => z.2.2.2 (q + j) (by omega) (by omega) ⟨f, f2⟩), fun f2 => go (fun z => f2 z.2)⟩⟩
  exact loop (e - q - 1).toNat 1 (by omega) (by decide) (fun i x y => by omega)
theorem r_isHere {σ0 σ : Sg} {post : Po} {t : Int → Int} {N q e w c : Int} (hU : U0 σ0 t N) (hF : RFr σ0 σ) (h16 : σ 94 16 = q) (h17 : σ 94 17 = e - q) (q0 : 0 ≤ q) (qe : q < e) (eN : e ≤ N) (q12 : e - q ≤ 12) (hL : ∀ i : Int, q ≤ i → i < e → isL (t i) = true) (hR : RW (σ 96) (σ 97) w c) (hc : WW c) (w0 : 0 ≤ w) (w1 : w < 112) (ht : c = pkW t q e → post (some (vi 1)) σ) (hf : ¬ c = pkW t q e → post (some (vi 0)) σ) : Cl mX12_isHere [vr 94, vi w] σ post := by
  obtain ⟨e14, e106⟩ := hF.t hU
  have n1 := hU.1.1
  obtain ⟨r1, r2⟩ := hR
  obtain ⟨k1, k2⟩ := pkW_ww hL qe q12
  have cl := hc.2.1
  have zero : ∀ x : Int, rng x → ¬ c = pkW t q e → V mX12_isHere 21 [some (vr 94), some (vi w), some (vi 0), some (vi x)] [] σ post := fun x rx hn => BX12_isHere_21 ⟨rx, by omega, fun _ => ⟨Or.inl rfl, hf hn⟩, fun _ => ⟨by decide, fun _ => ⟨Or.inl rfl, hf hn⟩, fun y => absurd rfl y⟩⟩
  refine EX12_isHere ⟨by omega, ?_⟩
  rw [r1, h17]
  refine ⟨by omega, by omega, fun d => zero 0 (by decide) (fun z => d (by rw [z]; exact k2)), fun d => ?_⟩
  have loop : ∀ (n j : Nat), (j : Int) + n = e - q → (∀ i : Nat, i < j → cd c i = cd (pkW t q e) i) → V mX12_isHere 21 [some (vr 94), some (vi w), some (vi 1), some (vi (j : Int))] [] σ post := by
    intro n
    induction n with
    | zero =>
      intro j hj hk
      refine BX12_isHere_21 ⟨by omega, by omega, fun _ => ⟨Or.inr rfl, ht (cd_ext hc.1.1 hc.1.2 k1.1.1 k1.1.2 (fun i i0 i1 => ?_))⟩, fun z => absurd (by omega) z⟩
      by_cases f : i < e - q
      · have := hk i.toNat (by omega)
        rw [show ((i.toNat : Nat) : Int) = i by omega] at this
        exact this
      · have a := (hc.2.2 i i0 i1).1
        have b := (k1.2.2 i i0 i1).1
        have a0 : cd c i = 0 := by
          by_cases y : cd c i = 0
          · exact y
          · have := a.2 y; omega
        have b0 : cd (pkW t q e) i = 0 := by
          by_cases y : cd (pkW t q e) i = 0
          · exact y
          · have := b.2 y; omega
        rw [a0, b0]
    | succ n ih =>
      intro j hj hk
      have et : σ 106 (q + j) = t (q + j) := e106 (q + j) (by omega) (by omega)
      have b := hU.1.2 (q + j) (by omega) (by omega)
      have ew : σ 97 (12 * w + j) = cd c j + 94 := r2 j (by omega) (by omega)
      have cb := cd_b c j
      have pc := pkW_cd hL (by omega : q ≤ e) (i := j) (by omega)
      rw [if_pos (by omega)] at pc
      refine BX12_isHere_21 ⟨by omega, by omega, fun z => absurd z (by omega), fun _ => ⟨by decide, fun z => absurd z (by decide), fun _ => ⟨by omega, by omega, ?_⟩⟩⟩
      rw [h16, et, ew]
      refine ⟨by omega, by omega, fun f => zero _ (by omega) (fun z => f ?_), fun f => ih (j + 1) (by omega) (fun i hi => ?_)⟩
      · rw [z, pc]; omega
      · by_cases y : i = j
        · rw [y, pc]; omega
        · exact hk i (by omega)
  exact loop (e - q).toNat 0 (by omega) (fun i hi => by omega)
theorem r_nameIt {σ0 σ : Sg} {post : Po} {t : Int → Int} {N q e w : Int} (hU : U0 σ0 t N) (hF : RFr σ0 σ) (h16 : σ 94 16 = q) (h17 : σ 94 17 = e - q) (q0 : 0 ≤ q) (qe : q < e) (eN : e ≤ N) (q12 : e - q ≤ 12) (hL : ∀ i : Int, q ≤ i → i < e → isL (t i) = true) (w0 : 0 ≤ w) (w1 : w < 112) (hp : ∀ σ' : Sg, (∀ k, k ≠ 96 → k ≠ 97 → σ' k = σ k) → (∀ v : Int, v ≠ w → σ' 96 v = σ 96 v) → (∀ v i : Int, v ≠ w → 0 ≤ i → i < 12 → σ' 97 (12 * v + i) = σ 97 (12 * v + i)) → RW (σ' 96) (σ' 97) w (pkW t q e) → post none σ') : Cl mX12_nameIt [vr 94, vi w] σ post := by
  obtain ⟨e14, e106⟩ := hF.t hU
  have n1 := hU.1.1
  obtain ⟨k1, k2⟩ := pkW_ww hL qe q12
  refine EX12_nameIt ⟨by omega, ?_⟩
  have loop : ∀ (n j : Nat) (τ : Sg), (j : Int) + n = e - q → (∀ k, k ≠ 96 → k ≠ 97 → τ k = σ k) → τ 96 = pt (σ 96) w (e - q) → (∀ v i : Int, v ≠ w → 0 ≤ i → i < 12 → τ 97 (12 * v + i) = σ 97 (12 * v + i)) → (∀ i : Nat, i < j → τ 97 (12 * w + i) = t (q + i)) → V mX12_nameIt 12 [some (vr 94), some (vi w), some (vi (j : Int))] [] τ post := by
    intro n
    induction n with
    | zero =>
      intro j τ hj x1 x2 x3 x4
      have e17 : τ 94 17 = e - q := by rw [x1 94 (by decide) (by decide)]; exact h17
      refine BX12_nameIt_12 ⟨by omega, by omega, fun _ => hp τ x1 (fun v hv => by rw [x2, pt_ne hv]) x3 ⟨by rw [x2, pt_self, k2], fun i i0 i1 => ?_⟩, fun z => absurd (by omega) z⟩
      have pc := pkW_cd hL (by omega : q ≤ e) (i := i.toNat) (by omega)
      rw [show ((i.toNat : Nat) : Int) = i by omega, if_pos (by omega)] at pc
      have := x4 i.toNat (by omega)
      rw [show ((i.toNat : Nat) : Int) = i by omega] at this
      rw [this, pc]
      omega
    | succ n ih =>
      intro j τ hj x1 x2 x3 x4
      have e17 : τ 94 17 = e - q := by rw [x1 94 (by decide) (by decide)]; exact h17
      have e16 : τ 94 16 = q := by rw [x1 94 (by decide) (by decide)]; exact h16
      have et : τ 106 (q + j) = t (q + j) := by rw [x1 106 (by decide) (by decide)]; exact e106 (q + j) (by omega) (by omega)
      refine BX12_nameIt_12 ⟨by omega, by omega, fun z => absurd z (by omega), fun _ => ⟨by omega, by omega, ?_⟩⟩
      rw [e16, et]
      refine ih (j + 1) _ (by omega) (fun k a b => by rw [up_r b]; exact x1 k a b) (by rw [up_r (by decide)]; exact x2) (fun v i hv i0 i1 => ?_) (fun i hi => ?_)
      · rw [up_f (by omega)]; exact x3 v i hv i0 i1
      · by_cases y : i = j
        · rw [y, up_s]
        · rw [up_f (by omega)]; exact x4 i (by omega)
  exact loop (e - q).toNat 0 _ (by omega) (fun k a b => up_r a) (by rw [up_k, h17]) (fun v i hv i0 i1 => by rw [up_r (by decide)]) (fun i hi => by omega)
theorem r_num {σ0 σ : Sg} {post : Po} {t : Int → Int} {N s a k p lo hi : Int} {B : Sg} (hU : U0 σ0 t N) (h : RR σ0 σ B s a k p) (p0 : 0 ≤ p) (p1 : p ≤ N) (l0 : 0 ≤ lo ∧ lo ≤ 100) (h0 : 0 ≤ hi ∧ hi ≤ 100) (hf : ∀ (f : Int × Int) (σ' : Sg) (z : Int), pNm t N lo hi p = .inl f → RX σ0 σ' f.1 f.2 → rng z → post (some (vi z)) σ') (ho : ∀ (v e : Int) (σ' : Sg), pNm t N lo hi p = .inr (v, e) → (lo ≤ v ∧ v ≤ hi) → (p ≤ e ∧ e ≤ N) → RR σ0 σ' B s a k e → post (some (vi v)) σ') : Cl mX12_takeNumber [vr 94, vi lo, vi hi] σ post := by
  have kb := sk_b (f := isB) (t := t) p1
  have n1 := hU.1.1
  have w : pNm t N lo hi p = @ite _ (at_ isF t N (sk isB t N p)) (Classical.propDecidable _) (if sk isF t N (sk isB t N p) - sk isB t N p ≤ 2 ∧ lo ≤ nvl t (sk isB t N p) (sk isF t N (sk isB t N p) - sk isB t N p).toNat ∧ nvl t (sk isB t N p) (sk isF t N (sk isB t N p) - sk isB t N p).toNat ≤ hi then .inr (nvl t (sk isB t N p) (sk isF t N (sk isB t N p) - sk isB t N p).toNat, sk isF t N (sk isB t N p)) else .inl (2, sk isB t N p)) (.inl (1, sk isB t N p)) := rfl
  refine EX12_takeNumber (r_here hU h.1 h.2.2.2.1 p0 p1 (fun σ1 z hQ h15 rz hz => ⟨_, rfl, rz, ?_⟩))
  generalize sk isB t N p = q at *
  rw [h15]
  have h1 : RR σ0 (up σ1 94 16 q) B s a k q := h.q4 ((hQ.mo (by decide)).u (by decide)) (by rw [up_f (by decide)]; exact h15)
  have e16 : up σ1 94 16 q 94 16 = q := up_s
  generalize up σ1 94 16 q = ρ at *
  have atz : (48 ≤ z ∧ z ≤ 57) ↔ at_ isF t N q := by
    unfold at_
    rw [isF_iff]
    constructor
    · intro x
      rcases hz with y | y
      · omega
      · exact ⟨y.2, by omega⟩
    · intro x
      rcases hz with y | y
      · omega
      · omega
  obtain ⟨e14, e106⟩ := h1.1.t hU
  refine r_in (by omega) (by decide) (by decide) (fun c1 c2 => ⟨_, rfl, r_wantT h1 (by decide) (by decide) ⟨_, rfl, b1 ?_⟩⟩) (fun c => ⟨_, rfl, ?_⟩)
  · have at1 := atz.1 ⟨c1, c2⟩
    rw [if_pos at1] at w
    have lb := sk_b (f := isF) (t := t) (N := N) (p := q) kb.2
    obtain ⟨_, fig, endf⟩ := sk_all (f := isF) (t := t) (N := N) (N - q).toNat q (by omega)
    generalize sk isF t N q = e at *
    -- at the end
    have stop : ∀ (τ : Sg) (x : Int), Q4 [15] ρ τ → τ 94 15 = e → rng x → (e - q ≤ 2 → x = nvl t q (e - q).toNat) → (rng ((τ 94 15) - (τ 94 16))) ∧ ((3 ≤ ((τ 94 15) - (τ 94 16)) → Cl mX12_want [vr 94, vi 0, vi 2, vi (τ 94 16)] τ (pI fun z1 σ1 => post (some (vi x)) σ1)) ∧ (¬ 3 ≤ ((τ 94 15) - (τ 94 16)) → (rng x) ∧ ((rng lo) ∧ ((rng hi) ∧ (Cl mX12_in [vl x, vl lo, vl hi] τ (pI fun z2 σ2 => (rng z2) ∧ ((z2 = 0 → Cl mX12_want [vr 94, vi 0, vi 2, vi (σ2 94 16)] σ2 (pI fun z3 σ3 => post (some (vi x)) σ3)) ∧ (¬ z2 = 0 → Cl mX12_want [vr 94, vi 1, vi 2, vi (σ2 94 16)] σ2 (pI fun z4 σ4 => post (some (vi x)) σ4))))))))) := by
      intro τ x hT e15 rx ex
      have f16 : τ 94 16 = q := (hT.2 16 (by decide)).trans e16
      have h2 : RR σ0 τ B s a k e := h1.q4 (hT.mo (by decide)) e15
      rw [e15, f16]
      refine ⟨by omega, fun c => ?_, fun c => ⟨rx, by omega, by omega, r_in (by omega) (by omega) (by omega) (fun y1 y2 => ⟨_, rfl, b1' ?_⟩) (fun y => ⟨_, rfl, b0' ?_⟩)⟩⟩
      · rw [if_neg (by omega)] at w
        exact r_wantF h2 (by decide) (fun σ3 h3 => ⟨_, rfl, hf (2, q) σ3 x w h3 rx⟩)
      · have ev := ex (by omega)
        rw [if_pos ⟨by omega, by omega, by omega⟩, ← ev] at w
        exact r_wantT h2 (by decide) (by decide) ⟨_, rfl, ho x e τ w ⟨y1, y2⟩ (by omega) h2⟩
      · have ev := ex (by omega)
        rw [if_neg (by omega)] at w
        rw [f16]
        exact r_wantF h2 (by decide) (fun σ3 h3 => ⟨_, rfl, hf (2, q) σ3 x w h3 rx⟩)
    have loop : ∀ (n j : Nat) (τ : Sg) (x : Int), q + j + n = e → Q4 [15] ρ τ → τ 94 15 = q + j → (0 ≤ x ∧ x ≤ 20000) → (j ≤ 2 → x = nvl t q j) → V mX12_takeNumber 41 [some (vr 94), some (vi lo), some (vi hi), none, some (vi x), none] [] τ post := by
      intro n
      induction n with
      | zero =>
        intro j τ x hj hT e15 xb ex
        have e0 : τ 94 14 = N := (hT.2 14 (by decide)).trans e14
        have ee : q + (j : Int) = e := by omega
        have st := stop τ x hT (by omega) (by omega) (fun c => by rw [show (e - q).toNat = j by omega]; exact ex (by omega))
        refine BX12_takeNumber_41 ⟨by omega, by omega, fun _ => st, fun c => ⟨by omega, ?_⟩⟩
        have et : τ 106 (q + j) = t (q + j) := by rw [hT.1 106 (by decide)]; exact e106 (q + j) (by omega) (by omega)
        have b := hU.1.2 (q + j) (by omega) (by omega)
        rw [e15, et]
        have nf : ¬ (48 ≤ t (q + j) ∧ t (q + j) ≤ 57) := by
          rw [ee]
          have := endf (by omega)
          rw [isF_iff] at this
          exact this
        refine ⟨by omega, r_in (by omega) (by decide) (by decide) (fun y1 y2 => absurd ⟨y1, y2⟩ nf) (fun _ => ⟨_, rfl, b0' ?_⟩)⟩
        exact st
      | succ n ih =>
        intro j τ x hj hT e15 xb ex
        have e0 : τ 94 14 = N := (hT.2 14 (by decide)).trans e14
        have et : τ 106 (q + j) = t (q + j) := by rw [hT.1 106 (by decide)]; exact e106 (q + j) (by omega) (by omega)
        have b := hU.1.2 (q + j) (by omega) (by omega)
        have yf := isF_iff.1 (fig (q + j) (by omega) (by omega))
        refine BX12_takeNumber_41 ⟨by omega, by omega, fun c => absurd c (by omega), fun _ => ⟨by omega, ?_⟩⟩
        rw [e15, et]
        refine ⟨by omega, r_in (by omega) (by decide) (by decide) (fun _ _ => ⟨_, rfl, b1' ⟨by omega, fun c => ⟨by omega, ?_⟩, fun c => ?_⟩⟩) (fun y => absurd yf y)⟩
        · rw [e15, et]
          refine ih (j + 1) _ _ (by omega) (hT.u (by decide)) (by rw [up_s]; omega) (by omega) (fun hj2 => ?_)
          rw [nvl, ← ex (by omega)]
          omega
        · rw [e15]
          refine ih (j + 1) _ x (by omega) (hT.u (by decide)) (by rw [up_s]; omega) xb (fun hj2 => ?_)
          exfalso
          have nb := nvl_b (t := t) (q := q) j (by omega) (fun i hi => isF_iff.1 (fig (q + i) (by omega) (by omega)))
          have := ex (by omega)
          omega
    exact loop (e - q).toNat 0 ρ 0 (by omega) Q4.rf (by rw [h1.2.2.2.1]; omega) (by decide) (fun _ => rfl)
  · have at1 : ¬ at_ isF t N q := fun y => c (atz.2 y)
    rw [if_neg at1] at w
    dsimp only
    rw [h1.2.2.2.1]
    exact r_wantF h1 (by decide) (fun σ3 h3 => ⟨_, rfl, b0 (hf (1, q) σ3 0 w h3 (by decide))⟩)
