/-! ===== PURE HALF, by hand: ticks; runs of a book on both sides ===== -/
theorem RA.fr {σ σ' B : Sg} {M : List Nat} {J : List Int} (h : RA (bk σ 94) B) (hf : FrJ M J σ σ') (hM : ∀ k ∈ M, k < 95 ∨ 105 < k) (hJ : ∀ j ∈ J, j ≠ 0 ∧ j ≠ 7) : RA (bk σ' 94) B := by
  rw [bk94 (σ := σ) (σ' := σ') (hf.2 0 (fun z => (hJ 0 z).1 rfl)) (hf.2 7 (fun z => (hJ 7 z).2 rfl)) (fun k a b => hf.1 k (fun z => by have := hM k z; omega) (by omega))]
  exact h
theorem tk_t {B : Sg} {h s : Int} {n : Nat} (hm : isM B h s n = true) : (fun p => tkN B h s p (n + 1)) = tadd (fun p => tkN B h s p n) (B 9 n) (B 10 n) (B 11 n) := by
  funext p
  unfold tadd
  rw [tkN]
  simp only [hm, true_and]
theorem tk_f {B : Sg} {h s : Int} {n : Nat} (hm : ¬ isM B h s n = true) (p : Int) : tkN B h s p (n + 1) = tkN B h s p n := by
  rw [tkN, if_neg (fun z => hm z.1)]
theorem tk_3 (B : Sg) (h s p : Int) : ∀ n : Nat, tkN B h s p n = 0 ∨ tkN B h s p n = 1 ∨ tkN B h s p n = 3
  | 0 => Or.inl rfl
  | n + 1 => by
    rw [tkN]
    split
    · split
      · exact Or.inr (Or.inl rfl)
      · exact Or.inr (Or.inr rfl)
    · exact tk_3 B h s p n
theorem tk_out {B : Sg} (hW : WfB B) (h s : Int) {p : Int} (hp : p < 1 ∨ 99 < p) : ∀ n : Nat, (n : Int) ≤ B 0 7 → tkN B h s p n = 0
  | 0, _ => rfl
  | n + 1, hn => by
    have w := (hW.2.2.2.1 n (by omega) (by omega)).2.2.1
    rw [tkN, if_neg (fun z => by omega), tk_out hW h s hp n (by omega)]
theorem isM_iff {B : Sg} {h s k : Int} : isM B h s k = true ↔ B 7 k = h ∧ (s = -2 ∨ B 8 k = s) := by unfold isM; simp
/-! rows of runs as a list -/
def arl (f t m : Int → Int) : Int → Nat → List (Int × Int × Int)
  | _, 0 => []
  | i, c + 1 => (f i, t i, m i) :: arl f t m (i + 1) c
theorem arl_len (f t m : Int → Int) : ∀ (c : Nat) (i : Int), (arl f t m i c).length = c
  | 0, _ => rfl
  | c + 1, i => by rw [arl, List.length_cons, arl_len f t m c (i + 1)]
theorem AR_Rep {f t m : Int → Int} {n : Int} {T : Int → Int} (hA : AR f t m n T) : ∀ (c : Nat) (i p : Int), 0 ≤ i → i + c = n → (∀ j : Int, 0 ≤ j → j < i → t j < p) → (∀ j : Int, i ≤ j → j < n → p ≤ f j) → Rep T p (arl f t m i c) := by
  obtain ⟨a1, a2, a3, a4, a5⟩ := hA
  intro c
  induction c with
  | zero =>
    intro i p i0 hi h1 h2
    show ∀ q : Int, p ≤ q → q ≤ 99 → T q = 0
    intro q q1 q2
    by_cases z : T q = 0
    · exact z
    · obtain ⟨j, y1, y2⟩ := (a4 q).1 z
      have := h1 j y1.1 (by omega)
      omega
  | succ c ih =>
    intro i p i0 hi h1 h2
    have w := a2 i i0 (by omega)
    have w2 := h2 i (by omega) (by omega)
    refine ⟨by omega, fun q q1 q2 => ?_, fun q q1 q2 => (a4 q).2 ⟨i, by omega, q1, q2⟩, ?_, a5 i i0 (by omega), ?_⟩
    · by_cases z : T q = 0
      · exact z
      · obtain ⟨j, y1, y2⟩ := (a4 q).1 z
        by_cases c1 : j < i
        · have := h1 j y1.1 c1; omega
        · by_cases c2 : j = i
          · subst c2; omega
          · have := a3 i j i0 (by omega) y1.2; omega
    · by_cases z : T (t i + 1) = 0
      · exact z
      · obtain ⟨j, y1, y2⟩ := (a4 _).1 z
        rcases Int.lt_trichotomy j i with l | l | l
        · have := a3 j i y1.1 l (by omega); omega
        · subst l; omega
        · have := a3 i j i0 l y1.2; omega
    · refine ih (i + 1) (t i + 1) (by omega) (by omega) (fun j j0 j1 => ?_) (fun j j0 j1 => ?_)
      · by_cases c2 : j = i
        · subst c2; omega
        · have := a3 j i j0 (by omega) (by omega); omega
      · have := a3 i j i0 (by omega) j1; omega
theorem Rep_uniq {T : Int → Int} : ∀ (R R' : List (Int × Int × Int)) (p : Int), Rep T p R → Rep T p R' → R = R'
  | [], [], _, _, _ => rfl
  | [], (a, b, m) :: R', p, h, h' => by
    obtain ⟨y1, y2, y3, _⟩ := h'
    exact absurd (h a (by omega) (by omega)) (y3 a (by omega) (by omega))
  | (a, b, m) :: R, [], p, h, h' => by
    obtain ⟨y1, y2, y3, _⟩ := h
    exact absurd (h' a (by omega) (by omega)) (y3 a (by omega) (by omega))
  | (a, b, m) :: R, (a', b', m') :: R', p, h, h' => by
    obtain ⟨y1, y2, y3, y4, y5, y6⟩ := h
    obtain ⟨z1, z2, z3, z4, z5, z6⟩ := h'
    have ea : a = a' := by
      rcases Int.lt_trichotomy a a' with l | l | l
      · exact absurd (z2 a (by omega) l) (y3 a (by omega) (by omega))
      · exact l
      · exact absurd (y2 a' (by omega) l) (z3 a' (by omega) (by omega))
    subst ea
    have eb : b = b' := by
      rcases Int.lt_trichotomy b b' with l | l | l
      · exact absurd y4 (z3 (b + 1) (by omega) (by omega))
      · exact l
      · exact absurd z4 (y3 (b' + 1) (by omega) (by omega))
    subst eb
    have em : m = m' := by
      rcases y5 with ⟨c1, c2⟩ | ⟨c1, x, c2, c3, c4⟩
      · rcases z5 with ⟨d1, d2⟩ | ⟨d1, x, d2, d3, d4⟩
        · omega
        · exact absurd d4 (c2 x d2 d3)
      · rcases z5 with ⟨d1, d2⟩ | ⟨d1, _⟩
        · exact absurd c4 (d2 x c2 c3)
        · omega
    subst em
    rw [Rep_uniq R R' (b + 1) y6 z6]
theorem rL_rep {B : Sg} {h s : Int} {R : List (Int × Int × Int)} (hR : Rep (tk B h s) 1 R) : Rep (tk B h s) 1 (rL B h s) := Classical.epsilon_spec (p := fun R => Rep (tk B h s) 1 R) ⟨R, hR⟩
theorem rL_eq {B : Sg} {h s : Int} {R : List (Int × Int × Int)} (hR : Rep (tk B h s) 1 R) : rL B h s = R := Rep_uniq _ _ 1 (rL_rep hR) hR
/-- pages have runs -/
theorem Rep_ex {T : Int → Int} (h0 : T 100 = 0) (h3 : ∀ x, T x = 0 ∨ T x = 1 ∨ T x = 3) : ∀ (n : Nat) (p : Int), p + n = 100 → ∃ R, Rep T p R := by
  intro n
  induction n with
  | zero => intro p hp; exact ⟨[], fun q q1 q2 => by omega⟩
  | succ n ih =>
    intro p hp
    obtain ⟨R, hR⟩ := ih (p + 1) (by omega)
    by_cases hz : T p = 0
    · rcases R with _ | ⟨⟨a, b, m⟩, R⟩
      · refine ⟨[], fun q q1 q2 => ?_⟩
        by_cases e : q = p
        · subst e; exact hz
        · exact hR q (by omega) q2
      · obtain ⟨y1, y2, y3⟩ := hR
        refine ⟨(a, b, m) :: R, by omega, fun q q1 q2 => ?_, y3⟩
        by_cases e : q = p
        · subst e; exact hz
        · exact y2 q (by omega) q2
    · by_cases hz1 : T (p + 1) = 0
      · refine ⟨(p, p, if T p = 3 then 1 else 0) :: R, by omega, fun q q1 q2 => by omega, fun q q1 q2 => ?_, hz1, ?_, hR⟩
        · have : q = p := by omega
          subst this; exact hz
        · by_cases c : T p = 3
          · rw [if_pos c]; exact Or.inr ⟨rfl, p, by omega, by omega, c⟩
          · rw [if_neg c]
            refine Or.inl ⟨rfl, fun q q1 q2 => ?_⟩
            have : q = p := by omega
            subst this; exact c
      · rcases R with _ | ⟨⟨a, b, m⟩, R⟩
        · by_cases e : p + 1 ≤ 99
          · exact absurd (hR (p + 1) (by omega) e) hz1
          · have : p + 1 = 100 := by omega
            rw [this] at hz1
            exact absurd h0 hz1
        · obtain ⟨y1, y2, y3, y4, y5, y6⟩ := hR
          have ea : a = p + 1 := by
            by_cases e : a = p + 1
            · exact e
            · exact absurd (y2 (p + 1) (by omega) (by omega)) hz1
          subst ea
          refine ⟨(p, b, if T p = 3 then 1 else m) :: R, by omega, fun q q1 q2 => by omega, fun q q1 q2 => ?_, y4, ?_, y6⟩
          · by_cases e : q = p
            · subst e; exact hz
            · exact y3 q (by omega) q2
          · by_cases c : T p = 3
            · rw [if_pos c]; exact Or.inr ⟨rfl, p, by omega, by omega, c⟩
            · rw [if_neg c]
              rcases y5 with ⟨c1, c2⟩ | ⟨c1, x, c2, c3, c4⟩
              · refine Or.inl ⟨c1, fun q q1 q2 => ?_⟩
                by_cases e : q = p
                · subst e; exact c
                · exact c2 q (by omega) q2
              · exact Or.inr ⟨c1, x, by omega, c3, c4⟩
theorem rL_Rep {B : Sg} (hW : WfB B) (h s : Int) : Rep (tk B h s) 1 (rL B h s) := by
  obtain ⟨R, hR⟩ := Rep_ex (T := tk B h s) (tk_out hW h s (by omega) _ (by have := hW.2.1; omega)) (fun x => tk_3 B h s x _) 99 1 (by omega)
  exact rL_rep hR
/-! the class: gatherRuns -/
theorem c_gather {σ : Sg} {post : Po} {k r : Nat} {h s : Int} (hk : shp[k]? = some (0, 0, 14)) (hr : shp[r]? = some (0, 7, 4)) (hkr : k + 11 < r) (hW : WfB (bk σ k)) (rh : rng h) (rs : rng s) (hp : ∀ σ' : Sg, Fr [r, r + 1, r + 2, r + 3] σ σ' → (0 ≤ σ' r 0 ∧ σ' r 0 ≤ 50) → (∀ i : Int, 0 ≤ i → i < σ' r 0 → (1 ≤ σ' (r + 1) i ∧ σ' (r + 1) i ≤ σ' (r + 2) i ∧ σ' (r + 2) i ≤ 99) ∧ (σ' (r + 3) i = 0 ∨ σ' (r + 3) i = 1)) → rL (bk σ k) h s = arl (σ' (r + 1)) (σ' (r + 2)) (σ' (r + 3)) 0 (σ' r 0).toNat → post none σ') : Cl mX0_gatherRuns [vr k, vi h, vi s, vr r] σ post := by
  have wm := Wb_marks hW
  refine EX0_gatherRuns hk hr (EX7_clear hr ⟨rfl, ?_⟩)
  have loop : ∀ (n j : Nat) (τ : Sg), (j : Int) + n = σ k 7 → Fr [r, r + 1, r + 2, r + 3] σ τ → AR (τ (r + 1)) (τ (r + 2)) (τ (r + 3)) (τ r 0) (fun p => tkN (bk σ k) h s p j) → V mX0_gatherRuns 7 [some (vr k), some (vi h), some (vi s), some (vr r), some (vi (j : Int))] [] τ post := by
    intro n
    induction n with
    | zero =>
      intro j τ hj hF hA
      have e0 : τ k = σ k := hF k (by simp; omega)
      refine BX0_gatherRuns_7 hk hr ⟨by omega, by rw [e0]; omega, fun _ => ?_, fun z => absurd (by rw [e0]; omega) z⟩
      have ej : (bk σ k 0 7).toNat = j := by show (σ k 7).toNat = j; omega
      have hRep := AR_Rep hA (τ r 0).toNat 0 1 (by omega) (by have := hA.1; omega) (fun i i0 i1 => by omega) (fun i i0 i1 => (hA.2.1 i i0 i1).1)
      refine hp τ hF ⟨hA.1.1, AR_50 hA⟩ (fun i i0 i1 => ⟨hA.2.1 i i0 i1, ?_⟩) (rL_eq ?_)
      · exact (hA.2.2.2.2 i i0 i1).elim (fun z => Or.inl z.1) (fun z => Or.inr z.1)
      · show Rep (fun p => tkN (bk σ k) h s p (bk σ k 0 7).toNat) 1 _
        rw [ej]
        exact hRep
    | succ n ih =>
      intro j τ hj hF hA
      have e0 : τ k = σ k := hF k (by simp; omega)
      have e7 : τ (k + 7) = σ (k + 7) := hF _ (by simp; omega)
      have e8 : τ (k + 8) = σ (k + 8) := hF _ (by simp; omega)
      have e9 : τ (k + 9) = σ (k + 9) := hF _ (by simp; omega)
      have e10 : τ (k + 10) = σ (k + 10) := hF _ (by simp; omega)
      have e11 : τ (k + 11) = σ (k + 11) := hF _ (by simp; omega)
      obtain ⟨w1, w2, w3, w4⟩ := Wb_m hW (i := j) (by omega) (by omega)
      have w5 := Wb_heads hW
      have w6 := Wb_subs hW w1.1 w1.2
      have no : ¬ isM (bk σ k) h s j = true → V mX0_gatherRuns 7 [some (vr k), some (vi h), some (vi s), some (vr r), some (vi ((j : Int) + 1))] [] τ post := by
        intro hn
        have := ih (j + 1) τ (by omega) hF (by
          have e : (fun p => tkN (bk σ k) h s p (j + 1)) = fun p => tkN (bk σ k) h s p j := funext (tk_f hn)
          rw [e]; exact hA)
        exact this
      have yes : isM (bk σ k) h s j = true → Cl mX7_put [vr r, vi (τ (k + 9) j), vi (τ (k + 10) j), vi (τ (k + 11) j)] τ (pV fun σ1 => V mX0_gatherRuns 7 [some (vr k), some (vi h), some (vi s), some (vr r), some (vi ((j : Int) + 1))] [] σ1 post) := by
        intro hn
        rw [e9, e10, e11]
        refine c_put hr hA w3 w4 (fun σ' hF' hA' => ⟨rfl, ?_⟩)
        have := ih (j + 1) σ' (by omega) (hF.tr hF') (by rw [tk_t hn]; exact hA')
        exact this
      refine BX0_gatherRuns_7 hk hr ⟨by omega, by rw [e0]; omega, fun z => absurd z (by rw [e0]; omega), fun _ => ⟨by omega, by rw [e7]; omega, rh, fun c => no (fun z => ?_), fun c => ⟨rs, fun c2 => yes ?_, fun c2 => ⟨by rw [e8]; omega, fun c3 => no (fun z => ?_), fun c3 => yes ?_⟩⟩⟩⟩
      · rw [e7] at c; exact c (isM_iff.1 z).1
      · rw [e7] at c; exact isM_iff.2 ⟨c, Or.inl c2⟩
      · rw [e8] at c3
        rcases (isM_iff.1 z).2 with y | y
        · exact c2 y
        · exact c3 y
      · rw [e7] at c; rw [e8] at c3; exact isM_iff.2 ⟨c, Or.inr c3⟩
  have := loop (σ k 7).toNat 0 (up σ r 0 0) (by omega) (Fr.rf.u (by simp)) (by
    rw [up_s]
    exact AR_0)
  exact this
/-! the reference: isOf, tick, nextRun, runsTicked -/
theorem r_isOf {σ B : Sg} {post : Po} {k h s : Int} (hW : WfB B) (hR : RA (bk σ 94) B) (k0 : 0 ≤ k) (k1 : k < B 0 7) (rh : rng h) (rs : rng s) (ht : isM B h s k = true → post (some (vi 1)) σ) (hf : ¬ isM B h s k = true → post (some (vi 0)) σ) : Cl mX12_isOf [vr 94, vi k, vi h, vi s] σ post := by
  obtain ⟨e1, e2, _⟩ := Ra_m hR k0 k1
  obtain ⟨w1, w2, _⟩ := hW.2.2.2.1 k k0 k1
  have w5 := hW.1
  have w6 := (hW.2.2.1 _ w1.1 w1.2).1
  have w7 := hW.2.1
  rw [isM_iff] at ht hf
  refine EX12_isOf ⟨by omega, by rw [e1]; omega, rh, fun c => hf (fun z => c (by rw [e1]; exact z.1)), fun c => ⟨rs, fun c2 => ht ⟨by rw [← e1]; exact c, Or.inl c2⟩, fun c2 => ⟨by rw [e2]; omega, fun c3 => hf (fun z => ?_), fun c3 => ht ⟨by rw [← e1]; exact c, Or.inr (by rw [← e2]; exact c3)⟩⟩⟩⟩
  rcases z.2 with y | y
  · exact c2 y
  · exact c3 (by rw [e2]; exact y)
theorem or13 : ∀ v : Int, v = 0 ∨ v = 1 ∨ v = 3 → iOr v 1 = (if v ≠ 3 then 1 else 3) ∧ iOr v 3 = 3 := by
  rintro v (rfl | rfl | rfl) <;> decide +kernel
theorem r_tick {σ B : Sg} {post : Po} {h s : Int} (hW : WfB B) (hR : RA (bk σ 94) B) (rh : rng h) (rs : rng s) (hp : ∀ σ' : Sg, FrJ [107] [] σ σ' → (∀ p : Int, 0 ≤ p → p < 102 → σ' 107 p = tk B h s p) → post none σ') : Cl mX12_tick [vr 94, vi h, vi s] σ post := by
  have wm := hW.2.1
  refine EX12_tick ?_
  have outer : ∀ (n j : Nat) (τ : Sg), (j : Int) + n = B 0 7 → FrJ [107] [] σ τ → (∀ p : Int, 0 ≤ p → p < 102 → τ 107 p = tkN B h s p j) → V mX12_tick 23 [some (vr 94), some (vi h), some (vi s), some (vi (j : Int)), none] [] τ post := by
    intro n
    induction n with
    | zero =>
      intro j τ hj hF hT
      have e7 : τ 94 7 = B 0 7 := (hF.2 7 (by simp)).trans (Ra_marks hR)
      refine BX12_tick_23 ⟨by omega, by rw [e7]; omega, fun _ => hp τ hF (fun p p0 p1 => ?_), fun z => absurd (by rw [e7]; omega) z⟩
      rw [hT p p0 p1]
      unfold tk
      rw [show (B 0 7).toNat = j by omega]
    | succ n ih =>
      intro j τ hj hF hT
      have e7 : τ 94 7 = B 0 7 := (hF.2 7 (by simp)).trans (Ra_marks hR)
      have hR' : RA (bk τ 94) B := hR.fr hF (by simp) (by simp)
      obtain ⟨m1, m2, m3, m4, m5⟩ := Ra_m hR' (i := j) (by omega) (by omega)
      obtain ⟨w1, w2, w3, w4⟩ := hW.2.2.2.1 j (by omega) (by omega)
      refine BX12_tick_23 ⟨by omega, by rw [e7]; omega, fun z => absurd z (by rw [e7]; omega), fun _ => ⟨by omega, ?_⟩⟩
      rw [m3]
      by_cases hm : isM B h s j = true
      · -- the pages of this mark
        have inner : ∀ (c : Nat) (x : Int) (υ : Sg), B 9 j ≤ x → x + c = B 10 j + 1 → FrJ [107] [] σ υ → (∀ p : Int, 0 ≤ p → p < 102 → υ 107 p = if p < x then tkN B h s p (j + 1) else tkN B h s p j) → V mX12_tick 39 [some (vr 94), some (vi h), some (vi s), some (vi (j : Int)), some (vi x)] [] υ post := by
          intro c
          induction c with
          | zero =>
            intro x υ x0 hx hF2 hU
            have hR2 : RA (bk υ 94) B := hR.fr hF2 (by simp) (by simp)
            have n4 := (Ra_m hR2 (i := j) (by omega) (by omega)).2.2.2.1
            refine BX12_tick_39 ⟨by omega, by omega, by rw [n4]; omega, fun _ => ?_, fun z => absurd (by rw [n4]; omega) z⟩
            have := ih (j + 1) υ (by omega) hF2 (fun p p0 p1 => by
              rw [hU p p0 p1]
              by_cases c : p < x
              · rw [if_pos c]
              · rw [if_neg c, tkN, if_neg (fun z => by omega)])
            exact this
          | succ c ihc =>
            intro x υ x0 hx hF2 hU
            have hR2 : RA (bk υ 94) B := hR.fr hF2 (by simp) (by simp)
            obtain ⟨n1, n2, n3, n4, n5⟩ := Ra_m hR2 (i := j) (by omega) (by omega)
            have hx2 := hU x (by omega) (by omega)
            rw [if_neg (by omega)] at hx2
            have h3 := tk_3 B h s x j
            have ho := or13 _ h3
            have step : ∀ v : Int, v = tkN B h s x (j + 1) → V mX12_tick 39 [some (vr 94), some (vi h), some (vi s), some (vi (j : Int)), some (vi (x + 1))] [] (up υ 107 x v) post := by
              intro v hv
              refine ihc (x + 1) (up υ 107 x v) (by omega) (by omega) (hF2.u (by simp) (by decide)) (fun p p0 p1 => ?_)
              by_cases c : p = x
              · subst c
                rw [up_s, if_pos (by omega)]
                exact hv
              · rw [up_f c, hU p p0 p1]
                by_cases c2 : p < x
                · rw [if_pos c2, if_pos (by omega)]
                · rw [if_neg c2, if_neg (by omega)]
            have et : tkN B h s x (j + 1) = if B 11 j = 0 ∧ tkN B h s x j ≠ 3 then 1 else 3 := by
              rw [tkN, if_pos ⟨hm, by omega, by omega⟩]
            refine BX12_tick_39 ⟨by omega, by omega, by rw [n4]; omega, fun z => absurd z (by rw [n4]; omega), fun _ => r_isOf hW hR2 (by omega) (by omega) rh rs (fun _ => ⟨_, rfl, b1' ⟨by omega, by rw [n5]; omega, fun c1 => step _ ?_, fun c1 => step _ ?_⟩⟩) (fun z => absurd hm z)⟩
            · rw [hx2, ho.1, et]
              rw [n5] at c1
              by_cases c2 : tkN B h s x j = 3
              · rw [if_neg (by omega), if_neg (by omega)]
              · rw [if_pos (by omega), if_pos (by omega)]
            · rw [hx2, ho.2, et]
              rw [n5] at c1
              rw [if_neg (by omega)]
        exact inner (B 10 j + 1 - B 9 j).toNat (B 9 j) τ (by omega) (by omega) hF (fun p p0 p1 => by
          rw [hT p p0 p1]
          by_cases c : p < B 9 j
          · rw [if_pos c, tkN, if_neg (fun z => by omega)]
          · rw [if_neg c])
      · refine BX12_tick_39 ⟨by omega, by omega, by rw [m4]; omega, fun z => absurd z (by rw [m4]; omega), fun _ => r_isOf hW hR' (by omega) (by omega) rh rs (fun z => absurd z hm) (fun _ => ⟨_, rfl, b0' ?_⟩)⟩
        have := ih (j + 1) τ (by omega) hF (fun p p0 p1 => by rw [hT p p0 p1, tk_f hm])
        exact this
  have zero : ∀ (n : Nat) (x : Int) (τ : Sg), 0 ≤ x → x + n = 102 → FrJ [107] [] σ τ → (∀ p : Int, 0 ≤ p → p < x → τ 107 p = 0) → V mX12_tick 2 [some (vr 94), some (vi h), some (vi s), some (vi x), none] [] τ post := by
    intro n
    induction n with
    | zero =>
      intro x τ x0 hx hF hT
      refine BX12_tick_2 ⟨by omega, fun _ => ?_, fun z => absurd (by omega) z⟩
      have := outer (B 0 7).toNat 0 τ (by omega) hF (fun p p0 p1 => hT p p0 (by omega))
      exact this
    | succ n ih =>
      intro x τ x0 hx hF hT
      refine BX12_tick_2 ⟨by omega, fun z => absurd z (by omega), fun _ => ⟨by omega, ih (x + 1) _ (by omega) (by omega) (hF.u (by simp) (by decide)) (fun p p0 p1 => ?_)⟩⟩
      by_cases c : p = x
      · subst c; exact up_s
      · rw [up_f c]; exact hT p p0 (by omega)
  exact zero 102 0 σ (by omega) (by omega) FrJ.rf (fun p p0 p1 => by omega)
