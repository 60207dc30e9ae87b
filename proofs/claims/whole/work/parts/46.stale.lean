/-! ===== PURE HALF, by hand: stale ===== -/
def HO (T : Int → Int) (a b : Int) : Prop := T (a - 1) = 0 ∧ T (b + 1) = 0 ∧ ∀ x : Int, a ≤ x → x ≤ b → T x ≠ 0
noncomputable def stl (T : Int → Int) : List (Int × Int × Int) → Int
  | [] => 0
  | r :: R => (@ite Int (HO T r.1 r.2.1) (Classical.propDecidable _) 0 1) + stl T R
theorem stl_b (T : Int → Int) : ∀ R, 0 ≤ stl T R ∧ stl T R ≤ R.length
  | [] => by rw [stl]; exact ⟨by decide, by simp⟩
  | r :: R => by
    have := stl_b T R
    rw [stl, List.length_cons]
    by_cases h : HO T r.1 r.2.1
    · rw [if_pos h]; omega
    · rw [if_neg h]; omega
theorem Rep_sh {T : Int → Int} {p : Int} (h : T p = 0) : ∀ {R : List (Int × Int × Int)}, Rep T p R → Rep T (p + 1) R
  | [], hR => fun q q1 q2 => hR q (by omega) q2
  | (a, b, m) :: R, hR => by
    obtain ⟨y1, y2, y3, y4⟩ := hR
    have : a ≠ p := fun e => by subst e; exact y3 a (by omega) (by omega) h
    exact ⟨by omega, fun q q1 q2 => y2 q (by omega) q2, y3, y4⟩
theorem Rep_len {T : Int → Int} : ∀ (R : List (Int × Int × Int)) (p : Int), p ≤ 100 → Rep T p R → (R.length : Int) + p ≤ 100
  | [], p, hp, _ => by simpa using hp
  | (a, b, m) :: R, p, hp, hR => by
    obtain ⟨y1, y2, y3, y4, y5, y6⟩ := hR
    have := Rep_len R (b + 1) (by omega) y6
    rw [List.length_cons]
    omega
theorem Rep_HO {T : Int → Int} {a b : Int} (hab : a ≤ b) (hb : b ≤ 99) : ∀ (R : List (Int × Int × Int)) (p : Int), T (p - 1) = 0 → Rep T p R → p ≤ a → ((∃ m, (a, b, m) ∈ R) ↔ HO T a b)
  | [], p, h0, hR, hp => by
    constructor
    · rintro ⟨m, hm⟩; simp at hm
    · intro h; exact absurd (hR a hp (by omega)) (h.2.2 a (by omega) hab)
  | (a', b', m') :: R, p, h0, hR, hp => by
    obtain ⟨y1, y2, y3, y4, y5, y6⟩ := hR
    have y7 := Rep_sh y4 y6
    have hd : HO T a' b' := by
      refine ⟨?_, y4, y3⟩
      by_cases e : a' = p
      · rw [e]; exact h0
      · exact y2 (a' - 1) (by omega) (by omega)
    constructor
    · rintro ⟨m, hm⟩
      rcases List.mem_cons.1 hm with e | e
      · injection e with e1 e2
        injection e2 with e2 e3
        rw [e1, e2]; exact hd
      · have hin : p ≤ a → b' + 1 + 1 ≤ a := fun _ => by
          have key : ∀ (R : List (Int × Int × Int)) (q : Int), Rep T q R → (a, b, m) ∈ R → q ≤ a := by
            intro R
            induction R with
            | nil => intro q _ hm; simp at hm
            | cons r R ih =>
              intro q hq hm
              obtain ⟨r1, r2, r3⟩ := r
              obtain ⟨z1, z2, z3, z4, z5, z6⟩ := hq
              rcases List.mem_cons.1 hm with e | e
              · injection e with e1 e2
                omega
              · have := ih _ z6 e; omega
          exact key R _ y7 e
        exact (Rep_HO hab hb R (b' + 1 + 1) (by rw [show b' + 1 + 1 - 1 = b' + 1 by omega]; exact y4) y7 (hin hp)).1 ⟨m, e⟩
    · intro h
      have a1 : a' ≤ a := Int.not_lt.mp (fun z => h.2.2 a (by omega) hab (y2 a hp z))
      by_cases c : a ≤ b'
      · have ea : a = a' := by
          by_cases e : a = a'
          · exact e
          · exact absurd h.1 (y3 (a - 1) (by omega) (by omega))
        have eb : b = b' := by
          rcases Int.lt_trichotomy b b' with l | l | l
          · exact absurd h.2.1 (y3 (b + 1) (by omega) (by omega))
          · exact l
          · exact absurd y4 (h.2.2 (b' + 1) (by omega) (by omega))
        rw [ea, eb]
        exact ⟨m', List.mem_cons_self⟩
      · have c2 : a ≠ b' + 1 := fun e => h.2.2 a (by omega) hab (by rw [e]; exact y4)
        obtain ⟨m, hm⟩ := (Rep_HO hab hb R (b' + 1 + 1) (by rw [show b' + 1 + 1 - 1 = b' + 1 by omega]; exact y4) y7 (by omega)).2 h
        exact ⟨m, List.mem_cons_of_mem _ hm⟩
theorem mem_arl {f t m : Int → Int} {x : Int × Int × Int} : ∀ (c : Nat) (i : Int), x ∈ arl f t m i c ↔ ∃ j : Int, (i ≤ j ∧ j < i + c) ∧ x = (f j, t j, m j)
  | 0, i => by
    constructor
    · intro h; simp [arl] at h
    · rintro ⟨j, h, _⟩; omega
  | c + 1, i => by
    rw [arl, List.mem_cons, mem_arl c (i + 1)]
    constructor
    · rintro (h | ⟨j, h1, h2⟩)
      · exact ⟨i, by omega, h⟩
      · exact ⟨j, by omega, h2⟩
    · rintro ⟨j, h1, h2⟩
      by_cases e : j = i
      · subst e; exact Or.inl h2
      · exact Or.inr ⟨j, by omega, h2⟩
theorem tk_neg {B : Sg} (hW : WfB B) {h : Int} (hh : h < 0) (s : Int) : tk B h s = fun _ => 0 := by
  funext p
  unfold tk
  have key : ∀ n : Nat, (n : Int) ≤ B 0 7 → tkN B h s p n = 0 := by
    intro n
    induction n with
    | zero => intro _; rfl
    | succ n ih =>
      intro hn
      have w := (hW.2.2.2.1 n (by omega) (by omega)).1
      rw [tkN, if_neg (fun z => by have := (isM_iff.1 z.1).1; omega), ih (by omega)]
  exact key _ (by have := hW.2.1; omega)
/-! the class -/
theorem c_holds {σ : Sg} {post : Po} {r : Nat} {p q : Int} (hr : shp[r]? = some (0, 7, 4)) (rp : rng p) (rq : rng q) (hn : 0 ≤ σ r 0 ∧ σ r 0 ≤ 50) (hb : ∀ i : Int, 0 ≤ i → i < σ r 0 → rng (σ (r + 1) i) ∧ rng (σ (r + 2) i)) (ht : (∃ i : Int, (0 ≤ i ∧ i < σ r 0) ∧ σ (r + 1) i = p ∧ σ (r + 2) i = q) → post (some (vi 1)) σ) (hf : ¬ (∃ i : Int, (0 ≤ i ∧ i < σ r 0) ∧ σ (r + 1) i = p ∧ σ (r + 2) i = q) → post (some (vi 0)) σ) : Cl mX7_holds [vr r, vi p, vi q] σ post := by
  refine EX7_holds hr ?_
  have loop : ∀ (n : Nat) (j : Int), 0 ≤ j → j + n = σ r 0 → (∀ i : Int, 0 ≤ i → i < j → ¬ (σ (r + 1) i = p ∧ σ (r + 2) i = q)) → V mX7_holds 2 [some (vr r), some (vi p), some (vi q), some (vi j)] [] σ post := by
    intro n
    induction n with
    | zero =>
      intro j j0 hj hno
      refine BX7_holds_2 hr ⟨by omega, by omega, fun _ => hf ?_, fun z => absurd (by omega) z⟩
      rintro ⟨i, h1, h2⟩
      exact hno i h1.1 (by omega) h2
    | succ n ih =>
      intro j j0 hj hno
      obtain ⟨b1, b2⟩ := hb j j0 (by omega)
      have nx : ¬ (σ (r + 1) j = p ∧ σ (r + 2) j = q) → V mX7_holds 2 [some (vr r), some (vi p), some (vi q), some (vi (j + 1))] [] σ post := fun hq => by
        refine ih (j + 1) (by omega) (by omega) (fun i i0 i1 => ?_)
        by_cases e : i = j
        · rw [e]; exact hq
        · exact hno i i0 (by omega)
      exact BX7_holds_2 hr ⟨by omega, by omega, fun z => absurd z (by omega), fun _ => ⟨by omega, b1, rp, fun z => nx (fun y => z y.1), fun z => ⟨b2, rq, fun z2 => nx (fun y => z2 y.2), fun z2 => ht ⟨j, by omega, z, z2⟩⟩⟩⟩
  exact loop (σ r 0).toNat 0 (by omega) (by omega) (fun i i0 i1 => by omega)
theorem c_staleRuns {σ : Sg} {post : Po} {k : Nat} {h s g u : Int} (hk : shp[k]? = some (0, 0, 14)) (hk2 : k + 11 < 70) (h01 : σ 0 1 = 5) (hW : WfB (bk σ k)) (hW5 : WfB (bk σ 5)) (rh : rng h) (rs : rng s) (rg : -1 ≤ g ∧ g < 16) (ru : rng u) (hp : ∀ σ' : Sg, Fr [70, 71, 72, 73, 74, 75, 76, 77] σ σ' → post (some (vi (stl (tk (bk σ 5) g u) (rL (bk σ k) h s)))) σ') : Cl mX11_staleRuns [vr 0, vr k, vi h, vi s, vi g, vi u] σ post := by
  refine EX11_staleRuns hk (c_gather hk (r := 70) rfl hk2 hW rh rs (fun τ hF hn hb hL => ⟨rfl, EX7_clear rfl ⟨rfl, by omega, ?_⟩⟩))
  have loop : ∀ (T : Int → Int) (υ : Sg), Fr [70, 71, 72, 73, 74, 75, 76, 77] σ υ → υ 70 = τ 70 → υ 71 = τ 71 → υ 72 = τ 72 → υ 73 = τ 73 → tk (bk σ 5) g u = T → T 0 = 0 → (0 ≤ υ 74 0 ∧ υ 74 0 ≤ 50) → (∀ i : Int, 0 ≤ i → i < υ 74 0 → rng (υ 75 i) ∧ rng (υ 76 i)) → Rep T 1 (arl (υ 75) (υ 76) (υ 77) 0 (υ 74 0).toNat) → V mX11_staleRuns 44 [some (vr 0), none, none, none, none, none, some (vi 0), some (vi 0)] [] υ post := by
    intro T υ hG e0 e1 e2 e3 eT hT0 hn2 hb2 hR2
    have inner : ∀ (n : Nat) (j c : Int), 0 ≤ j → j + n = υ 70 0 → c + stl T (arl (υ 71) (υ 72) (υ 73) j n) = stl T (rL (bk σ k) h s) → V mX11_staleRuns 44 [some (vr 0), none, none, none, none, none, some (vi c), some (vi j)] [] υ post := by
      intro n
      induction n with
      | zero =>
        intro j c j0 hj hc
        refine BX11_staleRuns_44 ⟨by rw [e0] at hj; omega, by rw [e0]; omega, fun _ => ?_, fun z => absurd (by omega) z⟩
        rw [arl, stl] at hc
        have e : c = stl (tk (bk σ 5) g u) (rL (bk σ k) h s) := by rw [eT]; omega
        rw [e]
        exact hp υ hG
      | succ n ih =>
        intro j c j0 hj hc
        have bj := hb j j0 (by rw [e0] at hj; omega)
        have bj1 : 1 ≤ υ 71 j ∧ υ 71 j ≤ υ 72 j ∧ υ 72 j ≤ 99 := by rw [e1, e2]; exact bj.1
        have hex : (∃ i : Int, (0 ≤ i ∧ i < υ 74 0) ∧ υ 75 i = υ 71 j ∧ υ 76 i = υ 72 j) ↔ HO T (υ 71 j) (υ 72 j) := by
          rw [← Rep_HO (by omega) (by omega) _ 1 (by simpa using hT0) hR2 (by omega)]
          constructor
          · rintro ⟨i, h1, h2, h3⟩
            refine ⟨υ 77 i, (mem_arl _ _).2 ⟨i, by omega, ?_⟩⟩
            rw [← h2, ← h3]
          · rintro ⟨m, hm⟩
            obtain ⟨i, h1, h2⟩ := (mem_arl _ _).1 hm
            injection h2 with h2 h3
            injection h3 with h3 h4
            exact ⟨i, by omega, h2.symm, h3.symm⟩
        rw [arl, stl] at hc
        refine BX11_staleRuns_44 ⟨by rw [e0] at hj; omega, by rw [e0]; omega, fun z => absurd z (by omega), fun _ => ⟨by rw [e0] at hj; omega, c_holds rfl (by omega) (by omega) hn2 hb2 (fun hy => ⟨_, rfl, b1 (ih (j + 1) c (by omega) (by omega) ?_)⟩) (fun hy => ⟨_, rfl, b0 (ih (j + 1) (c + 1) (by omega) (by omega) ?_)⟩)⟩⟩
        · rw [if_pos (hex.1 hy)] at hc
          omega
        · rw [if_neg (fun z => hy (hex.2 z))] at hc
          omega
    refine inner (υ 70 0).toNat 0 0 (by omega) (by rw [e0]; omega) ?_
    rw [hL, e0, e1, e2, e3]
    exact Int.zero_add _
  have hF8 : Fr [70, 71, 72, 73, 74, 75, 76, 77] σ (up τ 74 0 0) := (hF.mo (by decide)).u (by decide)
  refine ⟨fun z => ?_, fun z => ⟨?_, ?_⟩⟩
  · refine loop (fun _ => 0) _ hF8 (up_r (by decide)) (up_r (by decide)) (up_r (by decide)) (up_r (by decide)) (tk_neg hW5 (by omega) u) rfl (by rw [up_s]; omega) (fun i i0 i1 => by rw [up_s] at i1; omega) ?_
    rw [up_s]
    exact fun q _ _ => rfl
  · rw [hF8 0 (by decide)]; exact h01
  · have b5 : bk (up τ 74 0 0) 5 = bk σ 5 := bkf (fun a x y => hF8 a (by simp; omega))
    refine c_gather rfl (r := 74) rfl (by decide) (by rw [b5]; exact hW5) (by omega) ru (fun υ hG hn2 hb2 hL2 => ⟨rfl, ?_⟩)
    rw [b5] at hL2
    refine loop (tk (bk σ 5) g u) υ (hF8.tr (hG.mo (by decide))) ?_ ?_ ?_ ?_ rfl (tk_out hW5 g u (by omega) _ (by have := hW5.2.1; omega)) hn2 (fun i i0 i1 => ?_) ?_
    · rw [hG 70 (by decide), up_r (by decide)]
    · rw [hG 71 (by decide), up_r (by decide)]
    · rw [hG 72 (by decide), up_r (by decide)]
    · rw [hG 73 (by decide), up_r (by decide)]
    · have b := (hb2 i i0 i1).1
      have b' : 1 ≤ υ 75 i ∧ υ 75 i ≤ υ 76 i ∧ υ 76 i ≤ 99 := b
      omega
    · have e := rL_Rep hW5 g u
      rw [hL2] at e
      exact e
/-! words found -/
def hL (B : Sg) (c : Int) : Int := fnd (fun g => decide (B 1 g = c)) (B 0 0).toNat
def sL (B : Sg) (g c : Int) : Int := if g = -1 then -1 else fnd (fun s => decide (B 3 (g * 6 + s) = c)) (B 2 g).toNat
theorem c_findHead {σ : Sg} {post : Po} {k : Nat} {c : Int} (hk : shp[k]? = some (0, 0, 14)) (hW : WfB (bk σ k)) (rc : rngL c) (hp : post (some (vi (hL (bk σ k) c))) σ) : Cl mX0_findHead [vr k, vl c] σ post := by
  have w := Wb_heads hW
  refine EX0_findHead hk ?_
  have loop : ∀ (n j : Nat), (j : Int) + n = σ k 0 → (∀ i : Nat, i < j → ¬ (decide (bk σ k 1 i = c)) = true) → V mX0_findHead 2 [some (vr k), some (vl c), none, some (vi (j : Int))] [] σ post := by
    intro n
    induction n with
    | zero =>
      intro j hj hno
      refine BX0_findHead_2 hk ⟨by omega, by omega, fun _ => ?_, fun z => absurd (by omega) z⟩
      have e : hL (bk σ k) c = -1 := fnd_none _ (fun i hi => hno i (by have : (bk σ k 0 0).toNat = (σ k 0).toNat := rfl; omega))
      rw [e] at hp
      exact hp
    | succ n ih =>
      intro j hj hno
      have ww := (Wb_wh hW (i := j) (by omega) (by omega)).1
      refine BX0_findHead_2 hk ⟨by omega, by omega, fun z => absurd z (by omega), fun _ => ⟨by omega, by omega, rc, fun z => ih (j + 1) (by omega) (fun i hi => ?_), fun z => ?_⟩⟩
      · by_cases e : i = j
        · rw [e, decide_eq_true_iff]; exact z
        · exact hno i (by omega)
      · have e : hL (bk σ k) c = j := fnd_some _ j (by have : (bk σ k 0 0).toNat = (σ k 0).toNat := rfl; omega) (decide_eq_true z) hno
        rw [e] at hp
        exact hp
  exact loop (σ k 0).toNat 0 (by omega) (fun i hi => by omega)
theorem c_findSub {σ : Sg} {post : Po} {k : Nat} {g c : Int} (hk : shp[k]? = some (0, 0, 14)) (hW : WfB (bk σ k)) (hg : -1 ≤ g ∧ g < σ k 0) (rc : rngL c) (hp : post (some (vi (sL (bk σ k) g c))) σ) : Cl mX0_findSub [vr k, vi g, vl c] σ post := by
  have w := Wb_heads hW
  refine EX0_findSub hk (c_hasHead hk (by omega) (by omega) (fun g0 g1 => ⟨_, rfl, b1 ?_⟩) (fun z => ⟨_, rfl, b0 ?_⟩))
  · have w2 := Wb_subs hW g0 g1
    have e1 : sL (bk σ k) g c = fnd (fun s => decide (bk σ k 3 (g * 6 + s) = c)) (σ (k + 2) g).toNat := if_neg (by omega)
    rw [e1] at hp
    have loop : ∀ (n j : Nat), (j : Int) + n = σ (k + 2) g → (∀ i : Nat, i < j → ¬ (decide (bk σ k 3 (g * 6 + i) = c)) = true) → V mX0_findSub 13 [some (vr k), some (vi g), some (vl c), none, some (vi (j : Int))] [] σ post := by
      intro n
      induction n with
      | zero =>
        intro j hj hno
        refine BX0_findSub_13 hk ⟨by omega, by omega, by omega, fun _ => ?_, fun z => absurd (by omega) z⟩
        rw [fnd_none _ (fun i hi => hno i (by omega))] at hp
        exact hp
      | succ n ih =>
        intro j hj hno
        have ww := (Wb_ws hW g0 g1 (s := j) (by omega) (by omega)).1
        refine BX0_findSub_13 hk ⟨by omega, by omega, by omega, fun z => absurd z (by omega), fun _ => ⟨by omega, by omega, rc, fun z => ih (j + 1) (by omega) (fun i hi => ?_), fun z => ?_⟩⟩
        · by_cases e : i = j
          · rw [e, decide_eq_true_iff]; exact z
          · exact hno i (by omega)
        · rw [fnd_some _ j (by omega) (decide_eq_true z) hno] at hp
          exact hp
    exact loop (σ (k + 2) g).toNat 0 (by omega) (fun i hi => by omega)
  · have e1 : sL (bk σ k) g c = -1 := if_pos (by omega)
    rw [e1] at hp
    exact hp
/-! the reference: words -/
theorem WW_ext {c d : Int} (hc : WW c) (hd : WW d) (hl : wlen c = wlen d) (h : ∀ i : Int, 0 ≤ i → i < wlen c → cd c i = cd d i) : c = d := by
  refine cd_ext hc.1.1 hc.1.2 hd.1.1 hd.1.2 (fun i i0 i1 => ?_)
  by_cases q : i < wlen c
  · exact h i i0 q
  · have h1 := (hc.2.2 i i0 i1).1
    have h2 := (hd.2.2 i i0 i1).1
    have e1 : cd c i = 0 := by
      by_cases z : cd c i = 0
      · exact z
      · exact absurd (h1.2 z) q
    have e2 : cd d i = 0 := by
      by_cases z : cd d i = 0
      · exact z
      · exact absurd (h2.2 z) (by omega)
    rw [e1, e2]
theorem r_isKeptWord {σ : Sg} {post : Po} {x w v c d : Int} (x0 : 0 ≤ x) (x1 : x < 2) (w0 : 0 ≤ w) (w1 : w < 112) (v0 : 0 ≤ v) (v1 : v < 112) (hc : WW c) (hd : WW d) (h1 : RW (kv σ x 2) (kv σ x 3) w c) (h2 : RW (σ 96) (σ 97) v d) (ht : c = d → post (some (vi 1)) σ) (hf : ¬ c = d → post (some (vi 0)) σ) : Cl mX12_isKeptWord [vr 94, vi x, vi w, vi v] σ post := by
  have l1 : σ 124 (112 * x + w) = wlen c := h1.1
  have l2 : σ 96 v = wlen d := h2.1
  have c1 := hc.2.1
  have d1 := hd.2.1
  have zero : ¬ c = d → ∀ j : Int, 0 ≤ j → j ≤ 12 → V mX12_isKeptWord 30 [some (vr 94), some (vi x), some (vi w), some (vi v), some (vi 0), some (vi j)] [] σ post := by
    intro hne j j0 j1
    exact BX12_isKeptWord_30 ⟨by omega, by omega, by rw [l2]; omega, fun _ => ⟨by omega, hf hne⟩, fun _ => ⟨by omega, fun _ => ⟨by omega, hf hne⟩, fun z => absurd rfl z⟩⟩
  refine EX12_isKeptWord ⟨by omega, by omega, by rw [l1]; omega, by rw [l2]; omega, fun z => zero (fun e => z (by rw [l1, l2, e])) 0 (by omega) (by omega), fun z => ?_⟩
  rw [l1, l2] at z
  have loop : ∀ (n : Nat) (j : Int), 0 ≤ j → j + n = wlen d → (∀ i : Int, 0 ≤ i → i < j → cd c i = cd d i) → V mX12_isKeptWord 30 [some (vr 94), some (vi x), some (vi w), some (vi v), some (vi 1), some (vi j)] [] σ post := by
    intro n
    induction n with
    | zero =>
      intro j j0 hj hs
      exact BX12_isKeptWord_30 ⟨by omega, by omega, by rw [l2]; omega, fun _ => ⟨by omega, ht (WW_ext hc hd z (fun i i0 i1 => hs i i0 (by omega)))⟩, fun y => absurd (by rw [l2]; omega) y⟩
    | succ n ih =>
      intro j j0 hj hs
      have b1 : kv σ x 3 (12 * w + j) = cd c j + 94 := h1.2 j j0 (by omega)
      have b2 : σ 97 (12 * v + j) = cd d j + 94 := h2.2 j j0 (by omega)
      have e1 : σ 125 (1344 * x + 12 * w + j) = cd c j + 94 := by
        rw [show 1344 * x + 12 * w + j = 1344 * x + (12 * w + j) by omega]; exact b1
      have q1 := cd_b c j
      have q2 := cd_b d j
      refine BX12_isKeptWord_30 ⟨by omega, by omega, by rw [l2]; omega, fun y => absurd y (by rw [l2]; omega), fun _ => ⟨by omega, fun y => absurd y (by decide), fun _ => ⟨by omega, by omega, by rw [e1]; omega, by rw [b2]; omega, fun y => ?_, fun y => ?_⟩⟩⟩
      · rw [e1, b2] at y
        exact zero (fun e => y (by rw [e])) (j + 1) (by omega) (by omega)
      · rw [e1, b2] at y
        refine ih (j + 1) (by omega) (by omega) (fun i i0 i1 => ?_)
        by_cases e : i = j
        · rw [e]; omega
        · exact hs i i0 (by omega)
  exact loop (wlen d).toNat 0 (by omega) (by omega) (fun i i0 i1 => by omega)
theorem r_headLike {σ O N : Sg} {post : Po} {x h : Int} (x0 : 0 ≤ x) (x1 : x < 2) (hO : WfB O) (hRO : RA (kv σ x) O) (hN : WfB N) (hRN : RA (bk σ 94) N) (h0 : 0 ≤ h) (h1 : h < O 0 0) (hp : post (some (vi (hL N (O 1 h)))) σ) : Cl mX12_headLike [vr 94, vi x, vi h] σ post := by
  have wO := hO.1
  have wN := hN.1
  have eh : σ 94 0 = N 0 0 := Ra_heads hRN
  have wwO : WW (O 1 h) := by
    have e := (hO.2.2.1 h h0 h1).2.2.2.2 (-1) (by decide) (by have := (hO.2.2.1 h h0 h1).1; omega)
    unfold ew at e
    rw [if_pos rfl] at e
    exact e
  have rwO : RW (kv σ x 2) (kv σ x 3) (7 * h + 1 + -1) (O 1 h) := by
    have e := (hRO.2.2.1 h h0 h1).2.2.2.2 (-1) (by decide) (by have := (hO.2.2.1 h h0 h1).1; omega)
    unfold ew at e
    rw [if_pos rfl] at e
    exact e
  refine EX12_headLike ?_
  have loop : ∀ (n j : Nat), (j : Int) + n = N 0 0 → (∀ i : Nat, i < j → ¬ (decide (N 1 i = O 1 h)) = true) → V mX12_headLike 2 [some (vr 94), some (vi x), some (vi h), some (vi (j : Int))] [] σ post := by
    intro n
    induction n with
    | zero =>
      intro j hj hno
      refine BX12_headLike_2 ⟨by omega, by rw [eh]; omega, fun _ => ?_, fun z => absurd (by rw [eh]; omega) z⟩
      have e : hL N (O 1 h) = -1 := fnd_none _ (fun i hi => hno i (by omega))
      rw [e] at hp
      exact hp
    | succ n ih =>
      intro j hj hno
      have wwN : WW (N 1 j) := by
        have e := (hN.2.2.1 j (by omega) (by omega)).2.2.2.2 (-1) (by decide) (by have := (hN.2.2.1 j (by omega) (by omega)).1; omega)
        unfold ew at e
        rw [if_pos rfl] at e
        exact e
      have rwN : RW (σ 96) (σ 97) (7 * (j : Int) + 1 + -1) (N 1 j) := by
        have e := Ra_w hRN (i := j) (by omega) (by omega) (s := -1) (by decide) (by have := (hN.2.2.1 j (by omega) (by omega)).1; omega)
        unfold ew at e
        rw [if_pos rfl] at e
        exact e
      refine BX12_headLike_2 ⟨by omega, by rw [eh]; omega, fun z => absurd z (by rw [eh]; omega), fun _ => r_slot ⟨_, rfl, r_slot ⟨_, rfl, r_isKeptWord x0 x1 (by omega) (by omega) (by omega) (by omega) wwO wwN rwO rwN (fun e => ⟨_, rfl, b1' ?_⟩) (fun e => ⟨_, rfl, b0' (ih (j + 1) (by omega) (fun i hi => ?_))⟩)⟩⟩⟩
      · have e2 : hL N (O 1 h) = j := fnd_some _ j (by omega) (decide_eq_true e.symm) hno
        rw [e2] at hp
        exact hp
      · by_cases e3 : i = j
        · rw [e3, decide_eq_true_iff]; exact fun y => e y.symm
        · exact hno i (by omega)
  exact loop (N 0 0).toNat 0 (by omega) (fun i hi => by omega)
theorem r_subLike {σ O N : Sg} {post : Po} {x h s g : Int} (x0 : 0 ≤ x) (x1 : x < 2) (hO : WfB O) (hRO : RA (kv σ x) O) (hN : WfB N) (hRN : RA (bk σ 94) N) (h0 : 0 ≤ h) (h1 : h < O 0 0) (s0 : 0 ≤ s) (s1 : s < O 2 h) (g0 : 0 ≤ g) (g1 : g < N 0 0) (hf : sL N g (O 3 (h * 6 + s)) = -1 → post (some (vi (-2))) σ) (ht : 0 ≤ sL N g (O 3 (h * 6 + s)) → post (some (vi (sL N g (O 3 (h * 6 + s))))) σ) : Cl mX12_subLike [vr 94, vi x, vi h, vi s, vi g] σ post := by
  have wO := hO.1
  have wN := hN.1
  have sO := (hO.2.2.1 h h0 h1).1
  have sN := (hN.2.2.1 g g0 g1).1
  have eh : σ 95 g = N 2 g := Ra_subs hRN g0 g1
  have wwO : WW (O 3 (h * 6 + s)) := by
    have e := (hO.2.2.1 h h0 h1).2.2.2.2 s (by omega) s1
    unfold ew at e
    rw [if_neg (by omega)] at e
    exact e
  have rwO : RW (kv σ x 2) (kv σ x 3) (7 * h + 1 + s) (O 3 (h * 6 + s)) := by
    have e := (hRO.2.2.1 h h0 h1).2.2.2.2 s (by omega) s1
    unfold ew at e
    rw [if_neg (by omega)] at e
    exact e
  have e1 : sL N g (O 3 (h * 6 + s)) = fnd (fun u => decide (N 3 (g * 6 + u) = O 3 (h * 6 + s))) (N 2 g).toNat := if_neg (by omega)
  rw [e1] at hf ht
  refine EX12_subLike ?_
  have loop : ∀ (n j : Nat), (j : Int) + n = N 2 g → (∀ i : Nat, i < j → ¬ (decide (N 3 (g * 6 + i) = O 3 (h * 6 + s))) = true) → V mX12_subLike 3 [some (vr 94), some (vi x), some (vi h), some (vi s), some (vi g), some (vi (j : Int))] [] σ post := by
    intro n
    induction n with
    | zero =>
      intro j hj hno
      exact BX12_subLike_3 ⟨by omega, by omega, by rw [eh]; omega, fun _ => hf (fnd_none _ (fun i hi => hno i (by omega))), fun z => absurd (by rw [eh]; omega) z⟩
    | succ n ih =>
      intro j hj hno
      have wwN : WW (N 3 (g * 6 + j)) := by
        have e := (hN.2.2.1 g g0 g1).2.2.2.2 j (by omega) (by omega)
        unfold ew at e
        rw [if_neg (by omega)] at e
        exact e
      have rwN : RW (σ 96) (σ 97) (7 * g + 1 + (j : Int)) (N 3 (g * 6 + j)) := by
        have e := Ra_w hRN (i := g) g0 g1 (s := j) (by omega) (by omega)
        unfold ew at e
        rw [if_neg (by omega)] at e
        exact e
      refine BX12_subLike_3 ⟨by omega, by omega, by rw [eh]; omega, fun z => absurd z (by rw [eh]; omega), fun _ => r_slot ⟨_, rfl, r_slot ⟨_, rfl, r_isKeptWord x0 x1 (by omega) (by omega) (by omega) (by omega) wwO wwN rwO rwN (fun e => ⟨_, rfl, b1' ?_⟩) (fun e => ⟨_, rfl, b0' (ih (j + 1) (by omega) (fun i hi => ?_))⟩)⟩⟩⟩
      · have e2 := fnd_some (p := fun u => decide (N 3 (g * 6 + u) = O 3 (h * 6 + s))) (N 2 g).toNat j (by omega) (decide_eq_true e.symm) hno
        rw [e2] at ht
        exact ht (by omega)
      · by_cases e3 : i = j
        · rw [e3, decide_eq_true_iff]; exact fun y => e y.symm
        · exact hno i (by omega)
  exact loop (N 2 g).toNat 0 (by omega) (fun i hi => by omega)
