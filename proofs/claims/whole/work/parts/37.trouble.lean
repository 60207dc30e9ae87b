/-! ===== PURE HALF, by hand: trouble ===== -/
theorem pg_out {B : Sg} (hW : WfB B) {h p : Int} (hp : p < 1 ∨ 99 < p) : ¬ pg B h p (B 0 7).toNat = true := fun z => by
  obtain ⟨k, h1, h2, h3, h4⟩ := (pg_iff _).1 z
  have := (hW.2.2.2.1 k (by omega) (by omega)).2.2.1
  omega
theorem tka_pg {B : Sg} (hW : WfB B) {g p : Int} (g0 : 0 ≤ g) (g1 : g < 16) : tka B (iShl 1 g) p (B 0 7).toNat = pg B g p (B 0 7).toNat := by
  rw [Bool.eq_iff_iff, tka_iff, pg_iff]
  constructor
  · rintro ⟨k, k1, k2, k3⟩
    have w := (hW.2.2.2.1 k (by omega) (by omega)).1
    rw [has_shl g0 (by omega) w.1, decide_eq_true_iff] at k2
    exact ⟨k, k1, k2, k3⟩
  · rintro ⟨k, k1, k2, k3⟩
    refine ⟨k, k1, ?_, k3⟩
    rw [k2, has_shl g0 (by omega) g0]
    exact decide_eq_true rfl
/-- the same pages -/
def twn (B : Sg) (g h : Int) : Prop := ∀ p : Int, 0 ≤ p → p < 102 → pg B g p (B 0 7).toNat = pg B h p (B 0 7).toNat
theorem twn_all {B : Sg} (hW : WfB B) {g h : Int} (t : twn B g h) {p : Int} (p0 : 0 ≤ p) : pg B g p (B 0 7).toNat = pg B h p (B 0 7).toNat := by
  by_cases c : p < 102
  · exact t p p0 c
  · rw [Bool.eq_iff_iff]
    exact ⟨fun z => absurd z (pg_out hW (by omega)), fun z => absurd z (pg_out hW (by omega))⟩
theorem c_hasTwin {σ B : Sg} {post : Po} {h n : Int} (hW : WfB B) (hP : PgOK σ B (B 0 7).toNat) (h0 : 0 ≤ h) (h1 : h < 16) (n0 : 0 ≤ n) (n1 : n ≤ 16) (ht : (∃ g : Int, 0 ≤ g ∧ g < n ∧ g ≠ h ∧ twn B g h) → post (some (vi 1)) σ) (hf : ¬ (∃ g : Int, 0 ≤ g ∧ g < n ∧ g ≠ h ∧ twn B g h) → post (some (vi 0)) σ) : Cl mX2_hasTwin [vr 78, vi h, vi n] σ post := by
  refine EX2_hasTwin ?_
  have loop : ∀ (m : Nat) (j : Int), 0 ≤ j → j + m = n → (∀ g : Int, 0 ≤ g → g < j → g ≠ h → ¬ twn B g h) → V mX2_hasTwin 2 [some (vr 78), some (vi h), some (vi n), some (vi j)] [] σ post := by
    intro m
    induction m with
    | zero =>
      intro j j0 hj hno
      refine BX2_hasTwin_2 ⟨by omega, by omega, fun _ => hf (fun ⟨g, g0, g1, g2, g3⟩ => hno g g0 (by omega) g2 g3), fun q => absurd (by omega) q⟩
    | succ m ih =>
      intro j j0 hj hno
      obtain ⟨⟨r1, r2⟩, b1⟩ := hP j j0 (by omega)
      obtain ⟨⟨r3, r4⟩, b2⟩ := hP h h0 h1
      have nx : (j ≠ h → ¬ twn B j h) → V mX2_hasTwin 2 [some (vr 78), some (vi h), some (vi n), some (vi (j + 1))] [] σ post := fun hn => ih (j + 1) (by omega) (by omega) (fun g g0 g1 g2 => by
        by_cases e : g = j
        · subst e; exact hn g2
        · exact hno g g0 (by omega) g2)
      refine BX2_hasTwin_2 ⟨by omega, by omega, fun q => absurd q (by omega), fun _ => ⟨by omega, fun q => nx (fun z => absurd q z), fun q => ⟨by omega, by omega, r1, r3, fun q2 => nx (fun _ t => q2 (tn_inj r1 r3 (Nat.eq_of_testBit_eq (fun i => ?_)))), fun q2 => ⟨r2, r4, fun q3 => nx (fun _ t => q3 (tn_inj r2 r4 (Nat.eq_of_testBit_eq (fun i => ?_)))), fun q3 => ht ⟨j, j0, by omega, q, fun p p0 p1 => ?_⟩⟩⟩⟩⟩
      · by_cases hi : i < 64
        · rw [(b1 i hi).1, (b2 i hi).1, twn_all hW t (by omega)]
        · rw [tn_bit (by omega), tn_bit (by omega)]
      · by_cases hi : i < 64
        · rw [(b1 i hi).2, (b2 i hi).2, twn_all hW t (by omega)]
        · rw [tn_bit (by omega), tn_bit (by omega)]
      · by_cases c : p < 64
        · have x1 := (b1 p.toNat (by omega)).1
          have x2 := (b2 p.toNat (by omega)).1
          rw [show ((p.toNat : Nat) : Int) = p by omega] at x1 x2
          rw [← x1, ← x2, q2]
        · have x1 := (b1 (p - 64).toNat (by omega)).2
          have x2 := (b2 (p - 64).toNat (by omega)).2
          rw [show (64 : Int) + (((p - 64).toNat : Nat) : Int) = p by omega] at x1 x2
          rw [← x1, ← x2, q3]
  exact loop n.toNat 0 (by omega) (by omega) (fun g g0 g1 => by omega)
theorem fil_pg {B : Sg} (hW : WfB B) {h : Int} : fil B h = true ↔ 0 < cnt (fun p => pg B h p (B 0 7).toNat) 102 := by
  rw [fil_iff, cnt_pos]
  constructor
  · rintro ⟨k, k1, k2⟩
    have w := (hW.2.2.2.1 k (by omega) (by omega)).2.2.1
    refine ⟨(B 9 k).toNat, by omega, (pg_iff _).2 ⟨k, k1, k2, by omega, by omega⟩⟩
  · rintro ⟨i, i1, i2⟩
    obtain ⟨k, k1, k2, _⟩ := (pg_iff _).1 i2
    exact ⟨k, k1, k2⟩
theorem r_hasTwin {σ B : Sg} {post : Po} {h : Int} (hW : WfB B) (hR : RA (bk σ 94) B) (h0 : 0 ≤ h) (h1 : h < B 0 0) (ht : (fil B h = true ∧ ∃ g : Int, 0 ≤ g ∧ g < B 0 0 ∧ g ≠ h ∧ twn B g h) → ∀ σ' : Sg, FrJ [107, 111] [] σ σ' → post (some (vi 1)) σ') (hf : ¬ (fil B h = true ∧ ∃ g : Int, 0 ≤ g ∧ g < B 0 0 ∧ g ≠ h ∧ twn B g h) → ∀ σ' : Sg, FrJ [107, 111] [] σ σ' → post (some (vi 0)) σ') : Cl mX12_hasTwin [vr 94, vi h] σ post := by
  have wh := hW.1
  have sl := iShl1_lt (h := h) (n := 16) h0 (by omega) (by decide)
  have cH : cnt (fun p => tka B (iShl 1 h) p (B 0 7).toNat) 102 = cnt (fun p => pg B h p (B 0 7).toNat) 102 := cnt_congr 102 (fun i _ => tka_pg hW h0 (by omega))
  have cb := cnt_b (fun p => pg B h p (B 0 7).toNat) 102
  refine EX12_hasTwin (r_tickAll hW hR sl.1 sl.2 (fun τ1 hF1 hT1 => ⟨_, rfl, ?_⟩))
  rw [cH]
  have hF1' : FrJ [107, 111] [] σ τ1 := hF1.mo (by simp) (by simp)
  -- one head after the other
  have heads : ∀ (n : Nat) (j x : Int) (τ : Sg), 0 ≤ j → j + n = B 0 0 → FrJ [107, 111] [] σ τ → (∀ p : Int, 0 ≤ p → p < 102 → τ 111 p = if pg B h p (B 0 7).toNat = true then 1 else 0) → (x = 1 ∧ fil B h = true ∧ (∃ g : Int, 0 ≤ g ∧ g < j ∧ g ≠ h ∧ twn B g h) ∨ x = 0 ∧ ¬ (fil B h = true ∧ ∃ g : Int, 0 ≤ g ∧ g < j ∧ g ≠ h ∧ twn B g h)) → V mX12_hasTwin 39 [some (vr 94), some (vi h), some (vi (cnt (fun p => pg B h p (B 0 7).toNat) 102)), some (vi x), some (vi j), none, none] [] τ post := by
    intro n
    induction n with
    | zero =>
      intro j x τ j0 hj hF hT hx
      have e0 : τ 94 0 = B 0 0 := (hF.2 0 (by simp)).trans (Ra_heads hR)
      have ej : j = B 0 0 := by omega
      subst ej
      refine BX12_hasTwin_39 ⟨by omega, by rw [e0]; omega, fun _ => ⟨hx.elim (fun z => Or.inr z.1) (fun z => Or.inl z.1), ?_⟩, fun z => absurd (by rw [e0]; omega) z⟩
      rcases hx with ⟨e, y⟩ | ⟨e, y⟩
      · rw [e]; exact ht y τ hF
      · rw [e]; exact hf y τ hF
    | succ n ih =>
      intro j x τ j0 hj hF hT hx
      have e0 : τ 94 0 = B 0 0 := (hF.2 0 (by simp)).trans (Ra_heads hR)
      have hR' : RA (bk τ 94) B := hR.fr hF (by simp) (by simp)
      have sj := iShl1_lt (h := j) (n := 16) j0 (by omega) (by decide)
      have rx : x = 0 ∨ x = 1 := hx.elim (fun z => Or.inr z.1) (fun z => Or.inl z.1)
      -- the comparison
      have cmp : ∀ (m : Nat) (q y : Int) (υ : Sg), 0 ≤ q → q + m = 102 → FrJ [107, 111] [] σ υ → (∀ p : Int, 0 ≤ p → p < 102 → υ 111 p = if pg B h p (B 0 7).toNat = true then 1 else 0) → (y = 1 ∧ (∀ p : Int, 0 ≤ p → p < 102 → υ 107 p = if pg B j p (B 0 7).toNat = true then 1 else 0) ∧ j ≠ h ∧ fil B h = true ∧ (∀ p : Int, 0 ≤ p → p < q → pg B j p (B 0 7).toNat = pg B h p (B 0 7).toNat) ∨ y = 0 ∧ ¬ (fil B h = true ∧ j ≠ h ∧ twn B j h)) → V mX12_hasTwin 80 [some (vr 94), some (vi h), some (vi (cnt (fun p => pg B h p (B 0 7).toNat) 102)), some (vi x), some (vi j), some (vi y), some (vi q)] [] υ post := by
        intro m
        induction m with
        | zero =>
          intro q y υ q0 hq hF2 hT2 hy
          have eq : q = 102 := by omega
          subst eq
          have ry : y = 0 ∨ y = 1 := hy.elim (fun z => Or.inr z.1) (fun z => Or.inl z.1)
          refine BX12_hasTwin_80 ⟨by omega, fun _ => ⟨by omega, fun c => ?_, fun c => ⟨by omega, fun c2 => ?_, fun c2 => ?_⟩⟩, fun z => absurd (by omega) z⟩
          · refine ih (j + 1) 1 υ (by omega) (by omega) hF2 hT2 (Or.inl ⟨rfl, ?_⟩)
            rcases hx with ⟨_, y1, g, g0, g1, g2⟩ | ⟨e, _⟩
            · exact ⟨y1, g, g0, by omega, g2⟩
            · exact absurd e c
          · refine ih (j + 1) 0 υ (by omega) (by omega) hF2 hT2 (Or.inr ⟨rfl, ?_⟩)
            rcases hx with ⟨e, _⟩ | ⟨_, y1⟩
            · omega
            · rcases hy with ⟨e, _⟩ | ⟨_, y2⟩
              · omega
              · rintro ⟨f, g, g0, g1, g2, g3⟩
                by_cases e : g = j
                · subst e; exact y2 ⟨f, g2, g3⟩
                · exact y1 ⟨f, g, g0, by omega, g2, g3⟩
          · refine ih (j + 1) 1 υ (by omega) (by omega) hF2 hT2 (Or.inl ⟨rfl, ?_⟩)
            rcases hy with ⟨_, _, y1, y2, y3⟩ | ⟨e, _⟩
            · exact ⟨y2, j, j0, by omega, y1, y3⟩
            · exact absurd e c2
        | succ m ihm =>
          intro q y υ q0 hq hF2 hT2 hy
          have ry : y = 0 ∨ y = 1 := hy.elim (fun z => Or.inr z.1) (fun z => Or.inl z.1)
          refine BX12_hasTwin_80 ⟨by omega, fun z => absurd z (by omega), fun _ => ⟨by omega, fun c0 => ⟨by omega, fun c => ?_, fun c => ⟨fun c2 => ?_, fun c2 => absurd c0 c2⟩⟩, fun c0 => ?_⟩⟩
          · refine ih (j + 1) 1 υ (by omega) (by omega) hF2 hT2 (Or.inl ⟨rfl, ?_⟩)
            rcases hx with ⟨_, y1, g, g0, g1, g2⟩ | ⟨e, _⟩
            · exact ⟨y1, g, g0, by omega, g2⟩
            · exact absurd e c
          · refine ih (j + 1) 0 υ (by omega) (by omega) hF2 hT2 (Or.inr ⟨rfl, ?_⟩)
            rcases hx with ⟨e, _⟩ | ⟨_, y1⟩
            · omega
            · rcases hy with ⟨e, _⟩ | ⟨_, y2⟩
              · omega
              · rintro ⟨f, g, g0, g1, g2, g3⟩
                by_cases e : g = j
                · subst e; exact y2 ⟨f, g2, g3⟩
                · exact y1 ⟨f, g, g0, by omega, g2, g3⟩
          · rcases hy with ⟨_, y1, y2, y3, y4⟩ | ⟨e, _⟩
            · have a1 := y1 q q0 (by omega)
              have a2 := hT2 q q0 (by omega)
              refine ⟨by omega, by rw [a1]; split <;> decide, by rw [a2]; split <;> decide, fun d => ?_, fun d => ?_⟩
              · refine ihm (q + 1) 0 υ (by omega) (by omega) hF2 hT2 (Or.inr ⟨rfl, fun ⟨_, _, t⟩ => d ?_⟩)
                rw [a1, a2, t q q0 (by omega)]
              · refine ihm (q + 1) 1 υ (by omega) (by omega) hF2 hT2 (Or.inl ⟨rfl, y1, y2, y3, fun p p0 p1 => ?_⟩)
                by_cases e : p = q
                · subst e
                  rw [a1, a2] at d
                  cases u : pg B j p (B 0 7).toNat
                  · cases v : pg B h p (B 0 7).toNat
                    · rfl
                    · rw [u, v] at d; cases d
                  · cases v : pg B h p (B 0 7).toNat
                    · rw [u, v] at d; cases d
                    · rfl
                · exact y4 p p0 (by omega)
            · exact absurd e c0
      refine BX12_hasTwin_39 ⟨by omega, by rw [e0]; omega, fun z => absurd z (by rw [e0]; omega), fun _ => ⟨by omega, fun c => ?_, fun c => ⟨by omega, fun c2 => ?_, fun c2 => ?_⟩⟩⟩
      · exact cmp 102 0 0 τ (by omega) (by omega) hF hT (Or.inr ⟨rfl, fun z => z.2.1 c⟩)
      · refine cmp 102 0 0 τ (by omega) (by omega) hF hT (Or.inr ⟨rfl, fun z => ?_⟩)
        have := (fil_pg hW).1 z.1
        omega
      · have fh : fil B h = true := (fil_pg hW).2 (by omega)
        have cJ : cnt (fun p => tka B (iShl 1 j) p (B 0 7).toNat) 102 = cnt (fun p => pg B j p (B 0 7).toNat) 102 := cnt_congr 102 (fun i _ => tka_pg hW j0 (by omega))
        have cbj := cnt_b (fun p => pg B j p (B 0 7).toNat) 102
        refine r_tickAll hW hR' sj.1 sj.2 (fun υ hF2 hU => ⟨_, rfl, ?_⟩)
        rw [cJ]
        have hF3 : FrJ [107, 111] [] σ υ := hF.tr (hF2.mo (by simp) (by simp))
        have hT3 : ∀ p : Int, 0 ≤ p → p < 102 → υ 111 p = if pg B h p (B 0 7).toNat = true then 1 else 0 := fun p p0 p1 => by rw [hF2.1 111 (by simp) (by decide)]; exact hT p p0 p1
        refine ⟨by omega, fun d => cmp 102 0 0 υ (by omega) (by omega) hF3 hT3 (Or.inr ⟨rfl, fun z => d ?_⟩), fun d => cmp 102 0 1 υ (by omega) (by omega) hF3 hT3 (Or.inl ⟨rfl, fun p p0 p1 => ?_, c, fh, fun p p0 p1 => by omega⟩)⟩
        · exact cnt_congr 102 (fun i hi => z.2.2 i (by omega) (by omega))
        · rw [hU p p0 p1, tka_pg hW j0 (by omega)]
  have copy : ∀ (n : Nat) (x : Int) (τ : Sg), 0 ≤ x → x + n = 102 → FrJ [107, 111] [] σ τ → τ 107 = τ1 107 → (∀ p : Int, 0 ≤ p → p < x → τ 111 p = if pg B h p (B 0 7).toNat = true then 1 else 0) → V mX12_hasTwin 10 [some (vr 94), some (vi h), some (vi (cnt (fun p => pg B h p (B 0 7).toNat) 102)), some (vi x), none, none, none] [] τ post := by
    intro n
    induction n with
    | zero =>
      intro x τ x0 hx hF e7 hT
      refine BX12_hasTwin_10 ⟨by omega, fun _ => ?_, fun z => absurd (by omega) z⟩
      exact heads (B 0 0).toNat 0 0 τ (by omega) (by omega) hF (fun p p0 p1 => hT p p0 (by omega)) (Or.inr ⟨rfl, fun ⟨_, g, g0, g1, _⟩ => by omega⟩)
    | succ n ih =>
      intro x τ x0 hx hF e7 hT
      refine BX12_hasTwin_10 ⟨by omega, fun z => absurd z (by omega), fun _ => ⟨by omega, ih (x + 1) _ (by omega) (by omega) (hF.u (by simp) (by decide)) (by rw [up_r (by decide)]; exact e7) (fun p p0 p1 => ?_)⟩⟩
      by_cases c : p = x
      · subst c
        rw [up_s, e7, hT1 p p0 (by omega), tka_pg hW h0 (by omega)]
      · rw [up_f c]; exact hT p p0 (by omega)
  exact copy 102 0 τ1 (by omega) (by omega) hF1' rfl (fun p p0 p1 => by omega)
/-! going round -/
def rnd (B : Sg) (h : Int) : Prop := ∃ t : Nat, 1 ≤ t ∧ chn B h t = h
theorem rnd_16 {B : Sg} (hW : WfB B) {h : Int} (h0 : 0 ≤ h) (h1 : h < B 0 0) (hr : rnd B h) : ∃ t : Nat, 1 ≤ t ∧ t ≤ 16 ∧ chn B h t = h ∧ ∀ v, 1 ≤ v → v < t → chn B h v ≠ h := by
  have wh := hW.1
  obtain ⟨t0, t1, t2⟩ := hr
  obtain ⟨t, ⟨k1, k2⟩, k3⟩ := pk_least (fun t => 1 ≤ t ∧ chn B h t = h) ⟨t0, t1, t2⟩
  have ne : ∀ v, v < t → chn B h v ≠ -1 := fun v hv e => by
    have := chn_m1 e (t - v)
    rw [show v + (t - v) = t by omega, k2] at this
    omega
  refine ⟨t, k1, ?_, k2, fun v v1 v2 e => k3 v v2 ⟨v1, e⟩⟩
  have := pigeon (B 0 0).toNat (t - 1) (fun i => chn B h i) (fun i hi => by
    have a := chn_r hW h0 h1 i
    have b := ne i (by omega)
    show 0 ≤ chn B h i ∧ chn B h i < ((B 0 0).toNat : Int)
    omega) (fun i j hi hj e => by
    have key : ∀ i j, i < j → j < t → chn B h i = chn B h j → False := by
      intro i j hij hj e
      have := chn_add B h i (t - j)
      rw [e, chn_add B h j (t - j), show j + (t - j) = t by omega, k2] at this
      exact k3 (i + (t - j)) (by omega) ⟨by omega, this.symm⟩
    rcases Nat.lt_trichotomy i j with l | l | l
    · exact (key i j l (by omega) e).elim
    · exact l
    · exact (key j i l (by omega) e.symm).elim)
  omega
theorem c_goesRound {σ : Sg} {post : Po} {k : Nat} {h : Int} (hk : shp[k]? = some (0, 0, 14)) (hW : WfB (bk σ k)) (h0 : 0 ≤ h) (h1 : h < σ k 0) (ht : rnd (bk σ k) h → post (some (vi 1)) σ) (hf : ¬ rnd (bk σ k) h → post (some (vi 0)) σ) : Cl mX0_goesRound [vr k, vi h] σ post := by
  have wh := Wb_heads hW
  refine EX0_goesRound hk ?_
  have loop : ∀ (n w : Nat) (x : Int), w + n = 16 → x = chn (bk σ k) h w → x ≠ -1 → (∀ v, 1 ≤ v → v ≤ w → chn (bk σ k) h v ≠ h) → V mX0_goesRound 4 [some (vr k), some (vi h), some (vi x), some (vi (w : Int))] [] σ post := by
    intro n
    induction n with
    | zero =>
      intro w x hw hx hx1 hno
      refine BX0_goesRound_4 hk ⟨by omega, fun _ => hf (fun hr => ?_), fun q => absurd (by omega) q⟩
      obtain ⟨t, t1, t2, t3, _⟩ := rnd_16 hW h0 h1 hr
      exact hno t t1 (by omega) t3
    | succ n ih =>
      intro w x hw hx hx1 hno
      have xr := chn_r hW h0 h1 w
      rw [← hx] at xr
      have xr : -1 ≤ x ∧ x < σ k 0 := xr
      have ws := Wb_see hW (i := x) (by omega) xr.2
      have nx : chn (bk σ k) h (w + 1) = σ (k + 4) x := by
        show (if chn (bk σ k) h w = -1 then -1 else bk σ k 4 (chn (bk σ k) h w)) = _
        rw [← hx, if_neg hx1]
        rfl
      refine BX0_goesRound_4 hk ⟨by omega, fun q => absurd q (by omega), fun _ => ⟨by omega, by omega, fun c => ⟨by omega, fun _ => hf (fun hr => ?_), fun c2 => absurd c2 (by omega)⟩, fun c => ⟨by omega, fun c2 => ih (w + 1) _ (by omega) nx.symm c (fun v v1 v2 => ?_), fun c2 => ⟨fun c3 => absurd c2 c3, fun _ => ht ⟨w + 1, by omega, nx.trans c2⟩⟩⟩⟩⟩
      · obtain ⟨t, t1, t2, t3, _⟩ := rnd_16 hW h0 h1 hr
        by_cases e : t ≤ w
        · exact hno t t1 e t3
        · have := chn_m1 (nx.trans c) (t - (w + 1))
          rw [show w + 1 + (t - (w + 1)) = t by omega, t3] at this
          omega
      · by_cases e : v = w + 1
        · rw [e, nx]; exact c2
        · exact hno v v1 (by omega)
  exact loop 16 0 h (by omega) rfl (by omega) (fun v v1 v2 => by omega)
theorem r_goesRound {σ B : Sg} {post : Po} {h : Int} (hW : WfB B) (hR : RA (bk σ 94) B) (h0 : 0 ≤ h) (h1 : h < B 0 0) (ht : rnd B h → post (some (vi 1)) σ) (hf : ¬ rnd B h → post (some (vi 0)) σ) : Cl mX12_goesRound [vr 94, vi h] σ post := by
  have wh := hW.1
  refine EX12_goesRound ⟨by omega, ?_⟩
  have see : ∀ x : Int, 0 ≤ x → x < B 0 0 → σ 98 x = B 4 x := fun x a b => Ra_see hR a b
  have loop : ∀ (n w : Nat) (x : Int), w + n = 16 → x = chn B h (w + 1) → (∀ v, 1 ≤ v → v ≤ w → chn B h v ≠ h) → V mX12_goesRound 9 [some (vr 94), some (vi h), some (vi x), some (vi (w : Int))] [] σ post := by
    intro n
    induction n with
    | zero =>
      intro w x hw hx hno
      have xr := chn_r hW h0 h1 (w + 1)
      rw [← hx] at xr
      have nr : ¬ rnd B h := fun hr => by
        obtain ⟨t, t1, t2, t3, _⟩ := rnd_16 hW h0 h1 hr
        exact hno t t1 (by omega) t3
      refine BX12_goesRound_9 ⟨by omega, fun _ => ⟨by omega, by omega, fun _ => hf nr, fun c => absurd ⟨w + 1, by omega, by rw [← hx]; exact c⟩ nr⟩, fun q => absurd (by omega) q⟩
    | succ n ih =>
      intro w x hw hx hno
      have xr := chn_r hW h0 h1 (w + 1)
      rw [← hx] at xr
      have neg : x < 0 → ¬ rnd B h := fun c hr => by
        obtain ⟨t, t1, t2, t3, _⟩ := rnd_16 hW h0 h1 hr
        by_cases e : t ≤ w
        · exact hno t t1 e t3
        · have e1 : chn B h (w + 1) = -1 := by rw [← hx]; omega
          have := chn_m1 e1 (t - (w + 1))
          rw [show w + 1 + (t - (w + 1)) = t by omega, t3] at this
          omega
      have nx : 0 ≤ x → chn B h (w + 2) = σ 98 x := fun c => by
        show (if chn B h (w + 1) = -1 then -1 else B 4 (chn B h (w + 1))) = _
        rw [← hx, if_neg (by omega), see x c xr.2]
      refine BX12_goesRound_9 ⟨by omega, fun q => absurd q (by omega), fun _ => ⟨by omega, fun c => ⟨by omega, fun _ => hf (neg c), fun c2 => absurd c2 (by omega)⟩, fun c => ⟨by omega, fun c2 => ⟨fun c3 => absurd c2 c3, fun _ => ht ⟨w + 1, by omega, by rw [← hx]; exact c2⟩⟩, fun c2 => ⟨by omega, ih (w + 1) _ (by omega) (nx (by omega)).symm (fun v v1 v2 => ?_)⟩⟩⟩⟩
      by_cases e : v = w + 1
      · rw [e, ← hx]; exact c2
      · exact hno v v1 (by omega)
  have e1 : chn B h 1 = σ 98 h := by
    show (if h = -1 then -1 else B 4 h) = _
    rw [if_neg (by omega), see h h0 h1]
  exact loop 16 0 _ (by omega) e1.symm (fun v v1 v2 => by omega)
