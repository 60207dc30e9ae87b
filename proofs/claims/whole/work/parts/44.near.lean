/-! ===== PURE HALF, by hand: near ===== -/
def lA (c : Int) (i : Nat) : Int := (lets c 12).getD i 0
def lX (c : Int) : Nat := (lets c 12).length
theorem lX_b (c : Int) : lX c ≤ 12 := (lets_b c 12).1
theorem lA_in {c : Int} {i : Nat} (h : i < lX c) : 1 < lA c i ∧ lA c i < 32 := (lets_b c 12).2 _ (getD_mem h)
theorem lA_out {c : Int} {i : Nat} (h : lX c ≤ i) : lA c i = 0 := by
  unfold lA
  rw [List.getD_eq_getElem?_getD, List.getElem?_eq_none h]
  rfl
theorem lA_b (c : Int) (i : Nat) : 0 ≤ lA c i ∧ lA c i < 32 := by
  by_cases h : i < lX c
  · have := lA_in h; omega
  · rw [lA_out (by omega)]; decide
def bar (c : Int) : Int := pkL (lets c 12)
theorem bar_b (c : Int) : 0 ≤ bar c ∧ bar c < 1152921504606846976 := pkL_b _ (fun x hx => by have := (lets_b c 12).2 x hx; omega)
theorem bar_cd {c : Int} {i : Nat} (h : i < 12) : cd (bar c) i = lA c i := cd_pkL _ i (fun x hx => by have := (lets_b c 12).2 x hx; omega) h
theorem bar_eq {c d : Int} : bar c = bar d ↔ ∀ i : Nat, lA c i = lA d i := by
  constructor
  · intro h i
    by_cases hi : i < 12
    · rw [← bar_cd hi, ← bar_cd hi, h]
    · have a := lX_b c
      have b := lX_b d
      rw [lA_out (by omega), lA_out (by omega)]
  · intro h
    refine cd_ext (bar_b c).1 (bar_b c).2 (bar_b d).1 (bar_b d).2 (fun i i0 i1 => ?_)
    obtain ⟨n, rfl⟩ : ∃ n : Nat, i = n := ⟨i.toNat, by omega⟩
    rw [bar_cd (by omega), bar_cd (by omega), h n]
/-! the reference -/
theorem bareLoop {c : Int} (hW : WW c) : lets c 12 = lets c (wlen c).toNat := by
  have wl := hW.2.1
  have := lets_z (c := c) (k := (wlen c).toNat) (12 - (wlen c).toNat) (fun j a b => by
    have := (hW.2.2 j (by omega) (by omega)).1
    by_cases e : cd c j = 0
    · exact e
    · have := this.2 e; omega)
  rw [show (wlen c).toNat + (12 - (wlen c).toNat) = 12 by omega] at this
  exact this
theorem r_bareSize {σ : Sg} {post : Po} {w c : Int} (hR : RW (σ 96) (σ 97) w c) (hW : WW c) (w0 : 0 ≤ w) (w1 : w < 112) (hp : post (some (vi (lX c : Int))) σ) : Cl mX12_bareSize [vr 94, vi w] σ post := by
  obtain ⟨e1, e2⟩ := hR
  have wl := hW.2.1
  refine EX12_bareSize ?_
  have loop : ∀ (n k : Nat), (k : Int) + n = wlen c → V mX12_bareSize 4 [some (vr 94), some (vi w), some (vi ((lets c k).length : Int)), some (vi (k : Int))] [] σ post := by
    intro n
    induction n with
    | zero =>
      intro k hk
      refine BX12_bareSize_4 ⟨by omega, by omega, by rw [e1]; omega, fun _ => ?_, fun q => absurd (by rw [e1]; omega) q⟩
      have : lX c = (lets c k).length := by unfold lX; rw [bareLoop hW, show (wlen c).toNat = k by omega]
      rw [this] at hp
      exact hp
    | succ n ih =>
      intro k hk
      have dk := hW.2.2 k (by omega) (by omega)
      have dn := dk.1.1 (by omega)
      have db := cd_b c k
      have eb : σ 97 (12 * w + k) = cd c k + 94 := e2 k (by omega) (by omega)
      have nx := ih (k + 1) (by omega)
      refine BX12_bareSize_4 ⟨by omega, by omega, by rw [e1]; omega, fun q => absurd q (by rw [e1]; omega), fun _ => ⟨by omega, ?_⟩⟩
      rw [eb]
      refine ⟨by omega, fun q => r_one (by omega) ⟨_, rfl, ?_⟩, fun q => r_one (by omega) ⟨_, rfl, ?_⟩⟩
      · rw [lets, if_neg (by omega)] at nx
        show V mX12_bareSize 4 [some (vr 94), some (vi w), some (vi (((lets c k).length : Int) + 0)), some (vi ((k : Int) + 1))] [] σ post
        rw [Int.add_zero]
        exact nx
      · rw [lets, if_pos (by omega), List.length_append] at nx
        exact nx
  exact loop (wlen c).toNat 0 (by omega)
theorem r_bareAt {σ : Sg} {post : Po} {w c : Int} {i : Nat} (hR : RW (σ 96) (σ 97) w c) (hW : WW c) (w0 : 0 ≤ w) (w1 : w < 112) (hi : i < lX c) (hp : post (some (vi (lA c i + 94))) σ) : Cl mX12_bareAt [vr 94, vi w, vi (i : Int)] σ post := by
  obtain ⟨e1, e2⟩ := hR
  have wl := hW.2.1
  have xb := lX_b c
  refine EX12_bareAt ?_
  have loop : ∀ (n k : Nat), (k : Int) + n = wlen c → (lets c k).length ≤ i → V mX12_bareAt 5 [some (vr 94), some (vi w), some (vi (i : Int)), some (vi ((lets c k).length : Int)), some (vi (k : Int)), none] [] σ post := by
    intro n
    induction n with
    | zero =>
      intro k hk hl
      have : lX c = (lets c k).length := by unfold lX; rw [bareLoop hW, show (wlen c).toNat = k by omega]
      omega
    | succ n ih =>
      intro k hk hl
      have lb := lets_b c k
      have dk := hW.2.2 k (by omega) (by omega)
      have dn := dk.1.1 (by omega)
      have db := cd_b c k
      have eb : σ 97 (12 * w + k) = cd c k + 94 := e2 k (by omega) (by omega)
      have nx := ih (k + 1) (by omega)
      refine BX12_bareAt_5 ⟨by omega, by omega, by rw [e1]; omega, fun q => absurd q (by rw [e1]; omega), fun _ => ⟨by omega, ?_⟩⟩
      rw [eb]
      refine ⟨by omega, fun q => ⟨fun _ => r_one (by omega) ⟨_, rfl, ?_⟩, fun q2 => absurd q q2⟩, fun q => ⟨by omega, by omega, fun q2 => ⟨fun q3 => absurd q3 q, fun _ => r_one (by omega) ⟨_, rfl, ?_⟩⟩, fun q2 => ?_⟩⟩
      · rw [lets, if_neg (by omega)] at nx
        show V mX12_bareAt 5 [some (vr 94), some (vi w), some (vi (i : Int)), some (vi (((lets c k).length : Int) + 0)), some (vi ((k : Int) + 1)), none] [] σ post
        rw [Int.add_zero]
        exact nx hl
      · rw [lets, if_pos (by omega), List.length_append] at nx
        exact nx (by show (lets c k).length + 1 ≤ i; omega)
      · obtain ⟨t, ht⟩ := lets_pre c (k + 1) (12 - (k + 1))
        rw [show k + 1 + (12 - (k + 1)) = 12 by omega] at ht
        have il : i = (lets c k).length := by omega
        have : lA c i = cd c k := by
          unfold lA
          rw [ht, lets, if_pos (by omega), List.getD_eq_getElem?_getD, il, List.append_assoc, List.getElem?_append_right (Nat.le_refl _)]
          simp
        rw [this] at hp
        exact hp
  exact loop (wlen c).toNat 0 (by omega) (by simp [lets])
theorem r_headAlike {σ : Sg} {post : Po} {v w c d : Int} (hRv : RW (σ 96) (σ 97) v c) (hRw : RW (σ 96) (σ 97) w d) (hc : WW c) (hd : WW d) (v0 : 0 ≤ v) (v1 : v < 112) (w0 : 0 ≤ w) (w1 : w < 112) (hp : ∀ n : Nat, n ≤ lX c → n ≤ lX d → (∀ i, i < n → lA c i = lA d i) → (n = lX c ∨ n = lX d ∨ lA c n ≠ lA d n) → post (some (vi (n : Int))) σ) : Cl mX12_headAlike [vr 94, vi v, vi w] σ post := by
  have xc := lX_b c
  have xd := lX_b d
  refine EX12_headAlike ?_
  have loop : ∀ (m n : Nat), n + m = 12 → n ≤ lX c → n ≤ lX d → (∀ i, i < n → lA c i = lA d i) → V mX12_headAlike 2 [some (vr 94), some (vi v), some (vi w), some (vi (n : Int))] [] σ post := by
    intro m
    induction m with
    | zero =>
      intro n hn h1 h2 h3
      exact BX12_headAlike_2 (r_bareSize hRv hc v0 v1 ⟨_, rfl, by omega, by omega, fun _ => hp n h1 h2 h3 (Or.inl (by omega)), fun q => absurd (by omega) q⟩)
    | succ m ih =>
      intro n hn h1 h2 h3
      refine BX12_headAlike_2 (r_bareSize hRv hc v0 v1 ⟨_, rfl, by omega, by omega, fun q => hp n h1 h2 h3 (Or.inl (by omega)), fun q => r_bareSize hRw hd w0 w1 ⟨_, rfl, by omega, fun q2 => hp n h1 h2 h3 (Or.inr (Or.inl (by omega))), fun q2 => ?_⟩⟩)
      have a := lA_in (c := c) (i := n) (by omega)
      have b := lA_in (c := d) (i := n) (by omega)
      refine r_bareAt hRv hc v0 v1 (by omega) ⟨_, rfl, r_bareAt hRw hd w0 w1 (by omega) ⟨_, rfl, by omega, by omega, fun q3 => hp n h1 h2 h3 (Or.inr (Or.inr (by omega))), fun q3 => ih (n + 1) (by omega) (by omega) (by omega) (fun i hi => ?_)⟩⟩
      by_cases e : i = n
      · subst e; omega
      · exact h3 i (by omega)
  exact loop 12 0 (by omega) (by omega) (by omega) (fun i hi => by omega)
theorem r_tailAlike {σ : Sg} {post : Po} {v w c d : Int} (hRv : RW (σ 96) (σ 97) v c) (hRw : RW (σ 96) (σ 97) w d) (hc : WW c) (hd : WW d) (v0 : 0 ≤ v) (v1 : v < 112) (w0 : 0 ≤ w) (w1 : w < 112) (hp : ∀ n : Nat, n ≤ lX c → n ≤ lX d → (∀ i, i < n → lA c (lX c - 1 - i) = lA d (lX d - 1 - i)) → (n = lX c ∨ n = lX d ∨ lA c (lX c - 1 - n) ≠ lA d (lX d - 1 - n)) → post (some (vi (n : Int))) σ) : Cl mX12_tailAlike [vr 94, vi v, vi w] σ post := by
  have xc := lX_b c
  have xd := lX_b d
  refine EX12_tailAlike (r_bareSize hRv hc v0 v1 ⟨_, rfl, r_bareSize hRw hd w0 w1 ⟨_, rfl, ?_⟩⟩)
  have loop : ∀ (m n : Nat), n + m = 12 → n ≤ lX c → n ≤ lX d → (∀ i, i < n → lA c (lX c - 1 - i) = lA d (lX d - 1 - i)) → V mX12_tailAlike 16 [some (vr 94), some (vi v), some (vi w), some (vi (lX c : Int)), some (vi (lX d : Int)), some (vi (n : Int))] [] σ post := by
    intro m
    induction m with
    | zero =>
      intro n hn h1 h2 h3
      exact BX12_tailAlike_16 ⟨by omega, by omega, fun _ => hp n h1 h2 h3 (Or.inl (by omega)), fun q => absurd (by omega) q⟩
    | succ m ih =>
      intro n hn h1 h2 h3
      refine BX12_tailAlike_16 ⟨by omega, by omega, fun q => hp n h1 h2 h3 (Or.inl (by omega)), fun q => ⟨by omega, fun q2 => hp n h1 h2 h3 (Or.inr (Or.inl (by omega))), fun q2 => ?_⟩⟩
      have a := lA_in (c := c) (i := lX c - 1 - n) (by omega)
      have b := lA_in (c := d) (i := lX d - 1 - n) (by omega)
      rw [show (lX c : Int) - 1 - (n : Int) = ((lX c - 1 - n : Nat) : Int) by omega, show (lX d : Int) - 1 - (n : Int) = ((lX d - 1 - n : Nat) : Int) by omega]
      refine r_bareAt hRv hc v0 v1 (by omega) ⟨_, rfl, r_bareAt hRw hd w0 w1 (by omega) ⟨_, rfl, by omega, by omega, fun q3 => hp n h1 h2 h3 (Or.inr (Or.inr (by omega))), fun q3 => ih (n + 1) (by omega) (by omega) (by omega) (fun i hi => ?_)⟩⟩
      by_cases e : i = n
      · subst e; omega
      · exact h3 i (by omega)
  exact loop 12 0 (by omega) (by omega) (by omega) (fun i hi => by omega)
/-- d is c and 's' -/
def plu (c d : Int) : Prop := lX d = lX c + 1 ∧ (∀ i, i < lX c → lA c i = lA d i) ∧ lA d (lX c) = 21
theorem r_isPlural {σ : Sg} {post : Po} {v w c d : Int} (hRv : RW (σ 96) (σ 97) v c) (hRw : RW (σ 96) (σ 97) w d) (hc : WW c) (hd : WW d) (v0 : 0 ≤ v) (v1 : v < 112) (w0 : 0 ≤ w) (w1 : w < 112) (ht : plu c d → post (some (vi 1)) σ) (hf : ¬ plu c d → post (some (vi 0)) σ) : Cl mX12_isPlural [vr 94, vi v, vi w] σ post := by
  have xc := lX_b c
  have xd := lX_b d
  refine EX12_isPlural (r_bareSize hRv hc v0 v1 ⟨_, rfl, r_bareSize hRw hd w0 w1 ⟨_, rfl, by omega, by omega, fun q => hf (fun z => q (by have := z.1; omega)), fun q => r_headAlike hRv hRw hc hd v0 v1 w0 w1 (fun n n1 n2 n3 n4 => ⟨_, rfl, by omega, by omega, fun q2 => hf (fun z => ?_), fun q2 => ?_⟩)⟩⟩)
  · have l := z.2.1 n (by omega)
    rcases n4 with e | e | e
    · omega
    · omega
    · exact e l
  · have e : n = lX c := by omega
    have b := lA_in (c := d) (i := lX c) (by omega)
    refine r_bareAt hRw hd w0 w1 (by omega) ⟨_, rfl, by omega, fun q3 => hf (fun z => q3 (by rw [z.2.2]; decide)), fun q3 => ht ⟨by omega, by rw [← e]; exact n3, by omega⟩⟩
/-- one byte other, put in, or left out: as the class tells it -/
def oneB (c d : Int) (n : Nat) : Prop := (∀ i, lA c (n + 1 + i) = lA d (n + 1 + i)) ∨ (∀ i, lA c (n + 1 + i) = lA d (n + i)) ∨ (∀ i, lA c (n + i) = lA d (n + 1 + i))
theorem one_eq {c d : Int} {n t : Nat} (n1 : n ≤ lX c) (n2 : n ≤ lX d) (n3 : ∀ i, i < n → lA c i = lA d i) (n4 : lA c n ≠ lA d n) (t1 : t ≤ lX c) (t2 : t ≤ lX d) (t3 : ∀ i, i < t → lA c (lX c - 1 - i) = lA d (lX d - 1 - i)) (t4 : t = lX c ∨ t = lX d ∨ lA c (lX c - 1 - t) ≠ lA d (lX d - 1 - t)) : oneB c d n ↔ (lX c = lX d ∧ lX c ≤ n + t + 1) ∨ (lX c = lX d + 1 ∧ lX d ≤ n + t) ∨ (lX d = lX c + 1 ∧ lX c ≤ n + t) := by
  have cz : ∀ i, lX c ≤ i → lA c i = 0 := fun i h => lA_out h
  have dz : ∀ i, lX d ≤ i → lA d i = 0 := fun i h => lA_out h
  have cn : ∀ i, i < lX c → lA c i ≠ 0 := fun i h => by have := lA_in h; omega
  have dn : ∀ i, i < lX d → lA d i ≠ 0 := fun i h => by have := lA_in h; omega
  have nn : ¬ (n = lX c ∧ n = lX d) := fun z => n4 (by rw [cz n (by omega), dz n (by omega)])
  -- a tail that is alike so long
  have tail : ∀ m, m ≤ lX c → m ≤ lX d → (∀ i, i < m → lA c (lX c - 1 - i) = lA d (lX d - 1 - i)) → m ≤ t := fun m m1 m2 m3 => by
    by_cases h : m ≤ t
    · exact h
    · exfalso
      rcases t4 with e | e | e
      · omega
      · omega
      · exact e (m3 t (by omega))
  constructor
  · rintro (h | h | h)
    · -- other
      by_cases a : n < lX c
      · by_cases b : n < lX d
        · have ex : lX c = lX d := by
            by_cases e : lX c < lX d
            · have := h (lX c - (n + 1))
              rw [show n + 1 + (lX c - (n + 1)) = lX c by omega, cz _ (Nat.le_refl _)] at this
              exact absurd this.symm (dn _ e)
            · by_cases e2 : lX d < lX c
              · have := h (lX d - (n + 1))
                rw [show n + 1 + (lX d - (n + 1)) = lX d by omega, dz _ (Nat.le_refl _)] at this
                exact absurd this (cn _ e2)
              · omega
          have := tail (lX c - (n + 1)) (by omega) (by omega) (fun i hi => by
            have := h (lX c - 1 - i - (n + 1))
            rw [show n + 1 + (lX c - 1 - i - (n + 1)) = lX c - 1 - i by omega] at this
            rw [this, ex])
          left; omega
        · -- n = lX d
          have : lX c ≤ n + 1 := by
            by_cases e : lX c ≤ n + 1
            · exact e
            · have := h 0
              rw [dz (n + 1 + 0) (by omega)] at this
              exact absurd this (cn _ (by omega))
          right; left; omega
      · have : lX d ≤ n + 1 := by
          by_cases e : lX d ≤ n + 1
          · exact e
          · have := h 0
            rw [cz (n + 1 + 0) (by omega)] at this
            exact absurd this.symm (dn _ (by omega))
        right; right; omega
    · -- c has one more
      have a : n < lX c := by
        by_cases e : n < lX c
        · exact e
        · have := h 0
          rw [cz (n + 1 + 0) (by omega)] at this
          exact absurd this.symm (dn _ (by omega))
      have ex : lX c = lX d + 1 := by
        by_cases e : lX c < lX d + 1
        · have := h (lX c - (n + 1))
          rw [show n + 1 + (lX c - (n + 1)) = lX c by omega, cz _ (Nat.le_refl _)] at this
          exact absurd this.symm (dn _ (by omega))
        · by_cases e2 : lX d + 1 < lX c
          · have := h (lX d - n)
            rw [show n + (lX d - n) = lX d by omega, dz _ (Nat.le_refl _)] at this
            exact absurd this (cn _ (by omega))
          · omega
      have := tail (lX d - n) (by omega) (by omega) (fun i hi => by
        have := h (lX d - 1 - i - n)
        rw [show n + 1 + (lX d - 1 - i - n) = lX c - 1 - i by omega, show n + (lX d - 1 - i - n) = lX d - 1 - i by omega] at this
        exact this)
      right; left; omega
    · have a : n < lX d := by
        by_cases e : n < lX d
        · exact e
        · have := h 0
          rw [dz (n + 1 + 0) (by omega)] at this
          exact absurd this (cn _ (by omega))
      have ex : lX d = lX c + 1 := by
        by_cases e : lX d < lX c + 1
        · have := h (lX d - (n + 1))
          rw [show n + 1 + (lX d - (n + 1)) = lX d by omega, dz _ (Nat.le_refl _)] at this
          exact absurd this (cn _ (by omega))
        · by_cases e2 : lX c + 1 < lX d
          · have := h (lX c - n)
            rw [show n + (lX c - n) = lX c by omega, cz _ (Nat.le_refl _)] at this
            exact absurd this.symm (dn _ (by omega))
          · omega
      have := tail (lX c - n) (by omega) (by omega) (fun i hi => by
        have := h (lX c - 1 - i - n)
        rw [show n + 1 + (lX c - 1 - i - n) = lX d - 1 - i by omega, show n + (lX c - 1 - i - n) = lX c - 1 - i by omega] at this
        exact this)
      right; right; omega
  · rintro (⟨e, h⟩ | ⟨e, h⟩ | ⟨e, h⟩)
    · left
      intro i
      by_cases b : n + 1 + i < lX c
      · have := t3 (lX c - 1 - (n + 1 + i)) (by omega)
        rw [show lX c - 1 - (lX c - 1 - (n + 1 + i)) = n + 1 + i by omega, show lX d - 1 - (lX c - 1 - (n + 1 + i)) = n + 1 + i by omega] at this
        exact this
      · rw [cz _ (by omega), dz _ (by omega)]
    · right; left
      intro i
      by_cases b : n + i < lX d
      · have := t3 (lX d - 1 - (n + i)) (by omega)
        rw [show lX c - 1 - (lX d - 1 - (n + i)) = n + 1 + i by omega, show lX d - 1 - (lX d - 1 - (n + i)) = n + i by omega] at this
        exact this
      · rw [cz _ (by omega), dz _ (by omega)]
    · right; right
      intro i
      by_cases b : n + i < lX c
      · have := t3 (lX c - 1 - (n + i)) (by omega)
        rw [show lX c - 1 - (lX c - 1 - (n + i)) = n + i by omega, show lX d - 1 - (lX c - 1 - (n + i)) = n + 1 + i by omega] at this
        exact this
      · rw [cz _ (by omega), dz _ (by omega)]
