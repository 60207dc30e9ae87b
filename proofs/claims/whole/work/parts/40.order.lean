/-! ===== PURE HALF, by hand: the order on both sides; at, subAt ===== -/
def SortI (f g key : Int → Int) (m : Nat) : Prop := ∀ j : Int, 0 ≤ j → j < m → f (plc key m j) = j ∧ g (plc key m j) = key j
theorem plc_s (key : Int → Int) (m : Nat) (j : Int) : plc key (m + 1) j = plc key m j + (if key m < key j ∨ key m = key j ∧ (m : Int) < j then 1 else 0) := by
  unfold plc
  rw [cnt_s]
  congr 1
  by_cases c : key m < key j ∨ key m = key j ∧ (m : Int) < j
  · rw [if_pos c, if_pos (decide_eq_true c)]
  · rw [if_neg c, if_neg (by rw [decide_eq_true_iff]; exact c)]
theorem sort_ins {f0 g0 f1 g1 key : Int → Int} {m : Nat} {p : Int} (hS : SortI f0 g0 key m) (p0 : 0 ≤ p) (p1 : p ≤ m) (hlo : ∀ q : Int, 0 ≤ q → q < p → f1 q = f0 q ∧ g1 q = g0 q) (hat : f1 p = m ∧ g1 p = key m) (hhi : ∀ q : Int, p < q → q ≤ m → f1 q = f0 (q - 1) ∧ g1 q = g0 (q - 1)) (hb : ∀ q : Int, p ≤ q → q < m → key m < g0 q) (he : p = 0 ∨ g0 (p - 1) ≤ key m) : SortI f1 g1 key (m + 1) := by
  have lo : ∀ j : Int, 0 ≤ j → j < m → plc key m j < p → key j ≤ key m := by
    intro j j0 j1 hj
    have b := plc_b (key := key) j0 j1
    rcases he with e | e
    · omega
    · obtain ⟨j', a0, a1, a2⟩ := plc_surj (key := key) (n := m) (i := p - 1) (by omega) (by omega)
      have k' := (hS j' a0 a1).2
      rw [a2] at k'
      by_cases c : key j ≤ key m
      · exact c
      · have := plc_lt (key := key) (n := m) (k := j) a0 a1 (Or.inl (by omega))
        omega
  have hi : ∀ j : Int, 0 ≤ j → j < m → p ≤ plc key m j → key m < key j := by
    intro j j0 j1 hj
    have b := plc_b (key := key) j0 j1
    have := hb _ hj b.2
    rw [(hS j j0 j1).2] at this
    exact this
  have st : ∀ j : Int, 0 ≤ j → j < m → plc key (m + 1) j = plc key m j + (if key m < key j then 1 else 0) := by
    intro j j0 j1
    rw [plc_s]
    congr 1
    by_cases c : key m < key j
    · rw [if_pos c, if_pos (Or.inl c)]
    · rw [if_neg c, if_neg (by omega)]
  have top : plc key (m + 1) m = p := by
    obtain ⟨j, j0, j1, e⟩ := plc_surj (key := key) (n := m + 1) (i := p) p0 (by omega)
    by_cases c : j = m
    · rw [← c]; exact e
    · exfalso
      have s := st j j0 (by omega)
      by_cases d : plc key m j < p
      · have := lo j j0 (by omega) d
        rw [if_neg (by omega)] at s
        omega
      · have := hi j j0 (by omega) (by omega)
        rw [if_pos this] at s
        omega
  intro j j0 j1
  by_cases c : j = m
  · rw [c, top]; exact hat
  · have b := plc_b (key := key) (n := m) j0 (by omega)
    have s := st j j0 (by omega)
    have o := hS j j0 (by omega)
    by_cases d : plc key m j < p
    · have := lo j j0 (by omega) d
      rw [if_neg (by omega)] at s
      have := hlo (plc key m j) b.1 d
      rw [s, Int.add_zero, this.1, this.2]
      exact o
    · have := hi j j0 (by omega) (by omega)
      rw [if_pos this] at s
      have := hhi (plc key m j + 1) (by omega) (by omega)
      rw [s, this.1, this.2, show plc key m j + 1 - 1 = plc key m j by omega]
      exact o
theorem c_sort {σ : Sg} {post : Po} {k0 k1 n1 : Nat} {fst sz how : Int} (hk0 : shp[k0]? = some (0, 6, 2)) (hk1 : shp[k1]? = some (4, n1, 0)) (hlt : k1 < k0) (f0 : 0 ≤ fst) (s0 : 0 ≤ sz) (s1 : sz ≤ 16) (hn : fst + sz ≤ n1) (hn2 : n1 ≤ 96) (hh : how = 0 ∨ how = 1) (hw : ∀ i : Int, 0 ≤ i → i < sz → 0 ≤ σ k1 (fst + i) ∧ σ k1 (fst + i) < 1152921504606846976) (hp : ∀ σ' : Sg, Fr [k0 + 1, k0 + 2] σ σ' → (∀ i : Int, 0 ≤ i → i < sz → σ' (k0 + 1) i = ord (fun j => keyOf how (σ k1 (fst + j))) sz.toNat i) → post none σ') : Cl mX6_sort [vr k0, vr k1, vi fst, vi sz, vi how] σ post := by
  refine EX6_sort hk0 hk1 ?_
  have M1 : k0 + 1 ∈ [k0 + 1, k0 + 2] := by simp
  have M2 : k0 + 2 ∈ [k0 + 1, k0 + 2] := by simp
  have outer : ∀ (n m : Nat) (τ : Sg), (m : Int) + n = sz → Fr [k0 + 1, k0 + 2] σ τ → SortI (τ (k0 + 1)) (τ (k0 + 2)) (fun j => keyOf how (σ k1 (fst + j))) m → V mX6_sort 3 [some (vr k0), some (vr k1), some (vi fst), some (vi sz), some (vi how), some (vi (m : Int)), none, none, none, none, none] [] τ post := by
    intro n
    induction n with
    | zero =>
      intro m τ hm hF hS
      have em : sz.toNat = m := by omega
      refine BX6_sort_3 hk0 hk1 ⟨by omega, by omega, fun _ => hp τ hF (fun i i0 i1 => ?_), fun q => absurd (by omega) q⟩
      rw [em]
      exact ord_row (fun j j0 j1 => (hS j j0 j1).1) i0 (by omega)
    | succ n ih =>
      intro m τ hm hF hS
      have ek1 : τ k1 = σ k1 := hF k1 (by simp; omega)
      have wb := hw m (by omega) (by omega)
      have kb := key_b (how := how) wb.1 wb.2
      have gb : ∀ q : Int, 0 ≤ q → q < m → rngL (τ (k0 + 2) q) := fun q q0 q1 => by
        obtain ⟨j, j0, j1, e⟩ := plc_surj (key := fun j => keyOf how (σ k1 (fst + j))) (n := m) q0 q1
        have h2 := (hS j j0 j1).2
        rw [e] at h2
        have h2 : τ (k0 + 2) q = keyOf how (σ k1 (fst + j)) := h2
        have w := hw j j0 (by omega)
        have := key_b (how := how) w.1 w.2
        omega
      have inner : ∀ (p : Nat) (υ : Sg), (p : Int) ≤ m → Fr [k0 + 1, k0 + 2] σ υ → (∀ q : Int, 0 ≤ q → q < p → υ (k0 + 1) q = τ (k0 + 1) q ∧ υ (k0 + 2) q = τ (k0 + 2) q) → (∀ q : Int, (p : Int) < q → q ≤ m → υ (k0 + 1) q = τ (k0 + 1) (q - 1) ∧ υ (k0 + 2) q = τ (k0 + 2) (q - 1)) → (∀ q : Int, (p : Int) ≤ q → q < m → keyOf how (σ k1 (fst + m)) < τ (k0 + 2) q) → V mX6_sort 38 [some (vr k0), some (vr k1), some (vi fst), some (vi sz), some (vi how), some (vi (m : Int)), none, none, some (vl (keyOf how (σ k1 (fst + m)))), none, some (vi (p : Int))] [] υ post := by
        intro p
        induction p with
        | zero =>
          intro υ hpm hF2 hlo hhi hb
          refine BX6_sort_38 hk0 hk1 ⟨by omega, fun _ => ⟨by omega, ?_⟩, fun q => absurd (by omega) q⟩
          refine ih (m + 1) _ (by omega) ((hF2.u M2).u M1) ?_
          rw [up_k, up_r (by omega), up_r (by omega), up_k]
          refine sort_ins (p := 0) hS (by omega) (by omega) (fun q q0 q1 => by omega) ⟨pt_self, pt_self⟩ (fun q q0 q1 => ?_) (fun q q0 q1 => hb q (by omega) q1) (Or.inl rfl)
          rw [show ((0 : Nat) : Int) = 0 from rfl, pt_ne (by omega), pt_ne (by omega)]
          exact hhi q (by omega) q1
        | succ p ihp =>
          intro υ hpm hF2 hlo hhi hb
          have e1 := hlo (p : Int) (by omega) (by omega)
          have pc : ((p + 1 : Nat) : Int) - 1 = p := by omega
          have stop : τ (k0 + 2) p ≤ keyOf how (σ k1 (fst + m)) → V mX6_sort 3 [some (vr k0), some (vr k1), some (vi fst), some (vi sz), some (vi how), some (vi ((m : Int) + 1)), none, none, none, none, none] [] (up (up υ (k0 + 2) ((p + 1 : Nat) : Int) (keyOf how (σ k1 (fst + m)))) (k0 + 1) ((p + 1 : Nat) : Int) m) post := by
            intro hle
            refine ih (m + 1) _ (by omega) ((hF2.u M2).u M1) ?_
            rw [up_k, up_r (by omega), up_r (by omega), up_k]
            refine sort_ins (p := ((p + 1 : Nat) : Int)) hS (by omega) hpm (fun q q0 q1 => ?_) ⟨pt_self, pt_self⟩ (fun q q0 q1 => ?_) hb (Or.inr (by rw [pc]; exact hle))
            · rw [pt_ne (by omega), pt_ne (by omega)]
              exact hlo q q0 q1
            · rw [pt_ne (by omega), pt_ne (by omega)]
              exact hhi q q0 q1
          refine BX6_sort_38 hk0 hk1 ⟨by omega, fun q => absurd q (by omega), fun _ => ⟨by omega, ?_⟩⟩
          rw [pc, e1.1, e1.2]
          refine ⟨gb p (by omega) (by omega), by omega, fun c => ⟨by omega, stop c⟩, fun c => ⟨by omega, ?_⟩⟩
          rw [show ((p + 1 : Nat) : Int) + -1 = p by omega]
          refine ihp _ (by omega) ((hF2.u M2).u M1) (fun q q0 q1 => ?_) (fun q q0 q1 => ?_) (fun q q0 q1 => ?_)
          · rw [up_k, up_r (by omega), up_r (by omega), up_k, pt_ne (by omega), pt_ne (by omega)]
            exact hlo q q0 (by omega)
          · rw [up_k, up_r (by omega), up_r (by omega), up_k]
            by_cases d : q = ((p + 1 : Nat) : Int)
            · rw [d, pt_self, pt_self, pc]; exact ⟨rfl, rfl⟩
            · rw [pt_ne d, pt_ne d]
              exact hhi q (by omega) q1
          · by_cases d : q = p
            · rw [d]; omega
            · exact hb q (by omega) q1
      have go := inner m τ (by omega) hF (fun q _ _ => ⟨rfl, rfl⟩) (fun q q0 q1 => by omega) (fun q q0 q1 => by omega)
      refine BX6_sort_3 hk0 hk1 ⟨by omega, by omega, fun q => absurd q (by omega), fun _ => ⟨by omega, by omega, fun c => ?_, fun c => ?_⟩⟩
      · rw [ek1]
        have e : keyOf how (σ k1 (fst + m)) = σ k1 (fst + m) := by unfold keyOf; rw [if_pos (by omega)]
        rw [e] at go
        exact go
      · rw [ek1]
        refine c_withoutLines wb.1 wb.2 ⟨_, rfl, ?_⟩
        have e : keyOf how (σ k1 (fst + m)) = pkL (lets (σ k1 (fst + m)) 12) := by unfold keyOf; rw [if_neg (by omega)]
        rw [e] at go
        exact go
  exact outer sz.toNat 0 σ (by omega) Fr.rf (fun j j0 j1 => by omega)
/-! the reference -/
theorem lets_pre (c : Int) (k : Nat) : ∀ n : Nat, ∃ t, lets c (k + n) = lets c k ++ t
  | 0 => ⟨[], by simp⟩
  | n + 1 => by
    obtain ⟨t, ht⟩ := lets_pre c k n
    rw [show k + (n + 1) = (k + n) + 1 by omega, lets]
    split
    · exact ⟨t ++ [cd c ((k + n : Nat) : Int)], by rw [ht, List.append_assoc]⟩
    · exact ⟨t, ht⟩
theorem lets_z {c : Int} {k : Nat} : ∀ n : Nat, (∀ i : Nat, k ≤ i → i < k + n → cd c i = 0) → lets c (k + n) = lets c k
  | 0, _ => rfl
  | n + 1, h => by
    rw [show k + (n + 1) = (k + n) + 1 by omega, lets, if_neg (by rw [h (k + n) (by omega) (by omega)]; decide)]
    exact lets_z n (fun i a b => h i a (by omega))
/-- what counts of a word at i, as five bits -/
def sgd (how c i : Int) : Int := if i < 12 then cd (keyOf how c) i else 0
def sgv (how c i : Int) : Int := if sgd how c i = 0 then 0 else sgd how c i + 94
theorem sgd_1 {c i : Int} : sgd 1 c i = if i < 12 then cd c i else 0 := by
  unfold sgd keyOf
  rw [if_pos rfl]
theorem sgd_0 {how c : Int} (hh : how ≠ 1) {i : Nat} (hi : i ≤ 12) : sgd how c i = (lets c 12).getD i 0 := by
  have lb := lets_b c 12
  unfold sgd keyOf
  rw [if_neg hh]
  by_cases h : (i : Int) < 12
  · rw [if_pos h, cd_pkL _ i (fun x hx => by have := lb.2 x hx; omega) (by omega)]
  · rw [if_neg h, List.getD_eq_getElem?_getD, List.getElem?_eq_none (by omega)]
    rfl
theorem sgd_b (how c i : Int) : 0 ≤ sgd how c i ∧ sgd how c i < 32 := by
  unfold sgd
  split
  · exact cd_b _ _
  · decide
theorem r_signAt {σ : Sg} {post : Po} {w c : Int} {i : Nat} (hR : RW (σ 96) (σ 97) w c) (hW : WW c) (w0 : 0 ≤ w) (w1 : w < 112) (hi : i ≤ 12) (hh : σ 94 27 = 0 ∨ σ 94 27 = 1) (hp : post (some (vi (sgv (σ 94 27) c i))) σ) : Cl mX12_signAt [vr 94, vi w, vi (i : Int)] σ post := by
  obtain ⟨e1, e2⟩ := hR
  have wl := hW.2.1
  refine EX12_signAt ?_
  rcases hh with hh | hh
  · -- without underlines
    have loop : ∀ (n k : Nat), (k : Int) + n = wlen c → (lets c k).length ≤ i → V mX12_signAt 5 [some (vr 94), some (vi w), some (vi (i : Int)), some (vi ((lets c k).length : Int)), some (vi (k : Int)), none, none] [] σ post := by
      intro n
      induction n with
      | zero =>
        intro k hk hl
        refine BX12_signAt_5 ⟨by omega, by omega, by rw [e1]; omega, fun _ => ?_, fun q => absurd (by rw [e1]; omega) q⟩
        have z : lets c 12 = lets c k := by
          have := lets_z (c := c) (k := k) (12 - k) (fun j a b => by
            have := (hW.2.2 j (by omega) (by omega)).1
            by_cases e : cd c j = 0
            · exact e
            · have := this.2 e; omega)
          rw [show k + (12 - k) = 12 by omega] at this
          exact this
        have : sgv (σ 94 27) c i = 0 := by
          unfold sgv
          rw [sgd_0 (by omega) hi, z, List.getD_eq_getElem?_getD, List.getElem?_eq_none hl]
          rfl
        rw [this] at hp
        exact hp
      | succ n ih =>
        intro k hk hl
        have lb := lets_b c k
        have dk := hW.2.2 k (by omega) (by omega)
        have dn := dk.1.1 (by omega)
        have db := cd_b c k
        have eb : σ 97 (12 * w + k) = cd c k + 94 := e2 k (by omega) (by omega)
        refine BX12_signAt_5 ⟨by omega, by omega, by rw [e1]; omega, fun q => absurd q (by rw [e1]; omega), fun _ => ⟨by omega, by omega, fun q => absurd q (by omega), fun _ => ⟨by rw [eb]; omega, fun q => ?_, fun q => ⟨by omega, by omega, fun q2 => ?_, fun q2 => ?_⟩⟩⟩⟩
        · have := ih (k + 1) (by omega)
          rw [lets, if_neg (by omega)] at this
          refine r_one (by omega) ⟨_, rfl, ?_⟩
          show V mX12_signAt 5 [some (vr 94), some (vi w), some (vi (i : Int)), some (vi (((lets c k).length : Int) + 0)), some (vi ((k : Int) + 1)), none, none] [] σ post
          rw [Int.add_zero]
          exact this hl
        · have := ih (k + 1) (by omega)
          rw [lets, if_pos (by omega), List.length_append] at this
          exact r_one (by omega) ⟨_, rfl, this (by show (lets c k).length + 1 ≤ i; omega)⟩
        · rw [eb]
          obtain ⟨t, ht⟩ := lets_pre c (k + 1) (12 - (k + 1))
          rw [show k + 1 + (12 - (k + 1)) = 12 by omega] at ht
          have il : i = (lets c k).length := by omega
          have : sgd (σ 94 27) c i = cd c k := by
            rw [sgd_0 (by omega) hi, ht, lets, if_pos (by omega), List.getD_eq_getElem?_getD, il, List.append_assoc, List.getElem?_append_right (Nat.le_refl _)]
            simp
          unfold sgv at hp
          rw [this, if_neg dn] at hp
          exact hp
    exact loop (wlen c).toNat 0 (by omega) (by simp [lets])
  · have loop : ∀ (n k : Nat), (k : Int) + n = wlen c → k ≤ i → V mX12_signAt 5 [some (vr 94), some (vi w), some (vi (i : Int)), some (vi (k : Int)), some (vi (k : Int)), none, none] [] σ post := by
      intro n
      induction n with
      | zero =>
        intro k hk hl
        refine BX12_signAt_5 ⟨by omega, by omega, by rw [e1]; omega, fun _ => ?_, fun q => absurd (by rw [e1]; omega) q⟩
        have : sgv (σ 94 27) c i = 0 := by
          unfold sgv
          rw [hh, sgd_1]
          by_cases c12 : (i : Int) < 12
          · rw [if_pos c12]
            have := (hW.2.2 i (by omega) c12).1
            have e : cd c i = 0 := by
              by_cases e : cd c i = 0
              · exact e
              · have := this.2 e; omega
            rw [if_pos e]
          · rw [if_neg c12, if_pos rfl]
        rw [this] at hp
        exact hp
      | succ n ih =>
        intro k hk hl
        have dk := hW.2.2 k (by omega) (by omega)
        have dn := dk.1.1 (by omega)
        have eb : σ 97 (12 * w + k) = cd c k + 94 := e2 k (by omega) (by omega)
        refine BX12_signAt_5 ⟨by omega, by omega, by rw [e1]; omega, fun q => absurd q (by rw [e1]; omega), fun _ => ⟨by omega, by omega, fun _ => ⟨by omega, by omega, fun q2 => ?_, fun q2 => ?_⟩, fun q => absurd hh q⟩⟩
        · exact r_one (by omega) ⟨_, rfl, ih (k + 1) (by omega) (by omega)⟩
        · rw [eb]
          have ik : (i : Int) = k := q2.symm
          have : sgd (σ 94 27) c i = cd c k := by
            rw [hh, sgd_1, if_pos (by omega), ik]
          unfold sgv at hp
          rw [this, if_neg dn] at hp
          exact hp
    exact loop (wlen c).toNat 0 (by omega) (by omega)
theorem r_isLess {σ : Sg} {post : Po} {v w c d : Int} (hRv : RW (σ 96) (σ 97) v c) (hRw : RW (σ 96) (σ 97) w d) (hc : WW c) (hd : WW d) (v0 : 0 ≤ v) (v1 : v < 112) (w0 : 0 ≤ w) (w1 : w < 112) (hh : σ 94 27 = 0 ∨ σ 94 27 = 1) (ht : keyOf (σ 94 27) c < keyOf (σ 94 27) d → post (some (vi 1)) σ) (hf : ¬ keyOf (σ 94 27) c < keyOf (σ 94 27) d → post (some (vi 0)) σ) : Cl mX12_isLess [vr 94, vi v, vi w] σ post := by
  have kc := key_b (how := σ 94 27) hc.1.1 hc.1.2
  have kd := key_b (how := σ 94 27) hd.1.1 hd.1.2
  refine EX12_isLess ?_
  have loop : ∀ (n i : Nat), i + n = 13 → (∀ j : Int, 0 ≤ j → j < i → j < 12 → cd (keyOf (σ 94 27) c) j = cd (keyOf (σ 94 27) d) j) → V mX12_isLess 2 [some (vr 94), some (vi v), some (vi w), some (vi (i : Int)), none, none] [] σ post := by
    intro n
    induction n with
    | zero =>
      intro i hi he
      refine BX12_isLess_2 ⟨by omega, fun _ => hf ?_, fun q => absurd (by omega) q⟩
      have := cd_ext kc.1 kc.2 kd.1 kd.2 (fun j j0 j1 => he j j0 (by omega) j1)
      omega
    | succ n ih =>
      intro i hi he
      have sc := sgd_b (σ 94 27) c i
      have sd := sgd_b (σ 94 27) d i
      refine BX12_isLess_2 ⟨by omega, fun q => absurd q (by omega), fun _ => r_signAt hRv hc v0 v1 (by omega) hh ⟨_, rfl, r_signAt hRw hd w0 w1 (by omega) hh ⟨_, rfl, ?_⟩⟩⟩
      have eqs : sgv (σ 94 27) c i = sgv (σ 94 27) d i ↔ sgd (σ 94 27) c i = sgd (σ 94 27) d i := by
        unfold sgv
        by_cases a : sgd (σ 94 27) c i = 0
        · by_cases b : sgd (σ 94 27) d i = 0
          · rw [if_pos a, if_pos b, a, b]
          · rw [if_pos a, if_neg b]; omega
        · by_cases b : sgd (σ 94 27) d i = 0
          · rw [if_neg a, if_pos b]; omega
          · rw [if_neg a, if_neg b]; omega
      have les : sgv (σ 94 27) d i ≤ sgv (σ 94 27) c i ↔ sgd (σ 94 27) d i ≤ sgd (σ 94 27) c i := by
        unfold sgv
        by_cases a : sgd (σ 94 27) c i = 0
        · by_cases b : sgd (σ 94 27) d i = 0
          · rw [if_pos a, if_pos b, a, b]
          · rw [if_pos a, if_neg b]; omega
        · by_cases b : sgd (σ 94 27) d i = 0
          · rw [if_neg a, if_pos b]; omega
          · rw [if_neg a, if_neg b]; omega
      have rv : ∀ e : Int, 0 ≤ sgd (σ 94 27) e i ∧ sgd (σ 94 27) e i < 32 → rng (sgv (σ 94 27) e i) := fun e h => by
        unfold sgv
        split <;> omega
      refine ⟨rv c sc, rv d sd, fun q => ?_, fun q => ⟨fun q2 => ?_, fun q2 => ?_⟩⟩
      · rw [eqs] at q
        refine ih (i + 1) (by omega) (fun j j0 j1 j2 => ?_)
        by_cases e : j = i
        · subst e
          unfold sgd at q
          rw [if_pos j2, if_pos j2] at q
          exact q
        · exact he j j0 (by omega) j2
      · rw [eqs] at q
        rw [les] at q2
        have i12 : (i : Int) < 12 := by
          by_cases e : (i : Int) < 12
          · exact e
          · unfold sgd at q
            rw [if_neg e, if_neg e] at q
            exact absurd rfl q
        unfold sgd at q q2
        rw [if_pos i12, if_pos i12] at q q2
        have := cd_lt kd.1 kd.2 kc.1 kc.2 (i := i) (by omega) i12 (fun j j0 j1 => (he j j0 j1 (by omega)).symm) (by omega)
        exact hf (by omega)
      · rw [les] at q2
        rw [eqs] at q
        have i12 : (i : Int) < 12 := by
          by_cases e : (i : Int) < 12
          · exact e
          · unfold sgd at q
            rw [if_neg e, if_neg e] at q
            exact absurd rfl q
        unfold sgd at q q2
        rw [if_pos i12, if_pos i12] at q q2
        exact ht (cd_lt kc.1 kc.2 kd.1 kd.2 (i := i) (by omega) i12 (fun j j0 j1 => he j j0 j1 (by omega)) (by omega))
  exact loop 13 0 (by omega) (fun j j0 j1 => by omega)
theorem r_placeOf {σ : Sg} {post : Po} {fst step k : Int} {n : Nat} {wd : Int → Int} (hw : ∀ j : Int, 0 ≤ j → j < n → RW (σ 96) (σ 97) (fst + step * j) (wd j) ∧ WW (wd j) ∧ 0 ≤ fst + step * j ∧ fst + step * j < 112) (hn : n ≤ 16) (k0 : 0 ≤ k) (k1 : k < n) (hh : σ 94 27 = 0 ∨ σ 94 27 = 1) (hp : post (some (vi (plc (fun j => keyOf (σ 94 27) (wd j)) n k))) σ) : Cl mX12_placeOf [vr 94, vi fst, vi step, vi (n : Int), vi k] σ post := by
  refine EX12_placeOf ?_
  obtain ⟨a1, a2, a3, a4⟩ := hw k k0 k1
  have loop : ∀ (m j : Nat) (x : Int), j + m = n → x = plc (fun j => keyOf (σ 94 27) (wd j)) j k → V mX12_placeOf 6 [some (vr 94), some (vi fst), some (vi step), some (vi (n : Int)), some (vi k), some (vi x), some (vi (j : Int)), none] [] σ post := by
    intro m
    induction m with
    | zero =>
      intro j x hj hx
      have ej : j = n := by omega
      subst ej
      exact BX12_placeOf_6 ⟨by omega, by omega, fun _ => by rw [hx]; exact hp, fun q => absurd (by omega) q⟩
    | succ m ih =>
      intro j x hj hx
      obtain ⟨y1, y2, y3, y4⟩ := hw j (by omega) (by omega)
      have yes : (keyOf (σ 94 27) (wd j) < keyOf (σ 94 27) (wd k) ∨ keyOf (σ 94 27) (wd j) = keyOf (σ 94 27) (wd k) ∧ (j : Int) < k) → V mX12_placeOf 6 [some (vr 94), some (vi fst), some (vi step), some (vi (n : Int)), some (vi k), some (vi (x + 1)), some (vi ((j : Int) + 1)), none] [] σ post := fun h => ih (j + 1) _ (by omega) (by rw [plc_s, if_pos h, hx])
      have no : ¬ (keyOf (σ 94 27) (wd j) < keyOf (σ 94 27) (wd k) ∨ keyOf (σ 94 27) (wd j) = keyOf (σ 94 27) (wd k) ∧ (j : Int) < k) → V mX12_placeOf 6 [some (vr 94), some (vi fst), some (vi step), some (vi (n : Int)), some (vi k), some (vi (x + 0)), some (vi ((j : Int) + 1)), none] [] σ post := fun h => ih (j + 1) _ (by omega) (by rw [plc_s, if_neg h, hx])
      refine BX12_placeOf_6 ⟨by omega, by omega, fun q => absurd q (by omega), fun _ => r_isLess y1 a1 y2 a2 y3 y4 a3 a4 hh (fun q => ⟨_, rfl, b1 ⟨by omega, fun c => ?_, fun c => r_one (by omega) ⟨_, rfl, yes (Or.inl q)⟩⟩⟩) (fun q => ⟨_, rfl, b0 ⟨by omega, fun c => ⟨fun c2 => r_one (by omega) ⟨_, rfl, no (by omega)⟩, fun c2 => r_one (by omega) ⟨_, rfl, no (by omega)⟩⟩, fun c => r_isLess a1 y1 a2 y2 a3 a4 y3 y4 hh (fun q2 => ⟨_, rfl, b1 ⟨fun c2 => absurd c2 (by omega), fun c2 => r_one (by omega) ⟨_, rfl, no (by omega)⟩⟩⟩) (fun q2 => ⟨_, rfl, b0 ⟨fun c2 => absurd c2 (by omega), fun c2 => r_one (by omega) ⟨_, rfl, yes (by omega)⟩⟩⟩)⟩⟩)⟩
      rw [c] at q
      omega
  exact loop n 0 0 (by omega) rfl
theorem Ra_wh {σ B : Sg} (hW : WfB B) (hR : RA (bk σ 94) B) {i : Int} (i0 : 0 ≤ i) (i1 : i < B 0 0) : RW (σ 96) (σ 97) (7 * i) (B 1 i) ∧ WW (B 1 i) := by
  have ws := (hW.2.2.1 i i0 i1).1
  have a := Ra_w hR (s := -1) i0 i1 (by decide) (by omega)
  have b := (hW.2.2.1 i i0 i1).2.2.2.2 (-1) (by decide) (by omega)
  unfold ew at a b
  rw [if_pos rfl] at a b
  rw [show 7 * i + 1 + -1 = 7 * i by omega] at a
  exact ⟨a, b⟩
theorem Ra_ws {σ B : Sg} (hW : WfB B) (hR : RA (bk σ 94) B) {i s : Int} (i0 : 0 ≤ i) (i1 : i < B 0 0) (s0 : 0 ≤ s) (s1 : s < B 2 i) : RW (σ 96) (σ 97) (7 * i + 1 + s) (B 3 (i * 6 + s)) ∧ WW (B 3 (i * 6 + s)) := by
  have a := Ra_w hR (s := s) i0 i1 (by omega) s1
  have b := (hW.2.2.1 i i0 i1).2.2.2.2 s (by omega) s1
  unfold ew at a b
  rw [if_neg (by omega)] at a b
  exact ⟨a, b⟩
theorem r_findOrder {σ B : Sg} {post : Po} (hW : WfB B) (hR : RA (bk σ 94) B) (hh : σ 94 27 = 0 ∨ σ 94 27 = 1) (hp : ∀ σ' : Sg, FrJ [108] [] σ σ' → (∀ i : Int, 0 ≤ i → i < B 0 0 → σ' 108 i = ord (hkey B (σ 94 27)) (B 0 0).toNat i) → post none σ') : Cl mX12_findOrder [vr 94] σ post := by
  have wh := hW.1
  refine EX12_findOrder ?_
  have loop : ∀ (n j : Nat) (τ : Sg), (j : Int) + n = B 0 0 → FrJ [108] [] σ τ → (∀ k : Int, 0 ≤ k → k < j → τ 108 (plc (hkey B (σ 94 27)) (B 0 0).toNat k) = k) → V mX12_findOrder 2 [some (vr 94), some (vi (j : Int))] [] τ post := by
    intro n
    induction n with
    | zero =>
      intro j τ hj hF hT
      have e0 : τ 94 0 = B 0 0 := (hF.2 0 (by simp)).trans (Ra_heads hR)
      refine BX12_findOrder_2 ⟨by omega, by rw [e0]; omega, fun _ => hp τ hF (fun i i0 i1 => ?_), fun q => absurd (by rw [e0]; omega) q⟩
      exact ord_row (fun k a b => hT k a (by omega)) i0 (by omega)
    | succ n ih =>
      intro j τ hj hF hT
      have e0 : τ 94 0 = B 0 0 := (hF.2 0 (by simp)).trans (Ra_heads hR)
      have e27 : τ 94 27 = σ 94 27 := hF.2 27 (by simp)
      have hR' : RA (bk τ 94) B := hR.fr hF (by simp) (by simp)
      have pb := plc_b (key := hkey B (σ 94 27)) (n := (B 0 0).toNat) (j := j) (by omega) (by omega)
      refine BX12_findOrder_2 ⟨by omega, by rw [e0]; omega, fun q => absurd q (by rw [e0]; omega), fun _ => ?_⟩
      rw [e0, show B 0 0 = (((B 0 0).toNat : Nat) : Int) by omega]
      refine r_placeOf (wd := B 1) (fun i i0 i1 => ?_) (by omega) (by omega) (by omega) (by rw [e27]; exact hh) ⟨_, rfl, ?_⟩
      · obtain ⟨a, b⟩ := Ra_wh hW hR' i0 (show i < B 0 0 by omega)
        rw [show (0 : Int) + 7 * i = 7 * i by omega]
        exact ⟨a, b, by omega, by omega⟩
      · have ek : (fun j => keyOf (τ 94 27) (B 1 j)) = hkey B (σ 94 27) := by rw [e27]; rfl
        rw [ek]
        refine ⟨⟨pb.1, by have := pb.2; show plc (hkey B (σ 94 27)) (B 0 0).toNat j < 16; omega⟩, ih (j + 1) _ (by omega) (hF.u (by simp) (by decide)) (fun k k0 k1 => ?_)⟩
        by_cases e : k = j
        · rw [e]; exact up_s
        · rw [up_f (fun z => e (plc_inj (key := hkey B (σ 94 27)) (n := (B 0 0).toNat) k0 (by omega) (by omega) (by omega) z))]
          exact hT k k0 (by omega)
  exact loop (B 0 0).toNat 0 σ (by omega) FrJ.rf (fun k k0 k1 => by omega)
theorem r_subOf {σ B : Sg} {post : Po} {h i : Int} (hW : WfB B) (hR : RA (bk σ 94) B) (hh : σ 94 27 = 0 ∨ σ 94 27 = 1) (h0 : 0 ≤ h) (h1 : h < B 0 0) (ri : rng i) (hp : post (some (vi (ord (skey B (σ 94 27) h) (B 2 h).toNat i))) σ) : Cl mX12_subOf [vr 94, vi h, vi i] σ post := by
  have wh := hW.1
  have ws := (hW.2.2.1 h h0 h1).1
  have es : σ 95 h = B 2 h := Ra_subs hR h0 h1
  refine EX12_subOf ?_
  have loop : ∀ (n j : Nat), (j : Int) + n = B 2 h → (∀ k : Nat, k < j → plc (skey B (σ 94 27) h) (B 2 h).toNat k ≠ i) → V mX12_subOf 2 [some (vr 94), some (vi h), some (vi i), some (vi (j : Int))] [] σ post := by
    intro n
    induction n with
    | zero =>
      intro j hj hno
      refine BX12_subOf_2 ⟨by omega, by omega, by rw [es]; omega, fun _ => ?_, fun q => absurd (by rw [es]; omega) q⟩
      have : ord (skey B (σ 94 27) h) (B 2 h).toNat i = -1 := fnd_none _ (fun k hk z => by
        rw [decide_eq_true_iff] at z
        exact hno k (by omega) z)
      rw [this] at hp
      exact hp
    | succ n ih =>
      intro j hj hno
      have pb := plc_b (key := skey B (σ 94 27) h) (n := (B 2 h).toNat) (j := j) (by omega) (by omega)
      refine BX12_subOf_2 ⟨by omega, by omega, by rw [es]; omega, fun q => absurd q (by rw [es]; omega), fun _ => r_slot ⟨_, rfl, ?_⟩⟩
      show Cl mX12_placeOf [vr 94, vi (7 * h + 1 + 0), vi 1, vi (σ 95 h), vi (j : Int)] σ _
      rw [es, show B 2 h = (((B 2 h).toNat : Nat) : Int) by omega]
      refine r_placeOf (wd := fun s => B 3 (h * 6 + s)) (fun s s0 s1 => ?_) (by omega) (by omega) (by omega) hh ⟨_, rfl, ?_⟩
      · obtain ⟨a, b⟩ := Ra_ws hW hR h0 h1 s0 (show s < B 2 h by omega)
        rw [show 7 * h + 1 + 0 + 1 * s = 7 * h + 1 + s by omega]
        exact ⟨a, b, by omega, by omega⟩
      · refine ⟨?_, ri, fun q => ih (j + 1) (by omega) (fun k hk => ?_), fun q => ?_⟩
        · have := pb.2
          have := pb.1
          show rng (plc (skey B (σ 94 27) h) (B 2 h).toNat j)
          omega
        · by_cases e : k = j
          · rw [e]; exact q
          · exact hno k (by omega)
        · have : ord (skey B (σ 94 27) h) (B 2 h).toNat i = j := fnd_some _ j (by omega) (decide_eq_true q) (fun k hk z => by
            rw [decide_eq_true_iff] at z
            exact hno k hk z)
          rw [this] at hp
          exact hp
  exact loop (B 2 h).toNat 0 (by omega) (fun k hk => by omega)
/-! the class -/
theorem c_arrange {σ : Sg} {post : Po} {k : Nat} {how : Int} (hk : shp[k]? = some (0, 0, 14)) (hs : shp[k + 1]? = some (4, 16, 0)) (hk2 : k + 11 < 53) (hW : WfB (bk σ k)) (hh : how = 0 ∨ how = 1) (hp : ∀ σ' : Sg, Fr [53, 55, 56] σ σ' → (∀ j, j ≠ 2 → σ' 53 j = σ 53 j) → σ' 53 2 = how → (∀ i : Int, 0 ≤ i → i < σ k 0 → σ' 55 i = ord (hkey (bk σ k) how) (σ k 0).toNat i) → post none σ') : Cl mX4_arrange [vr 53, vr k, vi how] σ post := by
  have wh := Wb_heads hW
  have u : ∀ a, a ≠ 53 → up σ 53 2 how a = σ a := fun a ha => up_r ha
  refine EX4_arrange hk ?_
  rw [u k (by omega)]
  refine c_sort rfl hs (by omega) (by omega) wh.1 wh.2 (by omega) (by decide) hh (fun i i0 i1 => ?_) (fun τ hF ho => ⟨rfl, hp τ ?_ ?_ ?_ ?_⟩)
  · rw [u _ (by omega), show (0 : Int) + i = i by omega]
    exact (Wb_wh hW i0 i1).1
  · intro a ha
    rw [hF a (by simp at ha ⊢; omega), u a (by simp at ha; omega)]
  · intro j hj
    rw [hF 53 (by decide), up_f hj]
  · rw [hF 53 (by decide), up_s]
  · intro i i0 i1
    have := ho i i0 i1
    have e : (fun j => keyOf how (up σ 53 2 how (k + 1) (0 + j))) = hkey (bk σ k) how := by
      funext j
      rw [u _ (by omega), show (0 : Int) + j = j by omega]
      rfl
    rw [e] at this
    exact this
theorem c_arrangeSubs {σ : Sg} {post : Po} {k : Nat} {h how : Int} (hk : shp[k]? = some (0, 0, 14)) (hs : shp[k + 3]? = some (4, 96, 0)) (hk2 : k + 11 < 53) (hW : WfB (bk σ k)) (h0 : 0 ≤ h) (h1 : h < σ k 0) (hh : how = 0 ∨ how = 1) (hp : ∀ σ' : Sg, Fr [58, 59] σ σ' → (∀ i : Int, 0 ≤ i → i < σ (k + 2) h → σ' 58 i = ord (skey (bk σ k) how h) (σ (k + 2) h).toNat i) → post none σ') : Cl mX4_arrangeSubs [vr 53, vr k, vi h, vi how] σ post := by
  have wh := Wb_heads hW
  have ws := Wb_subs hW h0 h1
  refine EX4_arrangeSubs hk ⟨by omega, ?_⟩
  refine c_sort rfl hs (by omega) (by omega) ws.1 (by omega) (by omega) (by decide) hh (fun i i0 i1 => ?_) (fun τ hF ho => ⟨rfl, hp τ hF ho⟩)
  exact (Wb_ws hW h0 h1 i0 i1).1
theorem s_at : St_at Inv := by
  intro σ i ri hI
  have hI' := hI
  obtain ⟨⟨h1, h2, ⟨h3, h3'⟩, h4, h5⟩, h6, h7, ⟨hW, hR⟩, ⟨h10, h11⟩, h12⟩ := hI
  have wh := Wb_heads hW
  have er : σ 94 0 = σ 5 0 := Ra_heads hR
  refine EX11_at ⟨h1.1, c_hasHead rfl ri (by omega) (fun a b => ⟨_, rfl, b1 ⟨h1.1, ?_⟩⟩) (fun q => ⟨_, rfl, b0 ⟨_, rfl, ?_⟩⟩)⟩
  · refine c_arrange rfl rfl (by decide) hW h3' (fun τ hF hj e2 ho => ⟨rfl, by omega, ⟨_, rfl, ?_⟩⟩)
    have e94 : τ 94 = σ 94 := hF 94 (by decide)
    have hR1 : RA (bk τ 94) (bk σ 5) := by
      rw [bk94 (σ := σ) (σ' := τ) (by rw [e94]) (by rw [e94]) (fun k a b => hF k (by simp; omega))]; exact hR
    refine EX12_at (r_findOrder hW hR1 (by rw [e94, ← h3]; exact h3') (fun υ hF2 hu => ⟨rfl, ri, ?_⟩))
    have e940 : υ 94 0 = σ 5 0 := by rw [hF2.2 0 (by simp), e94]; exact er
    rw [e940]
    refine ⟨by omega, r_in (by omega) (by omega) (by omega) (fun _ _ => ⟨_, rfl, b1' ⟨by omega, ⟨_, rfl, ?_, ?_, Or.inl ?_⟩⟩⟩) (fun q => absurd (by omega) q)⟩
    · rw [ho i a b, hu i a b, e94, h3]
      rfl
    · rw [ho i a b]
      have := (ord_b (key := hkey (bk σ 5) (σ 0 3)) (n := (σ 5 0).toNat) a (by omega)).1
      omega
    · have key : ∀ k, k ≠ 53 → k ≠ 55 → k ≠ 56 → k ≠ 94 → k ≠ 108 → υ k = σ k := fun k x1 x2 x3 x4 x5 => by
        rw [hF2.1 k (by simp; exact x5) x4, hF k (by simp; omega)]
      refine hI'.keep (fun k hk => key k (by unfold ic at hk; omega) (by unfold ic at hk; omega) (by unfold ic at hk; omega) (by unfold ic at hk; omega) (by unfold ic at hk; omega)) (fun j hj => by rw [hF2.2 j (by simp), e94]) (fun q hp => ?_)
      have k0 := key 0 (by decide) (by decide) (by decide) (by decide) (by decide)
      have k5 : bk υ 5 = bk σ 5 := bk5 (fun k x y => key k (by omega) (by omega) (by omega) (by omega) (by omega))
      have k50 : υ 5 = σ 5 := key 5 (by decide) (by decide) (by decide) (by decide) (by decide)
      obtain ⟨_, p2, p3⟩ := hp
      refine ⟨⟨?_, fun x x0 x1 => ?_⟩, ?_, ?_⟩
      · rw [hF2.1 53 (by simp) (by decide), e2, k0]
      · rw [k50] at x1 ⊢
        rw [hF2.1 55 (by simp) (by decide), ho x x0 x1, k5, k0]
      · rw [k5, k0, k50, key 64 (by decide) (by decide) (by decide) (by decide) (by decide), key 65 (by decide) (by decide) (by decide) (by decide) (by decide)]
        exact p2
      · rw [k5, k0, k50, key 1 (by decide) (by decide) (by decide) (by decide) (by decide)]
        exact p3
  · refine EX12_at (r_findOrder hW hR (by rw [← h3]; exact h3') (fun υ hF2 hu => ⟨rfl, ri, ?_⟩))
    have e940 : υ 94 0 = σ 5 0 := by rw [hF2.2 0 (by simp)]; exact er
    rw [e940]
    exact ⟨by omega, r_in (by omega) (by omega) (by omega) (fun x y => absurd (by omega) q) (fun _ => ⟨_, rfl, b0' ⟨_, rfl, rfl, by decide, Or.inl (hI'.fr (M := []) Fr.rf hF2 (by simp) (by unfold ic; decide) (by decide))⟩⟩)⟩
theorem s_subAt : St_subAt Inv := by
  intro σ h i rh ri hI
  have hI' := hI
  obtain ⟨⟨h1, h2, ⟨h3, h3'⟩, h4, h5⟩, h6, h7, ⟨hW, hR⟩, ⟨h10, h11⟩, h12⟩ := hI
  have wh := Wb_heads hW
  have er : σ 94 0 = σ 5 0 := Ra_heads hR
  have ref : ∀ (z : Int) (τ : Sg), rng z → Fr [58, 59] σ τ → (¬ (0 ≤ h ∧ h < σ 5 0) → z = -1001) → (0 ≤ h ∧ h < σ 5 0 → z = ord (skey (bk σ 5) (σ 0 3) h) (σ 7 h).toNat i) → Cl mX12_subAt [vr 94, vi h, vi i] τ (pI fun z2 σ2 => z = z2 ∧ rng z ∧ (Inv σ2 ∨ Inv (swp σ2))) := by
    intro z τ rz hF y1 y2
    have e94 : τ 94 = σ 94 := hF 94 (by decide)
    have hR1 : RA (bk τ 94) (bk σ 5) := by
      rw [bk94 (σ := σ) (σ' := τ) (by rw [e94]) (by rw [e94]) (fun k a b => hF k (by simp; omega))]; exact hR
    have fin : Inv τ := hI'.fr (N := []) (J := []) hF FrJ.rf (by unfold ic; decide) (by simp) (by simp)
    refine EX12_subAt (r_noHead rh (by rw [e94]; omega) (fun a b => ⟨_, rfl, b0' ?_⟩) (fun q => ⟨_, rfl, b1' ⟨_, rfl, y1 (by rw [e94] at q; omega), rz, Or.inl fin⟩⟩))
    rw [e94, er] at b
    refine r_subOf hW hR1 (by rw [e94, ← h3]; exact h3') a b ri ⟨_, rfl, ⟨_, rfl, ?_, rz, Or.inl fin⟩⟩
    rw [y2 ⟨a, b⟩, e94, h3]
    rfl
  refine EX11_subAt ⟨h1.1, c_hasHead rfl rh (by omega) (fun a b => ⟨_, rfl, b1 ⟨ri, fun q => ⟨_, rfl, ref _ σ (by decide) Fr.rf (fun z => by omega) (fun _ => ?_)⟩, fun q => ⟨h1.1, by omega, ?_, fun q2 => ?_, fun q2 => ⟨_, rfl, ref _ σ (by decide) Fr.rf (fun z => by omega) (fun _ => ?_)⟩⟩⟩⟩) (fun q => ⟨_, rfl, b0 ⟨_, rfl, ref _ σ (by decide) Fr.rf (fun _ => rfl) (fun z => absurd z q)⟩⟩)⟩
  · rw [ord_out (by omega)]
  · have ws : 0 ≤ σ 7 h ∧ σ 7 h ≤ 6 := Wb_subs hW a b
    omega
  · have ws : 0 ≤ σ 7 h ∧ σ 7 h ≤ 6 := Wb_subs hW a b
    refine c_arrangeSubs rfl rfl (by decide) hW a b h3' (fun τ hF ho => ⟨rfl, by omega, ⟨_, rfl, ?_⟩⟩)
    have e := ho i (by omega) q2
    have e : τ 58 i = ord (skey (bk σ 5) (σ 0 3) h) (σ 7 h).toNat i := e
    have ob := (ord_b (key := skey (bk σ 5) (σ 0 3) h) (n := (σ 7 h).toNat) (i := i) (by omega) (by omega)).1
    rw [e]
    exact ref _ τ (by omega) hF (fun z => by omega) (fun _ => rfl)
  · have ws : 0 ≤ σ 7 h ∧ σ 7 h ≤ 6 := Wb_subs hW a b
    rw [ord_out (by omega)]
