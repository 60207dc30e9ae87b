/-! ===== PURE HALF, by hand: takeOut ===== -/
def nfr (p q x : Int) : Int := if x < p then x else if x ≤ q then p else x - ((q - p) + 1)
def nto (p q x : Int) : Int := if x < p then x else if x ≤ q then p - 1 else x - ((q - p) + 1)
/-- mark i of rows B anew -/
def nrw (B : Sg) (p q : Int) (r : Nat) (i : Int) : Int := if r = 9 then nfr p q (B 9 i) else if r = 10 then nto p q (B 10 i) else B r i
def kpt (B : Sg) (p q i : Int) : Bool := decide (nfr p q (B 9 i) ≤ nto p q (B 10 i))
def ksl (B : Sg) (p q : Int) : Nat → Nat → List Int
  | _, 0 => []
  | lo, m + 1 => if kpt B p q lo = true then (lo : Int) :: ksl B p q (lo + 1) m else ksl B p q (lo + 1) m
theorem ksl_s (B : Sg) (p q : Int) : ∀ (m lo : Nat), ksl B p q lo (m + 1) = ksl B p q lo m ++ (if kpt B p q ((lo + m : Nat) : Int) = true then [((lo + m : Nat) : Int)] else [])
  | 0, lo => by
    rw [ksl, ksl, ksl]
    by_cases h : kpt B p q (lo : Int) = true
    · rw [if_pos h, show lo + 0 = lo from rfl, if_pos h]; rfl
    · rw [if_neg h, show lo + 0 = lo from rfl, if_neg h]; rfl
  | m + 1, lo => by
    rw [ksl, ksl_s B p q m (lo + 1), show lo + 1 + m = lo + (m + 1) by omega]
    rw [show ksl B p q lo (m + 1) = if kpt B p q lo = true then (lo : Int) :: ksl B p q (lo + 1) m else ksl B p q (lo + 1) m from rfl]
    by_cases h : kpt B p q (lo : Int) = true
    · rw [if_pos h, if_pos h]; rfl
    · rw [if_neg h, if_neg h]
theorem ksl_b (B : Sg) (p q : Int) : ∀ (m lo : Nat), (ksl B p q lo m).length ≤ m ∧ ∀ x ∈ ksl B p q lo m, (lo : Int) ≤ x ∧ x < lo + m ∧ kpt B p q x = true
  | 0, lo => ⟨Nat.le_refl _, fun x h => by cases h⟩
  | m + 1, lo => by
    obtain ⟨a, b⟩ := ksl_b B p q m (lo + 1)
    rw [ksl]
    by_cases h : kpt B p q (lo : Int) = true
    · rw [if_pos h]
      refine ⟨by rw [List.length_cons]; omega, fun x hx => ?_⟩
      rcases List.mem_cons.1 hx with e | e
      · rw [e]; exact ⟨by omega, by omega, h⟩
      · have := b x e; exact ⟨by omega, by omega, this.2.2⟩
    · rw [if_neg h]
      exact ⟨by omega, fun x hx => by have := b x hx; exact ⟨by omega, by omega, this.2.2⟩⟩
theorem getD_mem {L : List Int} {j : Nat} (h : j < L.length) : L.getD j 0 ∈ L := by
  rw [List.getD_eq_getElem?_getD, List.getElem?_eq_getElem h]
  exact List.getElem_mem h
/-- rows K + r of σ' hold the marks of L anew -/
def CutR (σ' : Sg) (K : Nat) (B : Sg) (p q : Int) (off : Int) (L : List Int) : Prop := ∀ r, 7 ≤ r → r ≤ 11 → ∀ j : Nat, j < L.length → σ' (K + r) (off + j) = nrw B p q r (L.getD j 0)
theorem c_cutPages {σ : Sg} {post : Po} {k : Nat} {p q : Int} (hk : shp[k]? = some (0, 0, 14)) (hW : WfB (bk σ k)) (p0 : 1 ≤ p) (pq : p ≤ q) (q1 : q ≤ 99) (hp : ∀ σ' : Sg, (∀ a, a ≠ k → a < k + 7 ∨ k + 11 < a → σ' a = σ a) → (∀ j, j ≠ 7 → σ' k j = σ k j) → σ' k 7 = (ksl (bk σ k) p q 0 (σ k 7).toNat).length → CutR σ' k (bk σ k) p q 0 (ksl (bk σ k) p q 0 (σ k 7).toNat) → post (some (vi (σ k 7 - (ksl (bk σ k) p q 0 (σ k 7).toNat).length))) σ') : Cl mX0_cutPages [vr k, vi p, vi q] σ post := by
  have wm := Wb_marks hW
  refine EX0_cutPages hk ?_
  have loop : ∀ (n j : Nat) (τ : Sg), (j : Int) + n = σ k 7 → (∀ a, a < k + 7 ∨ k + 11 < a → τ a = σ a) → CutR τ k (bk σ k) p q 0 (ksl (bk σ k) p q 0 j) → (∀ r, 7 ≤ r → r ≤ 11 → ∀ i : Int, (j : Int) ≤ i → τ (k + r) i = σ (k + r) i) → V mX0_cutPages 12 [some (vr k), some (vi p), some (vi q), some (vi ((q - p) + 1)), some (vi ((ksl (bk σ k) p q 0 j).length : Int)), some (vi (j : Int)), none, none] [] τ post := by
    intro n
    induction n with
    | zero =>
      intro j τ hj hF hC hR
      have e0 : τ k = σ k := hF k (by omega)
      have ej : (σ k 7).toNat = j := by omega
      refine BX0_cutPages_12 hk ⟨by omega, by rw [e0]; omega, fun _ => ?_, fun z => absurd (by rw [e0]; omega) z⟩
      rw [e0]
      have := hp (up τ k 7 ((ksl (bk σ k) p q 0 j).length : Int)) (fun a a1 a2 => by rw [up_r a1]; exact hF a a2) (fun i hi => by rw [up_f hi, e0]) (by rw [up_s, ej]) (fun r r7 r11 i hi => by
        rw [ej] at hi ⊢
        rw [up_r (by omega)]; exact hC r r7 r11 i hi)
      rw [ej] at this
      exact this
    | succ n ih =>
      intro j τ hj hF hC hR
      have e0 : τ k = σ k := hF k (by omega)
      have e9 : τ (k + 9) j = σ (k + 9) j := hR 9 (by decide) (by decide) j (by omega)
      have e10 : τ (k + 10) j = σ (k + 10) j := hR 10 (by decide) (by decide) j (by omega)
      have e11 : τ (k + 11) j = σ (k + 11) j := hR 11 (by decide) (by decide) j (by omega)
      have w := (Wb_m hW (i := j) (by omega) (by omega)).2.2
      have kb := (ksl_b (bk σ k) p q j 0).1
      have ks := ksl_s (bk σ k) p q j 0
      rw [Nat.zero_add] at ks
      have no : ¬ nfr p q (σ (k + 9) j) ≤ nto p q (σ (k + 10) j) → V mX0_cutPages 12 [some (vr k), some (vi p), some (vi q), some (vi ((q - p) + 1)), some (vi ((ksl (bk σ k) p q 0 j).length : Int)), some (vi ((j : Int) + 1)), none, none] [] τ post := by
        intro hn
        have kf : ¬ kpt (bk σ k) p q j = true := fun z => hn (by unfold kpt at z; rw [decide_eq_true_iff] at z; exact z)
        rw [if_neg kf, List.append_nil] at ks
        have := ih (j + 1) τ (by omega) hF (by rw [ks]; exact hC) (fun r r7 r11 i hi => hR r r7 r11 i (by omega))
        rw [ks] at this
        exact this
      have yes : ∀ a b : Int, a = nfr p q (σ (k + 9) j) → b = nto p q (σ (k + 10) j) → a ≤ b → Cl mX0_moveMark [vr k, vi (j : Int), vi ((ksl (bk σ k) p q 0 j).length : Int)] τ (pV fun σ3 => (0 ≤ ((ksl (bk σ k) p q 0 j).length : Int) ∧ ((ksl (bk σ k) p q 0 j).length : Int) < 60) ∧ (V mX0_cutPages 12 [some (vr k), some (vi p), some (vi q), some (vi ((q - p) + 1)), some (vi (((ksl (bk σ k) p q 0 j).length : Int) + 1)), some (vi ((j : Int) + 1)), none, none] [] (up (up σ3 (k + 9) ((ksl (bk σ k) p q 0 j).length : Int) a) (k + 10) ((ksl (bk σ k) p q 0 j).length : Int) b) post)) := by
        intro a b ha hb hab
        have kt : kpt (bk σ k) p q j = true := by unfold kpt; rw [decide_eq_true_iff]; rw [ha, hb] at hab; exact hab
        rw [if_pos kt] at ks
        refine c_moveMark hk (by omega) (by omega) (by rw [e11]; exact w.2) (fun υ gF gr => ⟨rfl, by omega, ?_⟩)
        have := ih (j + 1) (up (up υ (k + 9) ((ksl (bk σ k) p q 0 j).length : Int) a) (k + 10) ((ksl (bk σ k) p q 0 j).length : Int) b) (by omega) (fun c hc => by rw [up_r (by omega), up_r (by omega), gF c hc]; exact hF c hc) ?_ ?_
        · rw [ks, List.length_append] at this
          exact this
        · intro r r7 r11 i hi
          rw [ks, List.length_append] at hi
          have hi : i < (ksl (bk σ k) p q 0 j).length + 1 := hi
          rw [ks]
          have row : ∀ x : Int, x ≠ ((ksl (bk σ k) p q 0 j).length : Int) → up (up υ (k + 9) ((ksl (bk σ k) p q 0 j).length : Int) a) (k + 10) ((ksl (bk σ k) p q 0 j).length : Int) b (k + r) x = τ (k + r) x := by
            intro x hx
            by_cases r10 : r = 10
            · subst r10; rw [up_f hx, up_r (by omega), gr 10 (by decide) (by decide), pt_ne hx]
            · rw [up_r (by omega)]
              by_cases r9 : r = 9
              · subst r9; rw [up_f hx, gr 9 (by decide) (by decide), pt_ne hx]
              · rw [up_r (by omega), gr r r7 r11, pt_ne hx]
          by_cases c : i < (ksl (bk σ k) p q 0 j).length
          · rw [show (0 : Int) + i = i by omega, row i (by omega), List.getD_eq_getElem?_getD, List.getElem?_append_left c, ← List.getD_eq_getElem?_getD]
            have := hC r r7 r11 i c
            rw [show (0 : Int) + i = i by omega] at this
            exact this
          · have ei : i = (ksl (bk σ k) p q 0 j).length := by omega
            rw [ei, List.getD_eq_getElem?_getD, List.getElem?_append_right (Nat.le_refl _), Nat.sub_self, show (0 : Int) + ((ksl (bk σ k) p q 0 j).length : Int) = ((ksl (bk σ k) p q 0 j).length : Int) by omega]
            show _ = nrw (bk σ k) p q r j
            unfold nrw
            by_cases r9 : r = 9
            · subst r9; rw [if_pos rfl, up_r (by omega), up_s, ha]; rfl
            · rw [if_neg r9]
              by_cases r10 : r = 10
              · subst r10; rw [if_pos rfl, up_s, hb]; rfl
              · rw [if_neg r10, up_r (by omega), up_r (by omega), gr r r7 r11, pt_self, hR r r7 r11 j (by omega), bk_row (by omega) (by omega)]
        · intro r r7 r11 i hi
          by_cases r10 : r = 10
          · subst r10; rw [up_f (by omega), up_r (by omega), gr 10 (by decide) (by decide), pt_ne (by omega)]; exact hR 10 (by decide) (by decide) i (by omega)
          · rw [up_r (by omega)]
            by_cases r9 : r = 9
            · subst r9; rw [up_f (by omega), gr 9 (by decide) (by decide), pt_ne (by omega)]; exact hR 9 (by decide) (by decide) i (by omega)
            · rw [up_r (by omega), gr r r7 r11, pt_ne (by omega)]; exact hR r r7 r11 i (by omega)
      have w3 := w.1
      have f1 : σ (k + 9) j < p → nfr p q (σ (k + 9) j) = σ (k + 9) j := fun h => if_pos h
      have f2 : p ≤ σ (k + 9) j → σ (k + 9) j ≤ q → nfr p q (σ (k + 9) j) = p := fun h h2 => by unfold nfr; rw [if_neg (by omega), if_pos h2]
      have f3 : q < σ (k + 9) j → nfr p q (σ (k + 9) j) = σ (k + 9) j - ((q - p) + 1) := fun h => by unfold nfr; rw [if_neg (by omega), if_neg (by omega)]
      have t1 : σ (k + 10) j < p → nto p q (σ (k + 10) j) = σ (k + 10) j := fun h => if_pos h
      have t2 : p ≤ σ (k + 10) j → σ (k + 10) j ≤ q → nto p q (σ (k + 10) j) = p - 1 := fun h h2 => by unfold nto; rw [if_neg (by omega), if_pos h2]
      have t3 : q < σ (k + 10) j → nto p q (σ (k + 10) j) = σ (k + 10) j - ((q - p) + 1) := fun h => by unfold nto; rw [if_neg (by omega), if_neg (by omega)]
      refine BX0_cutPages_12 hk ⟨by omega, by rw [e0]; omega, fun z => absurd z (by rw [e0]; omega), fun _ => ⟨by omega, ?_⟩⟩
      rw [e9, e10]
      refine ⟨by omega, by omega, fun c1 => c_max (by omega) (by omega) (fun z1 hz1 => ⟨_, rfl, ?_⟩), fun c1 => ⟨by omega, by omega, fun c2 => c_min (by omega) (by omega) (fun z5 hz5 => ⟨_, rfl, by omega, fun d => no ?_, fun d => yes _ _ (f1 (by omega)).symm ?_ (by omega)⟩), fun c2 => ⟨by omega, fun d => no ?_, fun d => yes _ _ (f1 (by omega)).symm (t3 (by omega)).symm (by omega)⟩⟩⟩
      · have ez1 : z1 = nfr p q (σ (k + 9) j) := by
          by_cases c : σ (k + 9) j ≤ q
          · rw [f2 c1 c]; omega
          · rw [f3 (by omega)]; omega
        show (rng (τ (k + 10) j)) ∧ _
        rw [e10]
        refine ⟨by omega, by omega, fun c2 => c_min (by omega) (by omega) (fun z2 hz2 => ⟨_, rfl, ?_⟩), fun c2 => ⟨by omega, by omega, fun d => no ?_, fun d => yes _ _ ez1 (t3 (by omega)).symm (by omega)⟩⟩
        · have ez2 : z2 = nto p q (σ (k + 10) j) := by
            by_cases c : σ (k + 10) j < p
            · rw [t1 c]; omega
            · rw [t2 (by omega) c2]; omega
          exact ⟨by omega, by omega, fun d => no (by rw [← ez1, ← ez2]; omega), fun d => yes _ _ ez1 ez2 (by omega)⟩
        · rw [← ez1, t3 (by omega)]; omega
      · have ez5 : z5 = nto p q (σ (k + 10) j) := by
          by_cases c : σ (k + 10) j < p
          · rw [t1 c]; omega
          · rw [t2 (by omega) c2]; omega
        rw [f1 (by omega), ← ez5]; omega
      · by_cases c : σ (k + 10) j < p
        · rw [t1 c]; omega
        · rw [t2 (by omega) c2]; omega
      · rw [f1 (by omega), t3 (by omega)]; omega
  exact loop (σ k 7).toNat 0 σ (by omega) (fun _ _ => rfl) (fun r _ _ j hj => by cases hj) (fun _ _ _ _ _ => rfl)
theorem s_takeOut : St_takeOut Inv := by
  intro σ p q rp rq hI
  have hI' := hI
  obtain ⟨⟨h1, h2, h3, h4, h5⟩, h6, h7, ⟨hW, hR⟩, ⟨h10, h11⟩, h12⟩ := hI
  have wm := Wb_marks hW
  have wh := Wb_heads hW
  have em : σ 94 7 = σ 5 7 := Ra_marks hR
  have no : ¬ ((1 ≤ p ∧ p ≤ 99) ∧ (1 ≤ q ∧ q ≤ 99) ∧ p ≤ q) → Cl mX12_takeOut [vr 94, vi p, vi q] σ (pI fun z2 σ2 => -1002 = z2 ∧ rng (-1002) ∧ (Inv σ2 ∨ Inv (swp σ2))) := by
    intro hn
    have e : V mX12_takeOut 19 [none, none, none, none, none] [] σ (pI fun z2 σ2 => -1002 = z2 ∧ rng (-1002) ∧ (Inv σ2 ∨ Inv (swp σ2))) := BX12_takeOut_19 ⟨_, rfl, rfl, by decide, Or.inl hI'⟩
    exact EX12_takeOut (r_isPage rp (fun a b => ⟨_, rfl, b1' (r_isPage rq (fun c d => ⟨_, rfl, b1' ⟨rq, rp, fun g => absurd ⟨⟨a, b⟩, ⟨c, d⟩, g⟩ hn, fun _ => e⟩⟩) (fun _ => ⟨_, rfl, b0' e⟩))⟩) (fun _ => ⟨_, rfl, b0' e⟩))
  refine EX11_takeOut (c_isPage rp (fun a b => ⟨_, rfl, b1' (c_isPage rq (fun c d => ⟨_, rfl, b1' ⟨rq, rp, fun g => ⟨h1.1, ?_⟩, fun g => ⟨_, rfl, no (by omega)⟩⟩⟩) (fun g => ⟨_, rfl, b0' ⟨_, rfl, no (by omega)⟩⟩))⟩) (fun g => ⟨_, rfl, b0' ⟨_, rfl, no (by omega)⟩⟩))
  have bu : bk (up σ 0 9 0) 5 = bk σ 5 := bk5 (σ := σ) (σ' := up σ 0 9 0) (fun k x y => up_r (by omega))
  have u5 : up σ 0 9 0 5 = σ 5 := up_r (by decide)
  refine c_cutPages rfl (by rw [bu]; exact hW) a g d (fun τ hF h57 e57 hC => ⟨_, rfl, ⟨_, rfl, ?_⟩⟩)
  rw [bu, u5] at e57 hC
  rw [bu, u5]
  rw [u5] at h57
  obtain ⟨n, hn⟩ : ∃ n : Nat, σ 5 7 = n := ⟨(σ 5 7).toNat, by omega⟩
  have en : (σ 5 7).toNat = n := by omega
  rw [en] at e57 hC
  rw [en]
  have kb := ksl_b (bk σ 5) p q n 0
  have tk : ∀ x, x ≠ 0 → x ≠ 5 → x < 12 ∨ 16 < x → τ x = σ x := fun x x0 x5 xx => by rw [hF x x5 xx, up_r x0]
  have t94 : τ 94 = σ 94 := tk 94 (by decide) (by decide) (by omega)
  refine EX12_takeOut (r_isPage rp (fun _ _ => ⟨_, rfl, b1' (r_isPage rq (fun _ _ => ⟨_, rfl, b1' ⟨rq, rp, fun _ => ?_, fun y => absurd g y⟩⟩) (fun y => absurd ⟨c, d⟩ y))⟩) (fun y => absurd ⟨a, b⟩ y))
  have brow : ∀ r, 7 ≤ r → r ≤ 11 → ∀ i : Int, 0 ≤ i → i < σ 5 7 → τ (94 + r) i = bk σ 5 r i := by
    intro r r7 r11 i i0 i1
    rw [tk _ (by omega) (by omega) (by omega)]
    obtain ⟨m1, m2, m3, m4, m5⟩ := Ra_m hR i0 i1
    have : r = 7 ∨ r = 8 ∨ r = 9 ∨ r = 10 ∨ r = 11 := by omega
    rcases this with rfl | rfl | rfl | rfl | rfl
    · exact m1
    · exact m2
    · exact m3
    · exact m4
    · exact m5
  -- from the last mark on
  have loop : ∀ (t m : Nat) (υ : Sg), t + m = n → (∀ x, x ≠ 94 → x < 101 ∨ 105 < x → υ x = τ x) → (∀ j, j ≠ 7 → υ 94 j = τ 94 j) → υ 94 7 = t + (ksl (bk σ 5) p q t m).length → (∀ r, 7 ≤ r → r ≤ 11 → ∀ i : Int, 0 ≤ i → i < t → υ (94 + r) i = bk σ 5 r i) → CutR υ 94 (bk σ 5) p q t (ksl (bk σ 5) p q t m) → V mX12_takeOut 33 [some (vr 94), some (vi p), some (vi q), some (vi ((m : Int) - (ksl (bk σ 5) p q t m).length)), some (vi ((t : Int) - 1))] [] υ (pI fun z2 σ2 => σ 5 7 - (ksl (bk σ 5) p q 0 n).length = z2 ∧ rng (σ 5 7 - (ksl (bk σ 5) p q 0 n).length) ∧ (Inv σ2 ∨ Inv (swp σ2))) := by
    intro t
    induction t with
    | zero =>
      intro m υ hm gF g94 e947 hlo hCR
      have emn : m = n := by omega
      subst emn
      refine BX12_takeOut_33 ⟨by omega, fun _ => ⟨_, rfl, by rw [hn], by omega, Or.inl ?_⟩, fun y => absurd (by omega) y⟩
      have v : ∀ x, x ≠ 0 → x ≠ 5 → ¬ (12 ≤ x ∧ x ≤ 16) → x ≠ 94 → ¬ (101 ≤ x ∧ x ≤ 105) → υ x = σ x := fun x x0 x5 x12 x94 x101 => by rw [gF x x94 (by omega), tk x x0 x5 (by omega)]
      have v0 : υ 0 = up σ 0 9 0 0 := by rw [gF 0 (by decide) (by omega), hF 0 (by decide) (by omega)]
      have v5 : υ 5 = τ 5 := gF 5 (by decide) (by omega)
      refine hI'.ma (fun k k1 k2 k3 k4 k5 _ => v k k1 k2 k3 k4 k5) (fun j hj => by rw [v0, up_f hj]) (by rw [v0, up_s]) (by rw [v5, h57 0 (by decide)]) (fun j hj => by rw [g94 j (by simp at hj; omega), t94]) (by rw [e947, v5, e57]; simp) (by rw [v5, e57]; omega) (fun k k0 k1 => ?_)
      rw [v5, e57] at k1
      have kk : k.toNat < (ksl (bk σ 5) p q 0 m).length := by omega
      have ek : ((k.toNat : Nat) : Int) = k := by omega
      have mem := kb.2 _ (getD_mem kk)
      obtain ⟨x, hx⟩ : ∃ x, x = (ksl (bk σ 5) p q 0 m).getD k.toNat 0 := ⟨_, rfl⟩
      rw [← hx] at mem
      have cr : ∀ r, 7 ≤ r → r ≤ 11 → υ (5 + r) k = nrw (bk σ 5) p q r x := fun r r7 r11 => by
        rw [gF _ (by omega) (by omega)]
        have := hC r r7 r11 k.toNat kk
        rw [ek, show (0 : Int) + k = k by omega, ← hx] at this
        exact this
      have rr : ∀ r, 7 ≤ r → r ≤ 11 → υ (94 + r) k = nrw (bk σ 5) p q r x := fun r r7 r11 => by
        have := hCR r r7 r11 k.toNat kk
        rw [ek, show ((0 : Nat) : Int) + k = k by omega, ← hx] at this
        exact this
      have w := Wb_m hW (i := x) (by omega) (show x < σ 5 7 by omega)
      have w : (0 ≤ σ 12 x ∧ σ 12 x < σ 5 0) ∧ (-1 ≤ σ 13 x ∧ σ 13 x < σ 7 (σ 12 x)) ∧ (1 ≤ σ 14 x ∧ σ 14 x ≤ σ 15 x ∧ σ 15 x ≤ 99) ∧ (σ 16 x = 0 ∨ σ 16 x = 1) := w
      have c12 : υ 12 k = σ 12 x := cr 7 (by decide) (by decide)
      have c13 : υ 13 k = σ 13 x := cr 8 (by decide) (by decide)
      have c14 : υ 14 k = nfr p q (σ 14 x) := cr 9 (by decide) (by decide)
      have c15 : υ 15 k = nto p q (σ 15 x) := cr 10 (by decide) (by decide)
      have c16 : υ 16 k = σ 16 x := cr 11 (by decide) (by decide)
      have kx : nfr p q (σ 14 x) ≤ nto p q (σ 15 x) := by
        have := mem.2.2
        unfold kpt at this
        rw [decide_eq_true_iff] at this
        exact this
      refine ⟨?_, (rr 7 (by decide) (by decide)).trans (cr 7 (by decide) (by decide)).symm, (rr 8 (by decide) (by decide)).trans (cr 8 (by decide) (by decide)).symm, (rr 9 (by decide) (by decide)).trans (cr 9 (by decide) (by decide)).symm, (rr 10 (by decide) (by decide)).trans (cr 10 (by decide) (by decide)).symm, (rr 11 (by decide) (by decide)).trans (cr 11 (by decide) (by decide)).symm⟩
      show (0 ≤ υ 12 k ∧ υ 12 k < υ 5 0) ∧ (-1 ≤ υ 13 k ∧ υ 13 k < υ 7 (υ 12 k)) ∧ (1 ≤ υ 14 k ∧ υ 14 k ≤ υ 15 k ∧ υ 15 k ≤ 99) ∧ (υ 16 k = 0 ∨ υ 16 k = 1)
      rw [c12, c13, c14, c15, c16, v 7 (by decide) (by decide) (by decide) (by decide) (by decide), v5, h57 0 (by decide)]
      refine ⟨w.1, w.2.1, ⟨?_, kx, ?_⟩, w.2.2.2⟩
      · unfold nfr
        split
        · omega
        · split <;> omega
      · unfold nto
        split
        · omega
        · split <;> omega
    | succ t ih =>
      intro m υ hm gF g94 e947 hlo hCR
      have kt := ksl_b (bk σ 5) p q m (t + 1)
      have e3 : υ 103 t = σ 14 t := hlo 9 (by decide) (by decide) t (by omega) (by omega)
      have e4 : υ 104 t = σ 15 t := hlo 10 (by decide) (by decide) t (by omega) (by omega)
      have w := Wb_m hW (i := t) (by omega) (show (t : Int) < σ 5 7 by omega)
      have w : (0 ≤ σ 12 t ∧ σ 12 t < σ 5 0) ∧ (-1 ≤ σ 13 t ∧ σ 13 t < σ 7 (σ 12 t)) ∧ (1 ≤ σ 14 t ∧ σ 14 t ≤ σ 15 t ∧ σ 15 t ≤ 99) ∧ (σ 16 t = 0 ∨ σ 16 t = 1) := w
      have ws : 0 ≤ σ 7 (σ 12 t) ∧ σ 7 (σ 12 t) ≤ 6 := Wb_subs hW w.1.1 w.1.2
      have kdef : ksl (bk σ 5) p q t (m + 1) = if kpt (bk σ 5) p q t = true then (t : Int) :: ksl (bk σ 5) p q (t + 1) m else ksl (bk σ 5) p q (t + 1) m := rfl
      have tt : ((t + 1 : Nat) : Int) - 1 = t := by omega
      have leaf : ∀ x y : Int, x = nfr p q (σ 14 t) → y = nto p q (σ 15 t) → ((x ≤ y → V mX12_takeOut 178 [some (vr 94), some (vi p), some (vi q), some (vi ((m : Int) - (ksl (bk σ 5) p q (t + 1) m).length)), some (vi (t : Int))] [] (up (up υ 103 t x) 104 t y) (pI fun z2 σ2 => σ 5 7 - (ksl (bk σ 5) p q 0 n).length = z2 ∧ rng (σ 5 7 - (ksl (bk σ 5) p q 0 n).length) ∧ (Inv σ2 ∨ Inv (swp σ2)))) ∧ (¬ x ≤ y → Cl mX12_takeAway [vr 94, vi (t : Int)] (up (up υ 103 t x) 104 t y) (pV fun σ1 => V mX12_takeOut 178 [some (vr 94), some (vi p), some (vi q), some (vi ((m : Int) - (ksl (bk σ 5) p q (t + 1) m).length + 1)), some (vi (t : Int))] [] σ1 (pI fun z2 σ2 => σ 5 7 - (ksl (bk σ 5) p q 0 n).length = z2 ∧ rng (σ 5 7 - (ksl (bk σ 5) p q 0 n).length) ∧ (Inv σ2 ∨ Inv (swp σ2)))))) := by
        intro x y hx hy
        have uR : ∀ r, 7 ≤ r → r ≤ 11 → ∀ i : Int, i ≠ t → up (up υ 103 t x) 104 t y (94 + r) i = υ (94 + r) i := by
          intro r r7 r11 i hi
          by_cases r10 : r = 10
          · subst r10; show up (up υ 103 t x) 104 t y 104 i = υ 104 i; rw [up_f hi, up_o (by decide)]
          · rw [up_o (by omega)]
            by_cases r9 : r = 9
            · subst r9; show up υ 103 t x 103 i = υ 103 i; rw [up_f hi]
            · rw [up_o (by omega)]
        have uT : ∀ r, 7 ≤ r → r ≤ 11 → up (up υ 103 t x) 104 t y (94 + r) t = nrw (bk σ 5) p q r t := by
          intro r r7 r11
          unfold nrw
          by_cases r9 : r = 9
          · subst r9; rw [if_pos rfl]; show up (up υ 103 t x) 104 t y 103 t = _; rw [up_o (by decide), up_s, hx]; rfl
          · rw [if_neg r9]
            by_cases r10 : r = 10
            · subst r10; rw [if_pos rfl]; show up (up υ 103 t x) 104 t y 104 t = _; rw [up_s, hy]; rfl
            · rw [if_neg r10, up_o (by omega), up_o (by omega)]; exact hlo r r7 r11 t (by omega) (by omega)
        refine ⟨fun hxy => ?_, fun hxy => ?_⟩
        · have k1 : kpt (bk σ 5) p q t = true := by unfold kpt; rw [decide_eq_true_iff]; rw [hx, hy] at hxy; exact hxy
          rw [if_pos k1] at kdef
          refine BX12_takeOut_178 ?_
          have := ih (m + 1) (up (up υ 103 t x) 104 t y) (by omega) (fun c c1 c2 => by rw [up_r (by omega), up_r (by omega)]; exact gF c c1 c2) (fun j hj => by rw [up_r (by decide), up_r (by decide)]; exact g94 j hj) (by rw [up_r (by decide), up_r (by decide), e947, kdef, List.length_cons]; omega) (fun r r7 r11 i i0 i1 => by rw [uR r r7 r11 i (by omega)]; exact hlo r r7 r11 i i0 (by omega)) (by
            rw [kdef]
            intro r r7 r11 j hj
            rcases j with _ | j
            · rw [show (t : Int) + ((0 : Nat) : Int) = t by omega]; exact uT r r7 r11
            · rw [show (t : Int) + ((j + 1 : Nat) : Int) = ((t + 1 : Nat) : Int) + j by omega, uR r r7 r11 _ (by omega)]
              rw [List.length_cons] at hj
              exact hCR r r7 r11 j (by omega))
          rw [kdef, List.length_cons, show ((m + 1 : Nat) : Int) - (((ksl (bk σ 5) p q (t + 1) m).length + 1 : Nat) : Int) = (m : Int) - (ksl (bk σ 5) p q (t + 1) m).length by omega, show (t : Int) - 1 = t + -1 by omega] at this
          exact this
        · have k0 : ¬ kpt (bk σ 5) p q t = true := fun z => hxy (by unfold kpt at z; rw [decide_eq_true_iff] at z; rw [hx, hy]; exact z)
          rw [if_neg k0] at kdef
          have u7 : up (up υ 103 t x) 104 t y 94 7 = ((t + 1 : Nat) : Int) + (ksl (bk σ 5) p q (t + 1) m).length := by rw [up_o (by decide), up_o (by decide)]; exact e947
          refine r_takeAway (by omega) (by rw [u7]; omega) (by rw [u7]; omega) (fun i i0 i1 => ?_) (fun φ fF f94 f7 fr => ⟨rfl, BX12_takeOut_178 ?_⟩)
          · rw [u7] at i1
            by_cases c1 : i < ((t + 1 : Nat) : Int)
            · by_cases c2 : i = t
              · rw [c2, show up (up υ 103 t x) 104 t y 105 t = _ from uT 11 (by decide) (by decide)]
                exact w.2.2.2
              · rw [show up (up υ 103 t x) 104 t y 105 i = _ from uR 11 (by decide) (by decide) i c2, show υ 105 i = bk σ 5 11 i from hlo 11 (by decide) (by decide) i i0 c1]
                exact (Wb_m hW i0 (show i < σ 5 7 by omega)).2.2.2
            · have jj : (i - ((t + 1 : Nat) : Int)).toNat < (ksl (bk σ 5) p q (t + 1) m).length := by omega
              have := hCR 11 (by decide) (by decide) _ jj
              rw [show ((t + 1 : Nat) : Int) + (((i - ((t + 1 : Nat) : Int)).toNat : Nat) : Int) = i by omega] at this
              rw [show up (up υ 103 t x) 104 t y 105 i = _ from uR 11 (by decide) (by decide) i (by omega), show υ 105 i = _ from this]
              have mem := kt.2 _ (getD_mem jj)
              exact (Wb_m hW (i := (ksl (bk σ 5) p q (t + 1) m).getD (i - ((t + 1 : Nat) : Int)).toNat 0) (by omega) (show _ < σ 5 7 by omega)).2.2.2
          · rw [u7] at f7 fr
            have := ih (m + 1) φ (by omega) (fun c c1 c2 => by rw [fF c c1 c2, up_r (by omega), up_r (by omega)]; exact gF c c1 c2) (fun j hj => by rw [f94 j hj, up_o (by decide), up_o (by decide)]; exact g94 j hj) (by rw [f7, kdef]; omega) (fun r r7 r11 i i0 i1 => by rw [fr r r7 r11, gone_lo i1, uR r r7 r11 i (by omega)]; exact hlo r r7 r11 i i0 (by omega)) (by
              rw [kdef]
              intro r r7 r11 j hj
              rw [fr r r7 r11, gone_hi (by omega) (by omega), uR r r7 r11 _ (by omega), show (t : Int) + j + 1 = ((t + 1 : Nat) : Int) + j by omega]
              exact hCR r r7 r11 j hj)
            rw [kdef, show ((m + 1 : Nat) : Int) - ((ksl (bk σ 5) p q (t + 1) m).length : Int) = (m : Int) - (ksl (bk σ 5) p q (t + 1) m).length + 1 by omega, show (t : Int) - 1 = t + -1 by omega] at this
            exact this
      have f1 : σ 14 t < p → nfr p q (σ 14 t) = σ 14 t := fun h => if_pos h
      have f2 : p ≤ σ 14 t → σ 14 t ≤ q → nfr p q (σ 14 t) = p := fun h h2 => by unfold nfr; rw [if_neg (by omega), if_pos h2]
      have f3 : q < σ 14 t → nfr p q (σ 14 t) = σ 14 t - ((q - p) + 1) := fun h => by unfold nfr; rw [if_neg (by omega), if_neg (by omega)]
      have t1 : σ 15 t < p → nto p q (σ 15 t) = σ 15 t := fun h => if_pos h
      have t2 : p ≤ σ 15 t → σ 15 t ≤ q → nto p q (σ 15 t) = p - 1 := fun h h2 => by unfold nto; rw [if_neg (by omega), if_pos h2]
      have t3 : q < σ 15 t → nto p q (σ 15 t) = σ 15 t - ((q - p) + 1) := fun h => by unfold nto; rw [if_neg (by omega), if_neg (by omega)]
      refine BX12_takeOut_33 ⟨by omega, fun y => absurd y (by omega), fun _ => ⟨by omega, ?_⟩⟩
      rw [tt, e3, e4]
      refine ⟨by omega, rp, fun c1 => ⟨rq, fun c2 => ⟨by omega, fun c3 => ⟨fun c4 => ⟨by omega, by omega, leaf _ _ (f3 (by omega)).symm (t3 (by omega)).symm⟩, fun c4 => ⟨by omega, by omega, leaf _ _ (f3 (by omega)).symm (t2 (by omega) (by omega)).symm⟩⟩, fun c3 => ⟨by omega, leaf _ _ (f3 (by omega)).symm (t1 (by omega)).symm⟩⟩, fun c2 => ⟨by omega, fun c3 => ⟨fun c4 => ⟨by omega, leaf _ _ (f2 (by omega) (by omega)).symm (t3 (by omega)).symm⟩, fun c4 => ⟨by omega, leaf _ _ (f2 (by omega) (by omega)).symm (t2 (by omega) (by omega)).symm⟩⟩, fun c3 => leaf _ _ (f2 (by omega) (by omega)).symm (t1 (by omega)).symm⟩⟩, fun c1 => ⟨by omega, fun c3 => ⟨rq, fun c4 => ⟨by omega, leaf _ _ (f1 (by omega)).symm (t3 (by omega)).symm⟩, fun c4 => ⟨by omega, leaf _ _ (f1 (by omega)).symm (t2 (by omega) (by omega)).symm⟩⟩, fun c3 => leaf _ _ (f1 (by omega)).symm (t1 (by omega)).symm⟩⟩
  have := loop n 0 τ (by omega) (fun _ _ _ => rfl) (fun _ _ => rfl) (by rw [t94, em, hn]; show (n : Int) = (n : Int) + ((0 : Nat) : Int); omega) (fun r r7 r11 i i0 i1 => brow r r7 r11 i i0 (by omega)) (fun r _ _ j hj => by cases hj)
  rw [show ((0 : Nat) : Int) - ((ksl (bk σ 5) p q n 0).length : Int) = 0 from rfl, show (n : Int) - 1 = τ 94 7 - 1 by rw [t94, em, hn]] at this
  exact this
