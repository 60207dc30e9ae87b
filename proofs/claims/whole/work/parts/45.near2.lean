/-! ===== PURE HALF, by hand: near, the class and the step ===== -/
def dgs (l : List Int) : Prop := l.length ≤ 12 ∧ ∀ d ∈ l, 0 ≤ d ∧ d < 32
theorem pkL_inj {l m : List Int} (hl : dgs l) (hm : dgs m) : pkL l = pkL m ↔ ∀ i : Nat, l.getD i 0 = m.getD i 0 := by
  constructor
  · intro h i
    by_cases hi : i < 12
    · rw [← cd_pkL l i hl.2 hi, ← cd_pkL m i hm.2 hi, h]
    · have a := hl.1
      have b := hm.1
      rw [List.getD_eq_getElem?_getD, List.getD_eq_getElem?_getD, List.getElem?_eq_none (by omega), List.getElem?_eq_none (by omega)]
  · intro h
    have a := pkL_b l hl.2
    have b := pkL_b m hm.2
    refine cd_ext a.1 a.2 b.1 b.2 (fun i i0 i1 => ?_)
    obtain ⟨n, rfl⟩ : ∃ n : Nat, i = n := ⟨i.toNat, by omega⟩
    rw [cd_pkL l n hl.2 (by omega), cd_pkL m n hm.2 (by omega), h n]
theorem dgs_drop {l : List Int} (h : dgs l) (n : Nat) : dgs (l.drop n) := ⟨by rw [List.length_drop]; have := h.1; omega, fun d hd => h.2 d (List.mem_of_mem_drop hd)⟩
theorem dgs_lets (c : Int) : dgs (lets c 12) := ⟨(lets_b c 12).1, fun d hd => by have := (lets_b c 12).2 d hd; omega⟩
theorem beh1 {l : List Int} (h : dgs l) : pkL l * 32 % 1152921504606846976 = pkL (l.drop 1) := by
  rcases l with _ | ⟨d, l⟩
  · decide
  · have hl : l.length ≤ 11 := by have := h.1; rw [List.length_cons] at this; omega
    obtain ⟨q, hq⟩ := pkL_dvd l (by omega)
    have b := pkL_b l (fun x hx => h.2 x (List.mem_cons_of_mem _ hx))
    have e : (32 : Int) ^ (12 - l.length) * q = 32 * (32 ^ (11 - l.length) * q) := by
      rw [show 12 - l.length = (11 - l.length) + 1 by omega, p32s, Int.mul_comm (32 ^ (11 - l.length)) 32, Int.mul_assoc]
    show pkL (d :: l) * 32 % 1152921504606846976 = pkL l
    rw [pkL, hq, e] 
    rw [e] at hq
    obtain ⟨y, hy⟩ : ∃ y, y = 32 ^ (11 - l.length) * q := ⟨_, rfl⟩
    rw [← hy] at hq ⊢
    clear e hy
    omega
theorem behN : ∀ (n : Nat) {l : List Int}, dgs l → pkL l * 32 ^ n % 1152921504606846976 = pkL (l.drop n)
  | 0, l, h => by
    have b := pkL_b l h.2
    rw [List.drop_zero]
    show pkL l * 32 ^ 0 % 1152921504606846976 = pkL l
    rw [show (32 : Int) ^ 0 = 1 from rfl, Int.mul_one, Int.emod_eq_of_lt b.1 b.2]
  | n + 1, l, h => by
    have ih := behN n h
    have b1 := beh1 (dgs_drop h n)
    rw [List.drop_drop] at b1
    rw [← b1, ← ih, p32s, ← Int.mul_assoc]
    clear ih b1
    generalize pkL l * 32 ^ n = y
    omega
theorem tn_shl (x : Int) {n : Nat} (hn : n < 64) : tn (lShl x (n : Int)) = tn x * 2 ^ n % 18446744073709551616 := by
  have hs := shL_tab n hn
  unfold tn
  rw [← nB64, ← nB64]
  unfold lShl
  rw [lI_of, Int64.toBitVec_shiftLeft, BitVec.shiftLeft_eq', hs, BitVec.toNat_shiftLeft, Nat.shiftLeft_eq]
theorem lAndM (z : Int) : lAnd z 1152921504606846975 = ((tn z % 1152921504606846976 : Nat) : Int) := by
  have h1 := tI64 (x := lI z &&& lI 1152921504606846975) (n := tn z % 1152921504606846976) (by
    rw [Int64.toBitVec_and, BitVec.toNat_and, nB64, nB64]
    show tn z &&& (2 ^ 60 - 1) = _
    rw [Nat.and_two_pow_sub_one_eq_mod]) (by
    have := Nat.mod_lt (tn z) (show 0 < 1152921504606846976 by decide)
    omega)
  unfold lAnd
  exact h1
theorem c_behind {σ : Sg} {post : Po} {l : List Int} {n : Nat} (hl : dgs l) (hn : n ≤ 11) (hp : post (some (vl (pkL (l.drop n)))) σ) : Cl mX10_behind [vl (pkL l), vi (n : Int)] σ post := by
  refine EX10_behind ?_
  have b := pkL_b l hl.2
  have e : lAnd (lShl (pkL l) ((n : Int) * 5)) 1152921504606846975 = pkL (l.drop n) := by
    rw [lAndM, show (n : Int) * 5 = ((5 * n : Nat) : Int) by omega, tn_shl _ (by omega), ← behN n hl]
    have h1 : tn (pkL l) = (pkL l).toNat := by
      unfold tn
      rw [Int.emod_eq_of_lt b.1 (by omega)]
    obtain ⟨m, hm⟩ : ∃ m : Nat, pkL l = m := ⟨(pkL l).toNat, by omega⟩
    rw [h1, hm, Int.toNat_natCast, Nat.mod_mod_of_dvd _ (by decide), Nat.pow_mul]
    rw [Int.natCast_emod, Int.natCast_mul]
    simp
  rw [e]
  exact hp
theorem getD_drop (l : List Int) (n i : Nat) : (l.drop n).getD i 0 = l.getD (n + i) 0 := by
  rw [List.getD_eq_getElem?_getD, List.getD_eq_getElem?_getD, List.getElem?_drop]
theorem c_isOneByteOff {σ : Sg} {post : Po} {c d : Int} {n : Nat} (n3 : ∀ i, i < n → lA c i = lA d i) (n4 : lA c n ≠ lA d n) (ht : oneB c d n → post (some (vi 1)) σ) (hf : ¬ oneB c d n → post (some (vi 0)) σ) : Cl mX10_isOneByteOff [vl (bar c), vl (bar d)] σ post := by
  have hn : n ≤ 11 := by
    have a := lX_b c
    have b := lX_b d
    by_cases h : n ≤ 11
    · exact h
    · exact absurd (by rw [lA_out (by omega), lA_out (by omega)]) n4
  have ga := dgs_lets c
  have gb := dgs_lets d
  have bc := bar_b c
  have bd := bar_b d
  have rl : ∀ m : List Int, dgs m → rngL (pkL m) := fun m hm => by have := pkL_b m hm.2; omega
  have E1 : pkL (((lets c 12).drop n).drop 1) = pkL (((lets d 12).drop n).drop 1) ↔ ∀ i, lA c (n + 1 + i) = lA d (n + 1 + i) := by
    rw [pkL_inj (dgs_drop (dgs_drop ga n) 1) (dgs_drop (dgs_drop gb n) 1)]
    constructor
    · intro h i
      have := h i
      rw [getD_drop, getD_drop, getD_drop, getD_drop, show n + (1 + i) = n + 1 + i by omega] at this
      exact this
    · intro h i
      rw [getD_drop, getD_drop, getD_drop, getD_drop, show n + (1 + i) = n + 1 + i by omega]
      exact h i
  have E2 : pkL (((lets c 12).drop n).drop 1) = pkL ((lets d 12).drop n) ↔ ∀ i, lA c (n + 1 + i) = lA d (n + i) := by
    rw [pkL_inj (dgs_drop (dgs_drop ga n) 1) (dgs_drop gb n)]
    constructor
    · intro h i
      have := h i
      rw [getD_drop, getD_drop, getD_drop, show n + (1 + i) = n + 1 + i by omega] at this
      exact this
    · intro h i
      rw [getD_drop, getD_drop, getD_drop, show n + (1 + i) = n + 1 + i by omega]
      exact h i
  have E3 : pkL ((lets c 12).drop n) = pkL (((lets d 12).drop n).drop 1) ↔ ∀ i, lA c (n + i) = lA d (n + 1 + i) := by
    rw [pkL_inj (dgs_drop ga n) (dgs_drop (dgs_drop gb n) 1)]
    constructor
    · intro h i
      have := h i
      rw [getD_drop, getD_drop, getD_drop, show n + (1 + i) = n + 1 + i by omega] at this
      exact this
    · intro h i
      rw [getD_drop, getD_drop, getD_drop, show n + (1 + i) = n + 1 + i by omega]
      exact h i
  have end1 : ∀ x4 : Int, x4 = n → Cl mX10_behind [vl (bar c), vi x4] σ (pL fun z1 σ1 => Cl mX10_behind [vl (bar d), vi x4] σ1 (pL fun z2 σ2 => Cl mX10_behind [vl z1, vi 1] σ2 (pL fun z3 σ3 => Cl mX10_behind [vl z2, vi 1] σ3 (pL fun z4 σ4 => (rngL z3) ∧ ((rngL z4) ∧ ((z3 = z4 → post (some (vi 1)) σ4) ∧ (¬ z3 = z4 → Cl mX10_behind [vl z1, vi 1] σ4 (pL fun z5 σ5 => (rngL z5) ∧ ((rngL z2) ∧ ((z5 = z2 → post (some (vi 1)) σ5) ∧ (¬ z5 = z2 → Cl mX10_behind [vl z2, vi 1] σ5 (pL fun z6 σ6 => (rngL z1) ∧ ((rngL z6) ∧ ((¬ z1 = z6 → post (some (vi 0)) σ6) ∧ (z1 = z6 → post (some (vi 1)) σ6))))))))))))))) := by
    intro x4 e4
    subst e4
    refine c_behind ga hn ⟨_, rfl, c_behind gb hn ⟨_, rfl, c_behind (n := 1) (dgs_drop ga n) (by decide) ⟨_, rfl, c_behind (n := 1) (dgs_drop gb n) (by decide) ⟨_, rfl, rl _ (dgs_drop (dgs_drop ga n) 1), rl _ (dgs_drop (dgs_drop gb n) 1), fun h => ht (Or.inl (E1.1 h)), fun h => c_behind (n := 1) (dgs_drop ga n) (by decide) ⟨_, rfl, rl _ (dgs_drop (dgs_drop ga n) 1), rl _ (dgs_drop gb n), fun h2 => ht (Or.inr (Or.inl (E2.1 h2))), fun h2 => c_behind (n := 1) (dgs_drop gb n) (by decide) ⟨_, rfl, rl _ (dgs_drop ga n), rl _ (dgs_drop (dgs_drop gb n) 1), fun h3 => hf ?_, fun h3 => ht (Or.inr (Or.inr (E3.1 h3)))⟩⟩⟩⟩⟩⟩
    rintro (z | z | z)
    · exact h (E1.2 z)
    · exact h2 (E2.2 z)
    · exact h3 (E3.2 z)
  refine EX10_isOneByteOff ?_
  have loop : ∀ (m j : Nat), j + m = n → V mX10_isOneByteOff 3 [some (vl (bar c)), none, some (vl (bar d)), none, some (vi (j : Int)), none, none, none, none] [] σ post := by
    intro m
    induction m with
    | zero =>
      intro j hj
      have ej : j = n := by omega
      subst ej
      have ca := cd_b (bar c) j
      have cb := cd_b (bar d) j
      refine BX10_isOneByteOff_3 ⟨by omega, fun _ => end1 _ rfl, fun q => c_codeOf bc.1 bc.2 (by omega) (by omega) ⟨_, rfl, c_codeOf bd.1 bd.2 (by omega) (by omega) ⟨_, rfl, by omega, by omega, fun _ => end1 _ rfl, fun h => ?_⟩⟩⟩
      rw [bar_cd (by omega), bar_cd (by omega)] at h
      exact absurd h n4
    | succ m ih =>
      intro j hj
      have ca := cd_b (bar c) j
      have cb := cd_b (bar d) j
      refine BX10_isOneByteOff_3 ⟨by omega, fun q => absurd q (by omega), fun q => c_codeOf bc.1 bc.2 (by omega) (by omega) ⟨_, rfl, c_codeOf bd.1 bd.2 (by omega) (by omega) ⟨_, rfl, by omega, by omega, fun h => ?_, fun _ => ih (j + 1) (by omega)⟩⟩⟩
      rw [bar_cd (by omega), bar_cd (by omega)] at h
      exact absurd (n3 j (by omega)) h
  exact loop n 0 (by omega)
theorem c_isPlural {σ : Sg} {post : Po} {c d : Int} (ht : plu d c → post (some (vi 1)) σ) (hf : ¬ plu d c → post (some (vi 0)) σ) : Cl mX10_isPlural [vl (bar c), vl (bar d)] σ post := by
  have bc := bar_b c
  have bd := bar_b d
  have xd := lX_b d
  have xc := lX_b c
  refine EX10_isPlural (c_lengthOf bd.1 bd.2 (n := (lX d : Int)) (by omega) (by omega) (fun i i0 i1 => ?_) ⟨_, rfl, by omega, fun q => hf (fun z => by have := z.1; omega), fun q => c_codeAt (by decide) (by decide) (by omega) (by omega) ⟨_, rfl, by omega, ?_⟩⟩)
  · obtain ⟨n, rfl⟩ : ∃ n : Nat, i = n := ⟨i.toNat, by omega⟩
    rw [bar_cd (by omega)]
    constructor
    · intro h
      have := lA_in (c := d) (i := n) (by omega)
      omega
    · intro h
      by_cases e : n < lX d
      · omega
      · exact absurd (lA_out (by omega)) h
  · have gl := dgs_lets d
    have key := lOr_app (l := lets d 12) (d := 21) (show lX d ≤ 11 by omega) gl.2 (by decide) (by decide)
    have e1 : lOr (bar d) ((115 - 94) * 32 ^ (11 - (lX d : Int)).toNat) = pkL (lets d 12 ++ [21]) := key
    have ga : dgs (lets d 12 ++ [21]) := ⟨by rw [List.length_append]; show lX d + 1 ≤ 12; omega, fun x hx => by
      rcases List.mem_append.1 hx with h | h
      · exact gl.2 x h
      · have : x = 21 := by simpa using h
        rw [this]; decide⟩
    have gD : ∀ i : Nat, (lets d 12 ++ [21]).getD i 0 = if i < lX d then lA d i else if i = lX d then 21 else 0 := by
      intro i
      by_cases h : i < lX d
      · rw [if_pos h, List.getD_eq_getElem?_getD, List.getElem?_append_left h, ← List.getD_eq_getElem?_getD]; rfl
      · rw [if_neg h, List.getD_eq_getElem?_getD, List.getElem?_append_right (show (lets d 12).length ≤ i from by show lX d ≤ i; omega)]
        by_cases e : i = lX d
        · rw [if_pos e, e, show lX d - (lets d 12).length = 0 from Nat.sub_self _]; rfl
        · rw [if_neg e, List.getElem?_eq_none (show [(21 : Int)].length ≤ i - (lets d 12).length from by show 1 ≤ i - lX d; omega)]; rfl
    have EQ : bar c = pkL (lets d 12 ++ [21]) ↔ plu d c := by
      unfold bar
      rw [pkL_inj (dgs_lets c) ga]
      constructor
      · intro h
        have h : ∀ i : Nat, lA c i = if i < lX d then lA d i else if i = lX d then 21 else 0 := fun i => (h i).trans (gD i)
        have len : lX c = lX d + 1 := by
          by_cases e : lX c < lX d + 1
          · have := h (lX c)
            rw [lA_out (Nat.le_refl _)] at this
            by_cases e2 : lX c < lX d
            · rw [if_pos e2] at this
              have := lA_in e2
              omega
            · rw [if_neg e2, if_pos (by omega)] at this
              omega
          · by_cases e2 : lX d + 1 < lX c
            · have := h (lX d + 1)
              rw [if_neg (by omega), if_neg (by omega)] at this
              have := lA_in e2
              omega
            · omega
        refine ⟨len, fun i hi => ?_, ?_⟩
        · have := h i
          rw [if_pos hi] at this
          exact this.symm
        · have := h (lX d)
          rw [if_neg (by omega), if_pos rfl] at this
          exact this
      · rintro ⟨z1, z2, z3⟩ i
        rw [gD]
        show lA c i = _
        by_cases h : i < lX d
        · rw [if_pos h]; exact (z2 i h).symm
        · rw [if_neg h]
          by_cases e : i = lX d
          · rw [if_pos e, e]; exact z3
          · rw [if_neg e, lA_out (by omega)]
    show (¬ bar c = lOr (bar d) ((115 - 94) * 32 ^ (11 - (lX d : Int)).toNat) → post (some (vi 0)) σ) ∧ (bar c = lOr (bar d) ((115 - 94) * 32 ^ (11 - (lX d : Int)).toNat) → post (some (vi 1)) σ)
    rw [e1, EQ]
    exact ⟨hf, ht⟩
theorem c_areTwoHeads {σ : Sg} {post : Po} {a b : Int} (h01 : σ 0 1 = 5) (hW : WfB (bk σ 5)) (ra : rng a) (rb : rng b) (ht : (0 ≤ a ∧ a < σ 5 0) → (0 ≤ b ∧ b < σ 5 0) → a ≠ b → post (some (vi 1)) σ) (hf : ¬ ((0 ≤ a ∧ a < σ 5 0) ∧ (0 ≤ b ∧ b < σ 5 0) ∧ a ≠ b) → post (some (vi 0)) σ) : Cl mX11_areTwoHeads [vr 0, vi a, vi b] σ post := by
  have wh := Wb_heads hW
  refine EX11_areTwoHeads ⟨h01, c_hasHead rfl ra (by omega) (fun x y => ⟨_, rfl, b1' ⟨h01, c_hasHead rfl rb (by omega) (fun u v => ⟨_, rfl, b1' ⟨ra, rb, fun q => hf (fun z => z.2.2 q), fun q => ht ⟨x, y⟩ ⟨u, v⟩ q⟩⟩) (fun q => ⟨_, rfl, b0' (hf (fun z => q z.2.1))⟩)⟩⟩) (fun q => ⟨_, rfl, b0' (hf (fun z => q z.1))⟩)⟩
theorem s_near : St_near Inv := by
  intro σ a b ra rb hI
  have hI' := hI
  obtain ⟨⟨h1, h2, h3, h4, h5⟩, h6, h7, ⟨hW, hR⟩, ⟨h10, h11⟩, h12⟩ := hI
  have wh := Wb_heads hW
  have er : σ 94 0 = σ 5 0 := Ra_heads hR
  refine EX11_near (c_areTwoHeads h1.1 hW ra rb (fun xa xb xab => ⟨_, rfl, b1 ⟨h1.1, by omega, by omega, ?_⟩⟩) (fun q => ⟨_, rfl, b0 ⟨_, rfl, ?_⟩⟩))
  · obtain ⟨Ra1, Wa1⟩ := Ra_wh hW hR xa.1 (show a < σ 5 0 from xa.2)
    obtain ⟨Rb1, Wb1⟩ := Ra_wh hW hR xb.1 (show b < σ 5 0 from xb.2)
    have Ra1 : RW (σ 96) (σ 97) (7 * a) (σ 6 a) := Ra1
    have Rb1 : RW (σ 96) (σ 97) (7 * b) (σ 6 b) := Rb1
    have Wa1 : WW (σ 6 a) := Wa1
    have Wb1 : WW (σ 6 b) := Wb1
    obtain ⟨c, hc⟩ : ∃ c, c = σ 6 a := ⟨_, rfl⟩
    obtain ⟨d, hd⟩ : ∃ d, d = σ 6 b := ⟨_, rfl⟩
    rw [← hc] at Ra1 Wa1 ⊢
    rw [← hd] at Rb1 Wb1 ⊢
    have xc := lX_b c
    have xd := lX_b d
    -- the reference up to the first two answers
    have start : ∀ (z : Int), (∀ n : Nat, n ≤ lX c → n ≤ lX d → (∀ i, i < n → lA c i = lA d i) → (n = lX c ∨ n = lX d ∨ lA c n ≠ lA d n) → rng z ∧ ((lX c = lX d ∧ n = lX c → z = 1) ∧ (¬ (lX c = lX d ∧ n = lX c) → (plu c d ∨ plu d c → z = 2) ∧ (¬ plu c d → ¬ plu d c → (z = 3 ∧ oneB c d n) ∨ (z = 0 ∧ ¬ oneB c d n))))) → Cl mX12_near [vr 94, vi a, vi b] σ (pI fun z2 σ2 => z = z2 ∧ rng z ∧ (Inv σ2 ∨ Inv (swp σ2))) := by
      intro z hz
      have va : 7 * a + 1 + -1 = 7 * a := by omega
      have vb : 7 * b + 1 + -1 = 7 * b := by omega
      refine EX12_near (r_noHead ra (by omega) (fun _ _ => ⟨_, rfl, b0 (r_noHead rb (by omega) (fun _ _ => ⟨_, rfl, b0 ⟨ra, rb, fun _ => r_slot ⟨_, rfl, r_slot ⟨_, rfl, ?_⟩⟩, fun q => absurd q xab⟩⟩) (fun q => absurd (by omega) q))⟩) (fun q => absurd (by omega) q))
      rw [va, vb]
      refine r_bareSize Ra1 Wa1 (by omega) (by omega) ⟨_, rfl, r_bareSize Rb1 Wb1 (by omega) (by omega) ⟨_, rfl, r_headAlike Ra1 Rb1 Wa1 Wb1 (by omega) (by omega) (by omega) (by omega) (fun n n1 n2 n3 n4 => ⟨_, rfl, ?_⟩)⟩⟩
      obtain ⟨rz, y1, y2⟩ := hz n n1 n2 n3 n4
      have done : ∀ w : Int, z = w → (pI fun z2 σ2 => z = z2 ∧ rng z ∧ (Inv σ2 ∨ Inv (swp σ2))) (some (vi w)) σ := fun w e => ⟨_, rfl, e, rz, Or.inl hI'⟩
      -- what follows the two questions
      have rest : ¬ (lX c = lX d ∧ n = lX c) → Cl mX12_isPlural [vr 94, vi (7 * a), vi (7 * b)] σ (pI fun z8 σ8 => (rng z8) ∧ ((¬ z8 = 0 → (pI fun z2 σ2 => z = z2 ∧ rng z ∧ (Inv σ2 ∨ Inv (swp σ2))) (some (vi 2)) σ8) ∧ (z8 = 0 → Cl mX12_isPlural [vr 94, vi (7 * b), vi (7 * a)] σ8 (pI fun z9 σ9 => (rng z9) ∧ ((z9 = 0 → Cl mX12_tailAlike [vr 94, vi (7 * a), vi (7 * b)] σ9 (pI fun z10 σ10 => ((lX c : Int) ≤ (lX d : Int) → ((lX c : Int) = (lX d : Int) → (rng ((n : Int) + z10)) ∧ ((rng ((lX d : Int) - 1)) ∧ ((((n : Int) + z10) < ((lX d : Int) - 1) → (pI fun z2 σ2 => z = z2 ∧ rng z ∧ (Inv σ2 ∨ Inv (swp σ2))) (some (vi 0)) σ10) ∧ (¬ ((n : Int) + z10) < ((lX d : Int) - 1) → (pI fun z2 σ2 => z = z2 ∧ rng z ∧ (Inv σ2 ∨ Inv (swp σ2))) (some (vi 3)) σ10)))) ∧ (¬ (lX c : Int) = (lX d : Int) → (rng ((lX d : Int) + 1)) ∧ (((lX c : Int) = ((lX d : Int) + 1) → (rng ((n : Int) + z10)) ∧ ((rng ((lX d : Int) - 1)) ∧ ((((n : Int) + z10) < ((lX d : Int) - 1) → (pI fun z2 σ2 => z = z2 ∧ rng z ∧ (Inv σ2 ∨ Inv (swp σ2))) (some (vi 0)) σ10) ∧ (¬ ((n : Int) + z10) < ((lX d : Int) - 1) → (pI fun z2 σ2 => z = z2 ∧ rng z ∧ (Inv σ2 ∨ Inv (swp σ2))) (some (vi 3)) σ10)))) ∧ (¬ (lX c : Int) = ((lX d : Int) + 1) → (rng ((lX c : Int) + 1)) ∧ ((¬ (lX d : Int) = ((lX c : Int) + 1) → (pI fun z2 σ2 => z = z2 ∧ rng z ∧ (Inv σ2 ∨ Inv (swp σ2))) (some (vi 0)) σ10) ∧ ((lX d : Int) = ((lX c : Int) + 1) → (rng ((n : Int) + z10)) ∧ ((rng ((lX d : Int) - 1)) ∧ ((((n : Int) + z10) < ((lX d : Int) - 1) → (pI fun z2 σ2 => z = z2 ∧ rng z ∧ (Inv σ2 ∨ Inv (swp σ2))) (some (vi 0)) σ10) ∧ (¬ ((n : Int) + z10) < ((lX d : Int) - 1) → (pI fun z2 σ2 => z = z2 ∧ rng z ∧ (Inv σ2 ∨ Inv (swp σ2))) (some (vi 3)) σ10))))))))) ∧ (¬ (lX c : Int) ≤ (lX d : Int) → ((lX c : Int) = (lX d : Int) → (rng ((n : Int) + z10)) ∧ ((rng ((lX c : Int) - 1)) ∧ ((((n : Int) + z10) < ((lX c : Int) - 1) → (pI fun z2 σ2 => z = z2 ∧ rng z ∧ (Inv σ2 ∨ Inv (swp σ2))) (some (vi 0)) σ10) ∧ (¬ ((n : Int) + z10) < ((lX c : Int) - 1) → (pI fun z2 σ2 => z = z2 ∧ rng z ∧ (Inv σ2 ∨ Inv (swp σ2))) (some (vi 3)) σ10)))) ∧ (¬ (lX c : Int) = (lX d : Int) → (rng ((lX d : Int) + 1)) ∧ (((lX c : Int) = ((lX d : Int) + 1) → (rng ((n : Int) + z10)) ∧ ((rng ((lX c : Int) - 1)) ∧ ((((n : Int) + z10) < ((lX c : Int) - 1) → (pI fun z2 σ2 => z = z2 ∧ rng z ∧ (Inv σ2 ∨ Inv (swp σ2))) (some (vi 0)) σ10) ∧ (¬ ((n : Int) + z10) < ((lX c : Int) - 1) → (pI fun z2 σ2 => z = z2 ∧ rng z ∧ (Inv σ2 ∨ Inv (swp σ2))) (some (vi 3)) σ10)))) ∧ (¬ (lX c : Int) = ((lX d : Int) + 1) → (rng ((lX c : Int) + 1)) ∧ ((¬ (lX d : Int) = ((lX c : Int) + 1) → (pI fun z2 σ2 => z = z2 ∧ rng z ∧ (Inv σ2 ∨ Inv (swp σ2))) (some (vi 0)) σ10) ∧ ((lX d : Int) = ((lX c : Int) + 1) → (rng ((n : Int) + z10)) ∧ ((rng ((lX c : Int) - 1)) ∧ ((((n : Int) + z10) < ((lX c : Int) - 1) → (pI fun z2 σ2 => z = z2 ∧ rng z ∧ (Inv σ2 ∨ Inv (swp σ2))) (some (vi 0)) σ10) ∧ (¬ ((n : Int) + z10) < ((lX c : Int) - 1) → (pI fun z2 σ2 => z = z2 ∧ rng z ∧ (Inv σ2 ∨ Inv (swp σ2))) (some (vi 3)) σ10))))))))))) ∧ (¬ z9 = 0 → (pI fun z2 σ2 => z = z2 ∧ rng z ∧ (Inv σ2 ∨ Inv (swp σ2))) (some (vi 2)) σ9)))))) := by
        intro hne
        obtain ⟨w2, w3⟩ := y2 hne
        have n5 : lA c n ≠ lA d n := by
          rcases n4 with e | e | e
          · have : n < lX d := by omega
            rw [lA_out (show lX c ≤ n by omega)]
            have := lA_in this
            omega
          · have : n < lX c := by omega
            rw [lA_out (show lX d ≤ n by omega)]
            have := lA_in this
            omega
          · exact e
        refine r_isPlural Ra1 Rb1 Wa1 Wb1 (by omega) (by omega) (by omega) (by omega) (fun p => ⟨_, rfl, b1 (done 2 (w2 (Or.inl p)))⟩) (fun p => ⟨_, rfl, b0 (r_isPlural Rb1 Ra1 Wb1 Wa1 (by omega) (by omega) (by omega) (by omega) (fun p2 => ⟨_, rfl, b1' (done 2 (w2 (Or.inr p2)))⟩) (fun p2 => ⟨_, rfl, b0' (r_tailAlike Ra1 Rb1 Wa1 Wb1 (by omega) (by omega) (by omega) (by omega) (fun t t1 t2 t3 t4 => ⟨_, rfl, ?_⟩))⟩))⟩)
        have eq := one_eq n1 n2 n3 n5 t1 t2 t3 t4
        have w4 := w3 p p2
        rw [eq] at w4
        clear eq n4 t4 n3 t3 hz y1 y2 w2 w3
        refine ⟨fun q => ⟨fun q2 => ⟨by omega, by omega, fun q3 => done 0 (by omega), fun q3 => done 3 (by omega)⟩, fun q2 => ⟨by omega, fun q3 => ⟨by omega, by omega, fun q4 => done 0 (by omega), fun q4 => done 3 (by omega)⟩, fun q3 => ⟨by omega, fun q4 => done 0 (by omega), fun q4 => ⟨by omega, by omega, fun q5 => done 0 (by omega), fun q5 => done 3 (by omega)⟩⟩⟩⟩, fun q => ⟨fun q2 => ⟨by omega, by omega, fun q3 => done 0 (by omega), fun q3 => done 3 (by omega)⟩, fun q2 => ⟨by omega, fun q3 => ⟨by omega, by omega, fun q4 => done 0 (by omega), fun q4 => done 3 (by omega)⟩, fun q3 => ⟨by omega, fun q4 => done 0 (by omega), fun q4 => ⟨by omega, by omega, fun q5 => done 0 (by omega), fun q5 => done 3 (by omega)⟩⟩⟩⟩⟩
      refine ⟨by omega, by omega, fun q => rest (fun z => q (by omega)), fun q => ⟨by omega, fun q2 => rest (fun z => q2 (by omega)), fun q2 => done 1 (y1 (by omega))⟩⟩
    have bc := bar_b c
    have bd := bar_b d
    refine EX10_nearness (c_withoutLines Wa1.1.1 Wa1.1.2 ⟨_, rfl, c_withoutLines Wb1.1.1 Wb1.1.2 ⟨_, rfl, ?_⟩⟩)
    show (rngL (bar c)) ∧ ((rngL (bar d)) ∧ _)
    refine ⟨by omega, by omega, fun q => ?_, fun q => ⟨_, rfl, ⟨_, rfl, start 1 (fun n n1 n2 n3 n4 => ?_)⟩⟩⟩
    · -- not alike
      obtain ⟨n, n4, n3⟩ := pk_least (fun i => lA c i ≠ lA d i) (by
        by_cases h : ∃ i, lA c i ≠ lA d i
        · exact h
        · exact absurd (bar_eq.2 (fun i => by
            by_cases e : lA c i = lA d i
            · exact e
            · exact absurd ⟨i, e⟩ h)) q)
      have n3 : ∀ i, i < n → lA c i = lA d i := fun i hi => by
        by_cases e : lA c i = lA d i
        · exact e
        · exact absurd e (n3 i hi)
      have same : ∀ m : Nat, m ≤ lX c → m ≤ lX d → (∀ i, i < m → lA c i = lA d i) → (m = lX c ∨ m = lX d ∨ lA c m ≠ lA d m) → ¬ (lX c = lX d ∧ m = lX c) ∧ m = n := by
        intro m m1 m2 m3 m4
        have ne : ¬ (lX c = lX d ∧ m = lX c) := fun z => q (bar_eq.2 (fun i => by
          by_cases e : i < m
          · exact m3 i e
          · rw [lA_out (by omega), lA_out (by omega)]))
        have m5 : lA c m ≠ lA d m := by
          rcases m4 with e | e | e
          · have : m < lX d := by omega
            rw [lA_out (show lX c ≤ m by omega)]
            have := lA_in this
            omega
          · have : m < lX c := by omega
            rw [lA_out (show lX d ≤ m by omega)]
            have := lA_in this
            omega
          · exact e
        refine ⟨ne, ?_⟩
        rcases Nat.lt_trichotomy m n with l | l | l
        · exact absurd (n3 m l) m5
        · exact l
        · exact absurd (m3 n l) n4
      have two : plu c d ∨ plu d c → (pI fun z σ1 => Cl mX12_near [vr 94, vi a, vi b] σ1 (pI fun z2 σ2 => z = z2 ∧ rng z ∧ (Inv σ2 ∨ Inv (swp σ2)))) (some (vi 2)) σ := fun p => ⟨_, rfl, start 2 (fun m m1 m2 m3 m4 => ⟨by decide, fun z => absurd z (same m m1 m2 m3 m4).1, fun _ => ⟨fun _ => rfl, fun u v => (p.elim u v).elim⟩⟩)⟩
      refine c_isPlural (fun p => ⟨_, rfl, b1 ⟨_, rfl, two (Or.inr p)⟩⟩) (fun p => ⟨_, rfl, b0 (c_isPlural (fun p2 => ⟨_, rfl, b1' ⟨_, rfl, two (Or.inl p2)⟩⟩) (fun p2 => ⟨_, rfl, b0' (c_isOneByteOff n3 n4 (fun o => ⟨_, rfl, b1' ⟨_, rfl, ⟨_, rfl, start 3 (fun m m1 m2 m3 m4 => ?_)⟩⟩⟩) (fun o => ⟨_, rfl, b0' ⟨_, rfl, ⟨_, rfl, start 0 (fun m m1 m2 m3 m4 => ?_)⟩⟩⟩))⟩))⟩)
      · obtain ⟨s1, s2⟩ := same m m1 m2 m3 m4
        subst s2
        exact ⟨by decide, fun z => absurd z s1, fun _ => ⟨fun z => (z.elim p2 p).elim, fun _ _ => Or.inl ⟨rfl, o⟩⟩⟩
      · obtain ⟨s1, s2⟩ := same m m1 m2 m3 m4
        subst s2
        exact ⟨by decide, fun z => absurd z s1, fun _ => ⟨fun z => (z.elim p2 p).elim, fun _ _ => Or.inr ⟨rfl, o⟩⟩⟩
    · have al := bar_eq.1 q
      have ex : lX c = lX d := by
        by_cases e : lX c < lX d
        · have := lA_in e
          rw [← al, lA_out (Nat.le_refl _)] at this
          omega
        · by_cases e2 : lX d < lX c
          · have := lA_in e2
            rw [al, lA_out (Nat.le_refl _)] at this
            omega
          · omega
      have en : n = lX c := by
        rcases n4 with e | e | e
        · exact e
        · omega
        · exact absurd (al n) e
      exact ⟨by decide, fun _ => rfl, fun z => absurd ⟨ex, en⟩ z⟩
  · exact EX12_near (r_noHead ra (by omega) (fun x1 x2 => ⟨_, rfl, b0 (r_noHead rb (by omega) (fun y1 y2 => ⟨_, rfl, b0 ⟨ra, rb, fun z => absurd ⟨⟨x1, by omega⟩, ⟨y1, by omega⟩, z⟩ q, fun _ => ⟨_, rfl, rfl, by decide, Or.inl hI'⟩⟩⟩) (fun _ => ⟨_, rfl, b1 ⟨_, rfl, rfl, by decide, Or.inl hI'⟩⟩))⟩) (fun _ => ⟨_, rfl, b1 ⟨_, rfl, rfl, by decide, Or.inl hI'⟩⟩))
