/-! ===== PURE HALF, by hand: the class's sheet ===== -/
theorem gd_l {L M : List Int} {i : Nat} (h : i < L.length) : (L ++ M).getD i 0 = L.getD i 0 := by
  rw [List.getD_eq_getElem?_getD, List.getD_eq_getElem?_getD, List.getElem?_append_left h]
theorem gd_r {L M : List Int} {i : Nat} (h : L.length ≤ i) : (L ++ M).getD i 0 = M.getD (i - L.length) 0 := by
  rw [List.getD_eq_getElem?_getD, List.getD_eq_getElem?_getD, List.getElem?_append_right h]
theorem tens_app : ∀ L M : List Int, tens (L ++ M) = tens L + tens M
  | [], M => by rw [List.nil_append, tens]; omega
  | b :: L, M => by rw [List.cons_append, tens, tens, tens_app L M]; omega
/-- a sheet: what is written, the column, the width, the unit -/
def SH (σ : Sg) (k : Nat) (L : List Int) (col w : Int) (u : List Int) : Prop :=
  σ k 1 = L.length ∧ σ k 2 = tens L ∧ σ k 3 = col ∧ σ k 4 = w ∧ σ k 6 = u.length ∧ lies (σ (k + 2)) u ∧ ∀ i : Nat, i < L.length → i < outN k → σ (k + 1) i = L.getD i 0
theorem iByte7 {x : Int} (x0 : 0 ≤ x) (x1 : x < 128) : iByte x = x := by
  rw [iByte_e, if_pos (by omega)]; omega
theorem outN_b (k : Nat) : (outN k : Int) ≤ 20000 := by
  unfold outN
  split <;> decide
theorem c_write {σ : Sg} {post : Po} {k : Nat} {L u : List Int} {col w x : Int} (hk : shp[k]? = some (0, 8, 7)) (h : SH σ k L col w u) (hL : (L.length : Int) ≤ 20000) (x0 : 0 ≤ x) (x1 : x < 128) (hp : ∀ σ' : Sg, Fr [k, k + 1] σ σ' → SH σ' k (L ++ [x]) (if x = 10 then 0 else col + 1) w u → post none σ') : Cl mX8_write [vr k, vi x] σ post := by
  obtain ⟨h1, h2, h3, h4, h6, hu, ho⟩ := h
  have ob := outN_b k
  have eb : iByte (iByte x) = x := by rw [iByte7 x0 x1, iByte7 x0 x1]
  have tx : tens (L ++ [x]) = tens L + (if x = 10 then 1 else 0) := by rw [tens_app, tens, tens]; omega
  have ll : ((L ++ [x]).length : Int) = L.length + 1 := by rw [List.length_append]; rfl
  refine EX8_write hk ⟨by omega, by omega, fun z => ⟨by omega, fun y => ?_, fun y => ?_⟩, fun z => ⟨by omega, by omega, fun y => ?_, fun y => ?_⟩⟩
  · rw [if_neg y] at tx hp
    refine hp _ ((Fr.rf.u (by simp)).u (by simp)) ⟨?_, ?_, ?_, ?_, ?_, ?_, fun i i0 i1 => ?_⟩
    · rw [up_f (by decide), up_s, ll]; omega
    · rw [up_f (by decide), up_f (by decide), tx]; omega
    · rw [up_s, h3]
    · rw [up_f (by decide), up_f (by decide)]; exact h4
    · rw [up_f (by decide), up_f (by decide)]; exact h6
    · rw [up_r (by omega), up_r (by omega)]; exact hu
    · rw [up_r (by omega), up_r (by omega), gd_l (by omega)]; exact ho i (by omega) i1
  · rw [if_pos y] at tx hp
    refine hp _ ((((Fr.rf.u (by simp)).u (by simp)).u (by simp)).u (by simp)) ⟨?_, ?_, ?_, ?_, ?_, ?_, fun i i0 i1 => ?_⟩
    · rw [up_f (by decide), up_f (by decide), up_f (by decide), up_s, ll]; omega
    · rw [up_f (by decide), up_s, tx]; omega
    · rw [up_s]
    · rw [up_f (by decide), up_f (by decide), up_f (by decide), up_f (by decide)]; exact h4
    · rw [up_f (by decide), up_f (by decide), up_f (by decide), up_f (by decide)]; exact h6
    · rw [up_r (by omega), up_r (by omega), up_r (by omega), up_r (by omega)]; exact hu
    · rw [up_r (by omega), up_r (by omega), up_r (by omega), up_r (by omega), gd_l (by omega)]; exact ho i (by omega) i1
  · rw [if_neg y] at tx hp
    rw [eb]
    refine hp _ (((Fr.rf.u (by simp)).u (by simp)).u (by simp)) ⟨?_, ?_, ?_, ?_, ?_, ?_, fun i i0 i1 => ?_⟩
    · rw [up_f (by decide), up_s, ll]; omega
    · rw [up_f (by decide), up_f (by decide), up_o (by omega), tx]; omega
    · rw [up_s, h3]
    · rw [up_f (by decide), up_f (by decide), up_o (by omega)]; exact h4
    · rw [up_f (by decide), up_f (by decide), up_o (by omega)]; exact h6
    · rw [up_r (by omega), up_r (by omega), up_r (by omega)]; exact hu
    · rw [up_r (by omega), up_r (by omega)]
      by_cases c : i < L.length
      · rw [up_f (by omega), gd_l c]; exact ho i c i1
      · have e : i = L.length := by omega
        rw [e, gd_r (Nat.le_refl _), Nat.sub_self, h1, up_s]; rfl
  · rw [if_pos y] at tx hp
    rw [eb]
    refine hp _ (((((Fr.rf.u (by simp)).u (by simp)).u (by simp)).u (by simp)).u (by simp)) ⟨?_, ?_, ?_, ?_, ?_, ?_, fun i i0 i1 => ?_⟩
    · rw [up_f (by decide), up_f (by decide), up_f (by decide), up_s, ll]; omega
    · rw [up_f (by decide), up_s, tx]; omega
    · rw [up_s]
    · rw [up_f (by decide), up_f (by decide), up_f (by decide), up_f (by decide), up_o (by omega)]; exact h4
    · rw [up_f (by decide), up_f (by decide), up_f (by decide), up_f (by decide), up_o (by omega)]; exact h6
    · rw [up_r (by omega), up_r (by omega), up_r (by omega), up_r (by omega), up_r (by omega)]; exact hu
    · rw [up_r (by omega), up_r (by omega), up_r (by omega), up_r (by omega)]
      by_cases c : i < L.length
      · rw [up_f (by omega), gd_l c]; exact ho i c i1
      · have e : i = L.length := by omega
        rw [e, gd_r (Nat.le_refl _), Nat.sub_self, h1, up_s]; rfl
theorem c_putByte {σ : Sg} {post : Po} {k : Nat} {L u : List Int} {col w x : Int} (hk : shp[k]? = some (0, 8, 7)) (h : SH σ k L col w u) (hU : u.length < 40) (x0 : 0 ≤ x) (x1 : x < 128) (hp : ∀ σ' : Sg, Fr [k, k + 2] σ σ' → SH σ' k L col w (u ++ [x]) → post none σ') : Cl mX8_putByte [vr k, vi x] σ post := by
  obtain ⟨h1, h2, h3, h4, h6, hu, ho⟩ := h
  have eb : iByte (iByte x) = x := by rw [iByte7 x0 x1, iByte7 x0 x1]
  have ll : ((u ++ [x]).length : Int) = u.length + 1 := by rw [List.length_append]; rfl
  refine EX8_putByte hk ⟨by omega, fun z => absurd z (by omega), fun _ => ⟨by omega, ?_⟩⟩
  rw [eb]
  refine hp _ ((Fr.rf.u (by simp)).u (by simp)) ⟨?_, ?_, ?_, ?_, ?_, fun i i0 => ?_, fun i i0 i1 => ?_⟩
  · rw [up_f (by decide), up_o (by omega)]; exact h1
  · rw [up_f (by decide), up_o (by omega)]; exact h2
  · rw [up_f (by decide), up_o (by omega)]; exact h3
  · rw [up_f (by decide), up_o (by omega)]; exact h4
  · rw [up_s, ll]; omega
  · rw [up_r (by omega)]
    by_cases c : i < u.length
    · rw [up_f (by omega), gd_l c]; exact hu i c
    · have e : i = u.length := by rw [List.length_append] at i0; simp at i0; omega
      rw [e, gd_r (Nat.le_refl _), Nat.sub_self, h6, up_s]; rfl
  · rw [up_r (by omega), up_r (by omega)]; exact ho i i0 i1
/-! units -/
theorem SH.fr {σ σ' : Sg} {k : Nat} {L u : List Int} {col w : Int} {M : List Nat} (h : SH σ k L col w u) (hF : Fr M σ σ') (h0 : k ∉ M) (h1 : k + 1 ∉ M) (h2 : k + 2 ∉ M) : SH σ' k L col w u := by
  unfold SH
  rw [hF k h0, hF _ h1, hF _ h2]
  exact h
theorem c_putPage {σ : Sg} {post : Po} {k : Nat} {L u : List Int} {col w p : Int} (hk : shp[k]? = some (0, 8, 7)) (h : SH σ k L col w u) (hU : u.length + 2 ≤ 40) (p0 : 1 ≤ p) (p1 : p ≤ 99) (hp : ∀ σ' : Sg, Fr [k, k + 2] σ σ' → SH σ' k L col w (u ++ pgB p) → post none σ') : Cl mX8_putPage [vr k, vi p] σ post := by
  have e : iDiv p 10 = p / 10 := iDiv_e (by omega) (by omega) (by decide) (by decide)
  have e2 : 48 + (p - p / 10 * 10) = 48 + p % 10 := by omega
  refine EX8_putPage hk ⟨by omega, fun z => ?_, fun z => ?_⟩
  · rw [e, e2]
    refine c_putByte hk h (by omega) (by omega) (by omega) (fun σ1 hF h1 => ⟨rfl, hp σ1 hF ?_⟩)
    unfold pgB
    rw [if_neg (by omega)]
    exact h1
  · rw [e, e2]
    refine c_putByte hk h (by omega) (by omega) (by omega) (fun σ1 hF h1 => ⟨rfl, c_putByte hk h1 (by rw [List.length_append]; simp; omega) (by omega) (by omega) (fun σ2 hF2 h2 => ⟨rfl, hp σ2 (hF.tr hF2) ?_⟩)⟩)
    unfold pgB
    rw [if_pos (by omega)]
    rw [List.append_assoc] at h2
    exact h2
theorem pgB_len (p : Int) : (pgB p).length ≤ 2 := by
  unfold pgB
  split <;> simp
theorem c_putRun {σ : Sg} {post : Po} {k : Nat} {L u : List Int} {col w a b m : Int} (hk : shp[k]? = some (0, 8, 7)) (h : SH σ k L col w u) (hU : u.length + 6 ≤ 40) (a0 : 1 ≤ a) (ab : a ≤ b) (b1 : b ≤ 99) (hm : m = 0 ∨ m = 1) (hp : ∀ σ' : Sg, Fr [k, k + 2] σ σ' → SH σ' k L col w (u ++ runB (a, b, m)) → post none σ') : Cl mX8_putRun [vr k, vi a, vi b, vi m] σ post := by
  have la := pgB_len a
  have main : ∀ (τ : Sg) (v : List Int), Fr [k, k + 2] σ τ → SH τ k L col w v → v.length + 5 ≤ 40 → v ++ (pgB a ++ (if a < b then 45 :: pgB b else [])) = u ++ runB (a, b, m) → Cl mX8_putPage [vr k, vi a] τ (pV fun σ1 => (rng b) ∧ ((rng a) ∧ ((b ≤ a → post none σ1) ∧ (¬ b ≤ a → Cl mX8_putByte [vr k, vi 45] σ1 (pV fun σ2 => Cl mX8_putPage [vr k, vi b] σ2 (pV fun σ3 => post none σ3)))))) := by
    intro τ v hG hv hl he
    refine c_putPage hk hv (by omega) a0 (by omega) (fun σ1 hF1 h1 => ⟨rfl, by omega, by omega, fun z => ?_, fun z => ?_⟩)
    · rw [if_neg (by omega), List.append_nil] at he
      rw [he] at h1
      exact hp σ1 (hG.tr hF1) h1
    · rw [if_pos (by omega)] at he
      refine c_putByte hk h1 (by rw [List.length_append]; omega) (by decide) (by decide) (fun σ2 hF2 h2 => ⟨rfl, c_putPage hk h2 (by rw [List.length_append, List.length_append]; simp; omega) (by omega) b1 (fun σ3 hF3 h3 => ⟨rfl, hp σ3 (hG.tr (hF1.tr (hF2.tr hF3))) ?_⟩)⟩)
      rw [← he]
      simpa using h3
  refine EX8_putRun hk ⟨by omega, fun z => main σ u Fr.rf h (by omega) ?_, fun z => c_putByte hk h (by omega) (by decide) (by decide) (fun σ1 hF h1 => ⟨rfl, main σ1 (u ++ [42]) hF h1 (by rw [List.length_append]; simp; omega) ?_⟩)⟩
  · show _ = u ++ ((if m = 1 then [42] else []) ++ pgB a ++ (if a < b then 45 :: pgB b else []))
    rw [if_neg (show ¬ m = 1 by omega)]
    simp
  · show _ = u ++ ((if m = 1 then [42] else []) ++ pgB a ++ (if a < b then 45 :: pgB b else []))
    rw [if_pos (show m = 1 by omega)]
    simp
/-- the first n bytes of a word -/
def wbN (c : Int) (n : Nat) : List Int := (List.range n).map (fun i : Nat => cd c (i : Int) + 94)
theorem wbN_s (c : Int) (n : Nat) : wbN c (n + 1) = wbN c n ++ [cd c n + 94] := by
  unfold wbN
  rw [List.range_succ, List.map_append]
  rfl
theorem wbN_len (c : Int) (n : Nat) : (wbN c n).length = n := by
  unfold wbN
  simp
theorem c_putWord {σ : Sg} {post : Po} {k : Nat} {L u : List Int} {col w c : Int} (hk : shp[k]? = some (0, 8, 7)) (h : SH σ k L col w u) (hc : WW c) (hU : u.length + 12 ≤ 40) (hp : ∀ σ' : Sg, Fr [k, k + 2] σ σ' → SH σ' k L col w (u ++ wbl c) → post none σ') : Cl mX8_putWord [vr k, vl c] σ post := by
  have cl := hc.2.1
  refine EX8_putWord hk (hc.len ⟨_, rfl, ?_⟩)
  have loop : ∀ (n j : Nat) (τ : Sg), (j : Int) + n = wlen c → Fr [k, k + 2] σ τ → SH τ k L col w (u ++ wbN c j) → V mX8_putWord 8 [some (vr k), some (vl c), none, some (vi (wlen c)), some (vi (j : Int))] [] τ post := by
    intro n
    induction n with
    | zero =>
      intro j τ hj hF hS
      refine BX8_putWord_8 hk ⟨by omega, by omega, fun _ => hp τ hF ?_, fun z => absurd (by omega) z⟩
      have e : wbl c = wbN c j := by
        unfold wbl wbN
        rw [show (wlen c).toNat = j by omega]
      rw [e]
      exact hS
    | succ n ih =>
      intro j τ hj hF hS
      have w1 := hc.2.2 j (by omega) (by omega)
      have cb := cd_b c j
      refine BX8_putWord_8 hk ⟨by omega, by omega, fun z => absurd z (by omega), fun _ => c_byteOf hc.1.1 hc.1.2 (by omega) (fun _ _ _ => ⟨_, rfl, c_putByte hk hS (by rw [List.length_append, wbN_len]; omega) (by omega) (by omega) (fun σ' hG hS2 => ⟨rfl, ih (j + 1) σ' (by omega) (hF.tr hG) ?_⟩)⟩) (fun q => absurd ⟨by omega, by omega, w1.1.1 (by omega)⟩ q)⟩
      rw [wbN_s, ← List.append_assoc]
      exact hS2
  exact loop (wlen c).toNat 0 σ (by omega) Fr.rf (by simpa [wbN] using h)
theorem c_placeUnit {σ : Sg} {post : Po} {k : Nat} {L u : List Int} {col w : Int} (hk : shp[k]? = some (0, 8, 7)) (h : SH σ k L col w u) (hL : (L.length : Int) + 60 ≤ 20000) (hU : u.length ≤ 40) (hb : ∀ x ∈ u, 0 ≤ x ∧ x < 128 ∧ x ≠ 10) (c0 : 0 ≤ col ∧ col ≤ 20000) (w0 : 0 ≤ w ∧ w ≤ 100) (h0 : u = [] → post none σ) (hp : u ≠ [] → ∀ σ' : Sg, Fr [k, k + 1] σ σ' → (col = 0 → SH σ' k (L ++ u) u.length w [] → post none σ') ∧ (¬ col = 0 → col + 2 + u.length ≤ w → SH σ' k (L ++ ([44, 32] ++ u)) (col + 2 + u.length) w [] → post none σ') ∧ (¬ col = 0 → ¬ col + 2 + u.length ≤ w → SH σ' k (L ++ ([44, 10, 32, 32, 32, 32] ++ u)) (4 + u.length) w [] → post none σ')) : Cl mX8_placeUnit [vr k] σ post := by
  have h6 := h.2.2.2.2.1
  have h3 := h.2.2.1
  have tail : ∀ (K : List Int) (d : Int) (τ : Sg), Fr [k, k + 1] σ τ → SH τ k K d w u → (K.length : Int) + 50 ≤ 20000 → (∀ σ' : Sg, Fr [k, k + 1] σ σ' → SH σ' k (K ++ u) (d + u.length) w [] → post none σ') → V mX8_placeUnit 75 [some (vr k), some (vi 0)] [] τ post := by
    intro K d τ hF hS hK hq
    have loop : ∀ (n j : Nat) (υ : Sg), j + n = u.length → Fr [k, k + 1] σ υ → SH υ k (K ++ u.take j) (d + j) w u → V mX8_placeUnit 75 [some (vr k), some (vi (j : Int))] [] υ post := by
      intro n
      induction n with
      | zero =>
        intro j υ hj hG hT
        have e6 := hT.2.2.2.2.1
        have ej : j = u.length := by omega
        subst ej
        rw [List.take_length] at hT
        refine BX8_placeUnit_75 hk ⟨by omega, by omega, fun _ => hq _ (hG.u (by simp)) ?_, fun z => absurd (by omega) z⟩
        obtain ⟨t1, t2, t3, t4, t5, t6, t7⟩ := hT
        refine ⟨by rw [up_f (by decide)]; exact t1, by rw [up_f (by decide)]; exact t2, by rw [up_f (by decide)]; exact t3, by rw [up_f (by decide)]; exact t4, by rw [up_s]; rfl, fun i hi => by simp at hi, fun i i0 i1 => by rw [up_r (by omega)]; exact t7 i i0 i1⟩
      | succ n ih =>
        intro j υ hj hG hT
        have e6 := hT.2.2.2.2.1
        have el : υ (k + 2) (j : Int) = u.getD j 0 := hT.2.2.2.2.2.1 j (by omega)
        have eg : u.getD j 0 = u[j]'(by omega) := by
          rw [List.getD_eq_getElem?_getD, List.getElem?_eq_getElem (by omega)]; rfl
        have em := hb (u[j]'(by omega)) (List.getElem_mem _)
        refine BX8_placeUnit_75 hk ⟨by omega, by omega, fun z => absurd z (by omega), fun _ => ⟨by omega, ?_⟩⟩
        rw [el, eg]
        refine c_write hk hT (by rw [List.length_append, List.length_take]; omega) em.1 em.2.1 (fun σ' hX hY => ⟨rfl, ih (j + 1) σ' (by omega) (hG.tr hX) ?_⟩)
        rw [if_neg em.2.2] at hY
        rw [List.take_succ_eq_append_getElem (by omega), ← List.append_assoc, show d + ((j + 1 : Nat) : Int) = d + j + 1 by omega]
        exact hY
    exact loop u.length 0 τ (by omega) hF (by simpa using hS)
  refine EX8_placeUnit hk ⟨by omega, fun z => ⟨by omega, fun y => ?_, fun y => ?_⟩, fun z => h0 (List.eq_nil_of_length_eq_zero (by omega))⟩
  · have hne : u ≠ [] := fun e => z (by rw [h6, e]; rfl)
    have c00 : col = 0 := by omega
    refine tail L col σ Fr.rf h (by omega) (fun σ' hF hS => (hp hne σ' hF).1 c00 ?_)
    rw [c00, Int.zero_add] at hS
    exact hS
  · have hne : u ≠ [] := fun e => z (by rw [h6, e]; rfl)
    have cne : ¬ col = 0 := by omega
    refine c_write hk h (by omega) (by decide) (by decide) (fun σ1 hF1 h1 => ⟨rfl, ?_⟩)
    rw [if_neg (by decide)] at h1
    have q3 := h1.2.2.1
    have q4 := h1.2.2.2.1
    have q6 := h1.2.2.2.2.1
    refine ⟨by rw [q3, q6]; omega, by rw [q4]; omega, fun y2 => ?_, fun y2 => ?_⟩
    · rw [q3, q4, q6] at y2
      refine c_write hk h1 (by rw [List.length_append]; simp; omega) (by decide) (by decide) (fun σ2 hF2 h2 => ⟨rfl, ?_⟩)
      rw [if_pos rfl] at h2
      have sp : ∀ (n j : Nat) (υ : Sg), j + n = 4 → Fr [k, k + 1] σ υ → SH υ k (L ++ [44] ++ [10] ++ List.replicate j 32) j w u → V mX8_placeUnit 56 [some (vr k), some (vi (j : Int))] [] υ post := by
        intro n
        induction n with
        | zero =>
          intro j υ hj hG hT
          have ej : j = 4 := by omega
          subst ej
          refine BX8_placeUnit_56 hk ⟨by decide, fun _ => tail _ _ υ hG hT (by simp; omega) (fun σ' hX hY => (hp hne σ' hX).2.2 cne (by omega) ?_), fun y => absurd (by decide) y⟩
          have e : L ++ [44] ++ [10] ++ List.replicate 4 32 ++ u = L ++ ([44, 10, 32, 32, 32, 32] ++ u) := by
            simp [List.replicate]
          rw [e] at hY
          exact hY
        | succ n ih =>
          intro j υ hj hG hT
          refine BX8_placeUnit_56 hk ⟨by omega, fun y => absurd y (by omega), fun _ => c_write hk hT (by simp; omega) (by decide) (by decide) (fun σ' hX hY => ⟨rfl, ih (j + 1) σ' (by omega) (hG.tr hX) ?_⟩)⟩
          rw [if_neg (by decide)] at hY
          rw [List.replicate_succ', ← List.append_assoc]
          exact hY
      exact sp 4 0 σ2 (by omega) (hF1.tr hF2) (by simpa using h2)
    · rw [q3, q4, q6] at y2
      refine c_write hk h1 (by rw [List.length_append]; simp; omega) (by decide) (by decide) (fun σ2 hF2 h2 => ⟨rfl, ?_⟩)
      rw [if_neg (by decide)] at h2
      refine tail _ _ σ2 (hF1.tr hF2) h2 (by simp; omega) (fun σ' hX hY => (hp hne σ' hX).2.1 cne (by omega) ?_)
      have e : L ++ [44] ++ [32] ++ u = L ++ ([44, 32] ++ u) := by simp
      rw [e, show col + 1 + 1 + (u.length : Int) = col + 2 + u.length by omega] at hY
      exact hY
