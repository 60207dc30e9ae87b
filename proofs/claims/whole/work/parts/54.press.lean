/-! ===== PURE HALF, by hand: the class's press ===== -/
def txN (i n : Nat) : List Int := (List.range n).map (fun j : Nat => scI i (j : Int))
theorem txN_s (i n : Nat) : txN i (n + 1) = txN i n ++ [scI i n] := by
  unfold txN
  rw [List.range_succ, List.map_append]
  rfl
theorem txN_len (i n : Nat) : (txN i n).length = n := by
  unfold txN
  simp
def txB (i : Nat) : List Int := txN i (slen.getD i 0)
theorem tx_tab : ∀ i : Nat, i < 4 → (slen.getD i 0 ≤ 11) ∧ ∀ j : Nat, j < slen.getD i 0 → 0 ≤ scI i (j : Int) ∧ scI i (j : Int) < 128 ∧ scI i (j : Int) ≠ 10 := by decide +kernel
theorem tx_0 : txB 0 = [32, 32] := by decide +kernel
theorem tx_1 : txB 1 = [32, 32, 115, 101, 101, 32] := by decide +kernel
theorem tx_2 : txB 2 = [32, 32, 115, 101, 101, 32, 97, 108, 115, 111, 32] := by decide +kernel
theorem tx_3 : txB 3 = [44, 32, 115, 101, 101, 32] := by decide +kernel
theorem c_putText {σ : Sg} {post : Po} {k i : Nat} {L u : List Int} {col w : Int} (hk : shp[k]? = some (0, 8, 7)) (hi : i < 4) (h : SH σ k L col w u) (hU : u.length + 11 ≤ 40) (hp : ∀ σ' : Sg, Fr [k, k + 2] σ σ' → SH σ' k L col w (u ++ txB i) → post none σ') : Cl mX8_putText [vr k, vr (200 + i)] σ post := by
  obtain ⟨t1, t2⟩ := tx_tab i hi
  have es : slI i = ((slen.getD i 0 : Nat) : Int) := rfl
  refine EX8_putText hk (by omega) ?_
  have loop : ∀ (n j : Nat) (τ : Sg), j + n = slen.getD i 0 → Fr [k, k + 2] σ τ → SH τ k L col w (u ++ txN i j) → V mX8_putText 2 [some (vr k), some (vr (200 + i)), some (vi (j : Int))] [] τ post := by
    intro n
    induction n with
    | zero =>
      intro j τ hj hF hS
      have ej : slen.getD i 0 = j := by omega
      refine BX8_putText_2 hk (by omega) ⟨by omega, by omega, fun _ => hp τ hF ?_, fun z => absurd (by omega) z⟩
      unfold txB
      rw [ej]
      exact hS
    | succ n ih =>
      intro j τ hj hF hS
      have b := t2 j (by omega)
      refine BX8_putText_2 hk (by omega) ⟨by omega, by omega, fun z => absurd z (by omega), fun _ => ⟨by omega, c_putByte hk hS (by rw [List.length_append, txN_len]; omega) b.1 b.2.1 (fun σ' hG hY => ⟨rfl, ih (j + 1) σ' (by omega) (hF.tr hG) ?_⟩)⟩⟩
      rw [txN_s, ← List.append_assoc]
      exact hY
  exact loop (slen.getD i 0) 0 σ (by omega) Fr.rf (by simpa [txN] using h)
/-- bytes that may lie in a unit -/
def gu (u : List Int) : Prop := ∀ x ∈ u, 0 ≤ x ∧ x < 128 ∧ x ≠ 10
theorem gu_app {u v : List Int} (hu : gu u) (hv : gu v) : gu (u ++ v) := fun x hx => (List.mem_append.1 hx).elim (hu x) (hv x)
theorem gu_pg {p : Int} (p0 : 1 ≤ p) (p1 : p ≤ 99) : gu (pgB p) := by
  intro x hx
  unfold pgB at hx
  split at hx
  · simp at hx
    omega
  · simp at hx
    omega
theorem gu_run {a b m : Int} (a0 : 1 ≤ a) (ab : a ≤ b) (b1 : b ≤ 99) : gu (runB (a, b, m)) := by
  have e : runB (a, b, m) = (if m = 1 then [42] else []) ++ pgB a ++ (if a < b then 45 :: pgB b else []) := rfl
  rw [e]
  refine gu_app (gu_app ?_ (gu_pg a0 (by omega))) ?_
  · intro x hx
    split at hx
    · simp at hx; omega
    · simp at hx
  · intro x hx
    split at hx
    · rcases List.mem_cons.1 hx with y | y
      · omega
      · exact gu_pg (by omega) b1 x y
    · simp at hx
theorem gu_w {c : Int} (hc : WW c) : gu (wbl c) := by
  intro x hx
  unfold wbl at hx
  rw [List.mem_map] at hx
  obtain ⟨i, hi, rfl⟩ := hx
  have hi2 := List.mem_range.1 hi
  have cl := hc.2.1
  have w := hc.2.2 i (by omega) (by omega)
  have b := cd_b c i
  omega
theorem wbl_len {c : Int} (hc : WW c) : (wbl c).length = (wlen c).toNat := by
  unfold wbl
  simp
theorem runB_len (a b m : Int) : 1 ≤ (runB (a, b, m)).length ∧ (runB (a, b, m)).length ≤ 6 := by
  have e : runB (a, b, m) = (if m = 1 then [42] else []) ++ pgB a ++ (if a < b then 45 :: pgB b else []) := rfl
  have h1 : 1 ≤ (pgB a).length := by
    unfold pgB
    split <;> simp
  have la := pgB_len a
  have lb := pgB_len b
  rw [e, List.length_append, List.length_append]
  split <;> split <;> simp <;> omega
theorem c_endRow {σ : Sg} {post : Po} {k : Nat} {L : List Int} {col w : Int} (hk : shp[k]? = some (0, 8, 7)) (h : SH σ k L col w []) (hL : (L.length : Int) + 60 ≤ 20000) (c0 : 0 ≤ col ∧ col ≤ 20000) (w0 : 0 ≤ w ∧ w ≤ 100) (hp : ∀ σ' : Sg, Fr [k, k + 1] σ σ' → SH σ' k (L ++ [10]) 0 w [] → post none σ') : Cl mX8_endRow [vr k] σ post := by
  refine EX8_endRow hk (c_placeUnit hk h hL (by simp) (fun x hx => by simp at hx) c0 w0 (fun _ => ⟨rfl, c_write hk h (by omega) (by decide) (by decide) (fun σ' hF hS => ⟨rfl, hp σ' hF ?_⟩)⟩) (fun z => absurd rfl z))
  rw [if_pos rfl] at hS
  exact hS
/-- a row of one unit -/
theorem c_endRow1 {σ : Sg} {post : Po} {k : Nat} {L u : List Int} {w : Int} (hk : shp[k]? = some (0, 8, 7)) (h : SH σ k L 0 w u) (hL : (L.length : Int) + 160 ≤ 20000) (hu : u ≠ []) (hU : u.length ≤ 40) (hb : gu u) (w0 : 0 ≤ w ∧ w ≤ 100) (hp : ∀ σ' : Sg, Fr [k, k + 1] σ σ' → SH σ' k (L ++ rowB w u []) 0 w [] → post none σ') : Cl mX8_endRow [vr k] σ post := by
  refine EX8_endRow hk (c_placeUnit hk h (by omega) hU hb (by omega) w0 (fun z => absurd z hu) (fun _ σ1 hF1 => ⟨fun _ hS => ⟨rfl, c_write hk hS (by rw [List.length_append]; omega) (by decide) (by decide) (fun σ' hF hY => ⟨rfl, hp σ' (hF1.tr hF) ?_⟩)⟩, fun z => absurd rfl z, fun z => absurd rfl z⟩))
  rw [if_pos rfl] at hY
  unfold rowB rowT
  rw [← List.append_assoc]
  exact hY
theorem rowT_y {w col : Int} {u : List Int} {us : List (List Int)} (h : col + 2 + u.length ≤ w) : rowT w col (u :: us) = [44, 32] ++ u ++ rowT w (col + 2 + u.length) us := by rw [rowT, if_pos h]
theorem rowT_n {w col : Int} {u : List Int} {us : List (List Int)} (h : ¬ col + 2 + u.length ≤ w) : rowT w col (u :: us) = [44, 10, 32, 32, 32, 32] ++ u ++ rowT w (4 + u.length) us := by rw [rowT, if_neg h]
theorem c_setRuns {σ : Sg} {post : Po} {k : Nat} {L u : List Int} {w h s : Int} (hk : shp[k]? = some (0, 8, 7)) (hkk : 63 < k) (hW : WfB (bk σ 5)) (hS : SH σ k L 0 w u) (hL : (L.length : Int) + 1300 ≤ 20000) (hu : u ≠ []) (hU : u.length ≤ 40) (hb : gu u) (w0 : 0 ≤ w ∧ w ≤ 80) (rh : rng h) (rs : rng s) (hp : ∀ σ' : Sg, Fr [k, k + 1, k + 2, 60, 61, 62, 63] σ σ' → SH σ' k (L ++ rowB w u ((rL (bk σ 5) h s).map runB)) 0 w [] → post none σ') : Cl mX4_setRuns [vr 53, vr k, vr 5, vi h, vi s] σ post := by
  have hk5 : shp[5]? = some (0, 0, 14) := rfl
  refine EX4_setRuns hk hk5 (c_placeUnit hk hS (by omega) hU hb (by omega) (by omega) (fun z => absurd z hu) (fun _ σ1 hF1 => ⟨fun _ h1 => ⟨rfl, ?_⟩, fun z => absurd rfl z, fun z => absurd rfl z⟩))
  have b5 : bk σ1 5 = bk σ 5 := bkf (fun a x y => hF1 a (by simp; omega))
  refine c_gather hk5 (r := 60) rfl (by decide) (by rw [b5]; exact hW) rh rs (fun σ2 hF2 hn hr hE => ⟨rfl, ?_⟩)
  rw [b5] at hE
  have h2 : SH σ2 k (L ++ u) u.length w [] := h1.fr hF2 (by simp; omega) (by simp; omega) (by simp; omega)
  have hF12 : Fr [k, k + 1, k + 2, 60, 61, 62, 63] σ σ2 := (hF1.mo (by intro a ha; simp at ha ⊢; omega)).tr (hF2.mo (by intro a ha; simp at ha ⊢; omega))
  have ul : 0 < u.length := List.length_pos_iff.2 hu
  have loop : ∀ (n : Nat) (j : Int) (τ : Sg) (K : List Int) (col : Int), 0 ≤ j → j + n = σ2 60 0 → Fr [k, k + 1, k + 2] σ2 τ → SH τ k K col w [] → 0 < col → col ≤ 100 → (K.length : Int) + 12 * n + 160 ≤ 20000 → K ++ rowT w col ((arl (σ2 61) (σ2 62) (σ2 63) j n).map runB) = L ++ rowB w u ((rL (bk σ 5) h s).map runB) → V mX4_setRuns 18 [some (vr 53), some (vr k), none, none, none, some (vi j)] [] τ post := by
    intro n
    induction n with
    | zero =>
      intro j τ K col j0 hj hG hT c0 c1 hK he
      have e60 : τ 60 = σ2 60 := hG 60 (by simp; omega)
      refine BX4_setRuns_18 hk ⟨by omega, by rw [e60]; omega, fun _ => c_endRow hk hT (by omega) (by omega) (by omega) (fun σ' hX hY => ⟨rfl, hp σ' (hF12.tr ((hG.mo (by intro a ha; simp at ha ⊢; omega)).tr (hX.mo (by intro a ha; simp at ha ⊢; omega)))) ?_⟩), fun z => absurd (by rw [e60]; omega) z⟩
      rw [arl, List.map_nil, rowT] at he
      rw [← he]
      exact hY
    | succ n ih =>
      intro j τ K col j0 hj hG hT c0 c1 hK he
      have e60 : τ 60 = σ2 60 := hG 60 (by simp; omega)
      have e61 : τ 61 = σ2 61 := hG 61 (by simp; omega)
      have e62 : τ 62 = σ2 62 := hG 62 (by simp; omega)
      have e63 : τ 63 = σ2 63 := hG 63 (by simp; omega)
      obtain ⟨r1, r2⟩ := hr j j0 (by omega)
      have r1' : 1 ≤ σ2 61 j ∧ σ2 61 j ≤ σ2 62 j ∧ σ2 62 j ≤ 99 := r1
      have r2' : σ2 63 j = 0 ∨ σ2 63 j = 1 := r2
      have rl := runB_len (σ2 61 j) (σ2 62 j) (σ2 63 j)
      rw [arl, List.map_cons] at he
      refine BX4_setRuns_18 hk ⟨by omega, by rw [e60]; omega, fun z => absurd z (by rw [e60]; omega), fun _ => ⟨by omega, ?_⟩⟩
      rw [e61, e62, e63]
      refine c_putRun hk hT (by simp) r1'.1 r1'.2.1 r1'.2.2 r2' (fun σ3 hF3 h3 => ⟨rfl, ?_⟩)
      rw [List.nil_append] at h3
      have hG3 : Fr [k, k + 1, k + 2] σ2 σ3 := hG.tr (hF3.mo (by intro a ha; simp at ha ⊢; omega))
      refine c_placeUnit hk h3 (by omega) (by omega) (gu_run r1'.1 r1'.2.1 r1'.2.2) (by omega) (by omega) (fun z => by rw [z] at rl; simp at rl) (fun _ σ4 hF4 => ⟨fun z => absurd z (by omega), fun _ hfit h4 => ⟨rfl, ?_⟩, fun _ hfit h4 => ⟨rfl, ?_⟩⟩)
      · rw [rowT_y hfit] at he
        refine ih (j + 1) σ4 _ _ (by omega) (by omega) (hG3.tr (hF4.mo (by intro a ha; simp at ha ⊢; omega))) h4 (by omega) (by omega) (by rw [List.length_append, List.length_append]; simp; omega) ?_
        rw [← he]
        simp
      · rw [rowT_n hfit] at he
        refine ih (j + 1) σ4 _ _ (by omega) (by omega) (hG3.tr (hF4.mo (by intro a ha; simp at ha ⊢; omega))) h4 (by omega) (by omega) (by rw [List.length_append, List.length_append]; simp; omega) ?_
        rw [← he]
        simp
  refine loop (σ2 60 0).toNat 0 σ2 (L ++ u) u.length (by omega) (by omega) Fr.rf h2 (by omega) (by omega) (by rw [List.length_append]; omega) ?_
  rw [hE]
  unfold rowB
  rw [List.append_assoc]
theorem gu_tx {i : Nat} (hi : i < 4) : gu (txB i) := by
  intro x hx
  unfold txB txN at hx
  rw [List.mem_map] at hx
  obtain ⟨j, hj, rfl⟩ := hx
  exact (tx_tab i hi).2 j (List.mem_range.1 hj)
theorem tx_len {i : Nat} (hi : i < 4) : (txB i).length ≤ 11 := by
  unfold txB
  rw [txN_len]
  exact (tx_tab i hi).1
theorem c_setSee {σ : Sg} {post : Po} {k i : Nat} {L u : List Int} {w g : Int} (hk : shp[k]? = some (0, 8, 7)) (hkk : 63 < k) (hi : i < 4) (hW : WfB (bk σ 5)) (hS : SH σ k L 0 w u) (hL : (L.length : Int) + 200 ≤ 20000) (hU : u.length ≤ 12) (hb : gu u) (w0 : 0 ≤ w ∧ w ≤ 80) (g0 : -1 ≤ g) (g1 : g < σ 5 0) (h0 : g = -1 → post none σ) (hp : ¬ g = -1 → ∀ σ' : Sg, Fr [k, k + 1, k + 2] σ σ' → SH σ' k (L ++ rowB w (u ++ txB i ++ wbl (σ 6 g)) []) 0 w [] → post none σ') : Cl mX4_setSee [vr 53, vr k, vr 5, vr (200 + i), vi g] σ post := by
  have hk5 : shp[5]? = some (0, 0, 14) := rfl
  have wh := Wb_heads hW
  have tl := tx_len hi
  refine EX4_setSee hk hk5 (by omega) ⟨by omega, h0, fun z => c_putText hk hi hS (by omega) (fun σ1 hF1 h1 => ⟨rfl, by omega, ?_⟩)⟩
  have ww : WW (σ 6 g) := Wb_wh hW (i := g) (by omega) g1
  have wl := wbl_len ww
  have cl := ww.2.1
  have e6 : σ1 (5 + 1) g = σ 6 g := by rw [hF1 (5 + 1) (by simp; omega)]
  rw [e6]
  refine c_putWord hk h1 ww (by rw [List.length_append]; omega) (fun σ2 hF2 h2 => ⟨rfl, ?_⟩)
  refine c_endRow1 hk h2 (by omega) (fun z => ?_) (by rw [List.length_append, List.length_append]; omega) (gu_app (gu_app hb (gu_tx hi)) (gu_w ww)) (by omega) (fun σ3 hF3 h3 => ⟨rfl, hp z σ3 ((hF1.mo (by intro a ha; simp at ha ⊢; omega)).tr ((hF2.mo (by intro a ha; simp at ha ⊢; omega)).tr (hF3.mo (by intro a ha; simp at ha ⊢; omega)))) h3⟩)
  have := congrArg List.length z
  rw [List.length_append, List.length_append, List.length_nil] at this
  omega
/-- the heads of a set from place j on -/
def alR (B : Sg) (how set : Int) : Int → Nat → List Int
  | _, 0 => []
  | j, n + 1 => (if has set (ord (hkey B how) (B 0 0).toNat j) = true then [ord (hkey B how) (B 0 0).toNat j] else []) ++ alR B how set (j + 1) n
theorem alR_L (B : Sg) (how set : Int) : ∀ (n m : Nat), alsL B how set m ++ alR B how set m n = alsL B how set (m + n)
  | 0, m => by rw [alR, List.append_nil]; rfl
  | n + 1, m => by
    have := alR_L B how set n (m + 1)
    rw [show m + (n + 1) = m + 1 + n by omega, ← this, alR, alsL, List.append_assoc]
    rfl
theorem alR_0 (B : Sg) (how set : Int) (n : Nat) : alR B how set 0 n = alsL B how set n := by
  have := alR_L B how set n 0
  rw [Nat.zero_add, alsL, List.nil_append] at this
  exact this
