/-! ===== PURE HALF, by hand: the class's press ===== -/
def txN (i n : Nat) : List Int := (List.range n).map (fun j : Nat => scI i (j : Int))
theorem txN_s (i n : Nat) : txN i (n + 1) = txN i n ++ [scI i n] := by
  unfold txN
  rw [List.range_succ, List.map_append]
  rfl
theorem txN_len (i n : Nat) : (txN i n).length = n := by
  unfold txN
  simp
def txB (i : Nat) : List Int := txN i (slen.getD i 0)
theorem tx_tab : ∀ i : Nat, i < 4 → (slen.getD i 0 ≤ 11) ∧ ∀ j : Nat, j < slen.getD i 0 → 0 ≤ scI i (j : Int) ∧ scI i (j : Int) < 128 ∧ scI i (j : Int) ≠ 10 := by decide +kernel
theorem tx_0 : txB 0 = [32, 32] := by decide +kernel
theorem tx_1 : txB 1 = [32, 32, 115, 101, 101, 32] := by decide +kernel
theorem tx_2 : txB 2 = [32, 32, 115, 101, 101, 32, 97, 108, 115, 111, 32] := by decide +kernel
theorem tx_3 : txB 3 = [44, 32, 115, 101, 101, 32] := by decide +kernel
theorem c_putText {σ : Sg} {post : Po} {k i : Nat} {L u : List Int} {col w : Int} (hk : shp[k]? = some (0, 8, 7)) (hi : i < 4) (h : SH σ k L col w u) (hU : u.length + 11 ≤ 40) (hp : ∀ σ' : Sg, Fr [k, k + 2] σ σ' → SH σ' k L col w (u ++ txB i) → post none σ') : Cl mX8_putText [vr k, vr (200 + i)] σ post := by
  obtain ⟨t1, t2⟩ := tx_tab i hi
  have es : slI i = ((slen.getD i 0 : Nat) : Int) := rfl
  refine EX8_putText hk (by omega) ?_
  have loop : ∀ (n j : Nat) (τ : Sg), j + n = slen.getD i 0 → Fr [k, k + 2] σ τ → SH τ k L col w (u ++ txN i j) → V mX8_putText 2 [some (vr k), some (vr (200 + i)), some (vi (j : Int))] [] τ post := by
    intro n
    induction n with
    | zero =>
      intro j τ hj hF hS
      have ej : slen.getD i 0 = j := by omega
      refine BX8_putText_2 hk (by omega) ⟨by omega, by omega, fun _ => hp τ hF ?_, fun z => absurd (by omega) z⟩
      unfold txB
      rw [ej]
      exact hS
    | succ n ih =>
      intro j τ hj hF hS
      have b := t2 j (by omega)
      refine BX8_putText_2 hk (by omega) ⟨by omega, by omega, fun z => absurd z (by omega), fun _ => ⟨by omega, c_putByte hk hS (by rw [List.length_append, txN_len]; omega) b.1 b.2.1 (fun σ' hG hY => ⟨rfl, ih (j + 1) σ' (by omega) (hF.tr hG) ?_⟩)⟩⟩
      rw [txN_s, ← List.append_assoc]
      exact hY
  exact loop (slen.getD i 0) 0 σ (by omega) Fr.rf (by simpa [txN] using h)
/-- bytes that may lie in a unit -/
def gu (u : List Int) : Prop := ∀ x ∈ u, 0 ≤ x ∧ x < 128 ∧ x ≠ 10
theorem gu_app {u v : List Int} (hu : gu u) (hv : gu v) : gu (u ++ v) := fun x hx => (List.mem_append.1 hx).elim (hu x) (hv x)
theorem gu_pg {p : Int} (p0 : 1 ≤ p) (p1 : p ≤ 99) : gu (pgB p) := by
  intro x hx
  unfold pgB at hx
  split at hx
  · simp at hx
    omega
  · simp at hx
    omega
theorem gu_run {a b m : Int} (a0 : 1 ≤ a) (ab : a ≤ b) (b1 : b ≤ 99) : gu (runB (a, b, m)) := by
  have e : runB (a, b, m) = (if m = 1 then [42] else []) ++ pgB a ++ (if a < b then 45 :: pgB b else []) := rfl
  rw [e]
  refine gu_app (gu_app ?_ (gu_pg a0 (by omega))) ?_
  · intro x hx
    split at hx
    · simp at hx; omega
    · simp at hx
  · intro x hx
    split at hx
    · rcases List.mem_cons.1 hx with y | y
      · omega
      · exact gu_pg (by omega) b1 x y
    · simp at hx
theorem gu_w {c : Int} (hc : WW c) : gu (wbl c) := by
  intro x hx
  unfold wbl at hx
  rw [List.mem_map] at hx
  obtain ⟨i, hi, rfl⟩ := hx
  have hi2 := List.mem_range.1 hi
  have cl := hc.2.1
  have w := hc.2.2 i (by omega) (by omega)
  have b := cd_b c i
  omega
theorem wbl_len {c : Int} (hc : WW c) : (wbl c).length = (wlen c).toNat := by
  unfold wbl
  simp
theorem runB_len (a b m : Int) : 1 ≤ (runB (a, b, m)).length ∧ (runB (a, b, m)).length ≤ 6 := by
  have e : runB (a, b, m) = (if m = 1 then [42] else []) ++ pgB a ++ (if a < b then 45 :: pgB b else []) := rfl
  have h1 : 1 ≤ (pgB a).length := by
    unfold pgB
    split <;> simp
  have la := pgB_len a
  have lb := pgB_len b
  rw [e, List.length_append, List.length_append]
  split <;> split <;> simp <;> omega
theorem c_endRow {σ : Sg} {post : Po} {k : Nat} {L : List Int} {col w : Int} (hk : shp[k]? = some (0, 8, 7)) (h : SH σ k L col w []) (hL : (L.length : Int) + 60 ≤ 20000) (c0 : 0 ≤ col ∧ col ≤ 20000) (w0 : 0 ≤ w ∧ w ≤ 100) (hp : ∀ σ' : Sg, Fr [k, k + 1] σ σ' → SH σ' k (L ++ [10]) 0 w [] → post none σ') : Cl mX8_endRow [vr k] σ post := by
  refine EX8_endRow hk (c_placeUnit hk h hL (by simp) (fun x hx => by simp at hx) c0 w0 (fun _ => ⟨rfl, c_write hk h (by omega) (by decide) (by decide) (fun σ' hF hS => ⟨rfl, hp σ' hF ?_⟩)⟩) (fun z => absurd rfl z))
  rw [if_pos rfl] at hS
  exact hS
/-- a row of one unit -/
theorem c_endRow1 {σ : Sg} {post : Po} {k : Nat} {L u : List Int} {w : Int} (hk : shp[k]? = some (0, 8, 7)) (h : SH σ k L 0 w u) (hL : (L.length : Int) + 160 ≤ 20000) (hu : u ≠ []) (hU : u.length ≤ 40) (hb : gu u) (w0 : 0 ≤ w ∧ w ≤ 100) (hp : ∀ σ' : Sg, Fr [k, k + 1] σ σ' → SH σ' k (L ++ rowB w u []) 0 w [] → post none σ') : Cl mX8_endRow [vr k] σ post := by
  refine EX8_endRow hk (c_placeUnit hk h (by omega) hU hb (by omega) w0 (fun z => absurd z hu) (fun _ σ1 hF1 => ⟨fun _ hS => ⟨rfl, c_write hk hS (by rw [List.length_append]; omega) (by decide) (by decide) (fun σ' hF hY => ⟨rfl, hp σ' (hF1.tr hF) ?_⟩)⟩, fun z => absurd rfl z, fun z => absurd rfl z⟩))
  rw [if_pos rfl] at hY
  unfold rowB rowT
  rw [← List.append_assoc]
  exact hY
