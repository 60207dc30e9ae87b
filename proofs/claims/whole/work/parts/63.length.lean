/-! ===== PURE HALF, by hand: how long a print is ===== -/
theorem cnt_up (p : Int → Bool) {m : Nat} : ∀ n : Nat, m ≤ n → cnt p m ≤ cnt p n
  | 0, h => by rw [show m = 0 by omega]; exact Int.le_refl _
  | n + 1, h => by
    by_cases e : m = n + 1
    · rw [e]; exact Int.le_refl _
    · have := cnt_up p (m := m) n (by omega)
      rw [cnt_s]
      split <;> omega
theorem cnt_ins {p q : Int → Bool} {a : Int} : ∀ n : Nat, (∀ i : Nat, i < n → p i = true → q i = true ∨ (i : Int) = a) → cnt p n ≤ cnt q n + (if 0 ≤ a ∧ a < n then 1 else 0)
  | 0, _ => by rw [cnt, cnt, if_neg (by omega)]; decide
  | n + 1, h => by
    have ih := cnt_ins (p := p) (q := q) (a := a) n (fun i hi => h i (by omega))
    have hn := h n (by omega)
    rw [cnt_s, cnt_s]
    by_cases c : p n = true
    · rw [if_pos c]
      rcases hn c with d | d
      · rw [if_pos d]
        by_cases e : 0 ≤ a ∧ a < n
        · rw [if_pos e] at ih
          rw [if_pos (by omega)]; omega
        · rw [if_neg e] at ih
          split <;> omega
      · rw [if_neg (by omega)] at ih
        rw [if_pos (show 0 ≤ a ∧ a < ((n + 1 : Nat) : Int) by omega)]
        split <;> omega
    · rw [if_neg c]
      by_cases e : 0 ≤ a ∧ a < n
      · rw [if_pos e] at ih
        rw [if_pos (show 0 ≤ a ∧ a < ((n + 1 : Nat) : Int) by omega)]
        split <;> omega
      · rw [if_neg e] at ih
        split <;> split <;> omega
def stT (T : Int → Int) : Int → Bool := fun i => decide (T i ≠ 0 ∧ T (i - 1) = 0)
theorem Rep_st {T : Int → Int} : ∀ (R : List (Int × Int × Int)) (p : Nat), (T ((p : Int) - 1) = 0 ∨ T p = 0) → p ≤ 100 → Rep T p R → (R.length : Int) + cnt (stT T) p ≤ cnt (stT T) 100
  | [], p, _, hp, _ => by
    have := cnt_up (stT T) 100 hp
    rw [List.length_nil]
    omega
  | (a, b, m) :: R, p, h0, hp, hR => by
    obtain ⟨y1, y2, y3, y4, y5, y6⟩ := hR
    have ta : T (a - 1) = 0 := by
      by_cases e : a = p
      · rcases h0 with z | z
        · rw [e]; exact z
        · exact absurd z (by rw [← e]; exact y3 a (by omega) (by omega))
      · exact y2 (a - 1) (by omega) (by omega)
    have sa : stT T ((a.toNat : Nat) : Int) = true := by
      rw [show ((a.toNat : Nat) : Int) = a by omega]
      unfold stT
      rw [decide_eq_true_iff]
      exact ⟨y3 a (by omega) (by omega), ta⟩
    have ih := Rep_st R (b + 1).toNat (by
      rw [show (((b + 1).toNat : Nat) : Int) = b + 1 by omega]
      exact Or.inr y4) (by omega) (by
      rw [show (((b + 1).toNat : Nat) : Int) = b + 1 by omega]
      exact y6)
    have c1 := cnt_up (stT T) (m := a.toNat + 1) (b + 1).toNat (by omega)
    have c2 := cnt_up (stT T) (m := p) a.toNat (by omega)
    rw [cnt_t sa] at c1
    rw [List.length_cons]
    omega
theorem tk_st {B : Sg} (hW : WfB B) (h s : Int) : ∀ n : Nat, (n : Int) ≤ B 0 7 → cnt (stT (fun p => tkN B h s p n)) 100 ≤ cnt (isM B h s) n
  | 0, _ => by
    have : cnt (stT (fun p => tkN B h s p 0)) 100 = cnt (fun _ => false) 100 := cnt_congr 100 (fun i hi => by
      unfold stT
      rw [decide_eq_false_iff_not]
      intro z
      exact z.1 rfl)
    rw [this]
    show cnt (fun _ => false) 100 ≤ 0
    decide +kernel
  | n + 1, hn => by
    have ih := tk_st hW h s n (by omega)
    by_cases c : isM B h s n = true
    · rw [cnt_t c]
      have := cnt_ins (p := stT (fun p => tkN B h s p (n + 1))) (q := stT (fun p => tkN B h s p n)) (a := B 9 n) 100 (fun i hi hp => by
        unfold stT at hp ⊢
        rw [decide_eq_true_iff] at hp ⊢
        obtain ⟨z1, z2⟩ := hp
        have z2 : tkN B h s ((i : Int) - 1) (n + 1) = 0 := z2
        have z1 : tkN B h s (i : Int) (n + 1) ≠ 0 := z1
        rw [tkN] at z1 z2
        by_cases d : isM B h s n = true ∧ B 9 n ≤ (i : Int) - 1 ∧ (i : Int) - 1 ≤ B 10 n
        · rw [if_pos d] at z2
          split at z2 <;> omega
        · rw [if_neg d] at z2
          by_cases e : isM B h s n = true ∧ B 9 n ≤ (i : Int) ∧ (i : Int) ≤ B 10 n
          · refine Or.inr ?_
            by_cases f : B 9 n ≤ (i : Int) - 1
            · exact absurd ⟨c, f, by omega⟩ d
            · omega
          · rw [if_neg e] at z1
            exact Or.inl ⟨z1, z2⟩)
      split at this <;> omega
    · have e : (fun p => tkN B h s p (n + 1)) = fun p => tkN B h s p n := funext (tk_f c)
      rw [e, cnt_f c]
      exact ih
theorem rL_len {B : Sg} (hW : WfB B) (h s : Int) : ((rL B h s).length : Int) ≤ nM B h s := by
  have w := hW.2.1
  have a := Rep_st (rL B h s) 1 (Or.inl (tk_out hW h s (by decide) _ (by omega))) (by decide) (rL_Rep hW h s)
  have b := tk_st hW h s (B 0 7).toNat (by omega)
  have c := (cnt_b (stT (tk B h s)) 1).1
  have b : cnt (stT (tk B h s)) 100 ≤ nM B h s := b
  omega
theorem rowT_len {w : Int} {K : Nat} : ∀ (us : List (List Int)) (col : Int), (∀ u ∈ us, u.length + 6 ≤ K) → (rowT w col us).length ≤ 1 + K * us.length
  | [], _, _ => by rw [rowT]; simp
  | u :: us, col, h => by
    have hu := h u (by simp)
    have h1 := rowT_len (w := w) us (col + 2 + u.length) (fun v hv => h v (by simp [hv]))
    have h2 := rowT_len (w := w) us (4 + u.length) (fun v hv => h v (by simp [hv]))
    rw [rowT, List.length_cons, Nat.mul_add]
    split <;> simp only [List.length_append, List.length_cons, List.length_nil] <;> omega
theorem rowR_len {B : Sg} (hW : WfB B) (w h s : Int) (u : List Int) : ((rowB w u ((rL B h s).map runB)).length : Int) ≤ u.length + 1 + 12 * nM B h s := by
  have a := rL_len hW h s
  have b := rowT_len (w := w) (K := 12) ((rL B h s).map runB) u.length (fun v hv => by
    obtain ⟨⟨x, y, m⟩, _, e⟩ := List.mem_map.1 hv
    rw [← e]
    have := (runB_len x y m).2
    omega)
  rw [List.length_map] at b
  unfold rowB
  rw [List.length_append]
  omega
theorem sumN_add (f g : Int → Int) : ∀ n : Nat, sumN (fun i => f i + g i) n = sumN f n + sumN g n
  | 0 => rfl
  | n + 1 => by rw [sumN, sumN, sumN, sumN_add f g n]; omega
theorem sumN_mul (c : Int) (f : Int → Int) : ∀ n : Nat, sumN (fun i => c * f i) n = c * sumN f n
  | 0 => by rw [sumN, sumN]; omega
  | n + 1 => by rw [sumN, sumN, sumN_mul c f n, Int.mul_add]
theorem sumN_con (c : Int) : ∀ n : Nat, sumN (fun _ => c) n = c * n
  | 0 => by rw [sumN]; simp
  | n + 1 => by rw [sumN, sumN_con c n, show ((n + 1 : Nat) : Int) = (n : Int) + 1 by omega, Int.mul_add]; omega
theorem sumN_ind (c : Int) : ∀ n : Nat, sumN (fun i => if i = c then 1 else 0) n = if 0 ≤ c ∧ c < n then 1 else 0
  | 0 => by rw [sumN, if_neg (by omega)]
  | n + 1 => by
    rw [sumN, sumN_ind c n]
    by_cases e : (n : Int) = c
    · rw [if_neg (by omega), if_pos e, if_pos (by omega)]; rfl
    · rw [if_neg e]
      by_cases d : 0 ≤ c ∧ c < n
      · rw [if_pos d, if_pos (by omega)]; rfl
      · rw [if_neg d, if_neg (by omega)]; rfl
theorem catN_len (f : Int → List Int) : ∀ n : Nat, ((catN f n).length : Int) = sumN (fun i => ((f i).length : Int)) n
  | 0 => rfl
  | n + 1 => by rw [catN, List.length_append, sumN, ← catN_len f n]; omega
theorem sub_sum {B : Sg} (h : Int) (n : Nat) : ∀ m : Nat, sumN (fun s => cnt (isM B h s) m) n + cnt (isM B h (-1)) m ≤ cnt (isM B h (-2)) m
  | 0 => by
    have : sumN (fun s => cnt (isM B h s) 0) n = 0 := by
      have := sumN_con 0 n
      rw [Int.zero_mul] at this
      exact this
    rw [this]
    show (0 : Int) + 0 ≤ 0
    decide
  | m + 1 => by
    have ih := sub_sum (B := B) h n m
    have e : sumN (fun s => cnt (isM B h s) (m + 1)) n = sumN (fun s => cnt (isM B h s) m) n + sumN (fun s => if isM B h s m = true then 1 else 0) n := by
      rw [← sumN_add]
      rfl
    rw [e, cnt_s, cnt_s]
    by_cases c : B 7 m = h
    · have e2 : sumN (fun s => if isM B h s m = true then 1 else 0) n = sumN (fun s => if s = B 8 m then 1 else 0) n := sumN_congr n (fun s hs => by
        by_cases d : (s : Int) = B 8 m
        · rw [if_pos d, if_pos (isM_iff.2 ⟨c, Or.inr d.symm⟩)]
        · rw [if_neg d, if_neg (fun z => by
            rcases (isM_iff.1 z).2 with y | y
            · omega
            · exact d y.symm)])
      rw [e2, sumN_ind, if_pos (show isM B h (-2) m = true from isM_iff.2 ⟨c, Or.inl rfl⟩)]
      by_cases d : B 8 m = -1
      · rw [if_neg (by omega), if_pos (isM_iff.2 ⟨c, Or.inr d⟩)]; omega
      · rw [if_neg (show ¬ isM B h (-1) m = true from fun z => by
            rcases (isM_iff.1 z).2 with y | y
            · omega
            · exact d y)]
        split <;> omega
    · have e2 : sumN (fun s => if isM B h s m = true then 1 else 0) n = sumN (fun _ => 0) n := sumN_congr n (fun s hs => if_neg (fun z => c (isM_iff.1 z).1))
      rw [e2, sumN_con, if_neg (fun z => c (isM_iff.1 z).1), if_neg (fun z => c (isM_iff.1 z).1)]
      omega
theorem head_sum {B : Sg} (n : Nat) : ∀ m : Nat, sumN (fun h => cnt (isM B h (-2)) m) n ≤ m
  | 0 => by
    have := sumN_con 0 n
    rw [Int.zero_mul] at this
    exact Int.le_of_eq this
  | m + 1 => by
    have ih := head_sum (B := B) n m
    have e : sumN (fun h => cnt (isM B h (-2)) (m + 1)) n = sumN (fun h => cnt (isM B h (-2)) m) n + sumN (fun h => if isM B h (-2) m = true then 1 else 0) n := by
      rw [← sumN_add]
      rfl
    have e2 : sumN (fun h => if isM B h (-2) m = true then 1 else 0) n = sumN (fun h => if h = B 7 m then 1 else 0) n := sumN_congr n (fun h hh => by
      by_cases d : (h : Int) = B 7 m
      · rw [if_pos d, if_pos (isM_iff.2 ⟨d.symm, Or.inl rfl⟩)]
      · rw [if_neg d, if_neg (fun z => d (isM_iff.1 z).1.symm)])
    rw [e, e2, sumN_ind]
    split <;> omega
theorem alsL_len {B : Sg} (how set : Int) : ∀ n : Nat, ((alsL B how set n).length : Int) = sumN (fun i => if has set (ord (hkey B how) (B 0 0).toNat i) = true then 1 else 0) n
  | 0 => rfl
  | n + 1 => by
    rw [alsL, List.length_append, sumN, ← alsL_len how set n]
    by_cases c : has set (ord (hkey B how) (B 0 0).toNat n) = true
    · rw [if_pos c, if_pos c]; rfl
    · rw [if_neg c, if_neg c]; rfl
theorem sumN_cnt (p : Int → Bool) : ∀ n : Nat, sumN (fun i => if p i = true then 1 else 0) n = cnt p n
  | 0 => rfl
  | n + 1 => by rw [sumN, cnt_s, sumN_cnt p n]
theorem alsL_b {B : Sg} (hW : WfB B) (how set : Int) : ((alsL B how set (B 0 0).toNat).length : Int) ≤ cnt (fun g => has set g) 16 := by
  have w := hW.1
  rw [alsL_len]
  have a := sumN_ord (key := hkey B how) (f := fun j => if has set j = true then 1 else 0) (n := (B 0 0).toNat) (fun i => by split <;> decide)
  have b := sumN_cnt (fun g => has set g) (B 0 0).toNat
  have c := cnt_up (fun g => has set g) (m := (B 0 0).toNat) 16 (by omega)
  rw [b] at a
  exact Int.le_trans a c
theorem alsL_mem {B : Sg} {how set g : Int} : ∀ n : Nat, (n : Int) ≤ B 0 0 → g ∈ alsL B how set n → 0 ≤ g ∧ g < B 0 0
  | 0, _, h => by rw [alsL] at h; simp at h
  | n + 1, hn, h => by
    rw [alsL] at h
    rcases List.mem_append.1 h with z | z
    · exact alsL_mem n (by omega) z
    · split at z
      · have o := (ord_b (key := hkey B how) (n := (B 0 0).toNat) (i := n) (by omega) (by omega)).1
        rw [List.mem_singleton] at z
        rw [z]
        omega
      · simp at z
theorem alsB_len {B : Sg} (hW : WfB B) (how w set : Int) : ((alsB B how w set).length : Int) ≤ 30 * cnt (fun g => has set g) 16 := by
  have hb := alsL_b hW how set
  have w0 := hW.1
  have hm : ∀ g, g ∈ alsL B how set (B 0 0).toNat → (wbl (B 1 g)).length ≤ 12 := fun g hg => by
    have b := alsL_mem _ (by omega) hg
    have ww := (hW.2.2.1 g b.1 b.2).2.2.2.2 (-1) (by decide) (by have := (hW.2.2.1 g b.1 b.2).1; omega)
    unfold ew at ww
    rw [if_pos rfl] at ww
    have := wbl_len ww
    have := ww.2.1
    omega
  unfold alsB
  split
  · have := (cnt_b (fun g => has set g) 16).1
    rw [List.length_nil]; omega
  · rename_i g gs e
    rw [e] at hb hm
    have b := rowT_len (w := w) (K := 18) (gs.map (fun g => wbl (B 1 g))) (([32, 32] ++ seeB ++ [97, 108, 115, 111, 32] ++ wbl (B 1 g) : List Int).length : Nat) (fun v hv => by
      obtain ⟨x, hx, ex⟩ := List.mem_map.1 hv
      rw [← ex]
      have := hm x (by simp [hx])
      omega)
    have c := hm g (by simp)
    rw [List.length_map] at b
    rw [List.length_cons] at hb
    unfold rowB
    rw [List.length_append]
    have d : ([32, 32] ++ seeB ++ [97, 108, 115, 111, 32] ++ wbl (B 1 g) : List Int).length = 11 + (wbl (B 1 g)).length := by
      unfold seeB
      simp only [List.length_append, List.length_cons, List.length_nil]
    omega
theorem nMb {B : Sg} (hW : WfB B) (h s : Int) : 0 ≤ nM B h s ∧ nM B h s ≤ 60 := by
  have := cnt_b (isM B h s) (B 0 7).toNat
  have := hW.2.1
  unfold nM
  omega
theorem wd_len {B : Sg} (hW : WfB B) {h s : Int} (h0 : 0 ≤ h) (h1 : h < B 0 0) (s0 : -1 ≤ s) (s1 : s < B 2 h) : (wbl (ew B h s)).length ≤ 12 := by
  have ww := (hW.2.2.1 h h0 h1).2.2.2.2 s s0 s1
  have := wbl_len ww
  have := ww.2.1
  omega
theorem wh_len {B : Sg} (hW : WfB B) {h : Int} (h0 : 0 ≤ h) (h1 : h < B 0 0) : (wbl (B 1 h)).length ≤ 12 := by
  have := wd_len hW (s := -1) h0 h1 (by decide) (by have := (hW.2.2.1 h h0 h1).1; omega)
  unfold ew at this
  rw [if_pos rfl] at this
  exact this
theorem subsB_len {B : Sg} (hW : WfB B) {how w h : Int} (h0 : 0 ≤ h) (h1 : h < B 0 0) : ∃ q : Int, 0 ≤ q ∧ q ≤ 6 ∧ q ≤ nM B h (-2) ∧ ((subsB B how w h).length : Int) ≤ 15 * q + 12 * (nM B h (-2) - nM B h (-1)) := by
  have ws := (hW.2.2.1 h h0 h1).1
  have f0 : ∀ i : Int, 0 ≤ (if 0 < nM B h i then (1 : Int) else 0) := fun i => by split <;> decide
  have f1 : ∀ i : Int, 0 ≤ nM B h i := fun i => (nMb hW h i).1
  have a := sumN_ord (key := skey B how h) (f := fun s => if 0 < nM B h s then 1 else 0) (n := (B 2 h).toNat) f0
  have b := sumN_ord (key := skey B how h) (f := fun s => nM B h s) (n := (B 2 h).toNat) f1
  have c : sumN (fun s => nM B h s) (B 2 h).toNat + nM B h (-1) ≤ nM B h (-2) := sub_sum h (B 2 h).toNat (B 0 7).toNat
  have d : sumN (fun s => if 0 < nM B h s then 1 else 0) (B 2 h).toNat ≤ sumN (fun s => nM B h s) (B 2 h).toNat := sumN_le _ (fun i hi => by
    have := f1 i
    split <;> omega)
  have e : sumN (fun s => if 0 < nM B h s then 1 else 0) (B 2 h).toNat ≤ sumN (fun _ => 1) (B 2 h).toNat := sumN_le _ (fun i hi => by
    split <;> omega)
  rw [sumN_con] at e
  have e0 := sumN_nn f0 (B 2 h).toNat
  have n1 := f1 (-1)
  refine ⟨sumN (fun s => if 0 < nM B h s then 1 else 0) (B 2 h).toNat, e0, by omega, by omega, ?_⟩
  unfold subsB
  rw [catN_len]
  have g : sumN (fun i => ((subB B how w h (ord (skey B how h) (B 2 h).toNat i)).length : Int)) (B 2 h).toNat ≤ sumN (fun i => 15 * (if 0 < nM B h (ord (skey B how h) (B 2 h).toNat i) then 1 else 0) + 12 * nM B h (ord (skey B how h) (B 2 h).toNat i)) (B 2 h).toNat := sumN_le _ (fun i hi => by
    have o := (ord_b (key := skey B how h) (n := (B 2 h).toNat) (i := i) (by omega) (by omega)).1
    have n0 := f1 (ord (skey B how h) (B 2 h).toNat i)
    unfold subB
    split
    · have r := rowR_len hW w h (ord (skey B how h) (B 2 h).toNat i) ([32, 32] ++ wbl (ew B h (ord (skey B how h) (B 2 h).toNat i)))
      have l := wd_len hW h0 h1 (s := ord (skey B how h) (B 2 h).toNat i) (by omega) (by omega)
      rw [List.length_append] at r
      have l2 : ([32, 32] : List Int).length = 2 := rfl
      omega
    · rw [List.length_nil]; omega)
  rw [sumN_add, sumN_mul 15 (fun i => if 0 < nM B h (ord (skey B how h) (B 2 h).toNat i) then 1 else 0), sumN_mul 12 (fun i => nM B h (ord (skey B how h) (B 2 h).toNat i))] at g
  omega
theorem hd_len {B : Sg} (hW : WfB B) {how w h src fold : Int} (h0 : 0 ≤ h) (h1 : h < B 0 0) (g0 : 0 ≤ src) (g1 : src < B 0 0) : ∃ q : Int, 0 ≤ q ∧ q ≤ 6 ∧ q ≤ nM B src (-2) ∧ ((hdB B how w h src fold).length : Int) ≤ 15 * q + 12 * nM B src (-2) + 32 + 30 * cnt (fun g => has (B 5 h) g) 16 := by
  obtain ⟨q, q0, q1, q2, q3⟩ := subsB_len hW (how := how) (w := w) g0 g1
  refine ⟨q, q0, q1, q2, ?_⟩
  have a := alsB_len hW how w (B 5 h)
  have a0 := (cnt_b (fun g => has (B 5 h) g) 16).1
  have l := wh_len hW h0 h1
  have n0 := nMb hW src (-2)
  have n1 := nMb hW src (-1)
  have wse := (hW.2.2.1 h h0 h1).2.1
  have see : B 4 h ≠ -1 → (wbl (B 1 (B 4 h))).length ≤ 12 := fun z => wh_len hW (by omega) wse.2
  have al : ((if B 5 h ≠ 0 then alsB B how w (B 5 h) else []).length : Int) ≤ 30 * cnt (fun g => has (B 5 h) g) 16 := by
    split
    · exact a
    · rw [List.length_nil]; omega
  unfold hdB
  rw [List.length_append]
  have main : (((if 0 < nM B src (-2) then
    rowB w (wbl (B 1 h)) ((rL B src (if fold = 1 then -2 else -1)).map runB) ++ (if fold = 1 then [] else subsB B how w src) ++ (if src = h ∧ B 4 h ≠ -1 then rowB w ([32, 32] ++ seeB ++ wbl (B 1 (B 4 h))) [] else [])
  else if src = h ∧ B 4 h ≠ -1 then rowB w (wbl (B 1 h) ++ [44, 32] ++ seeB ++ wbl (B 1 (B 4 h))) []
  else if B 5 h ≠ 0 then rowB w (wbl (B 1 h)) [] else []) : List Int).length : Int) ≤ 15 * q + 12 * nM B src (-2) + 32 := by
    split
    · have s1 : ((if src = h ∧ B 4 h ≠ -1 then rowB w ([32, 32] ++ seeB ++ wbl (B 1 (B 4 h))) [] else []).length : Int) ≤ 19 := by
        split
        · rename_i c
          have := see c.2
          unfold rowB rowT seeB
          simp only [List.length_append, List.length_cons, List.length_nil]
          omega
        · rw [List.length_nil]; decide
      rw [List.length_append, List.length_append]
      by_cases f : fold = 1
      · rw [if_pos f, if_pos f]
        have r := rowR_len hW w src (-2) (wbl (B 1 h))
        rw [List.length_nil]
        omega
      · rw [if_neg f, if_neg f]
        have r := rowR_len hW w src (-1) (wbl (B 1 h))
        omega
    · split
      · rename_i c
        have := see c.2
        unfold rowB rowT seeB
        simp only [List.length_append, List.length_cons, List.length_nil]
        omega
      · split
        · unfold rowB rowT
          simp only [List.length_append, List.length_cons, List.length_nil]
          omega
        · rw [List.length_nil]; omega
  omega
theorem also_sum {B : Sg} {n : Nat} (hW : WfB B) (hn : n = (B 0 0).toNat) : sumN (fun h => cnt (fun g => has (B 5 h) g) 16) n ≤ 8 := by
  rw [hn]; exact hW.2.2.2.2
theorem allB_len (B : Sg) (how w : Int) : ∀ n : Nat, ((allB B how w n).length : Int) = sumN (fun i => ((hdB B how w (ord (hkey B how) (B 0 0).toNat i) (ord (hkey B how) (B 0 0).toNat i) 0).length : Int)) n
  | 0 => rfl
  | n + 1 => by rw [allB, List.length_append, sumN, ← allB_len B how w n]; omega
theorem all_len {B : Sg} (hW : WfB B) (how w : Int) : ((allB B how w (B 0 0).toNat).length : Int) ≤ 2372 := by
  have w0 := hW.1
  have w1 := hW.2.1
  rw [allB_len]
  have f0 : ∀ h : Int, 0 ≤ 27 * nM B h (-2) + (32 + 30 * cnt (fun g => has (B 5 h) g) 16) := fun h => by
    have := (nMb hW h (-2)).1
    have := (cnt_b (fun g => has (B 5 h) g) 16).1
    omega
  have a := sumN_ord (key := hkey B how) (n := (B 0 0).toNat) f0
  have g := sumN_le (f := fun i => ((hdB B how w (ord (hkey B how) (B 0 0).toNat i) (ord (hkey B how) (B 0 0).toNat i) 0).length : Int)) (g := fun i => 27 * nM B (ord (hkey B how) (B 0 0).toNat i) (-2) + (32 + 30 * cnt (fun g => has (B 5 (ord (hkey B how) (B 0 0).toNat i)) g) 16)) (B 0 0).toNat (fun i hi => by
    have o := (ord_b (key := hkey B how) (n := (B 0 0).toNat) (i := i) (by omega) (by omega)).1
    obtain ⟨q, q0, q1, q2, q3⟩ := hd_len hW (how := how) (w := w) (fold := 0) o.1 (show _ < B 0 0 by omega) o.1 (show _ < B 0 0 by omega)
    omega)
  have e1 : sumN (fun h => 27 * nM B h (-2) + (32 + 30 * cnt (fun g => has (B 5 h) g) 16)) (B 0 0).toNat = 27 * sumN (fun h => nM B h (-2)) (B 0 0).toNat + (32 * ((B 0 0).toNat : Int) + 30 * sumN (fun h => cnt (fun g => has (B 5 h) g) 16) (B 0 0).toNat) := by
    rw [sumN_add (fun h => 27 * nM B h (-2)) (fun h => 32 + 30 * cnt (fun g => has (B 5 h) g) 16), sumN_add (fun _ => 32) (fun h => 30 * cnt (fun g => has (B 5 h) g) 16), sumN_con, sumN_mul, sumN_mul]
  have hs := head_sum (B := B) (B 0 0).toNat (B 0 7).toNat
  have hs : sumN (fun h => nM B h (-2)) (B 0 0).toNat ≤ (((B 0 7).toNat : Nat) : Int) := hs
  have as := also_sum hW rfl
  rw [e1] at a
  omega
theorem allB_up (B : Sg) (how w : Int) {m : Nat} : ∀ n : Nat, m ≤ n → (allB B how w m).length ≤ (allB B how w n).length
  | 0, h => by rw [show m = 0 by omega]; exact Nat.le_refl _
  | n + 1, h => by
    by_cases e : m = n + 1
    · rw [e]; exact Nat.le_refl _
    · have := allB_up B how w (m := m) n (by omega)
      rw [allB, List.length_append]
      omega
theorem tens_all (B : Sg) (how w : Int) : ∀ n : Nat, tens (allB B how w n) = sumN (fun i => tens (hdB B how w (ord (hkey B how) (B 0 0).toNat i) (ord (hkey B how) (B 0 0).toNat i) 0)) n
  | 0 => rfl
  | n + 1 => by rw [allB, tens_app, sumN, ← tens_all B how w n]
