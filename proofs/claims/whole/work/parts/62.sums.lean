/-! ===== PURE HALF, by hand: sums over an order; how long a print is ===== -/
theorem sumN_one {f : Int → Int} {a : Int} (a0 : 0 ≤ a) : ∀ n : Nat, sumN (pt f a 0) n = sumN f n - (if a < n then f a else 0)
  | 0 => by rw [sumN, sumN, if_neg (by omega)]; rfl
  | n + 1 => by
    rw [sumN, sumN, sumN_one a0 n]
    by_cases c : (n : Int) = a
    · rw [c, pt_self, if_neg (show ¬ a < a by omega), if_pos (show a < ((n + 1 : Nat) : Int) by omega)]
      omega
    · rw [pt_ne c]
      by_cases d : a < n
      · rw [if_pos d, if_pos (show a < ((n + 1 : Nat) : Int) by omega)]; omega
      · rw [if_neg d, if_neg (show ¬ a < ((n + 1 : Nat) : Int) by omega)]; omega
theorem sumN_nn {f : Int → Int} (h : ∀ i : Int, 0 ≤ f i) : ∀ n : Nat, 0 ≤ sumN f n
  | 0 => by rw [sumN]; exact Int.le_refl _
  | n + 1 => by
    have h1 := sumN_nn h n
    have h2 := h n
    rw [sumN]
    omega
theorem sumN_perm {φ : Int → Int} {n : Nat} : ∀ (m : Nat) (f : Int → Int), (∀ i : Int, 0 ≤ f i) → (∀ i : Int, 0 ≤ i → i < m → 0 ≤ φ i ∧ φ i < n) → (∀ i j : Int, 0 ≤ i → i < m → 0 ≤ j → j < m → φ i = φ j → i = j) → sumN (fun i => f (φ i)) m ≤ sumN f n
  | 0, f, hf, _, _ => by rw [sumN]; exact sumN_nn hf n
  | m + 1, f, hf, hb, hi => by
    have bm := hb m (by omega) (by omega)
    have key := sumN_perm (φ := φ) (n := n) m (pt f (φ m) 0) (fun i => by
      by_cases c : i = φ m
      · rw [c, pt_self]; exact Int.le_refl _
      · rw [pt_ne c]; exact hf i) (fun i a b => hb i a (by omega)) (fun i j a b c d => hi i j a (by omega) c (by omega))
    have e : sumN (fun i => pt f (φ m) 0 (φ i)) m = sumN (fun i => f (φ i)) m := sumN_congr m (fun i hi2 => pt_ne (fun z => by
      have := hi i m (by omega) (by omega) (by omega) (by omega) z
      omega))
    rw [e, sumN_one bm.1, if_pos bm.2] at key
    rw [sumN]
    omega
theorem ord_inj {key : Int → Int} {n : Nat} {i j : Int} (i0 : 0 ≤ i) (i1 : i < n) (j0 : 0 ≤ j) (j1 : j < n) (h : ord key n i = ord key n j) : i = j := by
  have a := (ord_b (key := key) (n := n) i0 i1).2
  have b := (ord_b (key := key) (n := n) j0 j1).2
  rw [← a, ← b, h]
theorem sumN_ord {key f : Int → Int} {n : Nat} (hf : ∀ i : Int, 0 ≤ f i) : sumN (fun i => f (ord key n i)) n ≤ sumN f n :=
  sumN_perm n f hf (fun i a b => by have := (ord_b (key := key) (n := n) a b).1; omega) (fun i j a b c d => ord_inj a b c d)
theorem sumN_le {f g : Int → Int} : ∀ n : Nat, (∀ i : Nat, i < n → f i ≤ g i) → sumN f n ≤ sumN g n
  | 0, _ => Int.le_refl _
  | n + 1, h => by
    have h1 := sumN_le n (fun i hi => h i (by omega))
    have h2 := h n (by omega)
    rw [sumN, sumN]
    omega
