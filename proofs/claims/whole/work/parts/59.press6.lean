/-! ===== PURE HALF, by hand: the class's press, a head with marks, the two ways ===== -/
theorem sub_fold {B : Sg} {how w src : Int} (n : Nat) : catN (fun i => subX B w src (ord (skey B how src) n i) 0) n = [] :=
  catN_nil n (fun i _ => if_neg (by rw [has_0]; decide))
theorem sub_open {B : Sg} {how w src set : Int} (hs : ∀ g : Int, 0 ≤ g → has set g = decide (0 < nM B src g)) : catN (fun i => subX B w src (ord (skey B how src) (B 2 src).toNat i) set) (B 2 src).toNat = subsB B how w src := by
  unfold subsB
  refine catN_congr _ (fun i hi => ?_)
  have o := ord_b (key := skey B how src) (n := (B 2 src).toNat) (i := i) (by omega) (by omega)
  have e := hs (ord (skey B how src) (B 2 src).toNat i) o.1.1
  unfold subX subB
  rw [e]
  by_cases c : 0 < nM B src (ord (skey B how src) (B 2 src).toNat i)
  · rw [if_pos c, if_pos (decide_eq_true c)]
  · rw [if_neg c, if_neg (fun z => c (of_decide_eq_true z))]
