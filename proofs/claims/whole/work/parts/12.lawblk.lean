/-! ===== the law's loop: blocks (printed by wip/whole/gen/mklaw.py) ===== -/
/-- the script: where it lies, what it holds -/
def ΦL (n0 : Nat) (xs : Nat → Int32) : Ph := fun s A ad => va_X (ad 500) n0 xs s s.heap ∧ ad 500 < s.heap.size ∧ ¬ A (ad 500)
def sx (xs : Nat → Int32) (i : Int) : Int := (xs i.toNat).toInt
theorem sx_rng (xs : Nat → Int32) (i : Int) : rng (sx xs i) := rng_of _
abbrev mL : Md := (yL_law, code, 4, some .boolean, 11)
theorem V_scl {y : Md} {pc : Nat} {L : Lc} {stk : List MV} {σ : Sg} {post : Po} {n0 : Nat} {xs : Nat → Int32} {i : Int} (hn0 : n0 < 2147483648) (hi : 0 ≤ i ∧ i < (n0 : Int)) (hd : decode y.2.1 pc = .ok (.iaload, 1)) (kk : VP (ΦL n0 xs) y (pc + 1) L (vi (sx xs i) :: stk) σ post) : VP (ΦL n0 xs) y pc L (vi i :: vr 500 :: stk) σ post := by
  intro p l e R s m args below meth c A ad dA D cells slots Q X hΦ hR H locs ls hB hP hS hL
  have hr : rng i := ⟨by omega, by omega⟩
  refine va_sld X.1 X.2.1 hΦ.1 hΦ.2.1 hΦ.2.2 hS (iI_in hi.1 hi.2 hn0) hd ?_
  have k : W p l e R s m args below meth c H locs cells slots Q (F0 m (pc + 1) ls (.int (iI (sx xs i)) :: stk.map (ren ad))) := kk p l e R s m args below meth c A ad dA D cells slots Q X hΦ hR H locs ls hB hP hS hL
  unfold sx at k
  rw [iI_of] at k
  rw [iI_clamp hi.1 hr]
  exact k
theorem V_sct {y : Md} {pc : Nat} {L : Lc} {stk : List MV} {σ : Sg} {post : Po} {n0 : Nat} {xs : Nat → Int32} (hd : decode y.2.1 pc = .ok (.arraylength, 1)) (kk : VP (ΦL n0 xs) y (pc + 1) L (vi (n0 : Int) :: stk) σ post) : VP (ΦL n0 xs) y pc L (vr 500 :: stk) σ post := by
  intro p l e R s m args below meth c A ad dA D cells slots Q X hΦ hR H locs ls hB hP hS hL
  refine va_slen X.1 X.2.1 hΦ.1 hΦ.2.1 hΦ.2.2 hS hd ?_
  have k : W p l e R s m args below meth c H locs cells slots Q (F0 m (pc + 1) ls (.int (iI (n0 : Int)) :: stk.map (ren ad))) := kk p l e R s m args below meth c A ad dA D cells slots Q X hΦ hR H locs ls hB hP hS hL
  have e : iI (n0 : Int) = Int32.ofNat n0 := Int32.ofInt_eq_ofNat
  rw [e] at k
  exact k
set_option maxRecDepth 100000 in
theorem BL_law_18 {σ : Sg} {post : Po} {n0 : Nat} {xs : Nat → Int32} (hn0 : n0 < 2147483648) {x3 : Int} 
  (h : (rng x3) ∧ ((rng ((n0 : Int) - 6)) ∧ ((((n0 : Int) - 6) < x3 → post (some (vi 1)) σ) ∧ (¬ ((n0 : Int) - 6) < x3 → (0 ≤ x3 ∧ x3 < (n0 : Int)) ∧ (((iAnd (sx xs x3) 63) < 0 ∨ 32 < (iAnd (sx xs x3) 63) → VP (ΦL n0 xs) mL 18 [some (vr 500), some (vr 0), some (vr 94), some (vi (x3 + 6))] [] σ post) ∧ ((iAnd (sx xs x3) 63) = 0 → (0 ≤ (x3 + 1) ∧ (x3 + 1) < (n0 : Int)) ∧ ((0 ≤ (x3 + 2) ∧ (x3 + 2) < (n0 : Int)) ∧ ((rng (sx xs (x3 + 2))) ∧ ((0 ≤ (x3 + 3) ∧ (x3 + 3) < (n0 : Int)) ∧ ((rng (sx xs (x3 + 3))) ∧ (Cl mX11_feed [vr 0, vi (sx xs (x3 + 1)), vl (lOr (lShl (sx xs (x3 + 2)) 32) (lAnd (sx xs (x3 + 3)) 4294967295))] σ (pI fun z1 σ1 => Cl mX12_feed [vr 94, vi (sx xs (x3 + 1)), vl (lOr (lShl (sx xs (x3 + 2)) 32) (lAnd (sx xs (x3 + 3)) 4294967295))] σ1 (pI fun z2 σ2 => (rng z1) ∧ ((rng z2) ∧ ((z1 = z2 → VP (ΦL n0 xs) mL 18 [some (vr 500), some (vr 0), some (vr 94), some (vi (x3 + 6))] [] σ2 post) ∧ (¬ z1 = z2 → post (some (vi 0)) σ2))))))))))) ∧ ((iAnd (sx xs x3) 63) = 1 → Cl mX11_read [vr 0] σ (pI fun z3 σ3 => Cl mX12_read [vr 94] σ3 (pI fun z4 σ4 => (rng z3) ∧ ((rng z4) ∧ ((z3 = z4 → VP (ΦL n0 xs) mL 18 [some (vr 500), some (vr 0), some (vr 94), some (vi (x3 + 6))] [] σ4 post) ∧ (¬ z3 = z4 → post (some (vi 0)) σ4)))))) ∧ ((iAnd (sx xs x3) 63) = 2 → Cl mX11_fault [vr 0] σ (pI fun z5 σ5 => Cl mX12_fault [vr 94] σ5 (pI fun z6 σ6 => (rng z5) ∧ ((rng z6) ∧ ((z5 = z6 → VP (ΦL n0 xs) mL 18 [some (vr 500), some (vr 0), some (vr 94), some (vi (x3 + 6))] [] σ6 post) ∧ (¬ z5 = z6 → post (some (vi 0)) σ6)))))) ∧ ((iAnd (sx xs x3) 63) = 3 → (0 ≤ (x3 + 1) ∧ (x3 + 1) < (n0 : Int)) ∧ (Cl mX11_count [vr 0, vi (sx xs (x3 + 1))] σ (pI fun z7 σ7 => Cl mX12_count [vr 94, vi (sx xs (x3 + 1))] σ7 (pI fun z8 σ8 => (rng z7) ∧ ((rng z8) ∧ ((z7 = z8 → VP (ΦL n0 xs) mL 18 [some (vr 500), some (vr 0), some (vr 94), some (vi (x3 + 6))] [] σ8 post) ∧ (¬ z7 = z8 → post (some (vi 0)) σ8))))))) ∧ ((iAnd (sx xs x3) 63) = 4 → (0 ≤ (x3 + 1) ∧ (x3 + 1) < (n0 : Int)) ∧ ((0 ≤ (x3 + 2) ∧ (x3 + 2) < (n0 : Int)) ∧ (Cl mX11_head [vr 0, vi (sx xs (x3 + 1)), vi (sx xs (x3 + 2))] σ (pI fun z9 σ9 => Cl mX12_head [vr 94, vi (sx xs (x3 + 1)), vi (sx xs (x3 + 2))] σ9 (pI fun z10 σ10 => (rng z9) ∧ ((rng z10) ∧ ((z9 = z10 → VP (ΦL n0 xs) mL 18 [some (vr 500), some (vr 0), some (vr 94), some (vi (x3 + 6))] [] σ10 post) ∧ (¬ z9 = z10 → post (some (vi 0)) σ10)))))))) ∧ ((iAnd (sx xs x3) 63) = 5 → (0 ≤ (x3 + 1) ∧ (x3 + 1) < (n0 : Int)) ∧ ((0 ≤ (x3 + 2) ∧ (x3 + 2) < (n0 : Int)) ∧ ((0 ≤ (x3 + 3) ∧ (x3 + 3) < (n0 : Int)) ∧ (Cl mX11_name [vr 0, vi (sx xs (x3 + 1)), vi (sx xs (x3 + 2)), vi (sx xs (x3 + 3))] σ (pI fun z11 σ11 => Cl mX12_name [vr 94, vi (sx xs (x3 + 1)), vi (sx xs (x3 + 2)), vi (sx xs (x3 + 3))] σ11 (pI fun z12 σ12 => (rng z11) ∧ ((rng z12) ∧ ((z11 = z12 → VP (ΦL n0 xs) mL 18 [some (vr 500), some (vr 0), some (vr 94), some (vi (x3 + 6))] [] σ12 post) ∧ (¬ z11 = z12 → post (some (vi 0)) σ12))))))))) ∧ ((iAnd (sx xs x3) 63) = 6 → (0 ≤ (x3 + 1) ∧ (x3 + 1) < (n0 : Int)) ∧ ((0 ≤ (x3 + 2) ∧ (x3 + 2) < (n0 : Int)) ∧ (Cl mX11_mark [vr 0, vi (sx xs (x3 + 1)), vi (sx xs (x3 + 2))] σ (pI fun z13 σ13 => Cl mX12_mark [vr 94, vi (sx xs (x3 + 1)), vi (sx xs (x3 + 2))] σ13 (pI fun z14 σ14 => (rng z13) ∧ ((rng z14) ∧ ((z13 = z14 → VP (ΦL n0 xs) mL 18 [some (vr 500), some (vr 0), some (vr 94), some (vi (x3 + 6))] [] σ14 post) ∧ (¬ z13 = z14 → post (some (vi 0)) σ14)))))))) ∧ ((iAnd (sx xs x3) 63) = 7 → (0 ≤ (x3 + 1) ∧ (x3 + 1) < (n0 : Int)) ∧ ((0 ≤ (x3 + 2) ∧ (x3 + 2) < (n0 : Int)) ∧ ((0 ≤ (x3 + 3) ∧ (x3 + 3) < (n0 : Int)) ∧ ((0 ≤ (x3 + 4) ∧ (x3 + 4) < (n0 : Int)) ∧ ((0 ≤ (x3 + 5) ∧ (x3 + 5) < (n0 : Int)) ∧ ((rng (sx xs (x3 + 5))) ∧ (((sx xs (x3 + 5)) = 0 → Cl mX11_add [vr 0, vi (sx xs (x3 + 1)), vi (sx xs (x3 + 2)), vi (sx xs (x3 + 3)), vi (sx xs (x3 + 4)), vi 0] σ (pI fun z15 σ15 => ((sx xs (x3 + 5)) = 0 → Cl mX12_add [vr 94, vi (sx xs (x3 + 1)), vi (sx xs (x3 + 2)), vi (sx xs (x3 + 3)), vi (sx xs (x3 + 4)), vi 0] σ15 (pI fun z16 σ16 => (rng z15) ∧ ((rng z16) ∧ ((z15 = z16 → VP (ΦL n0 xs) mL 18 [some (vr 500), some (vr 0), some (vr 94), some (vi (x3 + 6))] [] σ16 post) ∧ (¬ z15 = z16 → post (some (vi 0)) σ16))))) ∧ (¬ (sx xs (x3 + 5)) = 0 → Cl mX12_add [vr 94, vi (sx xs (x3 + 1)), vi (sx xs (x3 + 2)), vi (sx xs (x3 + 3)), vi (sx xs (x3 + 4)), vi 1] σ15 (pI fun z17 σ17 => (rng z15) ∧ ((rng z17) ∧ ((z15 = z17 → VP (ΦL n0 xs) mL 18 [some (vr 500), some (vr 0), some (vr 94), some (vi (x3 + 6))] [] σ17 post) ∧ (¬ z15 = z17 → post (some (vi 0)) σ17))))))) ∧ (¬ (sx xs (x3 + 5)) = 0 → Cl mX11_add [vr 0, vi (sx xs (x3 + 1)), vi (sx xs (x3 + 2)), vi (sx xs (x3 + 3)), vi (sx xs (x3 + 4)), vi 1] σ (pI fun z18 σ18 => ((sx xs (x3 + 5)) = 0 → Cl mX12_add [vr 94, vi (sx xs (x3 + 1)), vi (sx xs (x3 + 2)), vi (sx xs (x3 + 3)), vi (sx xs (x3 + 4)), vi 0] σ18 (pI fun z19 σ19 => (rng z18) ∧ ((rng z19) ∧ ((z18 = z19 → VP (ΦL n0 xs) mL 18 [some (vr 500), some (vr 0), some (vr 94), some (vi (x3 + 6))] [] σ19 post) ∧ (¬ z18 = z19 → post (some (vi 0)) σ19))))) ∧ (¬ (sx xs (x3 + 5)) = 0 → Cl mX12_add [vr 94, vi (sx xs (x3 + 1)), vi (sx xs (x3 + 2)), vi (sx xs (x3 + 3)), vi (sx xs (x3 + 4)), vi 1] σ18 (pI fun z20 σ20 => (rng z18) ∧ ((rng z20) ∧ ((z18 = z20 → VP (ΦL n0 xs) mL 18 [some (vr 500), some (vr 0), some (vr 94), some (vi (x3 + 6))] [] σ20 post) ∧ (¬ z18 = z20 → post (some (vi 0)) σ20)))))))))))))) ∧ ((iAnd (sx xs x3) 63) = 8 → (0 ≤ (x3 + 1) ∧ (x3 + 1) < (n0 : Int)) ∧ (Cl mX11_drop [vr 0, vi (sx xs (x3 + 1))] σ (pI fun z21 σ21 => Cl mX12_drop [vr 94, vi (sx xs (x3 + 1))] σ21 (pI fun z22 σ22 => (rng z21) ∧ ((rng z22) ∧ ((z21 = z22 → VP (ΦL n0 xs) mL 18 [some (vr 500), some (vr 0), some (vr 94), some (vi (x3 + 6))] [] σ22 post) ∧ (¬ z21 = z22 → post (some (vi 0)) σ22))))))) ∧ ((iAnd (sx xs x3) 63) = 9 → (0 ≤ (x3 + 1) ∧ (x3 + 1) < (n0 : Int)) ∧ ((0 ≤ (x3 + 2) ∧ (x3 + 2) < (n0 : Int)) ∧ (Cl mX11_asked [vr 0, vi (sx xs (x3 + 1)), vi (sx xs (x3 + 2))] σ (pI fun z23 σ23 => Cl mX12_asked [vr 94, vi (sx xs (x3 + 1)), vi (sx xs (x3 + 2))] σ23 (pI fun z24 σ24 => (rng z23) ∧ ((rng z24) ∧ ((z23 = z24 → VP (ΦL n0 xs) mL 18 [some (vr 500), some (vr 0), some (vr 94), some (vi (x3 + 6))] [] σ24 post) ∧ (¬ z23 = z24 → post (some (vi 0)) σ24)))))))) ∧ ((iAnd (sx xs x3) 63) = 10 → (0 ≤ (x3 + 1) ∧ (x3 + 1) < (n0 : Int)) ∧ ((0 ≤ (x3 + 2) ∧ (x3 + 2) < (n0 : Int)) ∧ ((0 ≤ (x3 + 3) ∧ (x3 + 3) < (n0 : Int)) ∧ ((0 ≤ (x3 + 4) ∧ (x3 + 4) < (n0 : Int)) ∧ (Cl mX11_run [vr 0, vi (sx xs (x3 + 1)), vi (sx xs (x3 + 2)), vi (sx xs (x3 + 3)), vi (sx xs (x3 + 4))] σ (pI fun z25 σ25 => Cl mX12_run [vr 94, vi (sx xs (x3 + 1)), vi (sx xs (x3 + 2)), vi (sx xs (x3 + 3)), vi (sx xs (x3 + 4))] σ25 (pI fun z26 σ26 => (rng z25) ∧ ((rng z26) ∧ ((z25 = z26 → VP (ΦL n0 xs) mL 18 [some (vr 500), some (vr 0), some (vr 94), some (vi (x3 + 6))] [] σ26 post) ∧ (¬ z25 = z26 → post (some (vi 0)) σ26)))))))))) ∧ ((iAnd (sx xs x3) 63) = 11 → (0 ≤ (x3 + 1) ∧ (x3 + 1) < (n0 : Int)) ∧ (Cl mX11_order [vr 0, vi (sx xs (x3 + 1))] σ (pI fun z27 σ27 => Cl mX12_order [vr 94, vi (sx xs (x3 + 1))] σ27 (pI fun z28 σ28 => (rng z27) ∧ ((rng z28) ∧ ((z27 = z28 → VP (ΦL n0 xs) mL 18 [some (vr 500), some (vr 0), some (vr 94), some (vi (x3 + 6))] [] σ28 post) ∧ (¬ z27 = z28 → post (some (vi 0)) σ28))))))) ∧ ((iAnd (sx xs x3) 63) = 12 → (0 ≤ (x3 + 1) ∧ (x3 + 1) < (n0 : Int)) ∧ (Cl mX11_at [vr 0, vi (sx xs (x3 + 1))] σ (pI fun z29 σ29 => Cl mX12_at [vr 94, vi (sx xs (x3 + 1))] σ29 (pI fun z30 σ30 => (rng z29) ∧ ((rng z30) ∧ ((z29 = z30 → VP (ΦL n0 xs) mL 18 [some (vr 500), some (vr 0), some (vr 94), some (vi (x3 + 6))] [] σ30 post) ∧ (¬ z29 = z30 → post (some (vi 0)) σ30))))))) ∧ ((iAnd (sx xs x3) 63) = 13 → (0 ≤ (x3 + 1) ∧ (x3 + 1) < (n0 : Int)) ∧ ((0 ≤ (x3 + 2) ∧ (x3 + 2) < (n0 : Int)) ∧ (Cl mX11_subAt [vr 0, vi (sx xs (x3 + 1)), vi (sx xs (x3 + 2))] σ (pI fun z31 σ31 => Cl mX12_subAt [vr 94, vi (sx xs (x3 + 1)), vi (sx xs (x3 + 2))] σ31 (pI fun z32 σ32 => (rng z31) ∧ ((rng z32) ∧ ((z31 = z32 → VP (ΦL n0 xs) mL 18 [some (vr 500), some (vr 0), some (vr 94), some (vi (x3 + 6))] [] σ32 post) ∧ (¬ z31 = z32 → post (some (vi 0)) σ32)))))))) ∧ ((iAnd (sx xs x3) 63) = 14 → (0 ≤ (x3 + 1) ∧ (x3 + 1) < (n0 : Int)) ∧ (Cl mX11_width [vr 0, vi (sx xs (x3 + 1))] σ (pI fun z33 σ33 => Cl mX12_width [vr 94, vi (sx xs (x3 + 1))] σ33 (pI fun z34 σ34 => (rng z33) ∧ ((rng z34) ∧ ((z33 = z34 → VP (ΦL n0 xs) mL 18 [some (vr 500), some (vr 0), some (vr 94), some (vi (x3 + 6))] [] σ34 post) ∧ (¬ z33 = z34 → post (some (vi 0)) σ34))))))) ∧ ((iAnd (sx xs x3) 63) = 15 → (0 ≤ (x3 + 1) ∧ (x3 + 1) < (n0 : Int)) ∧ (Cl mX11_print [vr 0, vi (sx xs (x3 + 1))] σ (pI fun z35 σ35 => Cl mX12_print [vr 94, vi (sx xs (x3 + 1))] σ35 (pI fun z36 σ36 => (rng z35) ∧ ((rng z36) ∧ ((z35 = z36 → VP (ΦL n0 xs) mL 18 [some (vr 500), some (vr 0), some (vr 94), some (vi (x3 + 6))] [] σ36 post) ∧ (¬ z35 = z36 → post (some (vi 0)) σ36))))))) ∧ ((iAnd (sx xs x3) 63) = 16 → (0 ≤ (x3 + 1) ∧ (x3 + 1) < (n0 : Int)) ∧ ((0 ≤ (x3 + 2) ∧ (x3 + 2) < (n0 : Int)) ∧ (Cl mX11_look [vr 0, vi (sx xs (x3 + 1)), vi (sx xs (x3 + 2))] σ (pI fun z37 σ37 => Cl mX12_look [vr 94, vi (sx xs (x3 + 1)), vi (sx xs (x3 + 2))] σ37 (pI fun z38 σ38 => (rng z37) ∧ ((rng z38) ∧ ((z37 = z38 → VP (ΦL n0 xs) mL 18 [some (vr 500), some (vr 0), some (vr 94), some (vi (x3 + 6))] [] σ38 post) ∧ (¬ z37 = z38 → post (some (vi 0)) σ38)))))))) ∧ ((iAnd (sx xs x3) 63) = 17 → (0 ≤ (x3 + 1) ∧ (x3 + 1) < (n0 : Int)) ∧ ((0 ≤ (x3 + 2) ∧ (x3 + 2) < (n0 : Int)) ∧ (Cl mX11_steps [vr 0, vi (sx xs (x3 + 1)), vi (sx xs (x3 + 2))] σ (pI fun z39 σ39 => Cl mX12_steps [vr 94, vi (sx xs (x3 + 1)), vi (sx xs (x3 + 2))] σ39 (pI fun z40 σ40 => (rng z39) ∧ ((rng z40) ∧ ((z39 = z40 → VP (ΦL n0 xs) mL 18 [some (vr 500), some (vr 0), some (vr 94), some (vi (x3 + 6))] [] σ40 post) ∧ (¬ z39 = z40 → post (some (vi 0)) σ40)))))))) ∧ ((iAnd (sx xs x3) 63) = 18 → (0 ≤ (x3 + 1) ∧ (x3 + 1) < (n0 : Int)) ∧ ((0 ≤ (x3 + 2) ∧ (x3 + 2) < (n0 : Int)) ∧ (Cl mX11_finds [vr 0, vi (sx xs (x3 + 1)), vi (sx xs (x3 + 2))] σ (pI fun z41 σ41 => Cl mX12_finds [vr 94, vi (sx xs (x3 + 1)), vi (sx xs (x3 + 2))] σ41 (pI fun z42 σ42 => (rng z41) ∧ ((rng z42) ∧ ((z41 = z42 → VP (ΦL n0 xs) mL 18 [some (vr 500), some (vr 0), some (vr 94), some (vi (x3 + 6))] [] σ42 post) ∧ (¬ z41 = z42 → post (some (vi 0)) σ42)))))))) ∧ ((iAnd (sx xs x3) 63) = 19 → (0 ≤ (x3 + 1) ∧ (x3 + 1) < (n0 : Int)) ∧ ((0 ≤ (x3 + 2) ∧ (x3 + 2) < (n0 : Int)) ∧ (Cl mX11_trouble [vr 0, vi (sx xs (x3 + 1)), vi (sx xs (x3 + 2))] σ (pI fun z43 σ43 => Cl mX12_trouble [vr 94, vi (sx xs (x3 + 1)), vi (sx xs (x3 + 2))] σ43 (pI fun z44 σ44 => (rng z43) ∧ ((rng z44) ∧ ((z43 = z44 → VP (ΦL n0 xs) mL 18 [some (vr 500), some (vr 0), some (vr 94), some (vi (x3 + 6))] [] σ44 post) ∧ (¬ z43 = z44 → post (some (vi 0)) σ44)))))))) ∧ ((iAnd (sx xs x3) 63) = 20 → (0 ≤ (x3 + 1) ∧ (x3 + 1) < (n0 : Int)) ∧ (Cl mX11_posted [vr 0, vi (sx xs (x3 + 1))] σ (pI fun z45 σ45 => Cl mX12_posted [vr 94, vi (sx xs (x3 + 1))] σ45 (pI fun z46 σ46 => (rng z45) ∧ ((rng z46) ∧ ((z45 = z46 → VP (ΦL n0 xs) mL 18 [some (vr 500), some (vr 0), some (vr 94), some (vi (x3 + 6))] [] σ46 post) ∧ (¬ z45 = z46 → post (some (vi 0)) σ46))))))) ∧ ((iAnd (sx xs x3) 63) = 21 → (0 ≤ (x3 + 1) ∧ (x3 + 1) < (n0 : Int)) ∧ ((0 ≤ (x3 + 2) ∧ (x3 + 2) < (n0 : Int)) ∧ (Cl mX11_posting [vr 0, vi (sx xs (x3 + 1)), vi (sx xs (x3 + 2))] σ (pI fun z47 σ47 => Cl mX12_posting [vr 94, vi (sx xs (x3 + 1)), vi (sx xs (x3 + 2))] σ47 (pI fun z48 σ48 => (rng z47) ∧ ((rng z48) ∧ ((z47 = z48 → VP (ΦL n0 xs) mL 18 [some (vr 500), some (vr 0), some (vr 94), some (vi (x3 + 6))] [] σ48 post) ∧ (¬ z47 = z48 → post (some (vi 0)) σ48)))))))) ∧ ((iAnd (sx xs x3) 63) = 22 → (0 ≤ (x3 + 1) ∧ (x3 + 1) < (n0 : Int)) ∧ ((0 ≤ (x3 + 2) ∧ (x3 + 2) < (n0 : Int)) ∧ (Cl mX11_fit [vr 0, vi (sx xs (x3 + 1)), vi (sx xs (x3 + 2))] σ (pI fun z49 σ49 => Cl mX12_fit [vr 94, vi (sx xs (x3 + 1)), vi (sx xs (x3 + 2))] σ49 (pI fun z50 σ50 => (rng z49) ∧ ((rng z50) ∧ ((z49 = z50 → VP (ΦL n0 xs) mL 18 [some (vr 500), some (vr 0), some (vr 94), some (vi (x3 + 6))] [] σ50 post) ∧ (¬ z49 = z50 → post (some (vi 0)) σ50)))))))) ∧ ((iAnd (sx xs x3) 63) = 23 → (0 ≤ (x3 + 1) ∧ (x3 + 1) < (n0 : Int)) ∧ ((0 ≤ (x3 + 2) ∧ (x3 + 2) < (n0 : Int)) ∧ (Cl mX11_putIn [vr 0, vi (sx xs (x3 + 1)), vi (sx xs (x3 + 2))] σ (pI fun z51 σ51 => Cl mX12_putIn [vr 94, vi (sx xs (x3 + 1)), vi (sx xs (x3 + 2))] σ51 (pI fun z52 σ52 => (rng z51) ∧ ((rng z52) ∧ ((z51 = z52 → VP (ΦL n0 xs) mL 18 [some (vr 500), some (vr 0), some (vr 94), some (vi (x3 + 6))] [] σ52 post) ∧ (¬ z51 = z52 → post (some (vi 0)) σ52)))))))) ∧ ((iAnd (sx xs x3) 63) = 24 → (0 ≤ (x3 + 1) ∧ (x3 + 1) < (n0 : Int)) ∧ ((0 ≤ (x3 + 2) ∧ (x3 + 2) < (n0 : Int)) ∧ (Cl mX11_takeOut [vr 0, vi (sx xs (x3 + 1)), vi (sx xs (x3 + 2))] σ (pI fun z53 σ53 => Cl mX12_takeOut [vr 94, vi (sx xs (x3 + 1)), vi (sx xs (x3 + 2))] σ53 (pI fun z54 σ54 => (rng z53) ∧ ((rng z54) ∧ ((z53 = z54 → VP (ΦL n0 xs) mL 18 [some (vr 500), some (vr 0), some (vr 94), some (vi (x3 + 6))] [] σ54 post) ∧ (¬ z53 = z54 → post (some (vi 0)) σ54)))))))) ∧ ((iAnd (sx xs x3) 63) = 25 → (0 ≤ (x3 + 1) ∧ (x3 + 1) < (n0 : Int)) ∧ (Cl mX11_stale [vr 0, vi (sx xs (x3 + 1))] σ (pI fun z55 σ55 => Cl mX12_stale [vr 94, vi (sx xs (x3 + 1))] σ55 (pI fun z56 σ56 => (rng z55) ∧ ((rng z56) ∧ ((z55 = z56 → VP (ΦL n0 xs) mL 18 [some (vr 500), some (vr 0), some (vr 94), some (vi (x3 + 6))] [] σ56 post) ∧ (¬ z55 = z56 → post (some (vi 0)) σ56))))))) ∧ ((iAnd (sx xs x3) 63) = 26 → (0 ≤ (x3 + 1) ∧ (x3 + 1) < (n0 : Int)) ∧ ((0 ≤ (x3 + 2) ∧ (x3 + 2) < (n0 : Int)) ∧ (Cl mX11_saw [vr 0, vi (sx xs (x3 + 1)), vi (sx xs (x3 + 2))] σ (pI fun z57 σ57 => Cl mX12_saw [vr 94, vi (sx xs (x3 + 1)), vi (sx xs (x3 + 2))] σ57 (pI fun z58 σ58 => (rng z57) ∧ ((rng z58) ∧ ((z57 = z58 → VP (ΦL n0 xs) mL 18 [some (vr 500), some (vr 0), some (vr 94), some (vi (x3 + 6))] [] σ58 post) ∧ (¬ z57 = z58 → post (some (vi 0)) σ58)))))))) ∧ ((iAnd (sx xs x3) 63) = 27 → Cl mX11_forget [vr 0] σ (pI fun z59 σ59 => Cl mX12_forget [vr 94] σ59 (pI fun z60 σ60 => (rng z59) ∧ ((rng z60) ∧ ((z59 = z60 → VP (ΦL n0 xs) mL 18 [some (vr 500), some (vr 0), some (vr 94), some (vi (x3 + 6))] [] σ60 post) ∧ (¬ z59 = z60 → post (some (vi 0)) σ60)))))) ∧ ((iAnd (sx xs x3) 63) = 28 → (0 ≤ (x3 + 1) ∧ (x3 + 1) < (n0 : Int)) ∧ ((0 ≤ (x3 + 2) ∧ (x3 + 2) < (n0 : Int)) ∧ (Cl mX11_story [vr 0, vi (sx xs (x3 + 1)), vi (sx xs (x3 + 2))] σ (pI fun z61 σ61 => Cl mX12_story [vr 94, vi (sx xs (x3 + 1)), vi (sx xs (x3 + 2))] σ61 (pI fun z62 σ62 => (rng z61) ∧ ((rng z62) ∧ ((z61 = z62 → VP (ΦL n0 xs) mL 18 [some (vr 500), some (vr 0), some (vr 94), some (vi (x3 + 6))] [] σ62 post) ∧ (¬ z61 = z62 → post (some (vi 0)) σ62)))))))) ∧ ((iAnd (sx xs x3) 63) = 29 → (0 ≤ (x3 + 1) ∧ (x3 + 1) < (n0 : Int)) ∧ ((0 ≤ (x3 + 2) ∧ (x3 + 2) < (n0 : Int)) ∧ (Cl mX11_near [vr 0, vi (sx xs (x3 + 1)), vi (sx xs (x3 + 2))] σ (pI fun z63 σ63 => Cl mX12_near [vr 94, vi (sx xs (x3 + 1)), vi (sx xs (x3 + 2))] σ63 (pI fun z64 σ64 => (rng z63) ∧ ((rng z64) ∧ ((z63 = z64 → VP (ΦL n0 xs) mL 18 [some (vr 500), some (vr 0), some (vr 94), some (vi (x3 + 6))] [] σ64 post) ∧ (¬ z63 = z64 → post (some (vi 0)) σ64)))))))) ∧ ((iAnd (sx xs x3) 63) = 30 → (0 ≤ (x3 + 1) ∧ (x3 + 1) < (n0 : Int)) ∧ ((0 ≤ (x3 + 2) ∧ (x3 + 2) < (n0 : Int)) ∧ (Cl mX11_join [vr 0, vi (sx xs (x3 + 1)), vi (sx xs (x3 + 2))] σ (pI fun z65 σ65 => Cl mX12_join [vr 94, vi (sx xs (x3 + 1)), vi (sx xs (x3 + 2))] σ65 (pI fun z66 σ66 => (rng z65) ∧ ((rng z66) ∧ ((z65 = z66 → VP (ΦL n0 xs) mL 18 [some (vr 500), some (vr 0), some (vr 94), some (vi (x3 + 6))] [] σ66 post) ∧ (¬ z65 = z66 → post (some (vi 0)) σ66)))))))) ∧ ((iAnd (sx xs x3) 63) = 31 → (0 ≤ (x3 + 1) ∧ (x3 + 1) < (n0 : Int)) ∧ (Cl mX11_keep [vr 0, vi (sx xs (x3 + 1))] σ (pI fun z67 σ67 => Cl mX12_keep [vr 94, vi (sx xs (x3 + 1))] σ67 (pI fun z68 σ68 => (rng z67) ∧ ((rng z68) ∧ ((z67 = z68 → VP (ΦL n0 xs) mL 18 [some (vr 500), some (vr 0), some (vr 94), some (vi (x3 + 6))] [] σ68 post) ∧ (¬ z67 = z68 → post (some (vi 0)) σ68))))))) ∧ ((iAnd (sx xs x3) 63) = 32 → (0 ≤ (x3 + 1) ∧ (x3 + 1) < (n0 : Int)) ∧ (Cl mX11_goBack [vr 0, vi (sx xs (x3 + 1))] σ (pI fun z69 σ69 => Cl mX12_goBack [vr 94, vi (sx xs (x3 + 1))] σ69 (pI fun z70 σ70 => (rng z69) ∧ ((rng z70) ∧ ((z69 = z70 → VP (ΦL n0 xs) mL 18 [some (vr 500), some (vr 0), some (vr 94), some (vi (x3 + 6))] [] σ70 post) ∧ (¬ z69 = z70 → post (some (vi 0)) σ70)))))))))))) :
  VP (ΦL n0 xs) mL 18 [some (vr 500), some (vr 0), some (vr 94), some (vi x3)] [] σ post := by
  refine V_iload_n dL_law_18 rfl rfl ?_
  refine V_aload_n dL_law_19 rfl rfl ?_
  refine V_sct dL_law_20 ?_
  refine V_bipush dL_law_21 (by decide) ?_
  refine V_isub dL_law_23 ?_
  obtain ⟨r1, h⟩ := h
  obtain ⟨r2, h⟩ := h
  refine V_icmp_gt (tgt := 1221) dL_law_24 rfl r1 r2 (fun q => ?_) (fun q => ?_)
  · replace h := h.1 q
    refine V_iconst dL_law_1221 ?_
    exact V_zreturn (stk := []) rfl dL_law_1222 (by decide) h
  · replace h := h.2 q
    refine V_aload_n dL_law_27 rfl rfl ?_
    refine V_iload_n dL_law_28 rfl rfl ?_
    obtain ⟨r3, h⟩ := h
    refine V_scl hn0 r3 dL_law_29 ?_
    refine V_bipush dL_law_30 (by decide) ?_
    refine V_iand dL_law_32 ?_
    refine V_tsw (dt := 1215) dL_law_33 (rng_of _) rfl rfl (fun q => ?_) (fun j off tgt hx ho ht hp => ?_) (by decide)
    · replace h := h.1 q
      refine V_iinc (L' := [some (vr 500), some (vr 0), some (vr 94), some (vi (x3 + 6))]) dL_law_1215 rfl (by decide) rfl ?_
      refine V_goto (tgt := 18) dL_law_1218 rfl ?_
      exact V.sub (SubL_s (SubL_s (SubL_s (SubL_s (SubL_0))))) h
    · rcases j with _ | _ | _ | _ | _ | _ | _ | _ | _ | _ | _ | _ | _ | _ | _ | _ | _ | _ | _ | _ | _ | _ | _ | _ | _ | _ | _ | _ | _ | _ | _ | _ | _ | j
      · have e9 : off = 147 := (Option.some.inj (show some (147 : Int) = some off from ho)).symm
        subst e9
        obtain rfl : tgt = 180 := by omega
        replace h := h.2.1 (by omega)
        refine V_aload_n dL_law_180 rfl rfl ?_
        refine V_aload_n dL_law_181 rfl rfl ?_
        refine V_iload_n dL_law_182 rfl rfl ?_
        refine V_iconst dL_law_183 ?_
        refine V_iadd dL_law_184 ?_
        obtain ⟨r4, h⟩ := h
        refine V_scl hn0 r4 dL_law_185 ?_
        refine V_aload_n dL_law_186 rfl rfl ?_
        refine V_iload_n dL_law_187 rfl rfl ?_
        refine V_iconst dL_law_188 ?_
        refine V_iadd dL_law_189 ?_
        obtain ⟨r5, h⟩ := h
        refine V_scl hn0 r5 dL_law_190 ?_
        obtain ⟨r6, h⟩ := h
        refine V_i2l dL_law_191 r6 ?_
        refine V_bipush dL_law_192 (by decide) ?_
        refine V_lshl dL_law_194 ?_
        refine V_aload_n dL_law_195 rfl rfl ?_
        refine V_iload_n dL_law_196 rfl rfl ?_
        refine V_iconst dL_law_197 ?_
        refine V_iadd dL_law_198 ?_
        obtain ⟨r7, h⟩ := h
        refine V_scl hn0 r7 dL_law_199 ?_
        obtain ⟨r8, h⟩ := h
        refine V_i2l dL_law_200 r8 ?_
        refine V_ldc2 dL_law_201 klL_13 ?_
        refine V_land dL_law_204 ?_
        refine V_lor dL_law_205 ?_
        refine V_callV (av := [vi (sx xs (x3 + 1)), vl (lOr (lShl (sx xs (x3 + 2)) 32) (lAnd (sx xs (x3 + 3)) 4294967295))]) (stk := []) cvL_15 rfl rfl rfl (by decide) (by simp [ctg]) dL_law_206 h ?_
        rintro _ σ1 ⟨z1, rfl, h⟩
        refine V_aload_n dL_law_209 rfl rfl ?_
        refine V_aload_n dL_law_210 rfl rfl ?_
        refine V_iload_n dL_law_211 rfl rfl ?_
        refine V_iconst dL_law_212 ?_
        refine V_iadd dL_law_213 ?_
        refine V_scl hn0 r4 dL_law_214 ?_
        refine V_aload_n dL_law_215 rfl rfl ?_
        refine V_iload_n dL_law_216 rfl rfl ?_
        refine V_iconst dL_law_217 ?_
        refine V_iadd dL_law_218 ?_
        refine V_scl hn0 r5 dL_law_219 ?_
        refine V_i2l dL_law_220 r6 ?_
        refine V_bipush dL_law_221 (by decide) ?_
        refine V_lshl dL_law_223 ?_
        refine V_aload_n dL_law_224 rfl rfl ?_
        refine V_iload_n dL_law_225 rfl rfl ?_
        refine V_iconst dL_law_226 ?_
        refine V_iadd dL_law_227 ?_
        refine V_scl hn0 r7 dL_law_228 ?_
        refine V_i2l dL_law_229 r8 ?_
        refine V_ldc2 dL_law_230 klL_13 ?_
        refine V_land dL_law_233 ?_
        refine V_lor dL_law_234 ?_
        refine V_callV (av := [vi (sx xs (x3 + 1)), vl (lOr (lShl (sx xs (x3 + 2)) 32) (lAnd (sx xs (x3 + 3)) 4294967295))]) (stk := [vi z1]) cvL_19 rfl rfl rfl (by decide) (by simp [ctg]) dL_law_235 h ?_
        rintro _ σ2 ⟨z2, rfl, h⟩
        obtain ⟨r9, h⟩ := h
        obtain ⟨r10, h⟩ := h
        refine V_icmp_eq (tgt := 1215) dL_law_238 rfl r9 r10 (fun q => ?_) (fun q => ?_)
        · replace h := h.1 q
          refine V_iinc (L' := [some (vr 500), some (vr 0), some (vr 94), some (vi (x3 + 6))]) dL_law_1215 rfl (by decide) rfl ?_
          refine V_goto (tgt := 18) dL_law_1218 rfl ?_
          exact V.sub (SubL_s (SubL_s (SubL_s (SubL_s (SubL_0))))) h
        · replace h := h.2 q
          refine V_iconst dL_law_241 ?_
          exact V_zreturn (stk := []) rfl dL_law_242 (by decide) h
      · have e9 : off = 210 := (Option.some.inj (show some (210 : Int) = some off from ho)).symm
        subst e9
        obtain rfl : tgt = 243 := by omega
        replace h := h.2.2.1 (by omega)
        refine V_aload_n dL_law_243 rfl rfl ?_
        refine V_callV (av := []) (stk := []) cvL_20 rfl rfl rfl (by decide) (by simp [ctg]) dL_law_244 h ?_
        rintro _ σ3 ⟨z3, rfl, h⟩
        refine V_aload_n dL_law_247 rfl rfl ?_
        refine V_callV (av := []) (stk := [vi z3]) cvL_24 rfl rfl rfl (by decide) (by simp [ctg]) dL_law_248 h ?_
        rintro _ σ4 ⟨z4, rfl, h⟩
        obtain ⟨r11, h⟩ := h
        obtain ⟨r12, h⟩ := h
        refine V_icmp_eq (tgt := 1215) dL_law_251 rfl r11 r12 (fun q => ?_) (fun q => ?_)
        · replace h := h.1 q
          refine V_iinc (L' := [some (vr 500), some (vr 0), some (vr 94), some (vi (x3 + 6))]) dL_law_1215 rfl (by decide) rfl ?_
          refine V_goto (tgt := 18) dL_law_1218 rfl ?_
          exact V.sub (SubL_s (SubL_s (SubL_s (SubL_s (SubL_0))))) h
        · replace h := h.2 q
          refine V_iconst dL_law_254 ?_
          exact V_zreturn (stk := []) rfl dL_law_255 (by decide) h
      · have e9 : off = 223 := (Option.some.inj (show some (223 : Int) = some off from ho)).symm
        subst e9
        obtain rfl : tgt = 256 := by omega
        replace h := h.2.2.2.1 (by omega)
        refine V_aload_n dL_law_256 rfl rfl ?_
        refine V_callV (av := []) (stk := []) cvL_25 rfl rfl rfl (by decide) (by simp [ctg]) dL_law_257 h ?_
        rintro _ σ5 ⟨z5, rfl, h⟩
        refine V_aload_n dL_law_260 rfl rfl ?_
        refine V_callV (av := []) (stk := [vi z5]) cvL_28 rfl rfl rfl (by decide) (by simp [ctg]) dL_law_261 h ?_
        rintro _ σ6 ⟨z6, rfl, h⟩
        obtain ⟨r13, h⟩ := h
        obtain ⟨r14, h⟩ := h
        refine V_icmp_eq (tgt := 1215) dL_law_264 rfl r13 r14 (fun q => ?_) (fun q => ?_)
        · replace h := h.1 q
          refine V_iinc (L' := [some (vr 500), some (vr 0), some (vr 94), some (vi (x3 + 6))]) dL_law_1215 rfl (by decide) rfl ?_
          refine V_goto (tgt := 18) dL_law_1218 rfl ?_
          exact V.sub (SubL_s (SubL_s (SubL_s (SubL_s (SubL_0))))) h
        · replace h := h.2 q
          refine V_iconst dL_law_267 ?_
          exact V_zreturn (stk := []) rfl dL_law_268 (by decide) h
      · have e9 : off = 236 := (Option.some.inj (show some (236 : Int) = some off from ho)).symm
        subst e9
        obtain rfl : tgt = 269 := by omega
        replace h := h.2.2.2.2.1 (by omega)
        refine V_aload_n dL_law_269 rfl rfl ?_
        refine V_aload_n dL_law_270 rfl rfl ?_
        refine V_iload_n dL_law_271 rfl rfl ?_
        refine V_iconst dL_law_272 ?_
        refine V_iadd dL_law_273 ?_
        obtain ⟨r15, h⟩ := h
        refine V_scl hn0 r15 dL_law_274 ?_
        refine V_callV (av := [vi (sx xs (x3 + 1))]) (stk := []) cvL_29 rfl rfl rfl (by decide) (by simp [ctg]) dL_law_275 h ?_
        rintro _ σ7 ⟨z7, rfl, h⟩
        refine V_aload_n dL_law_278 rfl rfl ?_
        refine V_aload_n dL_law_279 rfl rfl ?_
        refine V_iload_n dL_law_280 rfl rfl ?_
        refine V_iconst dL_law_281 ?_
        refine V_iadd dL_law_282 ?_
        refine V_scl hn0 r15 dL_law_283 ?_
        refine V_callV (av := [vi (sx xs (x3 + 1))]) (stk := [vi z7]) cvL_33 rfl rfl rfl (by decide) (by simp [ctg]) dL_law_284 h ?_
        rintro _ σ8 ⟨z8, rfl, h⟩
        obtain ⟨r16, h⟩ := h
        obtain ⟨r17, h⟩ := h
        refine V_icmp_eq (tgt := 1215) dL_law_287 rfl r16 r17 (fun q => ?_) (fun q => ?_)
        · replace h := h.1 q
          refine V_iinc (L' := [some (vr 500), some (vr 0), some (vr 94), some (vi (x3 + 6))]) dL_law_1215 rfl (by decide) rfl ?_
          refine V_goto (tgt := 18) dL_law_1218 rfl ?_
          exact V.sub (SubL_s (SubL_s (SubL_s (SubL_s (SubL_0))))) h
        · replace h := h.2 q
          refine V_iconst dL_law_290 ?_
          exact V_zreturn (stk := []) rfl dL_law_291 (by decide) h
      · have e9 : off = 259 := (Option.some.inj (show some (259 : Int) = some off from ho)).symm
        subst e9
        obtain rfl : tgt = 292 := by omega
        replace h := h.2.2.2.2.2.1 (by omega)
        refine V_aload_n dL_law_292 rfl rfl ?_
        refine V_aload_n dL_law_293 rfl rfl ?_
        refine V_iload_n dL_law_294 rfl rfl ?_
        refine V_iconst dL_law_295 ?_
        refine V_iadd dL_law_296 ?_
        obtain ⟨r18, h⟩ := h
        refine V_scl hn0 r18 dL_law_297 ?_
        refine V_aload_n dL_law_298 rfl rfl ?_
        refine V_iload_n dL_law_299 rfl rfl ?_
        refine V_iconst dL_law_300 ?_
        refine V_iadd dL_law_301 ?_
        obtain ⟨r19, h⟩ := h
        refine V_scl hn0 r19 dL_law_302 ?_
        refine V_callV (av := [vi (sx xs (x3 + 1)), vi (sx xs (x3 + 2))]) (stk := []) cvL_34 rfl rfl rfl (by decide) (by simp [ctg]) dL_law_303 h ?_
        rintro _ σ9 ⟨z9, rfl, h⟩
        refine V_aload_n dL_law_306 rfl rfl ?_
        refine V_aload_n dL_law_307 rfl rfl ?_
        refine V_iload_n dL_law_308 rfl rfl ?_
        refine V_iconst dL_law_309 ?_
        refine V_iadd dL_law_310 ?_
        refine V_scl hn0 r18 dL_law_311 ?_
        refine V_aload_n dL_law_312 rfl rfl ?_
        refine V_iload_n dL_law_313 rfl rfl ?_
        refine V_iconst dL_law_314 ?_
        refine V_iadd dL_law_315 ?_
        refine V_scl hn0 r19 dL_law_316 ?_
        refine V_callV (av := [vi (sx xs (x3 + 1)), vi (sx xs (x3 + 2))]) (stk := [vi z9]) cvL_38 rfl rfl rfl (by decide) (by simp [ctg]) dL_law_317 h ?_
        rintro _ σ10 ⟨z10, rfl, h⟩
        obtain ⟨r20, h⟩ := h
        obtain ⟨r21, h⟩ := h
        refine V_icmp_eq (tgt := 1215) dL_law_320 rfl r20 r21 (fun q => ?_) (fun q => ?_)
        · replace h := h.1 q
          refine V_iinc (L' := [some (vr 500), some (vr 0), some (vr 94), some (vi (x3 + 6))]) dL_law_1215 rfl (by decide) rfl ?_
          refine V_goto (tgt := 18) dL_law_1218 rfl ?_
          exact V.sub (SubL_s (SubL_s (SubL_s (SubL_s (SubL_0))))) h
        · replace h := h.2 q
          refine V_iconst dL_law_323 ?_
          exact V_zreturn (stk := []) rfl dL_law_324 (by decide) h
      · have e9 : off = 292 := (Option.some.inj (show some (292 : Int) = some off from ho)).symm
        subst e9
        obtain rfl : tgt = 325 := by omega
        replace h := h.2.2.2.2.2.2.1 (by omega)
        refine V_aload_n dL_law_325 rfl rfl ?_
        refine V_aload_n dL_law_326 rfl rfl ?_
        refine V_iload_n dL_law_327 rfl rfl ?_
        refine V_iconst dL_law_328 ?_
        refine V_iadd dL_law_329 ?_
        obtain ⟨r22, h⟩ := h
        refine V_scl hn0 r22 dL_law_330 ?_
        refine V_aload_n dL_law_331 rfl rfl ?_
        refine V_iload_n dL_law_332 rfl rfl ?_
        refine V_iconst dL_law_333 ?_
        refine V_iadd dL_law_334 ?_
        obtain ⟨r23, h⟩ := h
        refine V_scl hn0 r23 dL_law_335 ?_
        refine V_aload_n dL_law_336 rfl rfl ?_
        refine V_iload_n dL_law_337 rfl rfl ?_
        refine V_iconst dL_law_338 ?_
        refine V_iadd dL_law_339 ?_
        obtain ⟨r24, h⟩ := h
        refine V_scl hn0 r24 dL_law_340 ?_
        refine V_callV (av := [vi (sx xs (x3 + 1)), vi (sx xs (x3 + 2)), vi (sx xs (x3 + 3))]) (stk := []) cvL_39 rfl rfl rfl (by decide) (by simp [ctg]) dL_law_341 h ?_
        rintro _ σ11 ⟨z11, rfl, h⟩
        refine V_aload_n dL_law_344 rfl rfl ?_
        refine V_aload_n dL_law_345 rfl rfl ?_
        refine V_iload_n dL_law_346 rfl rfl ?_
        refine V_iconst dL_law_347 ?_
        refine V_iadd dL_law_348 ?_
        refine V_scl hn0 r22 dL_law_349 ?_
        refine V_aload_n dL_law_350 rfl rfl ?_
        refine V_iload_n dL_law_351 rfl rfl ?_
        refine V_iconst dL_law_352 ?_
        refine V_iadd dL_law_353 ?_
        refine V_scl hn0 r23 dL_law_354 ?_
        refine V_aload_n dL_law_355 rfl rfl ?_
        refine V_iload_n dL_law_356 rfl rfl ?_
        refine V_iconst dL_law_357 ?_
        refine V_iadd dL_law_358 ?_
        refine V_scl hn0 r24 dL_law_359 ?_
        refine V_callV (av := [vi (sx xs (x3 + 1)), vi (sx xs (x3 + 2)), vi (sx xs (x3 + 3))]) (stk := [vi z11]) cvL_43 rfl rfl rfl (by decide) (by simp [ctg]) dL_law_360 h ?_
        rintro _ σ12 ⟨z12, rfl, h⟩
        obtain ⟨r25, h⟩ := h
        obtain ⟨r26, h⟩ := h
        refine V_icmp_eq (tgt := 1215) dL_law_363 rfl r25 r26 (fun q => ?_) (fun q => ?_)
        · replace h := h.1 q
          refine V_iinc (L' := [some (vr 500), some (vr 0), some (vr 94), some (vi (x3 + 6))]) dL_law_1215 rfl (by decide) rfl ?_
          refine V_goto (tgt := 18) dL_law_1218 rfl ?_
          exact V.sub (SubL_s (SubL_s (SubL_s (SubL_s (SubL_0))))) h
        · replace h := h.2 q
          refine V_iconst dL_law_366 ?_
          exact V_zreturn (stk := []) rfl dL_law_367 (by decide) h
      · have e9 : off = 335 := (Option.some.inj (show some (335 : Int) = some off from ho)).symm
        subst e9
        obtain rfl : tgt = 368 := by omega
        replace h := h.2.2.2.2.2.2.2.1 (by omega)
        refine V_aload_n dL_law_368 rfl rfl ?_
        refine V_aload_n dL_law_369 rfl rfl ?_
        refine V_iload_n dL_law_370 rfl rfl ?_
        refine V_iconst dL_law_371 ?_
        refine V_iadd dL_law_372 ?_
        obtain ⟨r27, h⟩ := h
        refine V_scl hn0 r27 dL_law_373 ?_
        refine V_aload_n dL_law_374 rfl rfl ?_
        refine V_iload_n dL_law_375 rfl rfl ?_
        refine V_iconst dL_law_376 ?_
        refine V_iadd dL_law_377 ?_
        obtain ⟨r28, h⟩ := h
        refine V_scl hn0 r28 dL_law_378 ?_
        refine V_callV (av := [vi (sx xs (x3 + 1)), vi (sx xs (x3 + 2))]) (stk := []) cvL_44 rfl rfl rfl (by decide) (by simp [ctg]) dL_law_379 h ?_
        rintro _ σ13 ⟨z13, rfl, h⟩
        refine V_aload_n dL_law_382 rfl rfl ?_
        refine V_aload_n dL_law_383 rfl rfl ?_
        refine V_iload_n dL_law_384 rfl rfl ?_
        refine V_iconst dL_law_385 ?_
        refine V_iadd dL_law_386 ?_
        refine V_scl hn0 r27 dL_law_387 ?_
        refine V_aload_n dL_law_388 rfl rfl ?_
        refine V_iload_n dL_law_389 rfl rfl ?_
        refine V_iconst dL_law_390 ?_
        refine V_iadd dL_law_391 ?_
        refine V_scl hn0 r28 dL_law_392 ?_
        refine V_callV (av := [vi (sx xs (x3 + 1)), vi (sx xs (x3 + 2))]) (stk := [vi z13]) cvL_47 rfl rfl rfl (by decide) (by simp [ctg]) dL_law_393 h ?_
        rintro _ σ14 ⟨z14, rfl, h⟩
        obtain ⟨r29, h⟩ := h
        obtain ⟨r30, h⟩ := h
        refine V_icmp_eq (tgt := 1215) dL_law_396 rfl r29 r30 (fun q => ?_) (fun q => ?_)
        · replace h := h.1 q
          refine V_iinc (L' := [some (vr 500), some (vr 0), some (vr 94), some (vi (x3 + 6))]) dL_law_1215 rfl (by decide) rfl ?_
          refine V_goto (tgt := 18) dL_law_1218 rfl ?_
          exact V.sub (SubL_s (SubL_s (SubL_s (SubL_s (SubL_0))))) h
        · replace h := h.2 q
          refine V_iconst dL_law_399 ?_
          exact V_zreturn (stk := []) rfl dL_law_400 (by decide) h
      · have e9 : off = 368 := (Option.some.inj (show some (368 : Int) = some off from ho)).symm
        subst e9
        obtain rfl : tgt = 401 := by omega
        replace h := h.2.2.2.2.2.2.2.2.1 (by omega)
        refine V_aload_n dL_law_401 rfl rfl ?_
        refine V_aload_n dL_law_402 rfl rfl ?_
        refine V_iload_n dL_law_403 rfl rfl ?_
        refine V_iconst dL_law_404 ?_
        refine V_iadd dL_law_405 ?_
        obtain ⟨r31, h⟩ := h
        refine V_scl hn0 r31 dL_law_406 ?_
        refine V_aload_n dL_law_407 rfl rfl ?_
        refine V_iload_n dL_law_408 rfl rfl ?_
        refine V_iconst dL_law_409 ?_
        refine V_iadd dL_law_410 ?_
        obtain ⟨r32, h⟩ := h
        refine V_scl hn0 r32 dL_law_411 ?_
        refine V_aload_n dL_law_412 rfl rfl ?_
        refine V_iload_n dL_law_413 rfl rfl ?_
        refine V_iconst dL_law_414 ?_
        refine V_iadd dL_law_415 ?_
        obtain ⟨r33, h⟩ := h
        refine V_scl hn0 r33 dL_law_416 ?_
        refine V_aload_n dL_law_417 rfl rfl ?_
        refine V_iload_n dL_law_418 rfl rfl ?_
        refine V_iconst dL_law_419 ?_
        refine V_iadd dL_law_420 ?_
        obtain ⟨r34, h⟩ := h
        refine V_scl hn0 r34 dL_law_421 ?_
        refine V_aload_n dL_law_422 rfl rfl ?_
        refine V_iload_n dL_law_423 rfl rfl ?_
        refine V_iconst dL_law_424 ?_
        refine V_iadd dL_law_425 ?_
        obtain ⟨r35, h⟩ := h
        refine V_scl hn0 r35 dL_law_426 ?_
        obtain ⟨r36, h⟩ := h
        refine V_if_eq (tgt := 434) dL_law_427 rfl r36 (fun q => ?_) (fun q => ?_)
        · replace h := h.1 q
          refine V_iconst dL_law_434 ?_
          refine V_callV (av := [vi (sx xs (x3 + 1)), vi (sx xs (x3 + 2)), vi (sx xs (x3 + 3)), vi (sx xs (x3 + 4)), vi 0]) (stk := []) cvL_48 rfl rfl rfl (by decide) (by simp [ctg]) dL_law_435 h ?_
          rintro _ σ15 ⟨z15, rfl, h⟩
          refine V_aload_n dL_law_438 rfl rfl ?_
          refine V_aload_n dL_law_439 rfl rfl ?_
          refine V_iload_n dL_law_440 rfl rfl ?_
          refine V_iconst dL_law_441 ?_
          refine V_iadd dL_law_442 ?_
          refine V_scl hn0 r31 dL_law_443 ?_
          refine V_aload_n dL_law_444 rfl rfl ?_
          refine V_iload_n dL_law_445 rfl rfl ?_
          refine V_iconst dL_law_446 ?_
          refine V_iadd dL_law_447 ?_
          refine V_scl hn0 r32 dL_law_448 ?_
          refine V_aload_n dL_law_449 rfl rfl ?_
          refine V_iload_n dL_law_450 rfl rfl ?_
          refine V_iconst dL_law_451 ?_
          refine V_iadd dL_law_452 ?_
          refine V_scl hn0 r33 dL_law_453 ?_
          refine V_aload_n dL_law_454 rfl rfl ?_
          refine V_iload_n dL_law_455 rfl rfl ?_
          refine V_iconst dL_law_456 ?_
          refine V_iadd dL_law_457 ?_
          refine V_scl hn0 r34 dL_law_458 ?_
          refine V_aload_n dL_law_459 rfl rfl ?_
          refine V_iload_n dL_law_460 rfl rfl ?_
          refine V_iconst dL_law_461 ?_
          refine V_iadd dL_law_462 ?_
          refine V_scl hn0 r35 dL_law_463 ?_
          refine V_if_eq (tgt := 471) dL_law_464 rfl r36 (fun q => ?_) (fun q => ?_)
          · replace h := h.1 q
            refine V_iconst dL_law_471 ?_
            refine V_callV (av := [vi (sx xs (x3 + 1)), vi (sx xs (x3 + 2)), vi (sx xs (x3 + 3)), vi (sx xs (x3 + 4)), vi 0]) (stk := [vi z15]) cvL_52 rfl rfl rfl (by decide) (by simp [ctg]) dL_law_472 h ?_
            rintro _ σ16 ⟨z16, rfl, h⟩
            obtain ⟨r37, h⟩ := h
            obtain ⟨r38, h⟩ := h
            refine V_icmp_eq (tgt := 1215) dL_law_475 rfl r37 r38 (fun q => ?_) (fun q => ?_)
            · replace h := h.1 q
              refine V_iinc (L' := [some (vr 500), some (vr 0), some (vr 94), some (vi (x3 + 6))]) dL_law_1215 rfl (by decide) rfl ?_
              refine V_goto (tgt := 18) dL_law_1218 rfl ?_
              exact V.sub (SubL_s (SubL_s (SubL_s (SubL_s (SubL_0))))) h
            · replace h := h.2 q
              refine V_iconst dL_law_478 ?_
              exact V_zreturn (stk := []) rfl dL_law_479 (by decide) h
          · replace h := h.2 q
            refine V_iconst dL_law_467 ?_
            refine V_goto (tgt := 472) dL_law_468 rfl ?_
            refine V_callV (av := [vi (sx xs (x3 + 1)), vi (sx xs (x3 + 2)), vi (sx xs (x3 + 3)), vi (sx xs (x3 + 4)), vi 1]) (stk := [vi z15]) cvL_52 rfl rfl rfl (by decide) (by simp [ctg]) dL_law_472 h ?_
            rintro _ σ17 ⟨z17, rfl, h⟩
            obtain ⟨r39, h⟩ := h
            obtain ⟨r40, h⟩ := h
            refine V_icmp_eq (tgt := 1215) dL_law_475 rfl r39 r40 (fun q => ?_) (fun q => ?_)
            · replace h := h.1 q
              refine V_iinc (L' := [some (vr 500), some (vr 0), some (vr 94), some (vi (x3 + 6))]) dL_law_1215 rfl (by decide) rfl ?_
              refine V_goto (tgt := 18) dL_law_1218 rfl ?_
              exact V.sub (SubL_s (SubL_s (SubL_s (SubL_s (SubL_0))))) h
            · replace h := h.2 q
              refine V_iconst dL_law_478 ?_
              exact V_zreturn (stk := []) rfl dL_law_479 (by decide) h
        · replace h := h.2 q
          refine V_iconst dL_law_430 ?_
          refine V_goto (tgt := 435) dL_law_431 rfl ?_
          refine V_callV (av := [vi (sx xs (x3 + 1)), vi (sx xs (x3 + 2)), vi (sx xs (x3 + 3)), vi (sx xs (x3 + 4)), vi 1]) (stk := []) cvL_48 rfl rfl rfl (by decide) (by simp [ctg]) dL_law_435 h ?_
          rintro _ σ18 ⟨z18, rfl, h⟩
          refine V_aload_n dL_law_438 rfl rfl ?_
          refine V_aload_n dL_law_439 rfl rfl ?_
          refine V_iload_n dL_law_440 rfl rfl ?_
          refine V_iconst dL_law_441 ?_
          refine V_iadd dL_law_442 ?_
          refine V_scl hn0 r31 dL_law_443 ?_
          refine V_aload_n dL_law_444 rfl rfl ?_
          refine V_iload_n dL_law_445 rfl rfl ?_
          refine V_iconst dL_law_446 ?_
          refine V_iadd dL_law_447 ?_
          refine V_scl hn0 r32 dL_law_448 ?_
          refine V_aload_n dL_law_449 rfl rfl ?_
          refine V_iload_n dL_law_450 rfl rfl ?_
          refine V_iconst dL_law_451 ?_
          refine V_iadd dL_law_452 ?_
          refine V_scl hn0 r33 dL_law_453 ?_
          refine V_aload_n dL_law_454 rfl rfl ?_
          refine V_iload_n dL_law_455 rfl rfl ?_
          refine V_iconst dL_law_456 ?_
          refine V_iadd dL_law_457 ?_
          refine V_scl hn0 r34 dL_law_458 ?_
          refine V_aload_n dL_law_459 rfl rfl ?_
          refine V_iload_n dL_law_460 rfl rfl ?_
          refine V_iconst dL_law_461 ?_
          refine V_iadd dL_law_462 ?_
          refine V_scl hn0 r35 dL_law_463 ?_
          refine V_if_eq (tgt := 471) dL_law_464 rfl r36 (fun q => ?_) (fun q => ?_)
          · replace h := h.1 q
            refine V_iconst dL_law_471 ?_
            refine V_callV (av := [vi (sx xs (x3 + 1)), vi (sx xs (x3 + 2)), vi (sx xs (x3 + 3)), vi (sx xs (x3 + 4)), vi 0]) (stk := [vi z18]) cvL_52 rfl rfl rfl (by decide) (by simp [ctg]) dL_law_472 h ?_
            rintro _ σ19 ⟨z19, rfl, h⟩
            obtain ⟨r41, h⟩ := h
            obtain ⟨r42, h⟩ := h
            refine V_icmp_eq (tgt := 1215) dL_law_475 rfl r41 r42 (fun q => ?_) (fun q => ?_)
            · replace h := h.1 q
              refine V_iinc (L' := [some (vr 500), some (vr 0), some (vr 94), some (vi (x3 + 6))]) dL_law_1215 rfl (by decide) rfl ?_
              refine V_goto (tgt := 18) dL_law_1218 rfl ?_
              exact V.sub (SubL_s (SubL_s (SubL_s (SubL_s (SubL_0))))) h
            · replace h := h.2 q
              refine V_iconst dL_law_478 ?_
              exact V_zreturn (stk := []) rfl dL_law_479 (by decide) h
          · replace h := h.2 q
            refine V_iconst dL_law_467 ?_
            refine V_goto (tgt := 472) dL_law_468 rfl ?_
            refine V_callV (av := [vi (sx xs (x3 + 1)), vi (sx xs (x3 + 2)), vi (sx xs (x3 + 3)), vi (sx xs (x3 + 4)), vi 1]) (stk := [vi z18]) cvL_52 rfl rfl rfl (by decide) (by simp [ctg]) dL_law_472 h ?_
            rintro _ σ20 ⟨z20, rfl, h⟩
            obtain ⟨r43, h⟩ := h
            obtain ⟨r44, h⟩ := h
            refine V_icmp_eq (tgt := 1215) dL_law_475 rfl r43 r44 (fun q => ?_) (fun q => ?_)
            · replace h := h.1 q
              refine V_iinc (L' := [some (vr 500), some (vr 0), some (vr 94), some (vi (x3 + 6))]) dL_law_1215 rfl (by decide) rfl ?_
              refine V_goto (tgt := 18) dL_law_1218 rfl ?_
              exact V.sub (SubL_s (SubL_s (SubL_s (SubL_s (SubL_0))))) h
            · replace h := h.2 q
              refine V_iconst dL_law_478 ?_
              exact V_zreturn (stk := []) rfl dL_law_479 (by decide) h
      · have e9 : off = 447 := (Option.some.inj (show some (447 : Int) = some off from ho)).symm
        subst e9
        obtain rfl : tgt = 480 := by omega
        replace h := h.2.2.2.2.2.2.2.2.2.1 (by omega)
        refine V_aload_n dL_law_480 rfl rfl ?_
        refine V_aload_n dL_law_481 rfl rfl ?_
        refine V_iload_n dL_law_482 rfl rfl ?_
        refine V_iconst dL_law_483 ?_
        refine V_iadd dL_law_484 ?_
        obtain ⟨r45, h⟩ := h
        refine V_scl hn0 r45 dL_law_485 ?_
        refine V_callV (av := [vi (sx xs (x3 + 1))]) (stk := []) cvL_53 rfl rfl rfl (by decide) (by simp [ctg]) dL_law_486 h ?_
        rintro _ σ21 ⟨z21, rfl, h⟩
        refine V_aload_n dL_law_489 rfl rfl ?_
        refine V_aload_n dL_law_490 rfl rfl ?_
        refine V_iload_n dL_law_491 rfl rfl ?_
        refine V_iconst dL_law_492 ?_
        refine V_iadd dL_law_493 ?_
        refine V_scl hn0 r45 dL_law_494 ?_
        refine V_callV (av := [vi (sx xs (x3 + 1))]) (stk := [vi z21]) cvL_56 rfl rfl rfl (by decide) (by simp [ctg]) dL_law_495 h ?_
        rintro _ σ22 ⟨z22, rfl, h⟩
        obtain ⟨r46, h⟩ := h
        obtain ⟨r47, h⟩ := h
        refine V_icmp_eq (tgt := 1215) dL_law_498 rfl r46 r47 (fun q => ?_) (fun q => ?_)
        · replace h := h.1 q
          refine V_iinc (L' := [some (vr 500), some (vr 0), some (vr 94), some (vi (x3 + 6))]) dL_law_1215 rfl (by decide) rfl ?_
          refine V_goto (tgt := 18) dL_law_1218 rfl ?_
          exact V.sub (SubL_s (SubL_s (SubL_s (SubL_s (SubL_0))))) h
        · replace h := h.2 q
          refine V_iconst dL_law_501 ?_
          exact V_zreturn (stk := []) rfl dL_law_502 (by decide) h
      · have e9 : off = 470 := (Option.some.inj (show some (470 : Int) = some off from ho)).symm
        subst e9
        obtain rfl : tgt = 503 := by omega
        replace h := h.2.2.2.2.2.2.2.2.2.2.1 (by omega)
        refine V_aload_n dL_law_503 rfl rfl ?_
        refine V_aload_n dL_law_504 rfl rfl ?_
        refine V_iload_n dL_law_505 rfl rfl ?_
        refine V_iconst dL_law_506 ?_
        refine V_iadd dL_law_507 ?_
        obtain ⟨r48, h⟩ := h
        refine V_scl hn0 r48 dL_law_508 ?_
        refine V_aload_n dL_law_509 rfl rfl ?_
        refine V_iload_n dL_law_510 rfl rfl ?_
        refine V_iconst dL_law_511 ?_
        refine V_iadd dL_law_512 ?_
        obtain ⟨r49, h⟩ := h
        refine V_scl hn0 r49 dL_law_513 ?_
        refine V_callV (av := [vi (sx xs (x3 + 1)), vi (sx xs (x3 + 2))]) (stk := []) cvL_57 rfl rfl rfl (by decide) (by simp [ctg]) dL_law_514 h ?_
        rintro _ σ23 ⟨z23, rfl, h⟩
        refine V_aload_n dL_law_517 rfl rfl ?_
        refine V_aload_n dL_law_518 rfl rfl ?_
        refine V_iload_n dL_law_519 rfl rfl ?_
        refine V_iconst dL_law_520 ?_
        refine V_iadd dL_law_521 ?_
        refine V_scl hn0 r48 dL_law_522 ?_
        refine V_aload_n dL_law_523 rfl rfl ?_
        refine V_iload_n dL_law_524 rfl rfl ?_
        refine V_iconst dL_law_525 ?_
        refine V_iadd dL_law_526 ?_
        refine V_scl hn0 r49 dL_law_527 ?_
        refine V_callV (av := [vi (sx xs (x3 + 1)), vi (sx xs (x3 + 2))]) (stk := [vi z23]) cvL_60 rfl rfl rfl (by decide) (by simp [ctg]) dL_law_528 h ?_
        rintro _ σ24 ⟨z24, rfl, h⟩
        obtain ⟨r50, h⟩ := h
        obtain ⟨r51, h⟩ := h
        refine V_icmp_eq (tgt := 1215) dL_law_531 rfl r50 r51 (fun q => ?_) (fun q => ?_)
        · replace h := h.1 q
          refine V_iinc (L' := [some (vr 500), some (vr 0), some (vr 94), some (vi (x3 + 6))]) dL_law_1215 rfl (by decide) rfl ?_
          refine V_goto (tgt := 18) dL_law_1218 rfl ?_
          exact V.sub (SubL_s (SubL_s (SubL_s (SubL_s (SubL_0))))) h
        · replace h := h.2 q
          refine V_iconst dL_law_534 ?_
          exact V_zreturn (stk := []) rfl dL_law_535 (by decide) h
      · have e9 : off = 503 := (Option.some.inj (show some (503 : Int) = some off from ho)).symm
        subst e9
        obtain rfl : tgt = 536 := by omega
        replace h := h.2.2.2.2.2.2.2.2.2.2.2.1 (by omega)
        refine V_aload_n dL_law_536 rfl rfl ?_
        refine V_aload_n dL_law_537 rfl rfl ?_
        refine V_iload_n dL_law_538 rfl rfl ?_
        refine V_iconst dL_law_539 ?_
        refine V_iadd dL_law_540 ?_
        obtain ⟨r52, h⟩ := h
        refine V_scl hn0 r52 dL_law_541 ?_
        refine V_aload_n dL_law_542 rfl rfl ?_
        refine V_iload_n dL_law_543 rfl rfl ?_
        refine V_iconst dL_law_544 ?_
        refine V_iadd dL_law_545 ?_
        obtain ⟨r53, h⟩ := h
        refine V_scl hn0 r53 dL_law_546 ?_
        refine V_aload_n dL_law_547 rfl rfl ?_
        refine V_iload_n dL_law_548 rfl rfl ?_
        refine V_iconst dL_law_549 ?_
        refine V_iadd dL_law_550 ?_
        obtain ⟨r54, h⟩ := h
        refine V_scl hn0 r54 dL_law_551 ?_
        refine V_aload_n dL_law_552 rfl rfl ?_
        refine V_iload_n dL_law_553 rfl rfl ?_
        refine V_iconst dL_law_554 ?_
        refine V_iadd dL_law_555 ?_
        obtain ⟨r55, h⟩ := h
        refine V_scl hn0 r55 dL_law_556 ?_
        refine V_callV (av := [vi (sx xs (x3 + 1)), vi (sx xs (x3 + 2)), vi (sx xs (x3 + 3)), vi (sx xs (x3 + 4))]) (stk := []) cvL_61 rfl rfl rfl (by decide) (by simp [ctg]) dL_law_557 h ?_
        rintro _ σ25 ⟨z25, rfl, h⟩
        refine V_aload_n dL_law_560 rfl rfl ?_
        refine V_aload_n dL_law_561 rfl rfl ?_
        refine V_iload_n dL_law_562 rfl rfl ?_
        refine V_iconst dL_law_563 ?_
        refine V_iadd dL_law_564 ?_
        refine V_scl hn0 r52 dL_law_565 ?_
        refine V_aload_n dL_law_566 rfl rfl ?_
        refine V_iload_n dL_law_567 rfl rfl ?_
        refine V_iconst dL_law_568 ?_
        refine V_iadd dL_law_569 ?_
        refine V_scl hn0 r53 dL_law_570 ?_
        refine V_aload_n dL_law_571 rfl rfl ?_
        refine V_iload_n dL_law_572 rfl rfl ?_
        refine V_iconst dL_law_573 ?_
        refine V_iadd dL_law_574 ?_
        refine V_scl hn0 r54 dL_law_575 ?_
        refine V_aload_n dL_law_576 rfl rfl ?_
        refine V_iload_n dL_law_577 rfl rfl ?_
        refine V_iconst dL_law_578 ?_
        refine V_iadd dL_law_579 ?_
        refine V_scl hn0 r55 dL_law_580 ?_
        refine V_callV (av := [vi (sx xs (x3 + 1)), vi (sx xs (x3 + 2)), vi (sx xs (x3 + 3)), vi (sx xs (x3 + 4))]) (stk := [vi z25]) cvL_65 rfl rfl rfl (by decide) (by simp [ctg]) dL_law_581 h ?_
        rintro _ σ26 ⟨z26, rfl, h⟩
        obtain ⟨r56, h⟩ := h
        obtain ⟨r57, h⟩ := h
        refine V_icmp_eq (tgt := 1215) dL_law_584 rfl r56 r57 (fun q => ?_) (fun q => ?_)
        · replace h := h.1 q
          refine V_iinc (L' := [some (vr 500), some (vr 0), some (vr 94), some (vi (x3 + 6))]) dL_law_1215 rfl (by decide) rfl ?_
          refine V_goto (tgt := 18) dL_law_1218 rfl ?_
          exact V.sub (SubL_s (SubL_s (SubL_s (SubL_s (SubL_0))))) h
        · replace h := h.2 q
          refine V_iconst dL_law_587 ?_
          exact V_zreturn (stk := []) rfl dL_law_588 (by decide) h
      · have e9 : off = 556 := (Option.some.inj (show some (556 : Int) = some off from ho)).symm
        subst e9
        obtain rfl : tgt = 589 := by omega
        replace h := h.2.2.2.2.2.2.2.2.2.2.2.2.1 (by omega)
        refine V_aload_n dL_law_589 rfl rfl ?_
        refine V_aload_n dL_law_590 rfl rfl ?_
        refine V_iload_n dL_law_591 rfl rfl ?_
        refine V_iconst dL_law_592 ?_
        refine V_iadd dL_law_593 ?_
        obtain ⟨r58, h⟩ := h
        refine V_scl hn0 r58 dL_law_594 ?_
        refine V_callV (av := [vi (sx xs (x3 + 1))]) (stk := []) cvL_66 rfl rfl rfl (by decide) (by simp [ctg]) dL_law_595 h ?_
        rintro _ σ27 ⟨z27, rfl, h⟩
        refine V_aload_n dL_law_598 rfl rfl ?_
        refine V_aload_n dL_law_599 rfl rfl ?_
        refine V_iload_n dL_law_600 rfl rfl ?_
        refine V_iconst dL_law_601 ?_
        refine V_iadd dL_law_602 ?_
        refine V_scl hn0 r58 dL_law_603 ?_
        refine V_callV (av := [vi (sx xs (x3 + 1))]) (stk := [vi z27]) cvL_69 rfl rfl rfl (by decide) (by simp [ctg]) dL_law_604 h ?_
        rintro _ σ28 ⟨z28, rfl, h⟩
        obtain ⟨r59, h⟩ := h
        obtain ⟨r60, h⟩ := h
        refine V_icmp_eq (tgt := 1215) dL_law_607 rfl r59 r60 (fun q => ?_) (fun q => ?_)
        · replace h := h.1 q
          refine V_iinc (L' := [some (vr 500), some (vr 0), some (vr 94), some (vi (x3 + 6))]) dL_law_1215 rfl (by decide) rfl ?_
          refine V_goto (tgt := 18) dL_law_1218 rfl ?_
          exact V.sub (SubL_s (SubL_s (SubL_s (SubL_s (SubL_0))))) h
        · replace h := h.2 q
          refine V_iconst dL_law_610 ?_
          exact V_zreturn (stk := []) rfl dL_law_611 (by decide) h
      · have e9 : off = 579 := (Option.some.inj (show some (579 : Int) = some off from ho)).symm
        subst e9
        obtain rfl : tgt = 612 := by omega
        replace h := h.2.2.2.2.2.2.2.2.2.2.2.2.2.1 (by omega)
        refine V_aload_n dL_law_612 rfl rfl ?_
        refine V_aload_n dL_law_613 rfl rfl ?_
        refine V_iload_n dL_law_614 rfl rfl ?_
        refine V_iconst dL_law_615 ?_
        refine V_iadd dL_law_616 ?_
        obtain ⟨r61, h⟩ := h
        refine V_scl hn0 r61 dL_law_617 ?_
        refine V_callV (av := [vi (sx xs (x3 + 1))]) (stk := []) cvL_70 rfl rfl rfl (by decide) (by simp [ctg]) dL_law_618 h ?_
        rintro _ σ29 ⟨z29, rfl, h⟩
        refine V_aload_n dL_law_621 rfl rfl ?_
        refine V_aload_n dL_law_622 rfl rfl ?_
        refine V_iload_n dL_law_623 rfl rfl ?_
        refine V_iconst dL_law_624 ?_
        refine V_iadd dL_law_625 ?_
        refine V_scl hn0 r61 dL_law_626 ?_
        refine V_callV (av := [vi (sx xs (x3 + 1))]) (stk := [vi z29]) cvL_73 rfl rfl rfl (by decide) (by simp [ctg]) dL_law_627 h ?_
        rintro _ σ30 ⟨z30, rfl, h⟩
        obtain ⟨r62, h⟩ := h
        obtain ⟨r63, h⟩ := h
        refine V_icmp_eq (tgt := 1215) dL_law_630 rfl r62 r63 (fun q => ?_) (fun q => ?_)
        · replace h := h.1 q
          refine V_iinc (L' := [some (vr 500), some (vr 0), some (vr 94), some (vi (x3 + 6))]) dL_law_1215 rfl (by decide) rfl ?_
          refine V_goto (tgt := 18) dL_law_1218 rfl ?_
          exact V.sub (SubL_s (SubL_s (SubL_s (SubL_s (SubL_0))))) h
        · replace h := h.2 q
          refine V_iconst dL_law_633 ?_
          exact V_zreturn (stk := []) rfl dL_law_634 (by decide) h
      · have e9 : off = 602 := (Option.some.inj (show some (602 : Int) = some off from ho)).symm
        subst e9
        obtain rfl : tgt = 635 := by omega
        replace h := h.2.2.2.2.2.2.2.2.2.2.2.2.2.2.1 (by omega)
        refine V_aload_n dL_law_635 rfl rfl ?_
        refine V_aload_n dL_law_636 rfl rfl ?_
        refine V_iload_n dL_law_637 rfl rfl ?_
        refine V_iconst dL_law_638 ?_
        refine V_iadd dL_law_639 ?_
        obtain ⟨r64, h⟩ := h
        refine V_scl hn0 r64 dL_law_640 ?_
        refine V_aload_n dL_law_641 rfl rfl ?_
        refine V_iload_n dL_law_642 rfl rfl ?_
        refine V_iconst dL_law_643 ?_
        refine V_iadd dL_law_644 ?_
        obtain ⟨r65, h⟩ := h
        refine V_scl hn0 r65 dL_law_645 ?_
        refine V_callV (av := [vi (sx xs (x3 + 1)), vi (sx xs (x3 + 2))]) (stk := []) cvL_74 rfl rfl rfl (by decide) (by simp [ctg]) dL_law_646 h ?_
        rintro _ σ31 ⟨z31, rfl, h⟩
        refine V_aload_n dL_law_649 rfl rfl ?_
        refine V_aload_n dL_law_650 rfl rfl ?_
        refine V_iload_n dL_law_651 rfl rfl ?_
        refine V_iconst dL_law_652 ?_
        refine V_iadd dL_law_653 ?_
        refine V_scl hn0 r64 dL_law_654 ?_
        refine V_aload_n dL_law_655 rfl rfl ?_
        refine V_iload_n dL_law_656 rfl rfl ?_
        refine V_iconst dL_law_657 ?_
        refine V_iadd dL_law_658 ?_
        refine V_scl hn0 r65 dL_law_659 ?_
        refine V_callV (av := [vi (sx xs (x3 + 1)), vi (sx xs (x3 + 2))]) (stk := [vi z31]) cvL_77 rfl rfl rfl (by decide) (by simp [ctg]) dL_law_660 h ?_
        rintro _ σ32 ⟨z32, rfl, h⟩
        obtain ⟨r66, h⟩ := h
        obtain ⟨r67, h⟩ := h
        refine V_icmp_eq (tgt := 1215) dL_law_663 rfl r66 r67 (fun q => ?_) (fun q => ?_)
        · replace h := h.1 q
          refine V_iinc (L' := [some (vr 500), some (vr 0), some (vr 94), some (vi (x3 + 6))]) dL_law_1215 rfl (by decide) rfl ?_
          refine V_goto (tgt := 18) dL_law_1218 rfl ?_
          exact V.sub (SubL_s (SubL_s (SubL_s (SubL_s (SubL_0))))) h
        · replace h := h.2 q
          refine V_iconst dL_law_666 ?_
          exact V_zreturn (stk := []) rfl dL_law_667 (by decide) h
      · have e9 : off = 635 := (Option.some.inj (show some (635 : Int) = some off from ho)).symm
        subst e9
        obtain rfl : tgt = 668 := by omega
        replace h := h.2.2.2.2.2.2.2.2.2.2.2.2.2.2.2.1 (by omega)
        refine V_aload_n dL_law_668 rfl rfl ?_
        refine V_aload_n dL_law_669 rfl rfl ?_
        refine V_iload_n dL_law_670 rfl rfl ?_
        refine V_iconst dL_law_671 ?_
        refine V_iadd dL_law_672 ?_
        obtain ⟨r68, h⟩ := h
        refine V_scl hn0 r68 dL_law_673 ?_
        refine V_callV (av := [vi (sx xs (x3 + 1))]) (stk := []) cvL_78 rfl rfl rfl (by decide) (by simp [ctg]) dL_law_674 h ?_
        rintro _ σ33 ⟨z33, rfl, h⟩
        refine V_aload_n dL_law_677 rfl rfl ?_
        refine V_aload_n dL_law_678 rfl rfl ?_
        refine V_iload_n dL_law_679 rfl rfl ?_
        refine V_iconst dL_law_680 ?_
        refine V_iadd dL_law_681 ?_
        refine V_scl hn0 r68 dL_law_682 ?_
        refine V_callV (av := [vi (sx xs (x3 + 1))]) (stk := [vi z33]) cvL_81 rfl rfl rfl (by decide) (by simp [ctg]) dL_law_683 h ?_
        rintro _ σ34 ⟨z34, rfl, h⟩
        obtain ⟨r69, h⟩ := h
        obtain ⟨r70, h⟩ := h
        refine V_icmp_eq (tgt := 1215) dL_law_686 rfl r69 r70 (fun q => ?_) (fun q => ?_)
        · replace h := h.1 q
          refine V_iinc (L' := [some (vr 500), some (vr 0), some (vr 94), some (vi (x3 + 6))]) dL_law_1215 rfl (by decide) rfl ?_
          refine V_goto (tgt := 18) dL_law_1218 rfl ?_
          exact V.sub (SubL_s (SubL_s (SubL_s (SubL_s (SubL_0))))) h
        · replace h := h.2 q
          refine V_iconst dL_law_689 ?_
          exact V_zreturn (stk := []) rfl dL_law_690 (by decide) h
      · have e9 : off = 658 := (Option.some.inj (show some (658 : Int) = some off from ho)).symm
        subst e9
        obtain rfl : tgt = 691 := by omega
        replace h := h.2.2.2.2.2.2.2.2.2.2.2.2.2.2.2.2.1 (by omega)
        refine V_aload_n dL_law_691 rfl rfl ?_
        refine V_aload_n dL_law_692 rfl rfl ?_
        refine V_iload_n dL_law_693 rfl rfl ?_
        refine V_iconst dL_law_694 ?_
        refine V_iadd dL_law_695 ?_
        obtain ⟨r71, h⟩ := h
        refine V_scl hn0 r71 dL_law_696 ?_
        refine V_callV (av := [vi (sx xs (x3 + 1))]) (stk := []) cvL_82 rfl rfl rfl (by decide) (by simp [ctg]) dL_law_697 h ?_
        rintro _ σ35 ⟨z35, rfl, h⟩
        refine V_aload_n dL_law_700 rfl rfl ?_
        refine V_aload_n dL_law_701 rfl rfl ?_
        refine V_iload_n dL_law_702 rfl rfl ?_
        refine V_iconst dL_law_703 ?_
        refine V_iadd dL_law_704 ?_
        refine V_scl hn0 r71 dL_law_705 ?_
        refine V_callV (av := [vi (sx xs (x3 + 1))]) (stk := [vi z35]) cvL_85 rfl rfl rfl (by decide) (by simp [ctg]) dL_law_706 h ?_
        rintro _ σ36 ⟨z36, rfl, h⟩
        obtain ⟨r72, h⟩ := h
        obtain ⟨r73, h⟩ := h
        refine V_icmp_eq (tgt := 1215) dL_law_709 rfl r72 r73 (fun q => ?_) (fun q => ?_)
        · replace h := h.1 q
          refine V_iinc (L' := [some (vr 500), some (vr 0), some (vr 94), some (vi (x3 + 6))]) dL_law_1215 rfl (by decide) rfl ?_
          refine V_goto (tgt := 18) dL_law_1218 rfl ?_
          exact V.sub (SubL_s (SubL_s (SubL_s (SubL_s (SubL_0))))) h
        · replace h := h.2 q
          refine V_iconst dL_law_712 ?_
          exact V_zreturn (stk := []) rfl dL_law_713 (by decide) h
      · have e9 : off = 681 := (Option.some.inj (show some (681 : Int) = some off from ho)).symm
        subst e9
        obtain rfl : tgt = 714 := by omega
        replace h := h.2.2.2.2.2.2.2.2.2.2.2.2.2.2.2.2.2.1 (by omega)
        refine V_aload_n dL_law_714 rfl rfl ?_
        refine V_aload_n dL_law_715 rfl rfl ?_
        refine V_iload_n dL_law_716 rfl rfl ?_
        refine V_iconst dL_law_717 ?_
        refine V_iadd dL_law_718 ?_
        obtain ⟨r74, h⟩ := h
        refine V_scl hn0 r74 dL_law_719 ?_
        refine V_aload_n dL_law_720 rfl rfl ?_
        refine V_iload_n dL_law_721 rfl rfl ?_
        refine V_iconst dL_law_722 ?_
        refine V_iadd dL_law_723 ?_
        obtain ⟨r75, h⟩ := h
        refine V_scl hn0 r75 dL_law_724 ?_
        refine V_callV (av := [vi (sx xs (x3 + 1)), vi (sx xs (x3 + 2))]) (stk := []) cvL_86 rfl rfl rfl (by decide) (by simp [ctg]) dL_law_725 h ?_
        rintro _ σ37 ⟨z37, rfl, h⟩
        refine V_aload_n dL_law_728 rfl rfl ?_
        refine V_aload_n dL_law_729 rfl rfl ?_
        refine V_iload_n dL_law_730 rfl rfl ?_
        refine V_iconst dL_law_731 ?_
        refine V_iadd dL_law_732 ?_
        refine V_scl hn0 r74 dL_law_733 ?_
        refine V_aload_n dL_law_734 rfl rfl ?_
        refine V_iload_n dL_law_735 rfl rfl ?_
        refine V_iconst dL_law_736 ?_
        refine V_iadd dL_law_737 ?_
        refine V_scl hn0 r75 dL_law_738 ?_
        refine V_callV (av := [vi (sx xs (x3 + 1)), vi (sx xs (x3 + 2))]) (stk := [vi z37]) cvL_89 rfl rfl rfl (by decide) (by simp [ctg]) dL_law_739 h ?_
        rintro _ σ38 ⟨z38, rfl, h⟩
        obtain ⟨r76, h⟩ := h
        obtain ⟨r77, h⟩ := h
        refine V_icmp_eq (tgt := 1215) dL_law_742 rfl r76 r77 (fun q => ?_) (fun q => ?_)
        · replace h := h.1 q
          refine V_iinc (L' := [some (vr 500), some (vr 0), some (vr 94), some (vi (x3 + 6))]) dL_law_1215 rfl (by decide) rfl ?_
          refine V_goto (tgt := 18) dL_law_1218 rfl ?_
          exact V.sub (SubL_s (SubL_s (SubL_s (SubL_s (SubL_0))))) h
        · replace h := h.2 q
          refine V_iconst dL_law_745 ?_
          exact V_zreturn (stk := []) rfl dL_law_746 (by decide) h
      · have e9 : off = 714 := (Option.some.inj (show some (714 : Int) = some off from ho)).symm
        subst e9
        obtain rfl : tgt = 747 := by omega
        replace h := h.2.2.2.2.2.2.2.2.2.2.2.2.2.2.2.2.2.2.1 (by omega)
        refine V_aload_n dL_law_747 rfl rfl ?_
        refine V_aload_n dL_law_748 rfl rfl ?_
        refine V_iload_n dL_law_749 rfl rfl ?_
        refine V_iconst dL_law_750 ?_
        refine V_iadd dL_law_751 ?_
        obtain ⟨r78, h⟩ := h
        refine V_scl hn0 r78 dL_law_752 ?_
        refine V_aload_n dL_law_753 rfl rfl ?_
        refine V_iload_n dL_law_754 rfl rfl ?_
        refine V_iconst dL_law_755 ?_
        refine V_iadd dL_law_756 ?_
        obtain ⟨r79, h⟩ := h
        refine V_scl hn0 r79 dL_law_757 ?_
        refine V_callV (av := [vi (sx xs (x3 + 1)), vi (sx xs (x3 + 2))]) (stk := []) cvL_90 rfl rfl rfl (by decide) (by simp [ctg]) dL_law_758 h ?_
        rintro _ σ39 ⟨z39, rfl, h⟩
        refine V_aload_n dL_law_761 rfl rfl ?_
        refine V_aload_n dL_law_762 rfl rfl ?_
        refine V_iload_n dL_law_763 rfl rfl ?_
        refine V_iconst dL_law_764 ?_
        refine V_iadd dL_law_765 ?_
        refine V_scl hn0 r78 dL_law_766 ?_
        refine V_aload_n dL_law_767 rfl rfl ?_
        refine V_iload_n dL_law_768 rfl rfl ?_
        refine V_iconst dL_law_769 ?_
        refine V_iadd dL_law_770 ?_
        refine V_scl hn0 r79 dL_law_771 ?_
        refine V_callV (av := [vi (sx xs (x3 + 1)), vi (sx xs (x3 + 2))]) (stk := [vi z39]) cvL_93 rfl rfl rfl (by decide) (by simp [ctg]) dL_law_772 h ?_
        rintro _ σ40 ⟨z40, rfl, h⟩
        obtain ⟨r80, h⟩ := h
        obtain ⟨r81, h⟩ := h
        refine V_icmp_eq (tgt := 1215) dL_law_775 rfl r80 r81 (fun q => ?_) (fun q => ?_)
        · replace h := h.1 q
          refine V_iinc (L' := [some (vr 500), some (vr 0), some (vr 94), some (vi (x3 + 6))]) dL_law_1215 rfl (by decide) rfl ?_
          refine V_goto (tgt := 18) dL_law_1218 rfl ?_
          exact V.sub (SubL_s (SubL_s (SubL_s (SubL_s (SubL_0))))) h
        · replace h := h.2 q
          refine V_iconst dL_law_778 ?_
          exact V_zreturn (stk := []) rfl dL_law_779 (by decide) h
      · have e9 : off = 747 := (Option.some.inj (show some (747 : Int) = some off from ho)).symm
        subst e9
        obtain rfl : tgt = 780 := by omega
        replace h := h.2.2.2.2.2.2.2.2.2.2.2.2.2.2.2.2.2.2.2.1 (by omega)
        refine V_aload_n dL_law_780 rfl rfl ?_
        refine V_aload_n dL_law_781 rfl rfl ?_
        refine V_iload_n dL_law_782 rfl rfl ?_
        refine V_iconst dL_law_783 ?_
        refine V_iadd dL_law_784 ?_
        obtain ⟨r82, h⟩ := h
        refine V_scl hn0 r82 dL_law_785 ?_
        refine V_aload_n dL_law_786 rfl rfl ?_
        refine V_iload_n dL_law_787 rfl rfl ?_
        refine V_iconst dL_law_788 ?_
        refine V_iadd dL_law_789 ?_
        obtain ⟨r83, h⟩ := h
        refine V_scl hn0 r83 dL_law_790 ?_
        refine V_callV (av := [vi (sx xs (x3 + 1)), vi (sx xs (x3 + 2))]) (stk := []) cvL_94 rfl rfl rfl (by decide) (by simp [ctg]) dL_law_791 h ?_
        rintro _ σ41 ⟨z41, rfl, h⟩
        refine V_aload_n dL_law_794 rfl rfl ?_
        refine V_aload_n dL_law_795 rfl rfl ?_
        refine V_iload_n dL_law_796 rfl rfl ?_
        refine V_iconst dL_law_797 ?_
        refine V_iadd dL_law_798 ?_
        refine V_scl hn0 r82 dL_law_799 ?_
        refine V_aload_n dL_law_800 rfl rfl ?_
        refine V_iload_n dL_law_801 rfl rfl ?_
        refine V_iconst dL_law_802 ?_
        refine V_iadd dL_law_803 ?_
        refine V_scl hn0 r83 dL_law_804 ?_
        refine V_callV (av := [vi (sx xs (x3 + 1)), vi (sx xs (x3 + 2))]) (stk := [vi z41]) cvL_97 rfl rfl rfl (by decide) (by simp [ctg]) dL_law_805 h ?_
        rintro _ σ42 ⟨z42, rfl, h⟩
        obtain ⟨r84, h⟩ := h
        obtain ⟨r85, h⟩ := h
        refine V_icmp_eq (tgt := 1215) dL_law_808 rfl r84 r85 (fun q => ?_) (fun q => ?_)
        · replace h := h.1 q
          refine V_iinc (L' := [some (vr 500), some (vr 0), some (vr 94), some (vi (x3 + 6))]) dL_law_1215 rfl (by decide) rfl ?_
          refine V_goto (tgt := 18) dL_law_1218 rfl ?_
          exact V.sub (SubL_s (SubL_s (SubL_s (SubL_s (SubL_0))))) h
        · replace h := h.2 q
          refine V_iconst dL_law_811 ?_
          exact V_zreturn (stk := []) rfl dL_law_812 (by decide) h
      · have e9 : off = 780 := (Option.some.inj (show some (780 : Int) = some off from ho)).symm
        subst e9
        obtain rfl : tgt = 813 := by omega
        replace h := h.2.2.2.2.2.2.2.2.2.2.2.2.2.2.2.2.2.2.2.2.1 (by omega)
        refine V_aload_n dL_law_813 rfl rfl ?_
        refine V_aload_n dL_law_814 rfl rfl ?_
        refine V_iload_n dL_law_815 rfl rfl ?_
        refine V_iconst dL_law_816 ?_
        refine V_iadd dL_law_817 ?_
        obtain ⟨r86, h⟩ := h
        refine V_scl hn0 r86 dL_law_818 ?_
        refine V_aload_n dL_law_819 rfl rfl ?_
        refine V_iload_n dL_law_820 rfl rfl ?_
        refine V_iconst dL_law_821 ?_
        refine V_iadd dL_law_822 ?_
        obtain ⟨r87, h⟩ := h
        refine V_scl hn0 r87 dL_law_823 ?_
        refine V_callV (av := [vi (sx xs (x3 + 1)), vi (sx xs (x3 + 2))]) (stk := []) cvL_98 rfl rfl rfl (by decide) (by simp [ctg]) dL_law_824 h ?_
        rintro _ σ43 ⟨z43, rfl, h⟩
        refine V_aload_n dL_law_827 rfl rfl ?_
        refine V_aload_n dL_law_828 rfl rfl ?_
        refine V_iload_n dL_law_829 rfl rfl ?_
        refine V_iconst dL_law_830 ?_
        refine V_iadd dL_law_831 ?_
        refine V_scl hn0 r86 dL_law_832 ?_
        refine V_aload_n dL_law_833 rfl rfl ?_
        refine V_iload_n dL_law_834 rfl rfl ?_
        refine V_iconst dL_law_835 ?_
        refine V_iadd dL_law_836 ?_
        refine V_scl hn0 r87 dL_law_837 ?_
        refine V_callV (av := [vi (sx xs (x3 + 1)), vi (sx xs (x3 + 2))]) (stk := [vi z43]) cvL_101 rfl rfl rfl (by decide) (by simp [ctg]) dL_law_838 h ?_
        rintro _ σ44 ⟨z44, rfl, h⟩
        obtain ⟨r88, h⟩ := h
        obtain ⟨r89, h⟩ := h
        refine V_icmp_eq (tgt := 1215) dL_law_841 rfl r88 r89 (fun q => ?_) (fun q => ?_)
        · replace h := h.1 q
          refine V_iinc (L' := [some (vr 500), some (vr 0), some (vr 94), some (vi (x3 + 6))]) dL_law_1215 rfl (by decide) rfl ?_
          refine V_goto (tgt := 18) dL_law_1218 rfl ?_
          exact V.sub (SubL_s (SubL_s (SubL_s (SubL_s (SubL_0))))) h
        · replace h := h.2 q
          refine V_iconst dL_law_844 ?_
          exact V_zreturn (stk := []) rfl dL_law_845 (by decide) h
      · have e9 : off = 813 := (Option.some.inj (show some (813 : Int) = some off from ho)).symm
        subst e9
        obtain rfl : tgt = 846 := by omega
        replace h := h.2.2.2.2.2.2.2.2.2.2.2.2.2.2.2.2.2.2.2.2.2.1 (by omega)
        refine V_aload_n dL_law_846 rfl rfl ?_
        refine V_aload_n dL_law_847 rfl rfl ?_
        refine V_iload_n dL_law_848 rfl rfl ?_
        refine V_iconst dL_law_849 ?_
        refine V_iadd dL_law_850 ?_
        obtain ⟨r90, h⟩ := h
        refine V_scl hn0 r90 dL_law_851 ?_
        refine V_callV (av := [vi (sx xs (x3 + 1))]) (stk := []) cvL_102 rfl rfl rfl (by decide) (by simp [ctg]) dL_law_852 h ?_
        rintro _ σ45 ⟨z45, rfl, h⟩
        refine V_aload_n dL_law_855 rfl rfl ?_
        refine V_aload_n dL_law_856 rfl rfl ?_
        refine V_iload_n dL_law_857 rfl rfl ?_
        refine V_iconst dL_law_858 ?_
        refine V_iadd dL_law_859 ?_
        refine V_scl hn0 r90 dL_law_860 ?_
        refine V_callV (av := [vi (sx xs (x3 + 1))]) (stk := [vi z45]) cvL_105 rfl rfl rfl (by decide) (by simp [ctg]) dL_law_861 h ?_
        rintro _ σ46 ⟨z46, rfl, h⟩
        obtain ⟨r91, h⟩ := h
        obtain ⟨r92, h⟩ := h
        refine V_icmp_eq (tgt := 1215) dL_law_864 rfl r91 r92 (fun q => ?_) (fun q => ?_)
        · replace h := h.1 q
          refine V_iinc (L' := [some (vr 500), some (vr 0), some (vr 94), some (vi (x3 + 6))]) dL_law_1215 rfl (by decide) rfl ?_
          refine V_goto (tgt := 18) dL_law_1218 rfl ?_
          exact V.sub (SubL_s (SubL_s (SubL_s (SubL_s (SubL_0))))) h
        · replace h := h.2 q
          refine V_iconst dL_law_867 ?_
          exact V_zreturn (stk := []) rfl dL_law_868 (by decide) h
      · have e9 : off = 836 := (Option.some.inj (show some (836 : Int) = some off from ho)).symm
        subst e9
        obtain rfl : tgt = 869 := by omega
        replace h := h.2.2.2.2.2.2.2.2.2.2.2.2.2.2.2.2.2.2.2.2.2.2.1 (by omega)
        refine V_aload_n dL_law_869 rfl rfl ?_
        refine V_aload_n dL_law_870 rfl rfl ?_
        refine V_iload_n dL_law_871 rfl rfl ?_
        refine V_iconst dL_law_872 ?_
        refine V_iadd dL_law_873 ?_
        obtain ⟨r93, h⟩ := h
        refine V_scl hn0 r93 dL_law_874 ?_
        refine V_aload_n dL_law_875 rfl rfl ?_
        refine V_iload_n dL_law_876 rfl rfl ?_
        refine V_iconst dL_law_877 ?_
        refine V_iadd dL_law_878 ?_
        obtain ⟨r94, h⟩ := h
        refine V_scl hn0 r94 dL_law_879 ?_
        refine V_callV (av := [vi (sx xs (x3 + 1)), vi (sx xs (x3 + 2))]) (stk := []) cvL_106 rfl rfl rfl (by decide) (by simp [ctg]) dL_law_880 h ?_
        rintro _ σ47 ⟨z47, rfl, h⟩
        refine V_aload_n dL_law_883 rfl rfl ?_
        refine V_aload_n dL_law_884 rfl rfl ?_
        refine V_iload_n dL_law_885 rfl rfl ?_
        refine V_iconst dL_law_886 ?_
        refine V_iadd dL_law_887 ?_
        refine V_scl hn0 r93 dL_law_888 ?_
        refine V_aload_n dL_law_889 rfl rfl ?_
        refine V_iload_n dL_law_890 rfl rfl ?_
        refine V_iconst dL_law_891 ?_
        refine V_iadd dL_law_892 ?_
        refine V_scl hn0 r94 dL_law_893 ?_
        refine V_callV (av := [vi (sx xs (x3 + 1)), vi (sx xs (x3 + 2))]) (stk := [vi z47]) cvL_109 rfl rfl rfl (by decide) (by simp [ctg]) dL_law_894 h ?_
        rintro _ σ48 ⟨z48, rfl, h⟩
        obtain ⟨r95, h⟩ := h
        obtain ⟨r96, h⟩ := h
        refine V_icmp_eq (tgt := 1215) dL_law_897 rfl r95 r96 (fun q => ?_) (fun q => ?_)
        · replace h := h.1 q
          refine V_iinc (L' := [some (vr 500), some (vr 0), some (vr 94), some (vi (x3 + 6))]) dL_law_1215 rfl (by decide) rfl ?_
          refine V_goto (tgt := 18) dL_law_1218 rfl ?_
          exact V.sub (SubL_s (SubL_s (SubL_s (SubL_s (SubL_0))))) h
        · replace h := h.2 q
          refine V_iconst dL_law_900 ?_
          exact V_zreturn (stk := []) rfl dL_law_901 (by decide) h
      · have e9 : off = 869 := (Option.some.inj (show some (869 : Int) = some off from ho)).symm
        subst e9
        obtain rfl : tgt = 902 := by omega
        replace h := h.2.2.2.2.2.2.2.2.2.2.2.2.2.2.2.2.2.2.2.2.2.2.2.1 (by omega)
        refine V_aload_n dL_law_902 rfl rfl ?_
        refine V_aload_n dL_law_903 rfl rfl ?_
        refine V_iload_n dL_law_904 rfl rfl ?_
        refine V_iconst dL_law_905 ?_
        refine V_iadd dL_law_906 ?_
        obtain ⟨r97, h⟩ := h
        refine V_scl hn0 r97 dL_law_907 ?_
        refine V_aload_n dL_law_908 rfl rfl ?_
        refine V_iload_n dL_law_909 rfl rfl ?_
        refine V_iconst dL_law_910 ?_
        refine V_iadd dL_law_911 ?_
        obtain ⟨r98, h⟩ := h
        refine V_scl hn0 r98 dL_law_912 ?_
        refine V_callV (av := [vi (sx xs (x3 + 1)), vi (sx xs (x3 + 2))]) (stk := []) cvL_110 rfl rfl rfl (by decide) (by simp [ctg]) dL_law_913 h ?_
        rintro _ σ49 ⟨z49, rfl, h⟩
        refine V_aload_n dL_law_916 rfl rfl ?_
        refine V_aload_n dL_law_917 rfl rfl ?_
        refine V_iload_n dL_law_918 rfl rfl ?_
        refine V_iconst dL_law_919 ?_
        refine V_iadd dL_law_920 ?_
        refine V_scl hn0 r97 dL_law_921 ?_
        refine V_aload_n dL_law_922 rfl rfl ?_
        refine V_iload_n dL_law_923 rfl rfl ?_
        refine V_iconst dL_law_924 ?_
        refine V_iadd dL_law_925 ?_
        refine V_scl hn0 r98 dL_law_926 ?_
        refine V_callV (av := [vi (sx xs (x3 + 1)), vi (sx xs (x3 + 2))]) (stk := [vi z49]) cvL_113 rfl rfl rfl (by decide) (by simp [ctg]) dL_law_927 h ?_
        rintro _ σ50 ⟨z50, rfl, h⟩
        obtain ⟨r99, h⟩ := h
        obtain ⟨r100, h⟩ := h
        refine V_icmp_eq (tgt := 1215) dL_law_930 rfl r99 r100 (fun q => ?_) (fun q => ?_)
        · replace h := h.1 q
          refine V_iinc (L' := [some (vr 500), some (vr 0), some (vr 94), some (vi (x3 + 6))]) dL_law_1215 rfl (by decide) rfl ?_
          refine V_goto (tgt := 18) dL_law_1218 rfl ?_
          exact V.sub (SubL_s (SubL_s (SubL_s (SubL_s (SubL_0))))) h
        · replace h := h.2 q
          refine V_iconst dL_law_933 ?_
          exact V_zreturn (stk := []) rfl dL_law_934 (by decide) h
      · have e9 : off = 902 := (Option.some.inj (show some (902 : Int) = some off from ho)).symm
        subst e9
        obtain rfl : tgt = 935 := by omega
        replace h := h.2.2.2.2.2.2.2.2.2.2.2.2.2.2.2.2.2.2.2.2.2.2.2.2.1 (by omega)
        refine V_aload_n dL_law_935 rfl rfl ?_
        refine V_aload_n dL_law_936 rfl rfl ?_
        refine V_iload_n dL_law_937 rfl rfl ?_
        refine V_iconst dL_law_938 ?_
        refine V_iadd dL_law_939 ?_
        obtain ⟨r101, h⟩ := h
        refine V_scl hn0 r101 dL_law_940 ?_
        refine V_aload_n dL_law_941 rfl rfl ?_
        refine V_iload_n dL_law_942 rfl rfl ?_
        refine V_iconst dL_law_943 ?_
        refine V_iadd dL_law_944 ?_
        obtain ⟨r102, h⟩ := h
        refine V_scl hn0 r102 dL_law_945 ?_
        refine V_callV (av := [vi (sx xs (x3 + 1)), vi (sx xs (x3 + 2))]) (stk := []) cvL_114 rfl rfl rfl (by decide) (by simp [ctg]) dL_law_946 h ?_
        rintro _ σ51 ⟨z51, rfl, h⟩
        refine V_aload_n dL_law_949 rfl rfl ?_
        refine V_aload_n dL_law_950 rfl rfl ?_
        refine V_iload_n dL_law_951 rfl rfl ?_
        refine V_iconst dL_law_952 ?_
        refine V_iadd dL_law_953 ?_
        refine V_scl hn0 r101 dL_law_954 ?_
        refine V_aload_n dL_law_955 rfl rfl ?_
        refine V_iload_n dL_law_956 rfl rfl ?_
        refine V_iconst dL_law_957 ?_
        refine V_iadd dL_law_958 ?_
        refine V_scl hn0 r102 dL_law_959 ?_
        refine V_callV (av := [vi (sx xs (x3 + 1)), vi (sx xs (x3 + 2))]) (stk := [vi z51]) cvL_117 rfl rfl rfl (by decide) (by simp [ctg]) dL_law_960 h ?_
        rintro _ σ52 ⟨z52, rfl, h⟩
        obtain ⟨r103, h⟩ := h
        obtain ⟨r104, h⟩ := h
        refine V_icmp_eq (tgt := 1215) dL_law_963 rfl r103 r104 (fun q => ?_) (fun q => ?_)
        · replace h := h.1 q
          refine V_iinc (L' := [some (vr 500), some (vr 0), some (vr 94), some (vi (x3 + 6))]) dL_law_1215 rfl (by decide) rfl ?_
          refine V_goto (tgt := 18) dL_law_1218 rfl ?_
          exact V.sub (SubL_s (SubL_s (SubL_s (SubL_s (SubL_0))))) h
        · replace h := h.2 q
          refine V_iconst dL_law_966 ?_
          exact V_zreturn (stk := []) rfl dL_law_967 (by decide) h
      · have e9 : off = 935 := (Option.some.inj (show some (935 : Int) = some off from ho)).symm
        subst e9
        obtain rfl : tgt = 968 := by omega
        replace h := h.2.2.2.2.2.2.2.2.2.2.2.2.2.2.2.2.2.2.2.2.2.2.2.2.2.1 (by omega)
        refine V_aload_n dL_law_968 rfl rfl ?_
        refine V_aload_n dL_law_969 rfl rfl ?_
        refine V_iload_n dL_law_970 rfl rfl ?_
        refine V_iconst dL_law_971 ?_
        refine V_iadd dL_law_972 ?_
        obtain ⟨r105, h⟩ := h
        refine V_scl hn0 r105 dL_law_973 ?_
        refine V_aload_n dL_law_974 rfl rfl ?_
        refine V_iload_n dL_law_975 rfl rfl ?_
        refine V_iconst dL_law_976 ?_
        refine V_iadd dL_law_977 ?_
        obtain ⟨r106, h⟩ := h
        refine V_scl hn0 r106 dL_law_978 ?_
        refine V_callV (av := [vi (sx xs (x3 + 1)), vi (sx xs (x3 + 2))]) (stk := []) cvL_118 rfl rfl rfl (by decide) (by simp [ctg]) dL_law_979 h ?_
        rintro _ σ53 ⟨z53, rfl, h⟩
        refine V_aload_n dL_law_982 rfl rfl ?_
        refine V_aload_n dL_law_983 rfl rfl ?_
        refine V_iload_n dL_law_984 rfl rfl ?_
        refine V_iconst dL_law_985 ?_
        refine V_iadd dL_law_986 ?_
        refine V_scl hn0 r105 dL_law_987 ?_
        refine V_aload_n dL_law_988 rfl rfl ?_
        refine V_iload_n dL_law_989 rfl rfl ?_
        refine V_iconst dL_law_990 ?_
        refine V_iadd dL_law_991 ?_
        refine V_scl hn0 r106 dL_law_992 ?_
        refine V_callV (av := [vi (sx xs (x3 + 1)), vi (sx xs (x3 + 2))]) (stk := [vi z53]) cvL_121 rfl rfl rfl (by decide) (by simp [ctg]) dL_law_993 h ?_
        rintro _ σ54 ⟨z54, rfl, h⟩
        obtain ⟨r107, h⟩ := h
        obtain ⟨r108, h⟩ := h
        refine V_icmp_eq (tgt := 1215) dL_law_996 rfl r107 r108 (fun q => ?_) (fun q => ?_)
        · replace h := h.1 q
          refine V_iinc (L' := [some (vr 500), some (vr 0), some (vr 94), some (vi (x3 + 6))]) dL_law_1215 rfl (by decide) rfl ?_
          refine V_goto (tgt := 18) dL_law_1218 rfl ?_
          exact V.sub (SubL_s (SubL_s (SubL_s (SubL_s (SubL_0))))) h
        · replace h := h.2 q
          refine V_iconst dL_law_999 ?_
          exact V_zreturn (stk := []) rfl dL_law_1000 (by decide) h
      · have e9 : off = 968 := (Option.some.inj (show some (968 : Int) = some off from ho)).symm
        subst e9
        obtain rfl : tgt = 1001 := by omega
        replace h := h.2.2.2.2.2.2.2.2.2.2.2.2.2.2.2.2.2.2.2.2.2.2.2.2.2.2.1 (by omega)
        refine V_aload_n dL_law_1001 rfl rfl ?_
        refine V_aload_n dL_law_1002 rfl rfl ?_
        refine V_iload_n dL_law_1003 rfl rfl ?_
        refine V_iconst dL_law_1004 ?_
        refine V_iadd dL_law_1005 ?_
        obtain ⟨r109, h⟩ := h
        refine V_scl hn0 r109 dL_law_1006 ?_
        refine V_callV (av := [vi (sx xs (x3 + 1))]) (stk := []) cvL_122 rfl rfl rfl (by decide) (by simp [ctg]) dL_law_1007 h ?_
        rintro _ σ55 ⟨z55, rfl, h⟩
        refine V_aload_n dL_law_1010 rfl rfl ?_
        refine V_aload_n dL_law_1011 rfl rfl ?_
        refine V_iload_n dL_law_1012 rfl rfl ?_
        refine V_iconst dL_law_1013 ?_
        refine V_iadd dL_law_1014 ?_
        refine V_scl hn0 r109 dL_law_1015 ?_
        refine V_callV (av := [vi (sx xs (x3 + 1))]) (stk := [vi z55]) cvL_125 rfl rfl rfl (by decide) (by simp [ctg]) dL_law_1016 h ?_
        rintro _ σ56 ⟨z56, rfl, h⟩
        obtain ⟨r110, h⟩ := h
        obtain ⟨r111, h⟩ := h
        refine V_icmp_eq (tgt := 1215) dL_law_1019 rfl r110 r111 (fun q => ?_) (fun q => ?_)
        · replace h := h.1 q
          refine V_iinc (L' := [some (vr 500), some (vr 0), some (vr 94), some (vi (x3 + 6))]) dL_law_1215 rfl (by decide) rfl ?_
          refine V_goto (tgt := 18) dL_law_1218 rfl ?_
          exact V.sub (SubL_s (SubL_s (SubL_s (SubL_s (SubL_0))))) h
        · replace h := h.2 q
          refine V_iconst dL_law_1022 ?_
          exact V_zreturn (stk := []) rfl dL_law_1023 (by decide) h
      · have e9 : off = 991 := (Option.some.inj (show some (991 : Int) = some off from ho)).symm
        subst e9
        obtain rfl : tgt = 1024 := by omega
        replace h := h.2.2.2.2.2.2.2.2.2.2.2.2.2.2.2.2.2.2.2.2.2.2.2.2.2.2.2.1 (by omega)
        refine V_aload_n dL_law_1024 rfl rfl ?_
        refine V_aload_n dL_law_1025 rfl rfl ?_
        refine V_iload_n dL_law_1026 rfl rfl ?_
        refine V_iconst dL_law_1027 ?_
        refine V_iadd dL_law_1028 ?_
        obtain ⟨r112, h⟩ := h
        refine V_scl hn0 r112 dL_law_1029 ?_
        refine V_aload_n dL_law_1030 rfl rfl ?_
        refine V_iload_n dL_law_1031 rfl rfl ?_
        refine V_iconst dL_law_1032 ?_
        refine V_iadd dL_law_1033 ?_
        obtain ⟨r113, h⟩ := h
        refine V_scl hn0 r113 dL_law_1034 ?_
        refine V_callV (av := [vi (sx xs (x3 + 1)), vi (sx xs (x3 + 2))]) (stk := []) cvL_126 rfl rfl rfl (by decide) (by simp [ctg]) dL_law_1035 h ?_
        rintro _ σ57 ⟨z57, rfl, h⟩
        refine V_aload_n dL_law_1038 rfl rfl ?_
        refine V_aload_n dL_law_1039 rfl rfl ?_
        refine V_iload_n dL_law_1040 rfl rfl ?_
        refine V_iconst dL_law_1041 ?_
        refine V_iadd dL_law_1042 ?_
        refine V_scl hn0 r112 dL_law_1043 ?_
        refine V_aload_n dL_law_1044 rfl rfl ?_
        refine V_iload_n dL_law_1045 rfl rfl ?_
        refine V_iconst dL_law_1046 ?_
        refine V_iadd dL_law_1047 ?_
        refine V_scl hn0 r113 dL_law_1048 ?_
        refine V_callV (av := [vi (sx xs (x3 + 1)), vi (sx xs (x3 + 2))]) (stk := [vi z57]) cvL_129 rfl rfl rfl (by decide) (by simp [ctg]) dL_law_1049 h ?_
        rintro _ σ58 ⟨z58, rfl, h⟩
        obtain ⟨r114, h⟩ := h
        obtain ⟨r115, h⟩ := h
        refine V_icmp_eq (tgt := 1215) dL_law_1052 rfl r114 r115 (fun q => ?_) (fun q => ?_)
        · replace h := h.1 q
          refine V_iinc (L' := [some (vr 500), some (vr 0), some (vr 94), some (vi (x3 + 6))]) dL_law_1215 rfl (by decide) rfl ?_
          refine V_goto (tgt := 18) dL_law_1218 rfl ?_
          exact V.sub (SubL_s (SubL_s (SubL_s (SubL_s (SubL_0))))) h
        · replace h := h.2 q
          refine V_iconst dL_law_1055 ?_
          exact V_zreturn (stk := []) rfl dL_law_1056 (by decide) h
      · have e9 : off = 1024 := (Option.some.inj (show some (1024 : Int) = some off from ho)).symm
        subst e9
        obtain rfl : tgt = 1057 := by omega
        replace h := h.2.2.2.2.2.2.2.2.2.2.2.2.2.2.2.2.2.2.2.2.2.2.2.2.2.2.2.2.1 (by omega)
        refine V_aload_n dL_law_1057 rfl rfl ?_
        refine V_callV (av := []) (stk := []) cvL_130 rfl rfl rfl (by decide) (by simp [ctg]) dL_law_1058 h ?_
        rintro _ σ59 ⟨z59, rfl, h⟩
        refine V_aload_n dL_law_1061 rfl rfl ?_
        refine V_callV (av := []) (stk := [vi z59]) cvL_133 rfl rfl rfl (by decide) (by simp [ctg]) dL_law_1062 h ?_
        rintro _ σ60 ⟨z60, rfl, h⟩
        obtain ⟨r116, h⟩ := h
        obtain ⟨r117, h⟩ := h
        refine V_icmp_eq (tgt := 1215) dL_law_1065 rfl r116 r117 (fun q => ?_) (fun q => ?_)
        · replace h := h.1 q
          refine V_iinc (L' := [some (vr 500), some (vr 0), some (vr 94), some (vi (x3 + 6))]) dL_law_1215 rfl (by decide) rfl ?_
          refine V_goto (tgt := 18) dL_law_1218 rfl ?_
          exact V.sub (SubL_s (SubL_s (SubL_s (SubL_s (SubL_0))))) h
        · replace h := h.2 q
          refine V_iconst dL_law_1068 ?_
          exact V_zreturn (stk := []) rfl dL_law_1069 (by decide) h
      · have e9 : off = 1037 := (Option.some.inj (show some (1037 : Int) = some off from ho)).symm
        subst e9
        obtain rfl : tgt = 1070 := by omega
        replace h := h.2.2.2.2.2.2.2.2.2.2.2.2.2.2.2.2.2.2.2.2.2.2.2.2.2.2.2.2.2.1 (by omega)
        refine V_aload_n dL_law_1070 rfl rfl ?_
        refine V_aload_n dL_law_1071 rfl rfl ?_
        refine V_iload_n dL_law_1072 rfl rfl ?_
        refine V_iconst dL_law_1073 ?_
        refine V_iadd dL_law_1074 ?_
        obtain ⟨r118, h⟩ := h
        refine V_scl hn0 r118 dL_law_1075 ?_
        refine V_aload_n dL_law_1076 rfl rfl ?_
        refine V_iload_n dL_law_1077 rfl rfl ?_
        refine V_iconst dL_law_1078 ?_
        refine V_iadd dL_law_1079 ?_
        obtain ⟨r119, h⟩ := h
        refine V_scl hn0 r119 dL_law_1080 ?_
        refine V_callV (av := [vi (sx xs (x3 + 1)), vi (sx xs (x3 + 2))]) (stk := []) cvL_134 rfl rfl rfl (by decide) (by simp [ctg]) dL_law_1081 h ?_
        rintro _ σ61 ⟨z61, rfl, h⟩
        refine V_aload_n dL_law_1084 rfl rfl ?_
        refine V_aload_n dL_law_1085 rfl rfl ?_
        refine V_iload_n dL_law_1086 rfl rfl ?_
        refine V_iconst dL_law_1087 ?_
        refine V_iadd dL_law_1088 ?_
        refine V_scl hn0 r118 dL_law_1089 ?_
        refine V_aload_n dL_law_1090 rfl rfl ?_
        refine V_iload_n dL_law_1091 rfl rfl ?_
        refine V_iconst dL_law_1092 ?_
        refine V_iadd dL_law_1093 ?_
        refine V_scl hn0 r119 dL_law_1094 ?_
        refine V_callV (av := [vi (sx xs (x3 + 1)), vi (sx xs (x3 + 2))]) (stk := [vi z61]) cvL_137 rfl rfl rfl (by decide) (by simp [ctg]) dL_law_1095 h ?_
        rintro _ σ62 ⟨z62, rfl, h⟩
        obtain ⟨r120, h⟩ := h
        obtain ⟨r121, h⟩ := h
        refine V_icmp_eq (tgt := 1215) dL_law_1098 rfl r120 r121 (fun q => ?_) (fun q => ?_)
        · replace h := h.1 q
          refine V_iinc (L' := [some (vr 500), some (vr 0), some (vr 94), some (vi (x3 + 6))]) dL_law_1215 rfl (by decide) rfl ?_
          refine V_goto (tgt := 18) dL_law_1218 rfl ?_
          exact V.sub (SubL_s (SubL_s (SubL_s (SubL_s (SubL_0))))) h
        · replace h := h.2 q
          refine V_iconst dL_law_1101 ?_
          exact V_zreturn (stk := []) rfl dL_law_1102 (by decide) h
      · have e9 : off = 1070 := (Option.some.inj (show some (1070 : Int) = some off from ho)).symm
        subst e9
        obtain rfl : tgt = 1103 := by omega
        replace h := h.2.2.2.2.2.2.2.2.2.2.2.2.2.2.2.2.2.2.2.2.2.2.2.2.2.2.2.2.2.2.1 (by omega)
        refine V_aload_n dL_law_1103 rfl rfl ?_
        refine V_aload_n dL_law_1104 rfl rfl ?_
        refine V_iload_n dL_law_1105 rfl rfl ?_
        refine V_iconst dL_law_1106 ?_
        refine V_iadd dL_law_1107 ?_
        obtain ⟨r122, h⟩ := h
        refine V_scl hn0 r122 dL_law_1108 ?_
        refine V_aload_n dL_law_1109 rfl rfl ?_
        refine V_iload_n dL_law_1110 rfl rfl ?_
        refine V_iconst dL_law_1111 ?_
        refine V_iadd dL_law_1112 ?_
        obtain ⟨r123, h⟩ := h
        refine V_scl hn0 r123 dL_law_1113 ?_
        refine V_callV (av := [vi (sx xs (x3 + 1)), vi (sx xs (x3 + 2))]) (stk := []) cvL_138 rfl rfl rfl (by decide) (by simp [ctg]) dL_law_1114 h ?_
        rintro _ σ63 ⟨z63, rfl, h⟩
        refine V_aload_n dL_law_1117 rfl rfl ?_
        refine V_aload_n dL_law_1118 rfl rfl ?_
        refine V_iload_n dL_law_1119 rfl rfl ?_
        refine V_iconst dL_law_1120 ?_
        refine V_iadd dL_law_1121 ?_
        refine V_scl hn0 r122 dL_law_1122 ?_
        refine V_aload_n dL_law_1123 rfl rfl ?_
        refine V_iload_n dL_law_1124 rfl rfl ?_
        refine V_iconst dL_law_1125 ?_
        refine V_iadd dL_law_1126 ?_
        refine V_scl hn0 r123 dL_law_1127 ?_
        refine V_callV (av := [vi (sx xs (x3 + 1)), vi (sx xs (x3 + 2))]) (stk := [vi z63]) cvL_141 rfl rfl rfl (by decide) (by simp [ctg]) dL_law_1128 h ?_
        rintro _ σ64 ⟨z64, rfl, h⟩
        obtain ⟨r124, h⟩ := h
        obtain ⟨r125, h⟩ := h
        refine V_icmp_eq (tgt := 1215) dL_law_1131 rfl r124 r125 (fun q => ?_) (fun q => ?_)
        · replace h := h.1 q
          refine V_iinc (L' := [some (vr 500), some (vr 0), some (vr 94), some (vi (x3 + 6))]) dL_law_1215 rfl (by decide) rfl ?_
          refine V_goto (tgt := 18) dL_law_1218 rfl ?_
          exact V.sub (SubL_s (SubL_s (SubL_s (SubL_s (SubL_0))))) h
        · replace h := h.2 q
          refine V_iconst dL_law_1134 ?_
          exact V_zreturn (stk := []) rfl dL_law_1135 (by decide) h
      · have e9 : off = 1103 := (Option.some.inj (show some (1103 : Int) = some off from ho)).symm
        subst e9
        obtain rfl : tgt = 1136 := by omega
        replace h := h.2.2.2.2.2.2.2.2.2.2.2.2.2.2.2.2.2.2.2.2.2.2.2.2.2.2.2.2.2.2.2.1 (by omega)
        refine V_aload_n dL_law_1136 rfl rfl ?_
        refine V_aload_n dL_law_1137 rfl rfl ?_
        refine V_iload_n dL_law_1138 rfl rfl ?_
        refine V_iconst dL_law_1139 ?_
        refine V_iadd dL_law_1140 ?_
        obtain ⟨r126, h⟩ := h
        refine V_scl hn0 r126 dL_law_1141 ?_
        refine V_aload_n dL_law_1142 rfl rfl ?_
        refine V_iload_n dL_law_1143 rfl rfl ?_
        refine V_iconst dL_law_1144 ?_
        refine V_iadd dL_law_1145 ?_
        obtain ⟨r127, h⟩ := h
        refine V_scl hn0 r127 dL_law_1146 ?_
        refine V_callV (av := [vi (sx xs (x3 + 1)), vi (sx xs (x3 + 2))]) (stk := []) cvL_142 rfl rfl rfl (by decide) (by simp [ctg]) dL_law_1147 h ?_
        rintro _ σ65 ⟨z65, rfl, h⟩
        refine V_aload_n dL_law_1150 rfl rfl ?_
        refine V_aload_n dL_law_1151 rfl rfl ?_
        refine V_iload_n dL_law_1152 rfl rfl ?_
        refine V_iconst dL_law_1153 ?_
        refine V_iadd dL_law_1154 ?_
        refine V_scl hn0 r126 dL_law_1155 ?_
        refine V_aload_n dL_law_1156 rfl rfl ?_
        refine V_iload_n dL_law_1157 rfl rfl ?_
        refine V_iconst dL_law_1158 ?_
        refine V_iadd dL_law_1159 ?_
        refine V_scl hn0 r127 dL_law_1160 ?_
        refine V_callV (av := [vi (sx xs (x3 + 1)), vi (sx xs (x3 + 2))]) (stk := [vi z65]) cvL_145 rfl rfl rfl (by decide) (by simp [ctg]) dL_law_1161 h ?_
        rintro _ σ66 ⟨z66, rfl, h⟩
        obtain ⟨r128, h⟩ := h
        obtain ⟨r129, h⟩ := h
        refine V_icmp_eq (tgt := 1215) dL_law_1164 rfl r128 r129 (fun q => ?_) (fun q => ?_)
        · replace h := h.1 q
          refine V_iinc (L' := [some (vr 500), some (vr 0), some (vr 94), some (vi (x3 + 6))]) dL_law_1215 rfl (by decide) rfl ?_
          refine V_goto (tgt := 18) dL_law_1218 rfl ?_
          exact V.sub (SubL_s (SubL_s (SubL_s (SubL_s (SubL_0))))) h
        · replace h := h.2 q
          refine V_iconst dL_law_1167 ?_
          exact V_zreturn (stk := []) rfl dL_law_1168 (by decide) h
      · have e9 : off = 1136 := (Option.some.inj (show some (1136 : Int) = some off from ho)).symm
        subst e9
        obtain rfl : tgt = 1169 := by omega
        replace h := h.2.2.2.2.2.2.2.2.2.2.2.2.2.2.2.2.2.2.2.2.2.2.2.2.2.2.2.2.2.2.2.2.1 (by omega)
        refine V_aload_n dL_law_1169 rfl rfl ?_
        refine V_aload_n dL_law_1170 rfl rfl ?_
        refine V_iload_n dL_law_1171 rfl rfl ?_
        refine V_iconst dL_law_1172 ?_
        refine V_iadd dL_law_1173 ?_
        obtain ⟨r130, h⟩ := h
        refine V_scl hn0 r130 dL_law_1174 ?_
        refine V_callV (av := [vi (sx xs (x3 + 1))]) (stk := []) cvL_146 rfl rfl rfl (by decide) (by simp [ctg]) dL_law_1175 h ?_
        rintro _ σ67 ⟨z67, rfl, h⟩
        refine V_aload_n dL_law_1178 rfl rfl ?_
        refine V_aload_n dL_law_1179 rfl rfl ?_
        refine V_iload_n dL_law_1180 rfl rfl ?_
        refine V_iconst dL_law_1181 ?_
        refine V_iadd dL_law_1182 ?_
        refine V_scl hn0 r130 dL_law_1183 ?_
        refine V_callV (av := [vi (sx xs (x3 + 1))]) (stk := [vi z67]) cvL_149 rfl rfl rfl (by decide) (by simp [ctg]) dL_law_1184 h ?_
        rintro _ σ68 ⟨z68, rfl, h⟩
        obtain ⟨r131, h⟩ := h
        obtain ⟨r132, h⟩ := h
        refine V_icmp_eq (tgt := 1215) dL_law_1187 rfl r131 r132 (fun q => ?_) (fun q => ?_)
        · replace h := h.1 q
          refine V_iinc (L' := [some (vr 500), some (vr 0), some (vr 94), some (vi (x3 + 6))]) dL_law_1215 rfl (by decide) rfl ?_
          refine V_goto (tgt := 18) dL_law_1218 rfl ?_
          exact V.sub (SubL_s (SubL_s (SubL_s (SubL_s (SubL_0))))) h
        · replace h := h.2 q
          refine V_iconst dL_law_1190 ?_
          exact V_zreturn (stk := []) rfl dL_law_1191 (by decide) h
      · have e9 : off = 1159 := (Option.some.inj (show some (1159 : Int) = some off from ho)).symm
        subst e9
        obtain rfl : tgt = 1192 := by omega
        replace h := h.2.2.2.2.2.2.2.2.2.2.2.2.2.2.2.2.2.2.2.2.2.2.2.2.2.2.2.2.2.2.2.2.2 (by omega)
        refine V_aload_n dL_law_1192 rfl rfl ?_
        refine V_aload_n dL_law_1193 rfl rfl ?_
        refine V_iload_n dL_law_1194 rfl rfl ?_
        refine V_iconst dL_law_1195 ?_
        refine V_iadd dL_law_1196 ?_
        obtain ⟨r133, h⟩ := h
        refine V_scl hn0 r133 dL_law_1197 ?_
        refine V_callV (av := [vi (sx xs (x3 + 1))]) (stk := []) cvL_150 rfl rfl rfl (by decide) (by simp [ctg]) dL_law_1198 h ?_
        rintro _ σ69 ⟨z69, rfl, h⟩
        refine V_aload_n dL_law_1201 rfl rfl ?_
        refine V_aload_n dL_law_1202 rfl rfl ?_
        refine V_iload_n dL_law_1203 rfl rfl ?_
        refine V_iconst dL_law_1204 ?_
        refine V_iadd dL_law_1205 ?_
        refine V_scl hn0 r133 dL_law_1206 ?_
        refine V_callV (av := [vi (sx xs (x3 + 1))]) (stk := [vi z69]) cvL_153 rfl rfl rfl (by decide) (by simp [ctg]) dL_law_1207 h ?_
        rintro _ σ70 ⟨z70, rfl, h⟩
        obtain ⟨r134, h⟩ := h
        obtain ⟨r135, h⟩ := h
        refine V_icmp_eq (tgt := 1215) dL_law_1210 rfl r134 r135 (fun q => ?_) (fun q => ?_)
        · replace h := h.1 q
          refine V_iinc (L' := [some (vr 500), some (vr 0), some (vr 94), some (vi (x3 + 6))]) dL_law_1215 rfl (by decide) rfl ?_
          refine V_goto (tgt := 18) dL_law_1218 rfl ?_
          exact V.sub (SubL_s (SubL_s (SubL_s (SubL_s (SubL_0))))) h
        · replace h := h.2 q
          refine V_iconst dL_law_1213 ?_
          exact V_zreturn (stk := []) rfl dL_law_1214 (by decide) h
      · exact absurd ho (by simp)
