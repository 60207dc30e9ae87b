/-! ===== blocks: X5 (printed by wip/whole/gen/mkblk.py) ===== -/
set_option maxRecDepth 100000 in
theorem BX5_takeBytes_0 {σ : Sg} {post : Po} {x1 : Int} {x2 : Int} 
  (h : V mX5_takeBytes 5 [some (vr 3), none, some (vl x2), none, some (vi (x1 - 1))] [] σ post) :
  V mX5_takeBytes 0 [some (vr 3), some (vi x1), some (vl x2), none, none] [] σ post := by
  refine V_iload_n dX5_takeBytes_0 rfl rfl ?_
  refine V_iconst dX5_takeBytes_1 ?_
  refine V_isub dX5_takeBytes_2 ?_
  refine V_istore (L' := [some (vr 3), some (vi x1), some (vl x2), none, some (vi (x1 - 1))]) dX5_takeBytes_3 (by decide) rfl ?_
  exact V.sub (SubL_s (SubL_n (SubL_s (SubL_n (SubL_s (SubL_0)))))) h
set_option maxRecDepth 100000 in
theorem BX5_takeBytes_5 {σ : Sg} {post : Po} {x2 : Int} {x4 : Int} 
  (h : (rng x4) ∧ ((x4 < 0 → post (some (vi (σ 3 0))) σ) ∧ (¬ x4 < 0 → (rng (σ 3 0)) ∧ ((600 ≤ (σ 3 0) → post (some (vi (σ 3 0))) σ) ∧ (¬ 600 ≤ (σ 3 0) → (0 ≤ (σ 3 0) ∧ (σ 3 0) < 600) ∧ (V mX5_takeBytes 5 [some (vr 3), none, some (vl x2), none, some (vi (x4 + (-1)))] [] (up (up σ 4 (σ 3 0) (iByte (iByte (lUshr x2 (8 * x4))))) 3 0 ((σ 3 0) + 1)) post)))))) :
  V mX5_takeBytes 5 [some (vr 3), none, some (vl x2), none, some (vi x4)] [] σ post := by
  refine V_iload dX5_takeBytes_5 rfl ?_
  obtain ⟨r1, h⟩ := h
  refine V_if_lt (tgt := 56) dX5_takeBytes_7 rfl r1 (fun q => ?_) (fun q => ?_)
  · replace h := h.1 q
    refine V_aload_n dX5_takeBytes_56 rfl rfl ?_
    refine V_getI (f := (σ 3 0)) flX5_9 rfl (rfl) (by decide) dX5_takeBytes_57 ?_
    exact V_ireturn (stk := []) rfl dX5_takeBytes_60 h
  · replace h := h.2 q
    refine V_aload_n dX5_takeBytes_10 rfl rfl ?_
    refine V_getI (f := (σ 3 0)) flX5_9 rfl (rfl) (by decide) dX5_takeBytes_11 ?_
    refine V_aload_n dX5_takeBytes_14 rfl rfl ?_
    refine V_getR (k2 := 4) flX5_21 rfl rfl (by decide) dX5_takeBytes_15 ?_
    refine V_alen2 (z := 600) (rfl : shp[4]? = some (2, 600, 0)) rfl dX5_takeBytes_18 ?_
    obtain ⟨r2, h⟩ := h
    refine V_icmp_ge (tgt := 56) dX5_takeBytes_19 rfl r2 (by decide) (fun q => ?_) (fun q => ?_)
    · replace h := h.1 q
      refine V_aload_n dX5_takeBytes_56 rfl rfl ?_
      refine V_getI (f := (σ 3 0)) flX5_9 rfl (rfl) (by decide) dX5_takeBytes_57 ?_
      exact V_ireturn (stk := []) rfl dX5_takeBytes_60 h
    · replace h := h.2 q
      refine V_aload_n dX5_takeBytes_22 rfl rfl ?_
      refine V_getR (k2 := 4) flX5_21 rfl rfl (by decide) dX5_takeBytes_23 ?_
      refine V_aload_n dX5_takeBytes_26 rfl rfl ?_
      refine V_getI (f := (σ 3 0)) flX5_9 rfl (rfl) (by decide) dX5_takeBytes_27 ?_
      refine V_lload_n dX5_takeBytes_30 rfl rfl ?_
      refine V_bipush dX5_takeBytes_31 (by decide) ?_
      refine V_iload dX5_takeBytes_33 rfl ?_
      refine V_imul dX5_takeBytes_35 ?_
      refine V_lushr dX5_takeBytes_36 ?_
      refine V_l2i dX5_takeBytes_37 ?_
      refine V_i2b dX5_takeBytes_38 ?_
      obtain ⟨r3, h⟩ := h
      refine V_bast (rfl : shp[4]? = some (2, 600, 0)) r3 dX5_takeBytes_39 ?_
      refine V_aload_n dX5_takeBytes_40 rfl rfl ?_
      refine V_dup dX5_takeBytes_41 trivial ?_
      refine V_getI (f := (σ 3 0)) flX5_9 rfl (up_o (by omega)) (by decide) dX5_takeBytes_42 ?_
      refine V_iconst dX5_takeBytes_45 ?_
      refine V_iadd dX5_takeBytes_46 ?_
      refine V_putI flX5_9 rfl (by decide) dX5_takeBytes_47 ?_
      refine V_iinc (L' := [some (vr 3), none, some (vl x2), none, some (vi (x4 + (-1)))]) dX5_takeBytes_50 rfl (by decide) rfl ?_
      refine V_goto (tgt := 5) dX5_takeBytes_53 rfl ?_
      exact V.sub (SubL_s (SubL_n (SubL_s (SubL_n (SubL_s (SubL_0)))))) h

set_option maxRecDepth 100000 in
theorem BX5_changeBook_0 {σ : Sg} {post : Po} {k1 : Nat} (hk1 : shp[k1]? = some (0, 0, 14))
  (h : ((σ 3 5) = 41) ∧ (post (some (vr 41)) (up σ 3 5 ((k1 : Nat) : Int)))) :
  V mX5_changeBook 0 [some (vr 3), some (vr k1), none] [] σ post := by
  refine V_aload_n dX5_changeBook_0 rfl rfl ?_
  obtain ⟨r1, h⟩ := h
  refine V_getM (k2 := 41) flX5_31 rfl (r1) (by decide) dX5_changeBook_1 ?_
  refine V_astore_n (L' := [some (vr 3), some (vr k1), some (vr 41)]) dX5_changeBook_4 rfl (by decide) rfl ?_
  refine V_aload_n dX5_changeBook_5 rfl rfl ?_
  refine V_aload_n dX5_changeBook_6 rfl rfl ?_
  refine V_putM flX5_31 rfl (by decide) dX5_changeBook_7 ?_
  refine V_aload_n dX5_changeBook_10 rfl rfl ?_
  exact V_areturn (stk := []) rfl dX5_changeBook_11 h

set_option maxRecDepth 100000 in
theorem BX5_begin_0 {σ : Sg} {post : Po}  
  (h : ((σ 3 5) = 41) ∧ (Cl mX0_clear [vr 41] σ (pV fun σ1 => post none (up (up (up (up (up (up σ1 3 4 0) 3 1 0) 3 2 (-1)) 3 6 0) 3 7 0) 3 8 0)))) :
  V mX5_begin 0 [some (vr 3)] [] σ post := by
  refine V_aload_n dX5_begin_0 rfl rfl ?_
  obtain ⟨r1, h⟩ := h
  refine V_getM (k2 := 41) flX5_31 rfl (r1) (by decide) dX5_begin_1 ?_
  refine V_callV (av := []) (stk := []) cvX5_44 rfl rfl rfl (by decide) (by simp [ctg]) dX5_begin_4 h ?_
  rintro _ σ1 ⟨rfl, h⟩
  refine V_aload_n dX5_begin_7 rfl rfl ?_
  refine V_iconst dX5_begin_8 ?_
  refine V_putI flX5_25 rfl (by decide) dX5_begin_9 ?_
  refine V_aload_n dX5_begin_12 rfl rfl ?_
  refine V_iconst dX5_begin_13 ?_
  refine V_putI flX5_15 rfl (by decide) dX5_begin_14 ?_
  refine V_aload_n dX5_begin_17 rfl rfl ?_
  refine V_iconst dX5_begin_18 ?_
  refine V_putI flX5_18 rfl (by decide) dX5_begin_19 ?_
  refine V_aload_n dX5_begin_22 rfl rfl ?_
  refine V_iconst dX5_begin_23 ?_
  refine V_putI flX5_35 rfl (by decide) dX5_begin_24 ?_
  refine V_aload_n dX5_begin_27 rfl rfl ?_
  refine V_iconst dX5_begin_28 ?_
  refine V_putI flX5_38 rfl (by decide) dX5_begin_29 ?_
  refine V_aload_n dX5_begin_32 rfl rfl ?_
  refine V_iconst dX5_begin_33 ?_
  refine V_putI flX5_41 rfl (by decide) dX5_begin_34 ?_
  exact V_return (stk := []) rfl dX5_begin_37 h

set_option maxRecDepth 100000 in
theorem BX5_hasMore_0 {σ : Sg} {post : Po}  
  (h : Cl mX5_skipBlanks [vr 3] σ (pV fun σ1 => (rng (σ1 3 4)) ∧ ((rng (σ1 3 0)) ∧ (((σ1 3 0) ≤ (σ1 3 4) → post (some (vi 0)) σ1) ∧ (¬ (σ1 3 0) ≤ (σ1 3 4) → (rng (σ1 3 1)) ∧ ((¬ (σ1 3 1) = 0 → post (some (vi 0)) σ1) ∧ ((σ1 3 1) = 0 → post (some (vi 1)) σ1))))))) :
  V mX5_hasMore 0 [some (vr 3)] [] σ post := by
  refine V_aload_n dX5_hasMore_0 rfl rfl ?_
  refine V_callV (av := []) (stk := []) cvX5_47 rfl rfl rfl (by decide) (by simp [ctg]) dX5_hasMore_1 h ?_
  rintro _ σ1 ⟨rfl, h⟩
  refine V_aload_n dX5_hasMore_4 rfl rfl ?_
  refine V_getI (f := (σ1 3 4)) flX5_25 rfl (rfl) (by decide) dX5_hasMore_5 ?_
  refine V_aload_n dX5_hasMore_8 rfl rfl ?_
  refine V_getI (f := (σ1 3 0)) flX5_9 rfl (rfl) (by decide) dX5_hasMore_9 ?_
  obtain ⟨r1, h⟩ := h
  obtain ⟨r2, h⟩ := h
  refine V_icmp_ge (tgt := 26) dX5_hasMore_12 rfl r1 r2 (fun q => ?_) (fun q => ?_)
  · replace h := h.1 q
    refine V_iconst dX5_hasMore_26 ?_
    exact V_zreturn (stk := []) rfl dX5_hasMore_27 (by decide) h
  · replace h := h.2 q
    refine V_aload_n dX5_hasMore_15 rfl rfl ?_
    refine V_getI (f := (σ1 3 1)) flX5_15 rfl (rfl) (by decide) dX5_hasMore_16 ?_
    obtain ⟨r3, h⟩ := h
    refine V_if_ne (tgt := 26) dX5_hasMore_19 rfl r3 (fun q => ?_) (fun q => ?_)
    · replace h := h.1 q
      refine V_iconst dX5_hasMore_26 ?_
      exact V_zreturn (stk := []) rfl dX5_hasMore_27 (by decide) h
    · replace h := h.2 q
      refine V_iconst dX5_hasMore_22 ?_
      refine V_goto (tgt := 27) dX5_hasMore_23 rfl ?_
      exact V_zreturn (stk := []) rfl dX5_hasMore_27 (by decide) h

set_option maxRecDepth 100000 in
theorem BX5_fail_0 {σ : Sg} {post : Po} {x1 : Int} {x2 : Int} 
  (h : (rng (σ 3 1)) ∧ ((¬ (σ 3 1) = 0 → post (some (vi (-1))) σ) ∧ ((σ 3 1) = 0 → post (some (vi (-1))) (up (up σ 3 1 x1) 3 2 x2)))) :
  V mX5_fail 0 [some (vr 3), some (vi x1), some (vi x2)] [] σ post := by
  refine V_aload_n dX5_fail_0 rfl rfl ?_
  refine V_getI (f := (σ 3 1)) flX5_15 rfl (rfl) (by decide) dX5_fail_1 ?_
  obtain ⟨r1, h⟩ := h
  refine V_if_ne (tgt := 17) dX5_fail_4 rfl r1 (fun q => ?_) (fun q => ?_)
  · replace h := h.1 q
    refine V_iconst dX5_fail_17 ?_
    exact V_ireturn (stk := []) rfl dX5_fail_18 h
  · replace h := h.2 q
    refine V_aload_n dX5_fail_7 rfl rfl ?_
    refine V_iload_n dX5_fail_8 rfl rfl ?_
    refine V_putI flX5_15 rfl (by decide) dX5_fail_9 ?_
    refine V_aload_n dX5_fail_12 rfl rfl ?_
    refine V_iload_n dX5_fail_13 rfl rfl ?_
    refine V_putI flX5_18 rfl (by decide) dX5_fail_14 ?_
    refine V_iconst dX5_fail_17 ?_
    exact V_ireturn (stk := []) rfl dX5_fail_18 h

set_option maxRecDepth 100000 in
theorem BX5_byteHere_0 {σ : Sg} {post : Po}  
  (h : (rng (σ 3 4)) ∧ ((rng (σ 3 0)) ∧ (((σ 3 0) ≤ (σ 3 4) → post (some (vi 0)) σ) ∧ (¬ (σ 3 0) ≤ (σ 3 4) → (0 ≤ (σ 3 4) ∧ (σ 3 4) < 600) ∧ (post (some (vi (σ 4 (σ 3 4)))) σ))))) :
  V mX5_byteHere 0 [some (vr 3)] [] σ post := by
  refine V_aload_n dX5_byteHere_0 rfl rfl ?_
  refine V_getI (f := (σ 3 4)) flX5_25 rfl (rfl) (by decide) dX5_byteHere_1 ?_
  refine V_aload_n dX5_byteHere_4 rfl rfl ?_
  refine V_getI (f := (σ 3 0)) flX5_9 rfl (rfl) (by decide) dX5_byteHere_5 ?_
  obtain ⟨r1, h⟩ := h
  obtain ⟨r2, h⟩ := h
  refine V_icmp_ge (tgt := 23) dX5_byteHere_8 rfl r1 r2 (fun q => ?_) (fun q => ?_)
  · replace h := h.1 q
    refine V_iconst dX5_byteHere_23 ?_
    exact V_ireturn (stk := []) rfl dX5_byteHere_24 h
  · replace h := h.2 q
    refine V_aload_n dX5_byteHere_11 rfl rfl ?_
    refine V_getR (k2 := 4) flX5_21 rfl rfl (by decide) dX5_byteHere_12 ?_
    refine V_aload_n dX5_byteHere_15 rfl rfl ?_
    refine V_getI (f := (σ 3 4)) flX5_25 rfl (rfl) (by decide) dX5_byteHere_16 ?_
    obtain ⟨r3, h⟩ := h
    refine V_bald (f := (σ 4 (σ 3 4))) (rfl : shp[4]? = some (2, 600, 0)) r3 (rfl) dX5_byteHere_19 ?_
    refine V_goto (tgt := 24) dX5_byteHere_20 rfl ?_
    exact V_ireturn (stk := []) rfl dX5_byteHere_24 h

set_option maxRecDepth 100000 in
theorem BX5_skipBlanks_0 {σ : Sg} {post : Po}  
  (h : (rng (σ 3 4)) ∧ ((rng (σ 3 0)) ∧ (((σ 3 0) ≤ (σ 3 4) → post none σ) ∧ (¬ (σ 3 0) ≤ (σ 3 4) → (0 ≤ (σ 3 4) ∧ (σ 3 4) < 600) ∧ ((rng (σ 4 (σ 3 4))) ∧ ((¬ (σ 4 (σ 3 4)) = 32 → post none σ) ∧ ((σ 4 (σ 3 4)) = 32 → V mX5_skipBlanks 0 [some (vr 3)] [] (up σ 3 4 ((σ 3 4) + 1)) post))))))) :
  V mX5_skipBlanks 0 [some (vr 3)] [] σ post := by
  refine V_aload_n dX5_skipBlanks_0 rfl rfl ?_
  refine V_getI (f := (σ 3 4)) flX5_25 rfl (rfl) (by decide) dX5_skipBlanks_1 ?_
  refine V_aload_n dX5_skipBlanks_4 rfl rfl ?_
  refine V_getI (f := (σ 3 0)) flX5_9 rfl (rfl) (by decide) dX5_skipBlanks_5 ?_
  obtain ⟨r1, h⟩ := h
  obtain ⟨r2, h⟩ := h
  refine V_icmp_ge (tgt := 38) dX5_skipBlanks_8 rfl r1 r2 (fun q => ?_) (fun q => ?_)
  · replace h := h.1 q
    exact V_return (stk := []) rfl dX5_skipBlanks_38 h
  · replace h := h.2 q
    refine V_aload_n dX5_skipBlanks_11 rfl rfl ?_
    refine V_getR (k2 := 4) flX5_21 rfl rfl (by decide) dX5_skipBlanks_12 ?_
    refine V_aload_n dX5_skipBlanks_15 rfl rfl ?_
    refine V_getI (f := (σ 3 4)) flX5_25 rfl (rfl) (by decide) dX5_skipBlanks_16 ?_
    obtain ⟨r3, h⟩ := h
    refine V_bald (f := (σ 4 (σ 3 4))) (rfl : shp[4]? = some (2, 600, 0)) r3 (rfl) dX5_skipBlanks_19 ?_
    refine V_bipush dX5_skipBlanks_20 (by decide) ?_
    obtain ⟨r4, h⟩ := h
    refine V_icmp_ne (tgt := 38) dX5_skipBlanks_22 rfl r4 (by decide) (fun q => ?_) (fun q => ?_)
    · replace h := h.1 q
      exact V_return (stk := []) rfl dX5_skipBlanks_38 h
    · replace h := h.2 q
      refine V_aload_n dX5_skipBlanks_25 rfl rfl ?_
      refine V_dup dX5_skipBlanks_26 trivial ?_
      refine V_getI (f := (σ 3 4)) flX5_25 rfl (rfl) (by decide) dX5_skipBlanks_27 ?_
      refine V_iconst dX5_skipBlanks_30 ?_
      refine V_iadd dX5_skipBlanks_31 ?_
      refine V_putI flX5_25 rfl (by decide) dX5_skipBlanks_32 ?_
      refine V_goto (tgt := 0) dX5_skipBlanks_35 rfl ?_
      exact V.sub (SubL_s (SubL_0)) h

set_option maxRecDepth 100000 in
theorem BX5_isLetter_0 {σ : Sg} {post : Po} {x0 : Int} 
  (h : (rng x0) ∧ ((x0 < 97 → (¬ x0 = 95 → post (some (vi 0)) σ) ∧ (x0 = 95 → post (some (vi 1)) σ)) ∧ (¬ x0 < 97 → (x0 ≤ 122 → post (some (vi 1)) σ) ∧ (¬ x0 ≤ 122 → (¬ x0 = 95 → post (some (vi 0)) σ) ∧ (x0 = 95 → post (some (vi 1)) σ))))) :
  V mX5_isLetter 0 [some (vi x0)] [] σ post := by
  refine V_iload_n dX5_isLetter_0 rfl rfl ?_
  refine V_bipush dX5_isLetter_1 (by decide) ?_
  obtain ⟨r1, h⟩ := h
  refine V_icmp_lt (tgt := 12) dX5_isLetter_3 rfl r1 (by decide) (fun q => ?_) (fun q => ?_)
  · replace h := h.1 q
    refine V_iload_n dX5_isLetter_12 rfl rfl ?_
    refine V_bipush dX5_isLetter_13 (by decide) ?_
    refine V_icmp_ne (tgt := 22) dX5_isLetter_15 rfl r1 (by decide) (fun q => ?_) (fun q => ?_)
    · replace h := h.1 q
      refine V_iconst dX5_isLetter_22 ?_
      exact V_zreturn (stk := []) rfl dX5_isLetter_23 (by decide) h
    · replace h := h.2 q
      refine V_iconst dX5_isLetter_18 ?_
      refine V_goto (tgt := 23) dX5_isLetter_19 rfl ?_
      exact V_zreturn (stk := []) rfl dX5_isLetter_23 (by decide) h
  · replace h := h.2 q
    refine V_iload_n dX5_isLetter_6 rfl rfl ?_
    refine V_bipush dX5_isLetter_7 (by decide) ?_
    refine V_icmp_le (tgt := 18) dX5_isLetter_9 rfl r1 (by decide) (fun q => ?_) (fun q => ?_)
    · replace h := h.1 q
      refine V_iconst dX5_isLetter_18 ?_
      refine V_goto (tgt := 23) dX5_isLetter_19 rfl ?_
      exact V_zreturn (stk := []) rfl dX5_isLetter_23 (by decide) h
    · replace h := h.2 q
      refine V_iload_n dX5_isLetter_12 rfl rfl ?_
      refine V_bipush dX5_isLetter_13 (by decide) ?_
      refine V_icmp_ne (tgt := 22) dX5_isLetter_15 rfl r1 (by decide) (fun q => ?_) (fun q => ?_)
      · replace h := h.1 q
        refine V_iconst dX5_isLetter_22 ?_
        exact V_zreturn (stk := []) rfl dX5_isLetter_23 (by decide) h
      · replace h := h.2 q
        refine V_iconst dX5_isLetter_18 ?_
        refine V_goto (tgt := 23) dX5_isLetter_19 rfl ?_
        exact V_zreturn (stk := []) rfl dX5_isLetter_23 (by decide) h

set_option maxRecDepth 100000 in
theorem BX5_isFigure_0 {σ : Sg} {post : Po} {x0 : Int} 
  (h : (rng x0) ∧ ((x0 < 48 → post (some (vi 0)) σ) ∧ (¬ x0 < 48 → (57 < x0 → post (some (vi 0)) σ) ∧ (¬ 57 < x0 → post (some (vi 1)) σ)))) :
  V mX5_isFigure 0 [some (vi x0)] [] σ post := by
  refine V_iload_n dX5_isFigure_0 rfl rfl ?_
  refine V_bipush dX5_isFigure_1 (by decide) ?_
  obtain ⟨r1, h⟩ := h
  refine V_icmp_lt (tgt := 16) dX5_isFigure_3 rfl r1 (by decide) (fun q => ?_) (fun q => ?_)
  · replace h := h.1 q
    refine V_iconst dX5_isFigure_16 ?_
    exact V_zreturn (stk := []) rfl dX5_isFigure_17 (by decide) h
  · replace h := h.2 q
    refine V_iload_n dX5_isFigure_6 rfl rfl ?_
    refine V_bipush dX5_isFigure_7 (by decide) ?_
    refine V_icmp_gt (tgt := 16) dX5_isFigure_9 rfl r1 (by decide) (fun q => ?_) (fun q => ?_)
    · replace h := h.1 q
      refine V_iconst dX5_isFigure_16 ?_
      exact V_zreturn (stk := []) rfl dX5_isFigure_17 (by decide) h
    · replace h := h.2 q
      refine V_iconst dX5_isFigure_12 ?_
      refine V_goto (tgt := 17) dX5_isFigure_13 rfl ?_
      exact V_zreturn (stk := []) rfl dX5_isFigure_17 (by decide) h

set_option maxRecDepth 100000 in
theorem BX5_skipWord_0 {σ : Sg} {post : Po}  
  (h : (rng (σ 3 4)) ∧ ((rng (σ 3 0)) ∧ (((σ 3 0) ≤ (σ 3 4) → post none σ) ∧ (¬ (σ 3 0) ≤ (σ 3 4) → (0 ≤ (σ 3 4) ∧ (σ 3 4) < 600) ∧ (Cl mX5_isLetter [vi (σ 4 (σ 3 4))] σ (pI fun z1 σ1 => (rng z1) ∧ ((z1 = 0 → post none σ1) ∧ (¬ z1 = 0 → V mX5_skipWord 0 [some (vr 3)] [] (up σ1 3 4 ((σ1 3 4) + 1)) post)))))))) :
  V mX5_skipWord 0 [some (vr 3)] [] σ post := by
  refine V_aload_n dX5_skipWord_0 rfl rfl ?_
  refine V_getI (f := (σ 3 4)) flX5_25 rfl (rfl) (by decide) dX5_skipWord_1 ?_
  refine V_aload_n dX5_skipWord_4 rfl rfl ?_
  refine V_getI (f := (σ 3 0)) flX5_9 rfl (rfl) (by decide) dX5_skipWord_5 ?_
  obtain ⟨r1, h⟩ := h
  obtain ⟨r2, h⟩ := h
  refine V_icmp_ge (tgt := 39) dX5_skipWord_8 rfl r1 r2 (fun q => ?_) (fun q => ?_)
  · replace h := h.1 q
    exact V_return (stk := []) rfl dX5_skipWord_39 h
  · replace h := h.2 q
    refine V_aload_n dX5_skipWord_11 rfl rfl ?_
    refine V_getR (k2 := 4) flX5_21 rfl rfl (by decide) dX5_skipWord_12 ?_
    refine V_aload_n dX5_skipWord_15 rfl rfl ?_
    refine V_getI (f := (σ 3 4)) flX5_25 rfl (rfl) (by decide) dX5_skipWord_16 ?_
    obtain ⟨r3, h⟩ := h
    refine V_bald (f := (σ 4 (σ 3 4))) (rfl : shp[4]? = some (2, 600, 0)) r3 (rfl) dX5_skipWord_19 ?_
    refine V_callS (av := [vi (σ 4 (σ 3 4))]) (stk := []) cvX5_50 rfl rfl (by decide) (by simp [ctg]) dX5_skipWord_20 h ?_
    rintro _ σ1 ⟨z1, rfl, h⟩
    obtain ⟨r4, h⟩ := h
    refine V_if_eq (tgt := 39) dX5_skipWord_23 rfl r4 (fun q => ?_) (fun q => ?_)
    · replace h := h.1 q
      exact V_return (stk := []) rfl dX5_skipWord_39 h
    · replace h := h.2 q
      refine V_aload_n dX5_skipWord_26 rfl rfl ?_
      refine V_dup dX5_skipWord_27 trivial ?_
      refine V_getI (f := (σ1 3 4)) flX5_25 rfl (rfl) (by decide) dX5_skipWord_28 ?_
      refine V_iconst dX5_skipWord_31 ?_
      refine V_iadd dX5_skipWord_32 ?_
      refine V_putI flX5_25 rfl (by decide) dX5_skipWord_33 ?_
      refine V_goto (tgt := 0) dX5_skipWord_36 rfl ?_
      exact V.sub (SubL_s (SubL_0)) h

set_option maxRecDepth 100000 in
theorem BX5_skipNumber_0 {σ : Sg} {post : Po}  
  (h : (rng (σ 3 4)) ∧ ((rng (σ 3 0)) ∧ (((σ 3 0) ≤ (σ 3 4) → post none σ) ∧ (¬ (σ 3 0) ≤ (σ 3 4) → (0 ≤ (σ 3 4) ∧ (σ 3 4) < 600) ∧ (Cl mX5_isFigure [vi (σ 4 (σ 3 4))] σ (pI fun z1 σ1 => (rng z1) ∧ ((z1 = 0 → post none σ1) ∧ (¬ z1 = 0 → V mX5_skipNumber 0 [some (vr 3)] [] (up σ1 3 4 ((σ1 3 4) + 1)) post)))))))) :
  V mX5_skipNumber 0 [some (vr 3)] [] σ post := by
  refine V_aload_n dX5_skipNumber_0 rfl rfl ?_
  refine V_getI (f := (σ 3 4)) flX5_25 rfl (rfl) (by decide) dX5_skipNumber_1 ?_
  refine V_aload_n dX5_skipNumber_4 rfl rfl ?_
  refine V_getI (f := (σ 3 0)) flX5_9 rfl (rfl) (by decide) dX5_skipNumber_5 ?_
  obtain ⟨r1, h⟩ := h
  obtain ⟨r2, h⟩ := h
  refine V_icmp_ge (tgt := 39) dX5_skipNumber_8 rfl r1 r2 (fun q => ?_) (fun q => ?_)
  · replace h := h.1 q
    exact V_return (stk := []) rfl dX5_skipNumber_39 h
  · replace h := h.2 q
    refine V_aload_n dX5_skipNumber_11 rfl rfl ?_
    refine V_getR (k2 := 4) flX5_21 rfl rfl (by decide) dX5_skipNumber_12 ?_
    refine V_aload_n dX5_skipNumber_15 rfl rfl ?_
    refine V_getI (f := (σ 3 4)) flX5_25 rfl (rfl) (by decide) dX5_skipNumber_16 ?_
    obtain ⟨r3, h⟩ := h
    refine V_bald (f := (σ 4 (σ 3 4))) (rfl : shp[4]? = some (2, 600, 0)) r3 (rfl) dX5_skipNumber_19 ?_
    refine V_callS (av := [vi (σ 4 (σ 3 4))]) (stk := []) cvX5_54 rfl rfl (by decide) (by simp [ctg]) dX5_skipNumber_20 h ?_
    rintro _ σ1 ⟨z1, rfl, h⟩
    obtain ⟨r4, h⟩ := h
    refine V_if_eq (tgt := 39) dX5_skipNumber_23 rfl r4 (fun q => ?_) (fun q => ?_)
    · replace h := h.1 q
      exact V_return (stk := []) rfl dX5_skipNumber_39 h
    · replace h := h.2 q
      refine V_aload_n dX5_skipNumber_26 rfl rfl ?_
      refine V_dup dX5_skipNumber_27 trivial ?_
      refine V_getI (f := (σ1 3 4)) flX5_25 rfl (rfl) (by decide) dX5_skipNumber_28 ?_
      refine V_iconst dX5_skipNumber_31 ?_
      refine V_iadd dX5_skipNumber_32 ?_
      refine V_putI flX5_25 rfl (by decide) dX5_skipNumber_33 ?_
      refine V_goto (tgt := 0) dX5_skipNumber_36 rfl ?_
      exact V.sub (SubL_s (SubL_0)) h

set_option maxRecDepth 100000 in
theorem BX5_isWord_0 {σ : Sg} {post : Po} {x1 : Int} {x2 : Int} {i3 : Nat} (hi3 : i3 < 9)
  (h : (rng (x2 - x1)) ∧ ((rng (slI i3)) ∧ (((x2 - x1) = (slI i3) → V mX5_isWord 15 [some (vr 3), some (vi x1), none, some (vr (200 + i3)), some (vi 0)] [] σ post) ∧ (¬ (x2 - x1) = (slI i3) → post (some (vi 0)) σ)))) :
  V mX5_isWord 0 [some (vr 3), some (vi x1), some (vi x2), some (vr (200 + i3)), none] [] σ post := by
  refine V_iload_n dX5_isWord_0 rfl rfl ?_
  refine V_iload_n dX5_isWord_1 rfl rfl ?_
  refine V_isub dX5_isWord_2 ?_
  refine V_aload_n dX5_isWord_3 rfl rfl ?_
  refine V_slen csX5_57 hi3 (by decide) (by simp [ctg]) dX5_isWord_4 ?_
  obtain ⟨r1, h⟩ := h
  obtain ⟨r2, h⟩ := h
  refine V_icmp_eq (tgt := 12) dX5_isWord_7 rfl r1 r2 (fun q => ?_) (fun q => ?_)
  · replace h := h.1 q
    refine V_iconst dX5_isWord_12 ?_
    refine V_istore (L' := [some (vr 3), some (vi x1), some (vi x2), some (vr (200 + i3)), some (vi 0)]) dX5_isWord_13 (by decide) rfl ?_
    exact V.sub (SubL_s (SubL_s (SubL_n (SubL_s (SubL_s (SubL_0)))))) h
  · replace h := h.2 q
    refine V_iconst dX5_isWord_10 ?_
    exact V_zreturn (stk := []) rfl dX5_isWord_11 (by decide) h
set_option maxRecDepth 100000 in
theorem BX5_isWord_15 {σ : Sg} {post : Po} {x1 : Int} {i3 : Nat} {x4 : Int} (hi3 : i3 < 9)
  (h : (rng x4) ∧ ((rng (slI i3)) ∧ (((slI i3) ≤ x4 → post (some (vi 1)) σ) ∧ (¬ (slI i3) ≤ x4 → (0 ≤ (x1 + x4) ∧ (x1 + x4) < 600) ∧ ((0 ≤ x4 ∧ x4 < slI i3) ∧ ((rng (σ 4 (x1 + x4))) ∧ ((rng (scI i3 x4)) ∧ (((σ 4 (x1 + x4)) = (scI i3 x4) → V mX5_isWord 15 [some (vr 3), some (vi x1), none, some (vr (200 + i3)), some (vi (x4 + 1))] [] σ post) ∧ (¬ (σ 4 (x1 + x4)) = (scI i3 x4) → post (some (vi 0)) σ))))))))) :
  V mX5_isWord 15 [some (vr 3), some (vi x1), none, some (vr (200 + i3)), some (vi x4)] [] σ post := by
  refine V_iload dX5_isWord_15 rfl ?_
  refine V_aload_n dX5_isWord_17 rfl rfl ?_
  refine V_slen csX5_57 hi3 (by decide) (by simp [ctg]) dX5_isWord_18 ?_
  obtain ⟨r1, h⟩ := h
  obtain ⟨r2, h⟩ := h
  refine V_icmp_ge (tgt := 50) dX5_isWord_21 rfl r1 r2 (fun q => ?_) (fun q => ?_)
  · replace h := h.1 q
    refine V_iconst dX5_isWord_50 ?_
    exact V_zreturn (stk := []) rfl dX5_isWord_51 (by decide) h
  · replace h := h.2 q
    refine V_aload_n dX5_isWord_24 rfl rfl ?_
    refine V_getR (k2 := 4) flX5_21 rfl rfl (by decide) dX5_isWord_25 ?_
    refine V_iload_n dX5_isWord_28 rfl rfl ?_
    refine V_iload dX5_isWord_29 rfl ?_
    refine V_iadd dX5_isWord_31 ?_
    obtain ⟨r3, h⟩ := h
    refine V_bald (f := (σ 4 (x1 + x4))) (rfl : shp[4]? = some (2, 600, 0)) r3 (rfl) dX5_isWord_32 ?_
    refine V_aload_n dX5_isWord_33 rfl rfl ?_
    refine V_iload dX5_isWord_34 rfl ?_
    obtain ⟨r4, h⟩ := h
    refine V_schar csX5_62 hi3 r4 (by decide) (by simp [ctg]) dX5_isWord_36 ?_
    obtain ⟨r5, h⟩ := h
    obtain ⟨r6, h⟩ := h
    refine V_icmp_eq (tgt := 44) dX5_isWord_39 rfl r5 r6 (fun q => ?_) (fun q => ?_)
    · replace h := h.1 q
      refine V_iinc (L' := [some (vr 3), some (vi x1), none, some (vr (200 + i3)), some (vi (x4 + 1))]) dX5_isWord_44 rfl (by decide) rfl ?_
      refine V_goto (tgt := 15) dX5_isWord_47 rfl ?_
      exact V.sub (SubL_s (SubL_s (SubL_n (SubL_s (SubL_s (SubL_0)))))) h
    · replace h := h.2 q
      refine V_iconst dX5_isWord_42 ?_
      exact V_zreturn (stk := []) rfl dX5_isWord_43 (by decide) h

set_option maxRecDepth 100000 in
theorem BX5_readClause_0 {σ : Sg} {post : Po}  
  (h : Cl mX5_skipWord [vr 3] σ (pV fun σ1 => Cl mX5_kindOf [vr 3, vi (σ 3 4), vi (σ1 3 4)] σ1 (pI fun z2 σ2 => (rng z2) ∧ ((¬ z2 = (-1) → Cl mX5_isOneTooMany [vr 3, vi z2] σ2 (pI fun z3 σ3 => (rng z3) ∧ ((z3 = 0 → (¬ z2 = 0 → (¬ z2 = 3 → Cl mX5_readLink [vr 3, vi z2] σ3 (pV fun σ4 => V mX5_readClause 80 [some (vr 3), none, none] [] σ4 post)) ∧ (z2 = 3 → Cl mX5_readAsked [vr 3] σ3 (pV fun σ5 => V mX5_readClause 80 [some (vr 3), none, none] [] σ5 post))) ∧ (z2 = 0 → Cl mX5_readMark [vr 3] σ3 (pV fun σ6 => V mX5_readClause 80 [some (vr 3), none, none] [] σ6 post))) ∧ (¬ z3 = 0 → Cl mX5_fail [vr 3, vi 5, vi (σ 3 4)] σ3 (pI fun z7 σ7 => V mX5_readClause 80 [some (vr 3), none, none] [] σ7 post))))) ∧ (z2 = (-1) → Cl mX5_fail [vr 3, vi 1, vi (σ 3 4)] σ2 (pI fun z8 σ8 => V mX5_readClause 80 [some (vr 3), none, none] [] σ8 post)))))) :
  V mX5_readClause 0 [some (vr 3), none, none] [] σ post := by
  refine V_aload_n dX5_readClause_0 rfl rfl ?_
  refine V_getI (f := (σ 3 4)) flX5_25 rfl (rfl) (by decide) dX5_readClause_1 ?_
  refine V_istore_n (L' := [some (vr 3), some (vi (σ 3 4)), none]) dX5_readClause_4 rfl (by decide) rfl ?_
  refine V_aload_n dX5_readClause_5 rfl rfl ?_
  refine V_callV (av := []) (stk := []) cvX5_66 rfl rfl rfl (by decide) (by simp [ctg]) dX5_readClause_6 h ?_
  rintro _ σ1 ⟨rfl, h⟩
  refine V_aload_n dX5_readClause_9 rfl rfl ?_
  refine V_iload_n dX5_readClause_10 rfl rfl ?_
  refine V_aload_n dX5_readClause_11 rfl rfl ?_
  refine V_getI (f := (σ1 3 4)) flX5_25 rfl (rfl) (by decide) dX5_readClause_12 ?_
  refine V_callV (av := [vi (σ 3 4), vi (σ1 3 4)]) (stk := []) cvX5_69 rfl rfl rfl (by decide) (by simp [ctg]) dX5_readClause_15 h ?_
  rintro _ σ2 ⟨z2, rfl, h⟩
  refine V_istore_n (L' := [some (vr 3), some (vi (σ 3 4)), some (vi z2)]) dX5_readClause_18 rfl (by decide) rfl ?_
  refine V_iload_n dX5_readClause_19 rfl rfl ?_
  refine V_iconst dX5_readClause_20 ?_
  obtain ⟨r1, h⟩ := h
  refine V_icmp_ne (tgt := 34) dX5_readClause_21 rfl r1 (by decide) (fun q => ?_) (fun q => ?_)
  · replace h := h.1 q
    refine V_aload_n dX5_readClause_34 rfl rfl ?_
    refine V_iload_n dX5_readClause_35 rfl rfl ?_
    refine V_callV (av := [vi z2]) (stk := []) cvX5_76 rfl rfl rfl (by decide) (by simp [ctg]) dX5_readClause_36 h ?_
    rintro _ σ3 ⟨z3, rfl, h⟩
    obtain ⟨r2, h⟩ := h
    refine V_if_eq (tgt := 52) dX5_readClause_39 rfl r2 (fun q => ?_) (fun q => ?_)
    · replace h := h.1 q
      refine V_iload_n dX5_readClause_52 rfl rfl ?_
      refine V_if_ne (tgt := 63) dX5_readClause_53 rfl r1 (fun q => ?_) (fun q => ?_)
      · replace h := h.1 q
        refine V_iload_n dX5_readClause_63 rfl rfl ?_
        refine V_iconst dX5_readClause_64 ?_
        refine V_icmp_ne (tgt := 75) dX5_readClause_65 rfl r1 (by decide) (fun q => ?_) (fun q => ?_)
        · replace h := h.1 q
          refine V_aload_n dX5_readClause_75 rfl rfl ?_
          refine V_iload_n dX5_readClause_76 rfl rfl ?_
          refine V_callV (av := [vi z2]) (stk := []) cvX5_85 rfl rfl rfl (by decide) (by simp [ctg]) dX5_readClause_77 h ?_
          rintro _ σ4 ⟨rfl, h⟩
          exact V.sub (SubL_s (SubL_n (SubL_n (SubL_0)))) h
        · replace h := h.2 q
          refine V_aload_n dX5_readClause_68 rfl rfl ?_
          refine V_callV (av := []) (stk := []) cvX5_82 rfl rfl rfl (by decide) (by simp [ctg]) dX5_readClause_69 h ?_
          rintro _ σ5 ⟨rfl, h⟩
          refine V_goto (tgt := 80) dX5_readClause_72 rfl ?_
          exact V.sub (SubL_s (SubL_n (SubL_n (SubL_0)))) h
      · replace h := h.2 q
        refine V_aload_n dX5_readClause_56 rfl rfl ?_
        refine V_callV (av := []) (stk := []) cvX5_79 rfl rfl rfl (by decide) (by simp [ctg]) dX5_readClause_57 h ?_
        rintro _ σ6 ⟨rfl, h⟩
        refine V_goto (tgt := 80) dX5_readClause_60 rfl ?_
        exact V.sub (SubL_s (SubL_n (SubL_n (SubL_0)))) h
    · replace h := h.2 q
      refine V_aload_n dX5_readClause_42 rfl rfl ?_
      refine V_iconst dX5_readClause_43 ?_
      refine V_iload_n dX5_readClause_44 rfl rfl ?_
      refine V_callV (av := [vi 5, vi (σ 3 4)]) (stk := []) cvX5_73 rfl rfl rfl (by decide) (by simp [ctg]) dX5_readClause_45 h ?_
      rintro _ σ7 ⟨z7, rfl, h⟩
      refine V_pop dX5_readClause_48 trivial ?_
      refine V_goto (tgt := 80) dX5_readClause_49 rfl ?_
      exact V.sub (SubL_s (SubL_n (SubL_n (SubL_0)))) h
  · replace h := h.2 q
    refine V_aload_n dX5_readClause_24 rfl rfl ?_
    refine V_iconst dX5_readClause_25 ?_
    refine V_iload_n dX5_readClause_26 rfl rfl ?_
    refine V_callV (av := [vi 1, vi (σ 3 4)]) (stk := []) cvX5_73 rfl rfl rfl (by decide) (by simp [ctg]) dX5_readClause_27 h ?_
    rintro _ σ8 ⟨z8, rfl, h⟩
    refine V_pop dX5_readClause_30 trivial ?_
    refine V_goto (tgt := 80) dX5_readClause_31 rfl ?_
    exact V.sub (SubL_s (SubL_n (SubL_n (SubL_0)))) h
set_option maxRecDepth 100000 in
theorem BX5_readClause_80 {σ : Sg} {post : Po}  
  (h : (rng (σ 3 1)) ∧ ((¬ (σ 3 1) = 0 → post none σ) ∧ ((σ 3 1) = 0 → Cl mX5_readEnd [vr 3] σ (pV fun σ1 => post none σ1)))) :
  V mX5_readClause 80 [some (vr 3), none, none] [] σ post := by
  refine V_aload_n dX5_readClause_80 rfl rfl ?_
  refine V_getI (f := (σ 3 1)) flX5_15 rfl (rfl) (by decide) dX5_readClause_81 ?_
  obtain ⟨r1, h⟩ := h
  refine V_if_ne (tgt := 91) dX5_readClause_84 rfl r1 (fun q => ?_) (fun q => ?_)
  · replace h := h.1 q
    exact V_return (stk := []) rfl dX5_readClause_91 h
  · replace h := h.2 q
    refine V_aload_n dX5_readClause_87 rfl rfl ?_
    refine V_callV (av := []) (stk := []) cvX5_89 rfl rfl rfl (by decide) (by simp [ctg]) dX5_readClause_88 h ?_
    rintro _ σ1 ⟨rfl, h⟩
    exact V_return (stk := []) rfl dX5_readClause_91 h

set_option maxRecDepth 100000 in
theorem BX5_kindOf_0 {σ : Sg} {post : Po} {x1 : Int} {x2 : Int} 
  (h : Cl mX5_isWord [vr 3, vi x1, vi x2, vr (200 + 7)] σ (pI fun z1 σ1 => (rng z1) ∧ ((z1 = 0 → Cl mX5_isWord [vr 3, vi x1, vi x2, vr (200 + 8)] σ1 (pI fun z2 σ2 => (rng z2) ∧ ((z2 = 0 → Cl mX5_isWord [vr 3, vi x1, vi x2, vr (200 + 4)] σ2 (pI fun z3 σ3 => (rng z3) ∧ ((z3 = 0 → Cl mX5_isWord [vr 3, vi x1, vi x2, vr (200 + 5)] σ3 (pI fun z4 σ4 => (rng z4) ∧ ((z4 = 0 → post (some (vi (-1))) σ4) ∧ (¬ z4 = 0 → post (some (vi 3)) σ4)))) ∧ (¬ z3 = 0 → post (some (vi 2)) σ3)))) ∧ (¬ z2 = 0 → post (some (vi 1)) σ2)))) ∧ (¬ z1 = 0 → post (some (vi 0)) σ1)))) :
  V mX5_kindOf 0 [some (vr 3), some (vi x1), some (vi x2)] [] σ post := by
  refine V_aload_n dX5_kindOf_0 rfl rfl ?_
  refine V_iload_n dX5_kindOf_1 rfl rfl ?_
  refine V_iload_n dX5_kindOf_2 rfl rfl ?_
  refine V_ldcS dX5_kindOf_3 ksX5_92 ?_
  refine V_callV (av := [vi x1, vi x2, vr (200 + 7)]) (stk := []) cvX5_94 rfl rfl rfl (by decide) (by simp [ctg]) dX5_kindOf_5 h ?_
  rintro _ σ1 ⟨z1, rfl, h⟩
  obtain ⟨r1, h⟩ := h
  refine V_if_eq (tgt := 13) dX5_kindOf_8 rfl r1 (fun q => ?_) (fun q => ?_)
  · replace h := h.1 q
    refine V_aload_n dX5_kindOf_13 rfl rfl ?_
    refine V_iload_n dX5_kindOf_14 rfl rfl ?_
    refine V_iload_n dX5_kindOf_15 rfl rfl ?_
    refine V_ldcS dX5_kindOf_16 ksX5_98 ?_
    refine V_callV (av := [vi x1, vi x2, vr (200 + 8)]) (stk := []) cvX5_94 rfl rfl rfl (by decide) (by simp [ctg]) dX5_kindOf_18 h ?_
    rintro _ σ2 ⟨z2, rfl, h⟩
    obtain ⟨r2, h⟩ := h
    refine V_if_eq (tgt := 26) dX5_kindOf_21 rfl r2 (fun q => ?_) (fun q => ?_)
    · replace h := h.1 q
      refine V_aload_n dX5_kindOf_26 rfl rfl ?_
      refine V_iload_n dX5_kindOf_27 rfl rfl ?_
      refine V_iload_n dX5_kindOf_28 rfl rfl ?_
      refine V_ldcS dX5_kindOf_29 ksX5_100 ?_
      refine V_callV (av := [vi x1, vi x2, vr (200 + 4)]) (stk := []) cvX5_94 rfl rfl rfl (by decide) (by simp [ctg]) dX5_kindOf_31 h ?_
      rintro _ σ3 ⟨z3, rfl, h⟩
      obtain ⟨r3, h⟩ := h
      refine V_if_eq (tgt := 39) dX5_kindOf_34 rfl r3 (fun q => ?_) (fun q => ?_)
      · replace h := h.1 q
        refine V_aload_n dX5_kindOf_39 rfl rfl ?_
        refine V_iload_n dX5_kindOf_40 rfl rfl ?_
        refine V_iload_n dX5_kindOf_41 rfl rfl ?_
        refine V_ldcS dX5_kindOf_42 ksX5_102 ?_
        refine V_callV (av := [vi x1, vi x2, vr (200 + 5)]) (stk := []) cvX5_94 rfl rfl rfl (by decide) (by simp [ctg]) dX5_kindOf_44 h ?_
        rintro _ σ4 ⟨z4, rfl, h⟩
        obtain ⟨r4, h⟩ := h
        refine V_if_eq (tgt := 54) dX5_kindOf_47 rfl r4 (fun q => ?_) (fun q => ?_)
        · replace h := h.1 q
          refine V_iconst dX5_kindOf_54 ?_
          exact V_ireturn (stk := []) rfl dX5_kindOf_55 h
        · replace h := h.2 q
          refine V_iconst dX5_kindOf_50 ?_
          refine V_goto (tgt := 55) dX5_kindOf_51 rfl ?_
          exact V_ireturn (stk := []) rfl dX5_kindOf_55 h
      · replace h := h.2 q
        refine V_iconst dX5_kindOf_37 ?_
        exact V_ireturn (stk := []) rfl dX5_kindOf_38 h
    · replace h := h.2 q
      refine V_iconst dX5_kindOf_24 ?_
      exact V_ireturn (stk := []) rfl dX5_kindOf_25 h
  · replace h := h.2 q
    refine V_iconst dX5_kindOf_11 ?_
    exact V_ireturn (stk := []) rfl dX5_kindOf_12 h

set_option maxRecDepth 100000 in
theorem BX5_isOneTooMany_0 {σ : Sg} {post : Po} {x1 : Int} 
  (h : (rng x1) ∧ ((x1 < 0 ∨ 2 < x1 → post (some (vi 0)) σ) ∧ (x1 = 0 → ((σ 3 5) = 41) ∧ ((rng (σ 41 7)) ∧ (((σ 41 7) < 60 → post (some (vi 0)) σ) ∧ (¬ (σ 41 7) < 60 → post (some (vi 1)) σ)))) ∧ (x1 = 1 → (rng (σ 3 6)) ∧ (((σ 3 6) < 8 → post (some (vi 0)) σ) ∧ (¬ (σ 3 6) < 8 → post (some (vi 1)) σ))) ∧ (x1 = 2 → (rng (σ 3 7)) ∧ (((σ 3 7) < 8 → post (some (vi 0)) σ) ∧ (¬ (σ 3 7) < 8 → post (some (vi 1)) σ))))) :
  V mX5_isOneTooMany 0 [some (vr 3), some (vi x1)] [] σ post := by
  refine V_iload_n dX5_isOneTooMany_0 rfl rfl ?_
  obtain ⟨r1, h⟩ := h
  refine V_tsw (dt := 76) dX5_isOneTooMany_1 r1 rfl rfl (fun q => ?_) (fun j off tgt hx ho ht hp => ?_) (by decide)
  · replace h := h.1 q
    refine V_iconst dX5_isOneTooMany_76 ?_
    exact V_zreturn (stk := []) rfl dX5_isOneTooMany_77 (by decide) h
  · rcases j with _ | _ | _ | j
    · have e9 : off = 27 := (Option.some.inj (show some (27 : Int) = some off from ho)).symm
      subst e9
      obtain rfl : tgt = 28 := by omega
      replace h := h.2.1 (by omega)
      refine V_aload_n dX5_isOneTooMany_28 rfl rfl ?_
      obtain ⟨r2, h⟩ := h
      refine V_getM (k2 := 41) flX5_31 rfl (r2) (by decide) dX5_isOneTooMany_29 ?_
      refine V_getI (f := (σ 41 7)) flX5_104 rfl (rfl) (by decide) dX5_isOneTooMany_32 ?_
      refine V_bipush dX5_isOneTooMany_35 (by decide) ?_
      obtain ⟨r3, h⟩ := h
      refine V_icmp_lt (tgt := 44) dX5_isOneTooMany_37 rfl r3 (by decide) (fun q => ?_) (fun q => ?_)
      · replace h := h.1 q
        refine V_iconst dX5_isOneTooMany_44 ?_
        exact V_zreturn (stk := []) rfl dX5_isOneTooMany_45 (by decide) h
      · replace h := h.2 q
        refine V_iconst dX5_isOneTooMany_40 ?_
        refine V_goto (tgt := 45) dX5_isOneTooMany_41 rfl ?_
        exact V_zreturn (stk := []) rfl dX5_isOneTooMany_45 (by decide) h
    · have e9 : off = 45 := (Option.some.inj (show some (45 : Int) = some off from ho)).symm
      subst e9
      obtain rfl : tgt = 46 := by omega
      replace h := h.2.2.1 (by omega)
      refine V_aload_n dX5_isOneTooMany_46 rfl rfl ?_
      refine V_getI (f := (σ 3 6)) flX5_35 rfl (rfl) (by decide) dX5_isOneTooMany_47 ?_
      refine V_bipush dX5_isOneTooMany_50 (by decide) ?_
      obtain ⟨r4, h⟩ := h
      refine V_icmp_lt (tgt := 59) dX5_isOneTooMany_52 rfl r4 (by decide) (fun q => ?_) (fun q => ?_)
      · replace h := h.1 q
        refine V_iconst dX5_isOneTooMany_59 ?_
        exact V_zreturn (stk := []) rfl dX5_isOneTooMany_60 (by decide) h
      · replace h := h.2 q
        refine V_iconst dX5_isOneTooMany_55 ?_
        refine V_goto (tgt := 60) dX5_isOneTooMany_56 rfl ?_
        exact V_zreturn (stk := []) rfl dX5_isOneTooMany_60 (by decide) h
    · have e9 : off = 60 := (Option.some.inj (show some (60 : Int) = some off from ho)).symm
      subst e9
      obtain rfl : tgt = 61 := by omega
      replace h := h.2.2.2 (by omega)
      refine V_aload_n dX5_isOneTooMany_61 rfl rfl ?_
      refine V_getI (f := (σ 3 7)) flX5_38 rfl (rfl) (by decide) dX5_isOneTooMany_62 ?_
      refine V_bipush dX5_isOneTooMany_65 (by decide) ?_
      obtain ⟨r5, h⟩ := h
      refine V_icmp_lt (tgt := 74) dX5_isOneTooMany_67 rfl r5 (by decide) (fun q => ?_) (fun q => ?_)
      · replace h := h.1 q
        refine V_iconst dX5_isOneTooMany_74 ?_
        exact V_zreturn (stk := []) rfl dX5_isOneTooMany_75 (by decide) h
      · replace h := h.2 q
        refine V_iconst dX5_isOneTooMany_70 ?_
        refine V_goto (tgt := 75) dX5_isOneTooMany_71 rfl ?_
        exact V_zreturn (stk := []) rfl dX5_isOneTooMany_75 (by decide) h
    · exact absurd ho (by simp)

set_option maxRecDepth 100000 in
theorem BX5_readEnd_0 {σ : Sg} {post : Po}  
  (h : Cl mX5_skipBlanks [vr 3] σ (pV fun σ1 => Cl mX5_byteHere [vr 3] σ1 (pI fun z2 σ2 => (rng z2) ∧ ((¬ z2 = 59 → Cl mX5_fail [vr 3, vi 1, vi (σ2 3 4)] σ2 (pI fun z3 σ3 => post none σ3)) ∧ (z2 = 59 → post none (up σ2 3 4 ((σ2 3 4) + 1))))))) :
  V mX5_readEnd 0 [some (vr 3)] [] σ post := by
  refine V_aload_n dX5_readEnd_0 rfl rfl ?_
  refine V_callV (av := []) (stk := []) cvX5_47 rfl rfl rfl (by decide) (by simp [ctg]) dX5_readEnd_1 h ?_
  rintro _ σ1 ⟨rfl, h⟩
  refine V_aload_n dX5_readEnd_4 rfl rfl ?_
  refine V_callV (av := []) (stk := []) cvX5_107 rfl rfl rfl (by decide) (by simp [ctg]) dX5_readEnd_5 h ?_
  rintro _ σ2 ⟨z2, rfl, h⟩
  refine V_bipush dX5_readEnd_8 (by decide) ?_
  obtain ⟨r1, h⟩ := h
  refine V_icmp_ne (tgt := 26) dX5_readEnd_10 rfl r1 (by decide) (fun q => ?_) (fun q => ?_)
  · replace h := h.1 q
    refine V_aload_n dX5_readEnd_26 rfl rfl ?_
    refine V_iconst dX5_readEnd_27 ?_
    refine V_aload_n dX5_readEnd_28 rfl rfl ?_
    refine V_getI (f := (σ2 3 4)) flX5_25 rfl (rfl) (by decide) dX5_readEnd_29 ?_
    refine V_callV (av := [vi 1, vi (σ2 3 4)]) (stk := []) cvX5_73 rfl rfl rfl (by decide) (by simp [ctg]) dX5_readEnd_32 h ?_
    rintro _ σ3 ⟨z3, rfl, h⟩
    refine V_pop dX5_readEnd_35 trivial ?_
    exact V_return (stk := []) rfl dX5_readEnd_36 h
  · replace h := h.2 q
    refine V_aload_n dX5_readEnd_13 rfl rfl ?_
    refine V_dup dX5_readEnd_14 trivial ?_
    refine V_getI (f := (σ2 3 4)) flX5_25 rfl (rfl) (by decide) dX5_readEnd_15 ?_
    refine V_iconst dX5_readEnd_18 ?_
    refine V_iadd dX5_readEnd_19 ?_
    refine V_putI flX5_25 rfl (by decide) dX5_readEnd_20 ?_
    refine V_goto (tgt := 36) dX5_readEnd_23 rfl ?_
    exact V_return (stk := []) rfl dX5_readEnd_36 h

set_option maxRecDepth 100000 in
theorem BX5_readMark_0 {σ : Sg} {post : Po}  
  (h : Cl mX5_readHead [vr 3] σ (pI fun z1 σ1 => Cl mX5_skipBlanks [vr 3] σ1 (pV fun σ2 => (rng (σ2 3 1)) ∧ ((¬ (σ2 3 1) = 0 → V mX5_readMark 43 [some (vr 3), some (vi z1), some (vi (-1)), none, none, none] [] σ2 post) ∧ ((σ2 3 1) = 0 → Cl mX5_byteHere [vr 3] σ2 (pI fun z3 σ3 => (rng z3) ∧ ((¬ z3 = 47 → V mX5_readMark 43 [some (vr 3), some (vi z1), some (vi (-1)), none, none, none] [] σ3 post) ∧ (z3 = 47 → Cl mX5_readSub [vr 3, vi z1] (up σ3 3 4 ((σ3 3 4) + 1)) (pI fun z4 σ4 => V mX5_readMark 43 [some (vr 3), some (vi z1), some (vi z4), none, none, none] [] σ4 post))))))))) :
  V mX5_readMark 0 [some (vr 3), none, none, none, none, none] [] σ post := by
  refine V_aload_n dX5_readMark_0 rfl rfl ?_
  refine V_callV (av := []) (stk := []) cvX5_110 rfl rfl rfl (by decide) (by simp [ctg]) dX5_readMark_1 h ?_
  rintro _ σ1 ⟨z1, rfl, h⟩
  refine V_istore_n (L' := [some (vr 3), some (vi z1), none, none, none, none]) dX5_readMark_4 rfl (by decide) rfl ?_
  refine V_iconst dX5_readMark_5 ?_
  refine V_istore_n (L' := [some (vr 3), some (vi z1), some (vi (-1)), none, none, none]) dX5_readMark_6 rfl (by decide) rfl ?_
  refine V_aload_n dX5_readMark_7 rfl rfl ?_
  refine V_callV (av := []) (stk := []) cvX5_47 rfl rfl rfl (by decide) (by simp [ctg]) dX5_readMark_8 h ?_
  rintro _ σ2 ⟨rfl, h⟩
  refine V_aload_n dX5_readMark_11 rfl rfl ?_
  refine V_getI (f := (σ2 3 1)) flX5_15 rfl (rfl) (by decide) dX5_readMark_12 ?_
  obtain ⟨r1, h⟩ := h
  refine V_if_ne (tgt := 43) dX5_readMark_15 rfl r1 (fun q => ?_) (fun q => ?_)
  · replace h := h.1 q
    exact V.sub (SubL_s (SubL_s (SubL_s (SubL_n (SubL_n (SubL_n (SubL_0))))))) h
  · replace h := h.2 q
    refine V_aload_n dX5_readMark_18 rfl rfl ?_
    refine V_callV (av := []) (stk := []) cvX5_107 rfl rfl rfl (by decide) (by simp [ctg]) dX5_readMark_19 h ?_
    rintro _ σ3 ⟨z3, rfl, h⟩
    refine V_bipush dX5_readMark_22 (by decide) ?_
    obtain ⟨r2, h⟩ := h
    refine V_icmp_ne (tgt := 43) dX5_readMark_24 rfl r2 (by decide) (fun q => ?_) (fun q => ?_)
    · replace h := h.1 q
      exact V.sub (SubL_s (SubL_s (SubL_s (SubL_n (SubL_n (SubL_n (SubL_0))))))) h
    · replace h := h.2 q
      refine V_aload_n dX5_readMark_27 rfl rfl ?_
      refine V_dup dX5_readMark_28 trivial ?_
      refine V_getI (f := (σ3 3 4)) flX5_25 rfl (rfl) (by decide) dX5_readMark_29 ?_
      refine V_iconst dX5_readMark_32 ?_
      refine V_iadd dX5_readMark_33 ?_
      refine V_putI flX5_25 rfl (by decide) dX5_readMark_34 ?_
      refine V_aload_n dX5_readMark_37 rfl rfl ?_
      refine V_iload_n dX5_readMark_38 rfl rfl ?_
      refine V_callV (av := [vi z1]) (stk := []) cvX5_113 rfl rfl rfl (by decide) (by simp [ctg]) dX5_readMark_39 h ?_
      rintro _ σ4 ⟨z4, rfl, h⟩
      refine V_istore_n (L' := [some (vr 3), some (vi z1), some (vi z4), none, none, none]) dX5_readMark_42 rfl (by decide) rfl ?_
      exact V.sub (SubL_s (SubL_s (SubL_s (SubL_n (SubL_n (SubL_n (SubL_0))))))) h
set_option maxRecDepth 100000 in
theorem BX5_readMark_43 {σ : Sg} {post : Po} {x1 : Int} {x2 : Int} 
  (h : Cl mX5_readNumber [vr 3, vi 1, vi 99] σ (pI fun z1 σ1 => Cl mX5_skipBlanks [vr 3] σ1 (pV fun σ2 => (rng (σ2 3 1)) ∧ ((¬ (σ2 3 1) = 0 → V mX5_readMark 95 [some (vr 3), some (vi x1), some (vi x2), some (vi z1), some (vi z1), none] [] σ2 post) ∧ ((σ2 3 1) = 0 → Cl mX5_byteHere [vr 3] σ2 (pI fun z3 σ3 => (rng z3) ∧ ((¬ z3 = 45 → V mX5_readMark 95 [some (vr 3), some (vi x1), some (vi x2), some (vi z1), some (vi z1), none] [] σ3 post) ∧ (z3 = 45 → Cl mX5_readNumber [vr 3, vi (z1 + 1), vi 99] (up σ3 3 4 ((σ3 3 4) + 1)) (pI fun z4 σ4 => V mX5_readMark 95 [some (vr 3), some (vi x1), some (vi x2), some (vi z1), some (vi z4), none] [] σ4 post))))))))) :
  V mX5_readMark 43 [some (vr 3), some (vi x1), some (vi x2), none, none, none] [] σ post := by
  refine V_aload_n dX5_readMark_43 rfl rfl ?_
  refine V_iconst dX5_readMark_44 ?_
  refine V_bipush dX5_readMark_45 (by decide) ?_
  refine V_callV (av := [vi 1, vi 99]) (stk := []) cvX5_117 rfl rfl rfl (by decide) (by simp [ctg]) dX5_readMark_47 h ?_
  rintro _ σ1 ⟨z1, rfl, h⟩
  refine V_istore_n (L' := [some (vr 3), some (vi x1), some (vi x2), some (vi z1), none, none]) dX5_readMark_50 rfl (by decide) rfl ?_
  refine V_iload_n dX5_readMark_51 rfl rfl ?_
  refine V_istore (L' := [some (vr 3), some (vi x1), some (vi x2), some (vi z1), some (vi z1), none]) dX5_readMark_52 (by decide) rfl ?_
  refine V_aload_n dX5_readMark_54 rfl rfl ?_
  refine V_callV (av := []) (stk := []) cvX5_47 rfl rfl rfl (by decide) (by simp [ctg]) dX5_readMark_55 h ?_
  rintro _ σ2 ⟨rfl, h⟩
  refine V_aload_n dX5_readMark_58 rfl rfl ?_
  refine V_getI (f := (σ2 3 1)) flX5_15 rfl (rfl) (by decide) dX5_readMark_59 ?_
  obtain ⟨r1, h⟩ := h
  refine V_if_ne (tgt := 95) dX5_readMark_62 rfl r1 (fun q => ?_) (fun q => ?_)
  · replace h := h.1 q
    exact V.sub (SubL_s (SubL_s (SubL_s (SubL_s (SubL_s (SubL_n (SubL_0))))))) h
  · replace h := h.2 q
    refine V_aload_n dX5_readMark_65 rfl rfl ?_
    refine V_callV (av := []) (stk := []) cvX5_107 rfl rfl rfl (by decide) (by simp [ctg]) dX5_readMark_66 h ?_
    rintro _ σ3 ⟨z3, rfl, h⟩
    refine V_bipush dX5_readMark_69 (by decide) ?_
    obtain ⟨r2, h⟩ := h
    refine V_icmp_ne (tgt := 95) dX5_readMark_71 rfl r2 (by decide) (fun q => ?_) (fun q => ?_)
    · replace h := h.1 q
      exact V.sub (SubL_s (SubL_s (SubL_s (SubL_s (SubL_s (SubL_n (SubL_0))))))) h
    · replace h := h.2 q
      refine V_aload_n dX5_readMark_74 rfl rfl ?_
      refine V_dup dX5_readMark_75 trivial ?_
      refine V_getI (f := (σ3 3 4)) flX5_25 rfl (rfl) (by decide) dX5_readMark_76 ?_
      refine V_iconst dX5_readMark_79 ?_
      refine V_iadd dX5_readMark_80 ?_
      refine V_putI flX5_25 rfl (by decide) dX5_readMark_81 ?_
      refine V_aload_n dX5_readMark_84 rfl rfl ?_
      refine V_iload_n dX5_readMark_85 rfl rfl ?_
      refine V_iconst dX5_readMark_86 ?_
      refine V_iadd dX5_readMark_87 ?_
      refine V_bipush dX5_readMark_88 (by decide) ?_
      refine V_callV (av := [vi (z1 + 1), vi 99]) (stk := []) cvX5_117 rfl rfl rfl (by decide) (by simp [ctg]) dX5_readMark_90 h ?_
      rintro _ σ4 ⟨z4, rfl, h⟩
      refine V_istore (L' := [some (vr 3), some (vi x1), some (vi x2), some (vi z1), some (vi z4), none]) dX5_readMark_93 (by decide) rfl ?_
      exact V.sub (SubL_s (SubL_s (SubL_s (SubL_s (SubL_s (SubL_n (SubL_0))))))) h
set_option maxRecDepth 100000 in
theorem BX5_readMark_95 {σ : Sg} {post : Po} {x1 : Int} {x2 : Int} {x3 : Int} {x4 : Int} 
  (h : Cl mX5_readMain [vr 3] σ (pI fun z1 σ1 => (rng (σ1 3 1)) ∧ ((¬ (σ1 3 1) = 0 → post none σ1) ∧ ((σ1 3 1) = 0 → ((σ1 3 5) = 41) ∧ (Cl mX0_putMark [vr 41, vi x1, vi x2, vi x3, vi x4, vi z1] σ1 (pI fun z2 σ2 => post none σ2)))))) :
  V mX5_readMark 95 [some (vr 3), some (vi x1), some (vi x2), some (vi x3), some (vi x4), none] [] σ post := by
  refine V_aload_n dX5_readMark_95 rfl rfl ?_
  refine V_callV (av := []) (stk := []) cvX5_120 rfl rfl rfl (by decide) (by simp [ctg]) dX5_readMark_96 h ?_
  rintro _ σ1 ⟨z1, rfl, h⟩
  refine V_istore (L' := [some (vr 3), some (vi x1), some (vi x2), some (vi x3), some (vi x4), some (vi z1)]) dX5_readMark_99 (by decide) rfl ?_
  refine V_aload_n dX5_readMark_101 rfl rfl ?_
  refine V_getI (f := (σ1 3 1)) flX5_15 rfl (rfl) (by decide) dX5_readMark_102 ?_
  obtain ⟨r1, h⟩ := h
  refine V_if_ne (tgt := 123) dX5_readMark_105 rfl r1 (fun q => ?_) (fun q => ?_)
  · replace h := h.1 q
    exact V_return (stk := []) rfl dX5_readMark_123 h
  · replace h := h.2 q
    refine V_aload_n dX5_readMark_108 rfl rfl ?_
    obtain ⟨r2, h⟩ := h
    refine V_getM (k2 := 41) flX5_31 rfl (r2) (by decide) dX5_readMark_109 ?_
    refine V_iload_n dX5_readMark_112 rfl rfl ?_
    refine V_iload_n dX5_readMark_113 rfl rfl ?_
    refine V_iload_n dX5_readMark_114 rfl rfl ?_
    refine V_iload dX5_readMark_115 rfl ?_
    refine V_iload dX5_readMark_117 rfl ?_
    refine V_callV (av := [vi x1, vi x2, vi x3, vi x4, vi z1]) (stk := []) cvX5_124 rfl rfl rfl (by decide) (by simp [ctg]) dX5_readMark_119 h ?_
    rintro _ σ2 ⟨z2, rfl, h⟩
    refine V_pop dX5_readMark_122 trivial ?_
    exact V_return (stk := []) rfl dX5_readMark_123 h

set_option maxRecDepth 100000 in
theorem BX5_readMain_0 {σ : Sg} {post : Po}  
  (h : Cl mX5_skipBlanks [vr 3] σ (pV fun σ1 => (rng (σ1 3 1)) ∧ ((¬ (σ1 3 1) = 0 → post (some (vi 0)) σ1) ∧ ((σ1 3 1) = 0 → Cl mX5_byteHere [vr 3] σ1 (pI fun z2 σ2 => Cl mX5_isLetter [vi z2] σ2 (pI fun z3 σ3 => (rng z3) ∧ ((¬ z3 = 0 → Cl mX5_skipWord [vr 3] σ3 (pV fun σ4 => Cl mX5_isWord [vr 3, vi (σ3 3 4), vi (σ4 3 4), vr (200 + 6)] σ4 (pI fun z5 σ5 => (rng z5) ∧ ((¬ z5 = 0 → post (some (vi 1)) σ5) ∧ (z5 = 0 → Cl mX5_fail [vr 3, vi 1, vi (σ3 3 4)] σ5 (pI fun z6 σ6 => post (some (vi 1)) σ6)))))) ∧ (z3 = 0 → post (some (vi 0)) σ3)))))))) :
  V mX5_readMain 0 [some (vr 3), none] [] σ post := by
  refine V_aload_n dX5_readMain_0 rfl rfl ?_
  refine V_callV (av := []) (stk := []) cvX5_47 rfl rfl rfl (by decide) (by simp [ctg]) dX5_readMain_1 h ?_
  rintro _ σ1 ⟨rfl, h⟩
  refine V_aload_n dX5_readMain_4 rfl rfl ?_
  refine V_getI (f := (σ1 3 1)) flX5_15 rfl (rfl) (by decide) dX5_readMain_5 ?_
  obtain ⟨r1, h⟩ := h
  refine V_if_ne (tgt := 21) dX5_readMain_8 rfl r1 (fun q => ?_) (fun q => ?_)
  · replace h := h.1 q
    refine V_iconst dX5_readMain_21 ?_
    exact V_zreturn (stk := []) rfl dX5_readMain_22 (by decide) h
  · replace h := h.2 q
    refine V_aload_n dX5_readMain_11 rfl rfl ?_
    refine V_callV (av := []) (stk := []) cvX5_107 rfl rfl rfl (by decide) (by simp [ctg]) dX5_readMain_12 h ?_
    rintro _ σ2 ⟨z2, rfl, h⟩
    refine V_callS (av := [vi z2]) (stk := []) cvX5_50 rfl rfl (by decide) (by simp [ctg]) dX5_readMain_15 h ?_
    rintro _ σ3 ⟨z3, rfl, h⟩
    obtain ⟨r2, h⟩ := h
    refine V_if_ne (tgt := 23) dX5_readMain_18 rfl r2 (fun q => ?_) (fun q => ?_)
    · replace h := h.1 q
      refine V_aload_n dX5_readMain_23 rfl rfl ?_
      refine V_getI (f := (σ3 3 4)) flX5_25 rfl (rfl) (by decide) dX5_readMain_24 ?_
      refine V_istore_n (L' := [some (vr 3), some (vi (σ3 3 4))]) dX5_readMain_27 rfl (by decide) rfl ?_
      refine V_aload_n dX5_readMain_28 rfl rfl ?_
      refine V_callV (av := []) (stk := []) cvX5_66 rfl rfl rfl (by decide) (by simp [ctg]) dX5_readMain_29 h ?_
      rintro _ σ4 ⟨rfl, h⟩
      refine V_aload_n dX5_readMain_32 rfl rfl ?_
      refine V_iload_n dX5_readMain_33 rfl rfl ?_
      refine V_aload_n dX5_readMain_34 rfl rfl ?_
      refine V_getI (f := (σ4 3 4)) flX5_25 rfl (rfl) (by decide) dX5_readMain_35 ?_
      refine V_ldcS dX5_readMain_38 ksX5_128 ?_
      refine V_callV (av := [vi (σ3 3 4), vi (σ4 3 4), vr (200 + 6)]) (stk := []) cvX5_94 rfl rfl rfl (by decide) (by simp [ctg]) dX5_readMain_40 h ?_
      rintro _ σ5 ⟨z5, rfl, h⟩
      obtain ⟨r3, h⟩ := h
      refine V_if_ne (tgt := 53) dX5_readMain_43 rfl r3 (fun q => ?_) (fun q => ?_)
      · replace h := h.1 q
        refine V_iconst dX5_readMain_53 ?_
        exact V_zreturn (stk := []) rfl dX5_readMain_54 (by decide) h
      · replace h := h.2 q
        refine V_aload_n dX5_readMain_46 rfl rfl ?_
        refine V_iconst dX5_readMain_47 ?_
        refine V_iload_n dX5_readMain_48 rfl rfl ?_
        refine V_callV (av := [vi 1, vi (σ3 3 4)]) (stk := []) cvX5_73 rfl rfl rfl (by decide) (by simp [ctg]) dX5_readMain_49 h ?_
        rintro _ σ6 ⟨z6, rfl, h⟩
        refine V_pop dX5_readMain_52 trivial ?_
        refine V_iconst dX5_readMain_53 ?_
        exact V_zreturn (stk := []) rfl dX5_readMain_54 (by decide) h
    · replace h := h.2 q
      refine V_iconst dX5_readMain_21 ?_
      exact V_zreturn (stk := []) rfl dX5_readMain_22 (by decide) h

set_option maxRecDepth 100000 in
theorem BX5_readLink_0 {σ : Sg} {post : Po} {x1 : Int} 
  (h : Cl mX5_readHead [vr 3] σ (pI fun z1 σ1 => (rng (σ1 3 1)) ∧ ((¬ (σ1 3 1) = 0 → V mX5_readLink 42 [some (vr 3), some (vi x1), some (vi z1), none] [] σ1 post) ∧ ((σ1 3 1) = 0 → (rng x1) ∧ ((¬ x1 = 1 → V mX5_readLink 42 [some (vr 3), some (vi x1), some (vi z1), none] [] σ1 post) ∧ (x1 = 1 → ((σ1 3 5) = 41) ∧ ((0 ≤ z1 ∧ z1 < 16) ∧ ((rng (σ1 45 z1)) ∧ (((σ1 45 z1) = (-1) → V mX5_readLink 42 [some (vr 3), some (vi x1), some (vi z1), none] [] σ1 post) ∧ (¬ (σ1 45 z1) = (-1) → Cl mX5_wordPlace [vr 3, vi z1] σ1 (pI fun z2 σ2 => Cl mX5_fail [vr 3, vi 6, vi z2] σ2 (pI fun z3 σ3 => V mX5_readLink 42 [some (vr 3), some (vi x1), some (vi z1), none] [] σ3 post)))))))))))) :
  V mX5_readLink 0 [some (vr 3), some (vi x1), none, none] [] σ post := by
  refine V_aload_n dX5_readLink_0 rfl rfl ?_
  refine V_callV (av := []) (stk := []) cvX5_110 rfl rfl rfl (by decide) (by simp [ctg]) dX5_readLink_1 h ?_
  rintro _ σ1 ⟨z1, rfl, h⟩
  refine V_istore_n (L' := [some (vr 3), some (vi x1), some (vi z1), none]) dX5_readLink_4 rfl (by decide) rfl ?_
  refine V_aload_n dX5_readLink_5 rfl rfl ?_
  refine V_getI (f := (σ1 3 1)) flX5_15 rfl (rfl) (by decide) dX5_readLink_6 ?_
  obtain ⟨r1, h⟩ := h
  refine V_if_ne (tgt := 42) dX5_readLink_9 rfl r1 (fun q => ?_) (fun q => ?_)
  · replace h := h.1 q
    exact V.sub (SubL_s (SubL_s (SubL_s (SubL_n (SubL_0))))) h
  · replace h := h.2 q
    refine V_iload_n dX5_readLink_12 rfl rfl ?_
    refine V_iconst dX5_readLink_13 ?_
    obtain ⟨r2, h⟩ := h
    refine V_icmp_ne (tgt := 42) dX5_readLink_14 rfl r2 (by decide) (fun q => ?_) (fun q => ?_)
    · replace h := h.1 q
      exact V.sub (SubL_s (SubL_s (SubL_s (SubL_n (SubL_0))))) h
    · replace h := h.2 q
      refine V_aload_n dX5_readLink_17 rfl rfl ?_
      obtain ⟨r3, h⟩ := h
      refine V_getM (k2 := 41) flX5_31 rfl (r3) (by decide) dX5_readLink_18 ?_
      refine V_getR (k2 := 45) flX5_130 rfl rfl (by decide) dX5_readLink_21 ?_
      refine V_iload_n dX5_readLink_24 rfl rfl ?_
      obtain ⟨r4, h⟩ := h
      refine V_iald (f := (σ1 45 z1)) (rfl : shp[45]? = some (1, 16, 0)) r4 (rfl) dX5_readLink_25 ?_
      refine V_iconst dX5_readLink_26 ?_
      obtain ⟨r5, h⟩ := h
      refine V_icmp_eq (tgt := 42) dX5_readLink_27 rfl r5 (by decide) (fun q => ?_) (fun q => ?_)
      · replace h := h.1 q
        exact V.sub (SubL_s (SubL_s (SubL_s (SubL_n (SubL_0))))) h
      · replace h := h.2 q
        refine V_aload_n dX5_readLink_30 rfl rfl ?_
        refine V_bipush dX5_readLink_31 (by decide) ?_
        refine V_aload_n dX5_readLink_33 rfl rfl ?_
        refine V_iload_n dX5_readLink_34 rfl rfl ?_
        refine V_callV (av := [vi z1]) (stk := [vi 6, vr 3]) cvX5_133 rfl rfl rfl (by decide) (by simp [ctg]) dX5_readLink_35 h ?_
        rintro _ σ2 ⟨z2, rfl, h⟩
        refine V_callV (av := [vi 6, vi z2]) (stk := []) cvX5_73 rfl rfl rfl (by decide) (by simp [ctg]) dX5_readLink_38 h ?_
        rintro _ σ3 ⟨z3, rfl, h⟩
        refine V_pop dX5_readLink_41 trivial ?_
        exact V.sub (SubL_s (SubL_s (SubL_s (SubL_n (SubL_0))))) h
set_option maxRecDepth 100000 in
theorem BX5_readLink_42 {σ : Sg} {post : Po} {x1 : Int} {x2 : Int} 
  (h : Cl mX5_readHead [vr 3] σ (pI fun z1 σ1 => (rng (σ1 3 1)) ∧ (((σ1 3 1) = 0 → (rng z1) ∧ ((rng x2) ∧ ((z1 = x2 → V mX5_readLink 81 [some (vr 3), none, none, some (vi z1)] [] σ1 post) ∧ (¬ z1 = x2 → (rng x1) ∧ ((¬ x1 = 2 → V mX5_readLink 96 [some (vr 3), some (vi x1), some (vi x2), some (vi z1)] [] σ1 post) ∧ (x1 = 2 → ((σ1 3 5) = 41) ∧ ((0 ≤ x2 ∧ x2 < 16) ∧ (Cl mX11_isIn [vi (σ1 46 x2), vi z1] σ1 (pI fun z2 σ2 => (rng z2) ∧ ((z2 = 0 → V mX5_readLink 96 [some (vr 3), some (vi x1), some (vi x2), some (vi z1)] [] σ2 post) ∧ (¬ z2 = 0 → V mX5_readLink 81 [some (vr 3), none, none, some (vi z1)] [] σ2 post))))))))))) ∧ (¬ (σ1 3 1) = 0 → post none σ1)))) :
  V mX5_readLink 42 [some (vr 3), some (vi x1), some (vi x2), none] [] σ post := by
  refine V_aload_n dX5_readLink_42 rfl rfl ?_
  refine V_callV (av := []) (stk := []) cvX5_110 rfl rfl rfl (by decide) (by simp [ctg]) dX5_readLink_43 h ?_
  rintro _ σ1 ⟨z1, rfl, h⟩
  refine V_istore_n (L' := [some (vr 3), some (vi x1), some (vi x2), some (vi z1)]) dX5_readLink_46 rfl (by decide) rfl ?_
  refine V_aload_n dX5_readLink_47 rfl rfl ?_
  refine V_getI (f := (σ1 3 1)) flX5_15 rfl (rfl) (by decide) dX5_readLink_48 ?_
  obtain ⟨r1, h⟩ := h
  refine V_if_eq (tgt := 55) dX5_readLink_51 rfl r1 (fun q => ?_) (fun q => ?_)
  · replace h := h.1 q
    refine V_iload_n dX5_readLink_55 rfl rfl ?_
    refine V_iload_n dX5_readLink_56 rfl rfl ?_
    obtain ⟨r2, h⟩ := h
    obtain ⟨r3, h⟩ := h
    refine V_icmp_eq (tgt := 81) dX5_readLink_57 rfl r2 r3 (fun q => ?_) (fun q => ?_)
    · replace h := h.1 q
      exact V.sub (SubL_s (SubL_n (SubL_n (SubL_s (SubL_0))))) h
    · replace h := h.2 q
      refine V_iload_n dX5_readLink_60 rfl rfl ?_
      refine V_iconst dX5_readLink_61 ?_
      obtain ⟨r4, h⟩ := h
      refine V_icmp_ne (tgt := 96) dX5_readLink_62 rfl r4 (by decide) (fun q => ?_) (fun q => ?_)
      · replace h := h.1 q
        exact V.sub (SubL_s (SubL_s (SubL_s (SubL_s (SubL_0))))) h
      · replace h := h.2 q
        refine V_aload_n dX5_readLink_65 rfl rfl ?_
        obtain ⟨r5, h⟩ := h
        refine V_getM (k2 := 41) flX5_31 rfl (r5) (by decide) dX5_readLink_66 ?_
        refine V_getR (k2 := 46) flX5_136 rfl rfl (by decide) dX5_readLink_69 ?_
        refine V_iload_n dX5_readLink_72 rfl rfl ?_
        obtain ⟨r6, h⟩ := h
        refine V_iald (f := (σ1 46 x2)) (rfl : shp[46]? = some (1, 16, 0)) r6 (rfl) dX5_readLink_73 ?_
        refine V_iload_n dX5_readLink_74 rfl rfl ?_
        refine V_callN (av := [vi (σ1 46 x2), vi z1]) (stk := []) cvX5_138 rfl rfl (by decide) (by simp [ctg]) dX5_readLink_75 h ?_
        rintro _ σ2 ⟨z2, rfl, h⟩
        obtain ⟨r7, h⟩ := h
        refine V_if_eq (tgt := 96) dX5_readLink_78 rfl r7 (fun q => ?_) (fun q => ?_)
        · replace h := h.1 q
          exact V.sub (SubL_s (SubL_s (SubL_s (SubL_s (SubL_0))))) h
        · replace h := h.2 q
          exact V.sub (SubL_s (SubL_n (SubL_n (SubL_s (SubL_0))))) h
  · replace h := h.2 q
    exact V_return (stk := []) rfl dX5_readLink_54 h
set_option maxRecDepth 100000 in
theorem BX5_readLink_81 {σ : Sg} {post : Po} {x3 : Int} 
  (h : Cl mX5_wordPlace [vr 3, vi x3] σ (pI fun z1 σ1 => Cl mX5_fail [vr 3, vi 6, vi z1] σ1 (pI fun z2 σ2 => post none σ2))) :
  V mX5_readLink 81 [some (vr 3), none, none, some (vi x3)] [] σ post := by
  refine V_aload_n dX5_readLink_81 rfl rfl ?_
  refine V_bipush dX5_readLink_82 (by decide) ?_
  refine V_aload_n dX5_readLink_84 rfl rfl ?_
  refine V_iload_n dX5_readLink_85 rfl rfl ?_
  refine V_callV (av := [vi x3]) (stk := [vi 6, vr 3]) cvX5_133 rfl rfl rfl (by decide) (by simp [ctg]) dX5_readLink_86 h ?_
  rintro _ σ1 ⟨z1, rfl, h⟩
  refine V_callV (av := [vi 6, vi z1]) (stk := []) cvX5_73 rfl rfl rfl (by decide) (by simp [ctg]) dX5_readLink_89 h ?_
  rintro _ σ2 ⟨z2, rfl, h⟩
  refine V_pop dX5_readLink_92 trivial ?_
  refine V_goto (tgt := 149) dX5_readLink_93 rfl ?_
  exact V_return (stk := []) rfl dX5_readLink_149 h
set_option maxRecDepth 100000 in
theorem BX5_readLink_96 {σ : Sg} {post : Po} {x1 : Int} {x2 : Int} {x3 : Int} 
  (h : (rng x1) ∧ ((¬ x1 = 1 → ((σ 3 5) = 41) ∧ ((0 ≤ x2 ∧ x2 < 16) ∧ (post none (up (up σ 46 x2 (iOr (σ 46 x2) (iShl 1 x3))) 3 7 ((σ 3 7) + 1))))) ∧ (x1 = 1 → ((σ 3 5) = 41) ∧ ((0 ≤ x2 ∧ x2 < 16) ∧ (post none (up (up σ 45 x2 x3) 3 6 ((σ 3 6) + 1))))))) :
  V mX5_readLink 96 [some (vr 3), some (vi x1), some (vi x2), some (vi x3)] [] σ post := by
  refine V_iload_n dX5_readLink_96 rfl rfl ?_
  refine V_iconst dX5_readLink_97 ?_
  obtain ⟨r1, h⟩ := h
  refine V_icmp_ne (tgt := 124) dX5_readLink_98 rfl r1 (by decide) (fun q => ?_) (fun q => ?_)
  · replace h := h.1 q
    refine V_aload_n dX5_readLink_124 rfl rfl ?_
    obtain ⟨r2, h⟩ := h
    refine V_getM (k2 := 41) flX5_31 rfl (r2) (by decide) dX5_readLink_125 ?_
    refine V_getR (k2 := 46) flX5_136 rfl rfl (by decide) dX5_readLink_128 ?_
    refine V_iload_n dX5_readLink_131 rfl rfl ?_
    refine V_dup2 dX5_readLink_132 trivial trivial ?_
    obtain ⟨r3, h⟩ := h
    refine V_iald (f := (σ 46 x2)) (rfl : shp[46]? = some (1, 16, 0)) r3 (rfl) dX5_readLink_133 ?_
    refine V_iconst dX5_readLink_134 ?_
    refine V_iload_n dX5_readLink_135 rfl rfl ?_
    refine V_ishl dX5_readLink_136 ?_
    refine V_ior dX5_readLink_137 ?_
    refine V_iast (rfl : shp[46]? = some (1, 16, 0)) r3 dX5_readLink_138 ?_
    refine V_aload_n dX5_readLink_139 rfl rfl ?_
    refine V_dup dX5_readLink_140 trivial ?_
    refine V_getI (f := (σ 3 7)) flX5_38 rfl (up_o (by omega)) (by decide) dX5_readLink_141 ?_
    refine V_iconst dX5_readLink_144 ?_
    refine V_iadd dX5_readLink_145 ?_
    refine V_putI flX5_38 rfl (by decide) dX5_readLink_146 ?_
    exact V_return (stk := []) rfl dX5_readLink_149 h
  · replace h := h.2 q
    refine V_aload_n dX5_readLink_101 rfl rfl ?_
    obtain ⟨r4, h⟩ := h
    refine V_getM (k2 := 41) flX5_31 rfl (r4) (by decide) dX5_readLink_102 ?_
    refine V_getR (k2 := 45) flX5_130 rfl rfl (by decide) dX5_readLink_105 ?_
    refine V_iload_n dX5_readLink_108 rfl rfl ?_
    refine V_iload_n dX5_readLink_109 rfl rfl ?_
    obtain ⟨r5, h⟩ := h
    refine V_iast (rfl : shp[45]? = some (1, 16, 0)) r5 dX5_readLink_110 ?_
    refine V_aload_n dX5_readLink_111 rfl rfl ?_
    refine V_dup dX5_readLink_112 trivial ?_
    refine V_getI (f := (σ 3 6)) flX5_35 rfl (up_o (by omega)) (by decide) dX5_readLink_113 ?_
    refine V_iconst dX5_readLink_116 ?_
    refine V_iadd dX5_readLink_117 ?_
    refine V_putI flX5_35 rfl (by decide) dX5_readLink_118 ?_
    refine V_goto (tgt := 149) dX5_readLink_121 rfl ?_
    exact V_return (stk := []) rfl dX5_readLink_149 h

set_option maxRecDepth 100000 in
theorem BX5_readAsked_0 {σ : Sg} {post : Po}  
  (h : Cl mX5_readHead [vr 3] σ (pI fun z1 σ1 => (rng (σ1 3 1)) ∧ ((¬ (σ1 3 1) = 0 → V mX5_readAsked 35 [some (vr 3), some (vi z1), none] [] σ1 post) ∧ ((σ1 3 1) = 0 → Cl mX11_isIn [vi (σ1 3 8), vi z1] σ1 (pI fun z2 σ2 => (rng z2) ∧ ((z2 = 0 → V mX5_readAsked 35 [some (vr 3), some (vi z1), none] [] σ2 post) ∧ (¬ z2 = 0 → Cl mX5_wordPlace [vr 3, vi z1] σ2 (pI fun z3 σ3 => Cl mX5_fail [vr 3, vi 6, vi z3] σ3 (pI fun z4 σ4 => V mX5_readAsked 35 [some (vr 3), some (vi z1), none] [] σ4 post))))))))) :
  V mX5_readAsked 0 [some (vr 3), none, none] [] σ post := by
  refine V_aload_n dX5_readAsked_0 rfl rfl ?_
  refine V_callV (av := []) (stk := []) cvX5_110 rfl rfl rfl (by decide) (by simp [ctg]) dX5_readAsked_1 h ?_
  rintro _ σ1 ⟨z1, rfl, h⟩
  refine V_istore_n (L' := [some (vr 3), some (vi z1), none]) dX5_readAsked_4 rfl (by decide) rfl ?_
  refine V_aload_n dX5_readAsked_5 rfl rfl ?_
  refine V_getI (f := (σ1 3 1)) flX5_15 rfl (rfl) (by decide) dX5_readAsked_6 ?_
  obtain ⟨r1, h⟩ := h
  refine V_if_ne (tgt := 35) dX5_readAsked_9 rfl r1 (fun q => ?_) (fun q => ?_)
  · replace h := h.1 q
    exact V.sub (SubL_s (SubL_s (SubL_n (SubL_0)))) h
  · replace h := h.2 q
    refine V_aload_n dX5_readAsked_12 rfl rfl ?_
    refine V_getI (f := (σ1 3 8)) flX5_41 rfl (rfl) (by decide) dX5_readAsked_13 ?_
    refine V_iload_n dX5_readAsked_16 rfl rfl ?_
    refine V_callN (av := [vi (σ1 3 8), vi z1]) (stk := []) cvX5_138 rfl rfl (by decide) (by simp [ctg]) dX5_readAsked_17 h ?_
    rintro _ σ2 ⟨z2, rfl, h⟩
    obtain ⟨r2, h⟩ := h
    refine V_if_eq (tgt := 35) dX5_readAsked_20 rfl r2 (fun q => ?_) (fun q => ?_)
    · replace h := h.1 q
      exact V.sub (SubL_s (SubL_s (SubL_n (SubL_0)))) h
    · replace h := h.2 q
      refine V_aload_n dX5_readAsked_23 rfl rfl ?_
      refine V_bipush dX5_readAsked_24 (by decide) ?_
      refine V_aload_n dX5_readAsked_26 rfl rfl ?_
      refine V_iload_n dX5_readAsked_27 rfl rfl ?_
      refine V_callV (av := [vi z1]) (stk := [vi 6, vr 3]) cvX5_133 rfl rfl rfl (by decide) (by simp [ctg]) dX5_readAsked_28 h ?_
      rintro _ σ3 ⟨z3, rfl, h⟩
      refine V_callV (av := [vi 6, vi z3]) (stk := []) cvX5_73 rfl rfl rfl (by decide) (by simp [ctg]) dX5_readAsked_31 h ?_
      rintro _ σ4 ⟨z4, rfl, h⟩
      refine V_pop dX5_readAsked_34 trivial ?_
      exact V.sub (SubL_s (SubL_s (SubL_n (SubL_0)))) h
set_option maxRecDepth 100000 in
theorem BX5_readAsked_35 {σ : Sg} {post : Po} {x1 : Int} 
  (h : Cl mX5_readNumber [vr 3, vi 0, vi 99] σ (pI fun z1 σ1 => (rng (σ1 3 1)) ∧ ((¬ (σ1 3 1) = 0 → post none σ1) ∧ ((σ1 3 1) = 0 → ((σ1 3 5) = 41) ∧ ((0 ≤ x1 ∧ x1 < 16) ∧ (post none (up (up σ1 3 8 (iOr (σ1 3 8) (iShl 1 x1))) 47 x1 z1))))))) :
  V mX5_readAsked 35 [some (vr 3), some (vi x1), none] [] σ post := by
  refine V_aload_n dX5_readAsked_35 rfl rfl ?_
  refine V_iconst dX5_readAsked_36 ?_
  refine V_bipush dX5_readAsked_37 (by decide) ?_
  refine V_callV (av := [vi 0, vi 99]) (stk := []) cvX5_117 rfl rfl rfl (by decide) (by simp [ctg]) dX5_readAsked_39 h ?_
  rintro _ σ1 ⟨z1, rfl, h⟩
  refine V_istore_n (L' := [some (vr 3), some (vi x1), some (vi z1)]) dX5_readAsked_42 rfl (by decide) rfl ?_
  refine V_aload_n dX5_readAsked_43 rfl rfl ?_
  refine V_getI (f := (σ1 3 1)) flX5_15 rfl (rfl) (by decide) dX5_readAsked_44 ?_
  obtain ⟨r1, h⟩ := h
  refine V_if_ne (tgt := 72) dX5_readAsked_47 rfl r1 (fun q => ?_) (fun q => ?_)
  · replace h := h.1 q
    exact V_return (stk := []) rfl dX5_readAsked_72 h
  · replace h := h.2 q
    refine V_aload_n dX5_readAsked_50 rfl rfl ?_
    refine V_dup dX5_readAsked_51 trivial ?_
    refine V_getI (f := (σ1 3 8)) flX5_41 rfl (rfl) (by decide) dX5_readAsked_52 ?_
    refine V_iconst dX5_readAsked_55 ?_
    refine V_iload_n dX5_readAsked_56 rfl rfl ?_
    refine V_ishl dX5_readAsked_57 ?_
    refine V_ior dX5_readAsked_58 ?_
    refine V_putI flX5_41 rfl (by decide) dX5_readAsked_59 ?_
    refine V_aload_n dX5_readAsked_62 rfl rfl ?_
    obtain ⟨r2, h⟩ := h
    refine V_getM (k2 := 41) flX5_31 rfl ((up_f (by omega)).trans r2) (by decide) dX5_readAsked_63 ?_
    refine V_getR (k2 := 47) flX5_142 rfl rfl (by decide) dX5_readAsked_66 ?_
    refine V_iload_n dX5_readAsked_69 rfl rfl ?_
    refine V_iload_n dX5_readAsked_70 rfl rfl ?_
    obtain ⟨r3, h⟩ := h
    refine V_iast (rfl : shp[47]? = some (1, 16, 0)) r3 dX5_readAsked_71 ?_
    exact V_return (stk := []) rfl dX5_readAsked_72 h

set_option maxRecDepth 100000 in
theorem BX5_wordPlace_0 {σ : Sg} {post : Po} {x1 : Int} 
  (h : ((σ 3 5) = 41) ∧ ((0 ≤ x1 ∧ x1 < 16) ∧ (Cl mX10_lengthOf [vl (σ 42 x1)] σ (pI fun z1 σ1 => post (some (vi ((σ 3 4) - z1))) σ1)))) :
  V mX5_wordPlace 0 [some (vr 3), some (vi x1)] [] σ post := by
  refine V_aload_n dX5_wordPlace_0 rfl rfl ?_
  refine V_getI (f := (σ 3 4)) flX5_25 rfl (rfl) (by decide) dX5_wordPlace_1 ?_
  refine V_aload_n dX5_wordPlace_4 rfl rfl ?_
  obtain ⟨r1, h⟩ := h
  refine V_getM (k2 := 41) flX5_31 rfl (r1) (by decide) dX5_wordPlace_5 ?_
  refine V_getR (k2 := 42) flX5_145 rfl rfl (by decide) dX5_wordPlace_8 ?_
  refine V_iload_n dX5_wordPlace_11 rfl rfl ?_
  obtain ⟨r2, h⟩ := h
  refine V_lald (f := (σ 42 x1)) (rfl : shp[42]? = some (4, 16, 0)) r2 (rfl) dX5_wordPlace_12 ?_
  refine V_callS (av := [vl (σ 42 x1)]) (stk := [vi (σ 3 4)]) cvX5_149 rfl rfl (by decide) (by simp [ctg]) dX5_wordPlace_13 h ?_
  rintro _ σ1 ⟨z1, rfl, h⟩
  refine V_isub dX5_wordPlace_16 ?_
  exact V_ireturn (stk := []) rfl dX5_wordPlace_17 h

set_option maxRecDepth 100000 in
theorem BX5_readHead_0 {σ : Sg} {post : Po}  
  (h : Cl mX5_wordStart [vr 3] σ (pI fun z1 σ1 => (rng (σ1 3 1)) ∧ (((σ1 3 1) = 0 → Cl mX5_packWord [vr 3, vi z1] σ1 (pL fun z2 σ2 => ((σ2 3 5) = 41) ∧ (Cl mX0_findHead [vr 41, vl z2] σ2 (pI fun z3 σ3 => (rng z3) ∧ ((¬ z3 = (-1) → (¬ z3 = (-1) → post (some (vi z3)) σ3) ∧ (z3 = (-1) → Cl mX5_fail [vr 3, vi 4, vi z1] σ3 (pI fun z4 σ4 => post (some (vi z4)) σ4))) ∧ (z3 = (-1) → ((σ3 3 5) = 41) ∧ (Cl mX0_putHead [vr 41, vl z2] σ3 (pI fun z5 σ5 => (rng z5) ∧ ((¬ z5 = (-1) → post (some (vi z5)) σ5) ∧ (z5 = (-1) → Cl mX5_fail [vr 3, vi 4, vi z1] σ5 (pI fun z6 σ6 => post (some (vi z6)) σ6))))))))))) ∧ (¬ (σ1 3 1) = 0 → post (some (vi (-1))) σ1)))) :
  V mX5_readHead 0 [some (vr 3), none, none, none, none] [] σ post := by
  refine V_aload_n dX5_readHead_0 rfl rfl ?_
  refine V_callV (av := []) (stk := []) cvX5_155 rfl rfl rfl (by decide) (by simp [ctg]) dX5_readHead_1 h ?_
  rintro _ σ1 ⟨z1, rfl, h⟩
  refine V_istore_n (L' := [some (vr 3), some (vi z1), none, none, none]) dX5_readHead_4 rfl (by decide) rfl ?_
  refine V_aload_n dX5_readHead_5 rfl rfl ?_
  refine V_getI (f := (σ1 3 1)) flX5_15 rfl (rfl) (by decide) dX5_readHead_6 ?_
  obtain ⟨r1, h⟩ := h
  refine V_if_eq (tgt := 14) dX5_readHead_9 rfl r1 (fun q => ?_) (fun q => ?_)
  · replace h := h.1 q
    refine V_aload_n dX5_readHead_14 rfl rfl ?_
    refine V_iload_n dX5_readHead_15 rfl rfl ?_
    refine V_callV (av := [vi z1]) (stk := []) cvX5_158 rfl rfl rfl (by decide) (by simp [ctg]) dX5_readHead_16 h ?_
    rintro _ σ2 ⟨z2, rfl, h⟩
    refine V_lstore_n (L' := [some (vr 3), some (vi z1), some (vl z2), none, none]) dX5_readHead_19 rfl (by decide) rfl ?_
    refine V_aload_n dX5_readHead_20 rfl rfl ?_
    obtain ⟨r2, h⟩ := h
    refine V_getM (k2 := 41) flX5_31 rfl (r2) (by decide) dX5_readHead_21 ?_
    refine V_lload_n dX5_readHead_24 rfl rfl ?_
    refine V_callV (av := [vl z2]) (stk := []) cvX5_162 rfl rfl rfl (by decide) (by simp [ctg]) dX5_readHead_25 h ?_
    rintro _ σ3 ⟨z3, rfl, h⟩
    refine V_istore (L' := [some (vr 3), some (vi z1), some (vl z2), none, some (vi z3)]) dX5_readHead_28 (by decide) rfl ?_
    refine V_iload dX5_readHead_30 rfl ?_
    refine V_iconst dX5_readHead_32 ?_
    obtain ⟨r3, h⟩ := h
    refine V_icmp_ne (tgt := 46) dX5_readHead_33 rfl r3 (by decide) (fun q => ?_) (fun q => ?_)
    · replace h := h.1 q
      refine V_iload dX5_readHead_46 rfl ?_
      refine V_iconst dX5_readHead_48 ?_
      refine V_icmp_ne (tgt := 61) dX5_readHead_49 rfl r3 (by decide) (fun q => ?_) (fun q => ?_)
      · replace h := h.1 q
        refine V_iload dX5_readHead_61 rfl ?_
        exact V_ireturn (stk := []) rfl dX5_readHead_63 h
      · replace h := h.2 q
        refine V_aload_n dX5_readHead_52 rfl rfl ?_
        refine V_iconst dX5_readHead_53 ?_
        refine V_iload_n dX5_readHead_54 rfl rfl ?_
        refine V_callV (av := [vi 4, vi z1]) (stk := []) cvX5_73 rfl rfl rfl (by decide) (by simp [ctg]) dX5_readHead_55 h ?_
        rintro _ σ4 ⟨z4, rfl, h⟩
        refine V_goto (tgt := 63) dX5_readHead_58 rfl ?_
        exact V_ireturn (stk := []) rfl dX5_readHead_63 h
    · replace h := h.2 q
      refine V_aload_n dX5_readHead_36 rfl rfl ?_
      obtain ⟨r4, h⟩ := h
      refine V_getM (k2 := 41) flX5_31 rfl (r4) (by decide) dX5_readHead_37 ?_
      refine V_lload_n dX5_readHead_40 rfl rfl ?_
      refine V_callV (av := [vl z2]) (stk := []) cvX5_165 rfl rfl rfl (by decide) (by simp [ctg]) dX5_readHead_41 h ?_
      rintro _ σ5 ⟨z5, rfl, h⟩
      refine V_istore (L' := [some (vr 3), some (vi z1), some (vl z2), none, some (vi z5)]) dX5_readHead_44 (by decide) rfl ?_
      refine V_iload dX5_readHead_46 rfl ?_
      refine V_iconst dX5_readHead_48 ?_
      obtain ⟨r5, h⟩ := h
      refine V_icmp_ne (tgt := 61) dX5_readHead_49 rfl r5 (by decide) (fun q => ?_) (fun q => ?_)
      · replace h := h.1 q
        refine V_iload dX5_readHead_61 rfl ?_
        exact V_ireturn (stk := []) rfl dX5_readHead_63 h
      · replace h := h.2 q
        refine V_aload_n dX5_readHead_52 rfl rfl ?_
        refine V_iconst dX5_readHead_53 ?_
        refine V_iload_n dX5_readHead_54 rfl rfl ?_
        refine V_callV (av := [vi 4, vi z1]) (stk := []) cvX5_73 rfl rfl rfl (by decide) (by simp [ctg]) dX5_readHead_55 h ?_
        rintro _ σ6 ⟨z6, rfl, h⟩
        refine V_goto (tgt := 63) dX5_readHead_58 rfl ?_
        exact V_ireturn (stk := []) rfl dX5_readHead_63 h
  · replace h := h.2 q
    refine V_iconst dX5_readHead_12 ?_
    exact V_ireturn (stk := []) rfl dX5_readHead_13 h

set_option maxRecDepth 100000 in
theorem BX5_readSub_0 {σ : Sg} {post : Po} {x1 : Int} 
  (h : Cl mX5_wordStart [vr 3] σ (pI fun z1 σ1 => (rng (σ1 3 1)) ∧ (((σ1 3 1) = 0 → Cl mX5_packWord [vr 3, vi z1] σ1 (pL fun z2 σ2 => ((σ2 3 5) = 41) ∧ (Cl mX0_findSub [vr 41, vi x1, vl z2] σ2 (pI fun z3 σ3 => (rng z3) ∧ ((¬ z3 = (-1) → (¬ z3 = (-1) → post (some (vi z3)) σ3) ∧ (z3 = (-1) → Cl mX5_fail [vr 3, vi 4, vi z1] σ3 (pI fun z4 σ4 => post (some (vi z4)) σ4))) ∧ (z3 = (-1) → ((σ3 3 5) = 41) ∧ (Cl mX0_putSub [vr 41, vi x1, vl z2] σ3 (pI fun z5 σ5 => (rng z5) ∧ ((¬ z5 = (-1) → post (some (vi z5)) σ5) ∧ (z5 = (-1) → Cl mX5_fail [vr 3, vi 4, vi z1] σ5 (pI fun z6 σ6 => post (some (vi z6)) σ6))))))))))) ∧ (¬ (σ1 3 1) = 0 → post (some (vi (-1))) σ1)))) :
  V mX5_readSub 0 [some (vr 3), some (vi x1), none, none, none, none] [] σ post := by
  refine V_aload_n dX5_readSub_0 rfl rfl ?_
  refine V_callV (av := []) (stk := []) cvX5_155 rfl rfl rfl (by decide) (by simp [ctg]) dX5_readSub_1 h ?_
  rintro _ σ1 ⟨z1, rfl, h⟩
  refine V_istore_n (L' := [some (vr 3), some (vi x1), some (vi z1), none, none, none]) dX5_readSub_4 rfl (by decide) rfl ?_
  refine V_aload_n dX5_readSub_5 rfl rfl ?_
  refine V_getI (f := (σ1 3 1)) flX5_15 rfl (rfl) (by decide) dX5_readSub_6 ?_
  obtain ⟨r1, h⟩ := h
  refine V_if_eq (tgt := 14) dX5_readSub_9 rfl r1 (fun q => ?_) (fun q => ?_)
  · replace h := h.1 q
    refine V_aload_n dX5_readSub_14 rfl rfl ?_
    refine V_iload_n dX5_readSub_15 rfl rfl ?_
    refine V_callV (av := [vi z1]) (stk := []) cvX5_158 rfl rfl rfl (by decide) (by simp [ctg]) dX5_readSub_16 h ?_
    rintro _ σ2 ⟨z2, rfl, h⟩
    refine V_lstore_n (L' := [some (vr 3), some (vi x1), some (vi z1), some (vl z2), none, none]) dX5_readSub_19 rfl (by decide) rfl ?_
    refine V_aload_n dX5_readSub_20 rfl rfl ?_
    obtain ⟨r2, h⟩ := h
    refine V_getM (k2 := 41) flX5_31 rfl (r2) (by decide) dX5_readSub_21 ?_
    refine V_iload_n dX5_readSub_24 rfl rfl ?_
    refine V_lload_n dX5_readSub_25 rfl rfl ?_
    refine V_callV (av := [vi x1, vl z2]) (stk := []) cvX5_168 rfl rfl rfl (by decide) (by simp [ctg]) dX5_readSub_26 h ?_
    rintro _ σ3 ⟨z3, rfl, h⟩
    refine V_istore (L' := [some (vr 3), some (vi x1), some (vi z1), some (vl z2), none, some (vi z3)]) dX5_readSub_29 (by decide) rfl ?_
    refine V_iload dX5_readSub_31 rfl ?_
    refine V_iconst dX5_readSub_33 ?_
    obtain ⟨r3, h⟩ := h
    refine V_icmp_ne (tgt := 48) dX5_readSub_34 rfl r3 (by decide) (fun q => ?_) (fun q => ?_)
    · replace h := h.1 q
      refine V_iload dX5_readSub_48 rfl ?_
      refine V_iconst dX5_readSub_50 ?_
      refine V_icmp_ne (tgt := 63) dX5_readSub_51 rfl r3 (by decide) (fun q => ?_) (fun q => ?_)
      · replace h := h.1 q
        refine V_iload dX5_readSub_63 rfl ?_
        exact V_ireturn (stk := []) rfl dX5_readSub_65 h
      · replace h := h.2 q
        refine V_aload_n dX5_readSub_54 rfl rfl ?_
        refine V_iconst dX5_readSub_55 ?_
        refine V_iload_n dX5_readSub_56 rfl rfl ?_
        refine V_callV (av := [vi 4, vi z1]) (stk := []) cvX5_73 rfl rfl rfl (by decide) (by simp [ctg]) dX5_readSub_57 h ?_
        rintro _ σ4 ⟨z4, rfl, h⟩
        refine V_goto (tgt := 65) dX5_readSub_60 rfl ?_
        exact V_ireturn (stk := []) rfl dX5_readSub_65 h
    · replace h := h.2 q
      refine V_aload_n dX5_readSub_37 rfl rfl ?_
      obtain ⟨r4, h⟩ := h
      refine V_getM (k2 := 41) flX5_31 rfl (r4) (by decide) dX5_readSub_38 ?_
      refine V_iload_n dX5_readSub_41 rfl rfl ?_
      refine V_lload_n dX5_readSub_42 rfl rfl ?_
      refine V_callV (av := [vi x1, vl z2]) (stk := []) cvX5_172 rfl rfl rfl (by decide) (by simp [ctg]) dX5_readSub_43 h ?_
      rintro _ σ5 ⟨z5, rfl, h⟩
      refine V_istore (L' := [some (vr 3), some (vi x1), some (vi z1), some (vl z2), none, some (vi z5)]) dX5_readSub_46 (by decide) rfl ?_
      refine V_iload dX5_readSub_48 rfl ?_
      refine V_iconst dX5_readSub_50 ?_
      obtain ⟨r5, h⟩ := h
      refine V_icmp_ne (tgt := 63) dX5_readSub_51 rfl r5 (by decide) (fun q => ?_) (fun q => ?_)
      · replace h := h.1 q
        refine V_iload dX5_readSub_63 rfl ?_
        exact V_ireturn (stk := []) rfl dX5_readSub_65 h
      · replace h := h.2 q
        refine V_aload_n dX5_readSub_54 rfl rfl ?_
        refine V_iconst dX5_readSub_55 ?_
        refine V_iload_n dX5_readSub_56 rfl rfl ?_
        refine V_callV (av := [vi 4, vi z1]) (stk := []) cvX5_73 rfl rfl rfl (by decide) (by simp [ctg]) dX5_readSub_57 h ?_
        rintro _ σ6 ⟨z6, rfl, h⟩
        refine V_goto (tgt := 65) dX5_readSub_60 rfl ?_
        exact V_ireturn (stk := []) rfl dX5_readSub_65 h
  · replace h := h.2 q
    refine V_iconst dX5_readSub_12 ?_
    exact V_ireturn (stk := []) rfl dX5_readSub_13 h

set_option maxRecDepth 100000 in
theorem BX5_wordStart_0 {σ : Sg} {post : Po}  
  (h : Cl mX5_skipBlanks [vr 3] σ (pV fun σ1 => (rng (σ1 3 1)) ∧ ((¬ (σ1 3 1) = 0 → Cl mX5_fail [vr 3, vi 1, vi (σ1 3 4)] σ1 (pI fun z2 σ2 => post (some (vi z2)) σ2)) ∧ ((σ1 3 1) = 0 → Cl mX5_byteHere [vr 3] σ1 (pI fun z3 σ3 => Cl mX5_isLetter [vi z3] σ3 (pI fun z4 σ4 => (rng z4) ∧ ((¬ z4 = 0 → Cl mX5_skipWord [vr 3] σ4 (pV fun σ5 => Cl mX5_isFit [vr 3, vi (σ1 3 4), vi (σ5 3 4)] σ5 (pI fun z6 σ6 => (rng z6) ∧ ((z6 = 0 → Cl mX5_fail [vr 3, vi 3, vi (σ1 3 4)] σ6 (pI fun z7 σ7 => post (some (vi z7)) σ7)) ∧ (¬ z6 = 0 → post (some (vi (σ1 3 4))) σ6))))) ∧ (z4 = 0 → Cl mX5_fail [vr 3, vi 1, vi (σ1 3 4)] σ4 (pI fun z8 σ8 => post (some (vi z8)) σ8))))))))) :
  V mX5_wordStart 0 [some (vr 3), none] [] σ post := by
  refine V_aload_n dX5_wordStart_0 rfl rfl ?_
  refine V_callV (av := []) (stk := []) cvX5_47 rfl rfl rfl (by decide) (by simp [ctg]) dX5_wordStart_1 h ?_
  rintro _ σ1 ⟨rfl, h⟩
  refine V_aload_n dX5_wordStart_4 rfl rfl ?_
  refine V_getI (f := (σ1 3 4)) flX5_25 rfl (rfl) (by decide) dX5_wordStart_5 ?_
  refine V_istore_n (L' := [some (vr 3), some (vi (σ1 3 4))]) dX5_wordStart_8 rfl (by decide) rfl ?_
  refine V_aload_n dX5_wordStart_9 rfl rfl ?_
  refine V_getI (f := (σ1 3 1)) flX5_15 rfl (rfl) (by decide) dX5_wordStart_10 ?_
  obtain ⟨r1, h⟩ := h
  refine V_if_ne (tgt := 26) dX5_wordStart_13 rfl r1 (fun q => ?_) (fun q => ?_)
  · replace h := h.1 q
    refine V_aload_n dX5_wordStart_26 rfl rfl ?_
    refine V_iconst dX5_wordStart_27 ?_
    refine V_iload_n dX5_wordStart_28 rfl rfl ?_
    refine V_callV (av := [vi 1, vi (σ1 3 4)]) (stk := []) cvX5_73 rfl rfl rfl (by decide) (by simp [ctg]) dX5_wordStart_29 h ?_
    rintro _ σ2 ⟨z2, rfl, h⟩
    exact V_ireturn (stk := []) rfl dX5_wordStart_32 h
  · replace h := h.2 q
    refine V_aload_n dX5_wordStart_16 rfl rfl ?_
    refine V_callV (av := []) (stk := []) cvX5_107 rfl rfl rfl (by decide) (by simp [ctg]) dX5_wordStart_17 h ?_
    rintro _ σ3 ⟨z3, rfl, h⟩
    refine V_callS (av := [vi z3]) (stk := []) cvX5_50 rfl rfl (by decide) (by simp [ctg]) dX5_wordStart_20 h ?_
    rintro _ σ4 ⟨z4, rfl, h⟩
    obtain ⟨r2, h⟩ := h
    refine V_if_ne (tgt := 33) dX5_wordStart_23 rfl r2 (fun q => ?_) (fun q => ?_)
    · replace h := h.1 q
      refine V_aload_n dX5_wordStart_33 rfl rfl ?_
      refine V_callV (av := []) (stk := []) cvX5_66 rfl rfl rfl (by decide) (by simp [ctg]) dX5_wordStart_34 h ?_
      rintro _ σ5 ⟨rfl, h⟩
      refine V_aload_n dX5_wordStart_37 rfl rfl ?_
      refine V_iload_n dX5_wordStart_38 rfl rfl ?_
      refine V_aload_n dX5_wordStart_39 rfl rfl ?_
      refine V_getI (f := (σ5 3 4)) flX5_25 rfl (rfl) (by decide) dX5_wordStart_40 ?_
      refine V_callV (av := [vi (σ1 3 4), vi (σ5 3 4)]) (stk := []) cvX5_175 rfl rfl rfl (by decide) (by simp [ctg]) dX5_wordStart_43 h ?_
      rintro _ σ6 ⟨z6, rfl, h⟩
      obtain ⟨r3, h⟩ := h
      refine V_if_eq (tgt := 53) dX5_wordStart_46 rfl r3 (fun q => ?_) (fun q => ?_)
      · replace h := h.1 q
        refine V_aload_n dX5_wordStart_53 rfl rfl ?_
        refine V_iconst dX5_wordStart_54 ?_
        refine V_iload_n dX5_wordStart_55 rfl rfl ?_
        refine V_callV (av := [vi 3, vi (σ1 3 4)]) (stk := []) cvX5_73 rfl rfl rfl (by decide) (by simp [ctg]) dX5_wordStart_56 h ?_
        rintro _ σ7 ⟨z7, rfl, h⟩
        exact V_ireturn (stk := []) rfl dX5_wordStart_59 h
      · replace h := h.2 q
        refine V_iload_n dX5_wordStart_49 rfl rfl ?_
        refine V_goto (tgt := 59) dX5_wordStart_50 rfl ?_
        exact V_ireturn (stk := []) rfl dX5_wordStart_59 h
    · replace h := h.2 q
      refine V_aload_n dX5_wordStart_26 rfl rfl ?_
      refine V_iconst dX5_wordStart_27 ?_
      refine V_iload_n dX5_wordStart_28 rfl rfl ?_
      refine V_callV (av := [vi 1, vi (σ1 3 4)]) (stk := []) cvX5_73 rfl rfl rfl (by decide) (by simp [ctg]) dX5_wordStart_29 h ?_
      rintro _ σ8 ⟨z8, rfl, h⟩
      exact V_ireturn (stk := []) rfl dX5_wordStart_32 h

set_option maxRecDepth 100000 in
theorem BX5_isFit_0 {σ : Sg} {post : Po} {x1 : Int} {x2 : Int} 
  (h : (rng (x2 - x1)) ∧ ((12 < (x2 - x1) → post (some (vi 0)) σ) ∧ (¬ 12 < (x2 - x1) → (0 ≤ x1 ∧ x1 < 600) ∧ ((rng (σ 4 x1)) ∧ (((σ 4 x1) = 95 → post (some (vi 0)) σ) ∧ (¬ (σ 4 x1) = 95 → (0 ≤ (x2 - 1) ∧ (x2 - 1) < 600) ∧ ((rng (σ 4 (x2 - 1))) ∧ ((¬ (σ 4 (x2 - 1)) = 95 → V mX5_isFit 38 [some (vr 3), none, some (vi x2), some (vi (x1 + 1))] [] σ post) ∧ ((σ 4 (x2 - 1)) = 95 → post (some (vi 0)) σ))))))))) :
  V mX5_isFit 0 [some (vr 3), some (vi x1), some (vi x2), none] [] σ post := by
  refine V_iload_n dX5_isFit_0 rfl rfl ?_
  refine V_iload_n dX5_isFit_1 rfl rfl ?_
  refine V_isub dX5_isFit_2 ?_
  refine V_bipush dX5_isFit_3 (by decide) ?_
  obtain ⟨r1, h⟩ := h
  refine V_icmp_gt (tgt := 32) dX5_isFit_5 rfl r1 (by decide) (fun q => ?_) (fun q => ?_)
  · replace h := h.1 q
    refine V_iconst dX5_isFit_32 ?_
    exact V_zreturn (stk := []) rfl dX5_isFit_33 (by decide) h
  · replace h := h.2 q
    refine V_aload_n dX5_isFit_8 rfl rfl ?_
    refine V_getR (k2 := 4) flX5_21 rfl rfl (by decide) dX5_isFit_9 ?_
    refine V_iload_n dX5_isFit_12 rfl rfl ?_
    obtain ⟨r2, h⟩ := h
    refine V_bald (f := (σ 4 x1)) (rfl : shp[4]? = some (2, 600, 0)) r2 (rfl) dX5_isFit_13 ?_
    refine V_bipush dX5_isFit_14 (by decide) ?_
    obtain ⟨r3, h⟩ := h
    refine V_icmp_eq (tgt := 32) dX5_isFit_16 rfl r3 (by decide) (fun q => ?_) (fun q => ?_)
    · replace h := h.1 q
      refine V_iconst dX5_isFit_32 ?_
      exact V_zreturn (stk := []) rfl dX5_isFit_33 (by decide) h
    · replace h := h.2 q
      refine V_aload_n dX5_isFit_19 rfl rfl ?_
      refine V_getR (k2 := 4) flX5_21 rfl rfl (by decide) dX5_isFit_20 ?_
      refine V_iload_n dX5_isFit_23 rfl rfl ?_
      refine V_iconst dX5_isFit_24 ?_
      refine V_isub dX5_isFit_25 ?_
      obtain ⟨r4, h⟩ := h
      refine V_bald (f := (σ 4 (x2 - 1))) (rfl : shp[4]? = some (2, 600, 0)) r4 (rfl) dX5_isFit_26 ?_
      refine V_bipush dX5_isFit_27 (by decide) ?_
      obtain ⟨r5, h⟩ := h
      refine V_icmp_ne (tgt := 34) dX5_isFit_29 rfl r5 (by decide) (fun q => ?_) (fun q => ?_)
      · replace h := h.1 q
        refine V_iload_n dX5_isFit_34 rfl rfl ?_
        refine V_iconst dX5_isFit_35 ?_
        refine V_iadd dX5_isFit_36 ?_
        refine V_istore_n (L' := [some (vr 3), some (vi x1), some (vi x2), some (vi (x1 + 1))]) dX5_isFit_37 rfl (by decide) rfl ?_
        exact V.sub (SubL_s (SubL_n (SubL_s (SubL_s (SubL_0))))) h
      · replace h := h.2 q
        refine V_iconst dX5_isFit_32 ?_
        exact V_zreturn (stk := []) rfl dX5_isFit_33 (by decide) h
set_option maxRecDepth 100000 in
theorem BX5_isFit_38 {σ : Sg} {post : Po} {x2 : Int} {x3 : Int} 
  (h : (rng x3) ∧ ((rng x2) ∧ ((x2 ≤ x3 → post (some (vi 1)) σ) ∧ (¬ x2 ≤ x3 → (0 ≤ x3 ∧ x3 < 600) ∧ ((rng (σ 4 x3)) ∧ ((¬ (σ 4 x3) = 95 → V mX5_isFit 38 [some (vr 3), none, some (vi x2), some (vi (x3 + 1))] [] σ post) ∧ ((σ 4 x3) = 95 → (0 ≤ (x3 - 1) ∧ (x3 - 1) < 600) ∧ ((rng (σ 4 (x3 - 1))) ∧ ((¬ (σ 4 (x3 - 1)) = 95 → V mX5_isFit 38 [some (vr 3), none, some (vi x2), some (vi (x3 + 1))] [] σ post) ∧ ((σ 4 (x3 - 1)) = 95 → post (some (vi 0)) σ)))))))))) :
  V mX5_isFit 38 [some (vr 3), none, some (vi x2), some (vi x3)] [] σ post := by
  refine V_iload_n dX5_isFit_38 rfl rfl ?_
  refine V_iload_n dX5_isFit_39 rfl rfl ?_
  obtain ⟨r1, h⟩ := h
  obtain ⟨r2, h⟩ := h
  refine V_icmp_ge (tgt := 75) dX5_isFit_40 rfl r1 r2 (fun q => ?_) (fun q => ?_)
  · replace h := h.1 q
    refine V_iconst dX5_isFit_75 ?_
    exact V_zreturn (stk := []) rfl dX5_isFit_76 (by decide) h
  · replace h := h.2 q
    refine V_aload_n dX5_isFit_43 rfl rfl ?_
    refine V_getR (k2 := 4) flX5_21 rfl rfl (by decide) dX5_isFit_44 ?_
    refine V_iload_n dX5_isFit_47 rfl rfl ?_
    obtain ⟨r3, h⟩ := h
    refine V_bald (f := (σ 4 x3)) (rfl : shp[4]? = some (2, 600, 0)) r3 (rfl) dX5_isFit_48 ?_
    refine V_bipush dX5_isFit_49 (by decide) ?_
    obtain ⟨r4, h⟩ := h
    refine V_icmp_ne (tgt := 69) dX5_isFit_51 rfl r4 (by decide) (fun q => ?_) (fun q => ?_)
    · replace h := h.1 q
      refine V_iinc (L' := [some (vr 3), none, some (vi x2), some (vi (x3 + 1))]) dX5_isFit_69 rfl (by decide) rfl ?_
      refine V_goto (tgt := 38) dX5_isFit_72 rfl ?_
      exact V.sub (SubL_s (SubL_n (SubL_s (SubL_s (SubL_0))))) h
    · replace h := h.2 q
      refine V_aload_n dX5_isFit_54 rfl rfl ?_
      refine V_getR (k2 := 4) flX5_21 rfl rfl (by decide) dX5_isFit_55 ?_
      refine V_iload_n dX5_isFit_58 rfl rfl ?_
      refine V_iconst dX5_isFit_59 ?_
      refine V_isub dX5_isFit_60 ?_
      obtain ⟨r5, h⟩ := h
      refine V_bald (f := (σ 4 (x3 - 1))) (rfl : shp[4]? = some (2, 600, 0)) r5 (rfl) dX5_isFit_61 ?_
      refine V_bipush dX5_isFit_62 (by decide) ?_
      obtain ⟨r6, h⟩ := h
      refine V_icmp_ne (tgt := 69) dX5_isFit_64 rfl r6 (by decide) (fun q => ?_) (fun q => ?_)
      · replace h := h.1 q
        refine V_iinc (L' := [some (vr 3), none, some (vi x2), some (vi (x3 + 1))]) dX5_isFit_69 rfl (by decide) rfl ?_
        refine V_goto (tgt := 38) dX5_isFit_72 rfl ?_
        exact V.sub (SubL_s (SubL_n (SubL_s (SubL_s (SubL_0))))) h
      · replace h := h.2 q
        refine V_iconst dX5_isFit_67 ?_
        exact V_zreturn (stk := []) rfl dX5_isFit_68 (by decide) h

set_option maxRecDepth 100000 in
theorem BX5_packWord_0 {σ : Sg} {post : Po} {x1 : Int} 
  (h : V mX5_packWord 5 [some (vr 3), some (vi x1), some (vl 0), none, some (vi x1)] [] σ post) :
  V mX5_packWord 0 [some (vr 3), some (vi x1), none, none, none] [] σ post := by
  refine V_lconst (z := 0) dX5_packWord_0 rfl ?_
  refine V_lstore_n (L' := [some (vr 3), some (vi x1), some (vl 0), none, none]) dX5_packWord_1 rfl (by decide) rfl ?_
  refine V_iload_n dX5_packWord_2 rfl rfl ?_
  refine V_istore (L' := [some (vr 3), some (vi x1), some (vl 0), none, some (vi x1)]) dX5_packWord_3 (by decide) rfl ?_
  exact V.sub (SubL_s (SubL_s (SubL_s (SubL_n (SubL_s (SubL_0)))))) h
set_option maxRecDepth 100000 in
theorem BX5_packWord_5 {σ : Sg} {post : Po} {x1 : Int} {x2 : Int} {x4 : Int} 
  (h : (rng x4) ∧ ((rng (σ 3 4)) ∧ (((σ 3 4) ≤ x4 → post (some (vl x2)) σ) ∧ (¬ (σ 3 4) ≤ x4 → (0 ≤ x4 ∧ x4 < 600) ∧ (Cl mX10_codeAt [vi (σ 4 x4), vi (x4 - x1)] σ (pL fun z1 σ1 => V mX5_packWord 5 [some (vr 3), some (vi x1), some (vl (lOr x2 z1)), none, some (vi (x4 + 1))] [] σ1 post)))))) :
  V mX5_packWord 5 [some (vr 3), some (vi x1), some (vl x2), none, some (vi x4)] [] σ post := by
  refine V_iload dX5_packWord_5 rfl ?_
  refine V_aload_n dX5_packWord_7 rfl rfl ?_
  refine V_getI (f := (σ 3 4)) flX5_25 rfl (rfl) (by decide) dX5_packWord_8 ?_
  obtain ⟨r1, h⟩ := h
  obtain ⟨r2, h⟩ := h
  refine V_icmp_ge (tgt := 37) dX5_packWord_11 rfl r1 r2 (fun q => ?_) (fun q => ?_)
  · replace h := h.1 q
    refine V_lload_n dX5_packWord_37 rfl rfl ?_
    exact V_lreturn (stk := []) rfl dX5_packWord_38 h
  · replace h := h.2 q
    refine V_lload_n dX5_packWord_14 rfl rfl ?_
    refine V_aload_n dX5_packWord_15 rfl rfl ?_
    refine V_getR (k2 := 4) flX5_21 rfl rfl (by decide) dX5_packWord_16 ?_
    refine V_iload dX5_packWord_19 rfl ?_
    obtain ⟨r3, h⟩ := h
    refine V_bald (f := (σ 4 x4)) (rfl : shp[4]? = some (2, 600, 0)) r3 (rfl) dX5_packWord_21 ?_
    refine V_iload dX5_packWord_22 rfl ?_
    refine V_iload_n dX5_packWord_24 rfl rfl ?_
    refine V_isub dX5_packWord_25 ?_
    refine V_callS (av := [vi (σ 4 x4), vi (x4 - x1)]) (stk := [vl x2]) cvX5_178 rfl rfl (by decide) (by simp [ctg]) dX5_packWord_26 h ?_
    rintro _ σ1 ⟨z1, rfl, h⟩
    refine V_lor dX5_packWord_29 ?_
    refine V_lstore_n (L' := [some (vr 3), some (vi x1), some (vl (lOr x2 z1)), none, some (vi x4)]) dX5_packWord_30 rfl (by decide) rfl ?_
    refine V_iinc (L' := [some (vr 3), some (vi x1), some (vl (lOr x2 z1)), none, some (vi (x4 + 1))]) dX5_packWord_31 rfl (by decide) rfl ?_
    refine V_goto (tgt := 5) dX5_packWord_34 rfl ?_
    exact V.sub (SubL_s (SubL_s (SubL_s (SubL_n (SubL_s (SubL_0)))))) h

set_option maxRecDepth 100000 in
theorem BX5_readNumber_0 {σ : Sg} {post : Po} {x1 : Int} {x2 : Int} 
  (h : Cl mX5_skipBlanks [vr 3] σ (pV fun σ1 => (rng (σ1 3 1)) ∧ ((¬ (σ1 3 1) = 0 → Cl mX5_fail [vr 3, vi 1, vi (σ1 3 4)] σ1 (pI fun z2 σ2 => post (some (vi z2)) σ2)) ∧ ((σ1 3 1) = 0 → Cl mX5_byteHere [vr 3] σ1 (pI fun z3 σ3 => Cl mX5_isFigure [vi z3] σ3 (pI fun z4 σ4 => (rng z4) ∧ ((¬ z4 = 0 → Cl mX5_skipNumber [vr 3] σ4 (pV fun σ5 => (rng ((σ5 3 4) - (σ1 3 4))) ∧ ((((σ5 3 4) - (σ1 3 4)) ≤ 2 → V mX5_readNumber 60 [some (vr 3), some (vi x1), some (vi x2), some (vi (σ1 3 4)), some (vi 0), some (vi (σ1 3 4))] [] σ5 post) ∧ (¬ ((σ5 3 4) - (σ1 3 4)) ≤ 2 → Cl mX5_fail [vr 3, vi 2, vi (σ1 3 4)] σ5 (pI fun z6 σ6 => post (some (vi z6)) σ6))))) ∧ (z4 = 0 → Cl mX5_fail [vr 3, vi 1, vi (σ1 3 4)] σ4 (pI fun z7 σ7 => post (some (vi z7)) σ7))))))))) :
  V mX5_readNumber 0 [some (vr 3), some (vi x1), some (vi x2), none, none, none] [] σ post := by
  refine V_aload_n dX5_readNumber_0 rfl rfl ?_
  refine V_callV (av := []) (stk := []) cvX5_47 rfl rfl rfl (by decide) (by simp [ctg]) dX5_readNumber_1 h ?_
  rintro _ σ1 ⟨rfl, h⟩
  refine V_aload_n dX5_readNumber_4 rfl rfl ?_
  refine V_getI (f := (σ1 3 4)) flX5_25 rfl (rfl) (by decide) dX5_readNumber_5 ?_
  refine V_istore_n (L' := [some (vr 3), some (vi x1), some (vi x2), some (vi (σ1 3 4)), none, none]) dX5_readNumber_8 rfl (by decide) rfl ?_
  refine V_aload_n dX5_readNumber_9 rfl rfl ?_
  refine V_getI (f := (σ1 3 1)) flX5_15 rfl (rfl) (by decide) dX5_readNumber_10 ?_
  obtain ⟨r1, h⟩ := h
  refine V_if_ne (tgt := 26) dX5_readNumber_13 rfl r1 (fun q => ?_) (fun q => ?_)
  · replace h := h.1 q
    refine V_aload_n dX5_readNumber_26 rfl rfl ?_
    refine V_iconst dX5_readNumber_27 ?_
    refine V_iload_n dX5_readNumber_28 rfl rfl ?_
    refine V_callV (av := [vi 1, vi (σ1 3 4)]) (stk := []) cvX5_73 rfl rfl rfl (by decide) (by simp [ctg]) dX5_readNumber_29 h ?_
    rintro _ σ2 ⟨z2, rfl, h⟩
    exact V_ireturn (stk := []) rfl dX5_readNumber_32 h
  · replace h := h.2 q
    refine V_aload_n dX5_readNumber_16 rfl rfl ?_
    refine V_callV (av := []) (stk := []) cvX5_107 rfl rfl rfl (by decide) (by simp [ctg]) dX5_readNumber_17 h ?_
    rintro _ σ3 ⟨z3, rfl, h⟩
    refine V_callS (av := [vi z3]) (stk := []) cvX5_54 rfl rfl (by decide) (by simp [ctg]) dX5_readNumber_20 h ?_
    rintro _ σ4 ⟨z4, rfl, h⟩
    obtain ⟨r2, h⟩ := h
    refine V_if_ne (tgt := 33) dX5_readNumber_23 rfl r2 (fun q => ?_) (fun q => ?_)
    · replace h := h.1 q
      refine V_aload_n dX5_readNumber_33 rfl rfl ?_
      refine V_callV (av := []) (stk := []) cvX5_182 rfl rfl rfl (by decide) (by simp [ctg]) dX5_readNumber_34 h ?_
      rintro _ σ5 ⟨rfl, h⟩
      refine V_aload_n dX5_readNumber_37 rfl rfl ?_
      refine V_getI (f := (σ5 3 4)) flX5_25 rfl (rfl) (by decide) dX5_readNumber_38 ?_
      refine V_iload_n dX5_readNumber_41 rfl rfl ?_
      refine V_isub dX5_readNumber_42 ?_
      refine V_iconst dX5_readNumber_43 ?_
      obtain ⟨r3, h⟩ := h
      refine V_icmp_le (tgt := 54) dX5_readNumber_44 rfl r3 (by decide) (fun q => ?_) (fun q => ?_)
      · replace h := h.1 q
        refine V_iconst dX5_readNumber_54 ?_
        refine V_istore (L' := [some (vr 3), some (vi x1), some (vi x2), some (vi (σ1 3 4)), some (vi 0), none]) dX5_readNumber_55 (by decide) rfl ?_
        refine V_iload_n dX5_readNumber_57 rfl rfl ?_
        refine V_istore (L' := [some (vr 3), some (vi x1), some (vi x2), some (vi (σ1 3 4)), some (vi 0), some (vi (σ1 3 4))]) dX5_readNumber_58 (by decide) rfl ?_
        exact V.sub (SubL_s (SubL_s (SubL_s (SubL_s (SubL_s (SubL_s (SubL_0))))))) h
      · replace h := h.2 q
        refine V_aload_n dX5_readNumber_47 rfl rfl ?_
        refine V_iconst dX5_readNumber_48 ?_
        refine V_iload_n dX5_readNumber_49 rfl rfl ?_
        refine V_callV (av := [vi 2, vi (σ1 3 4)]) (stk := []) cvX5_73 rfl rfl rfl (by decide) (by simp [ctg]) dX5_readNumber_50 h ?_
        rintro _ σ6 ⟨z6, rfl, h⟩
        exact V_ireturn (stk := []) rfl dX5_readNumber_53 h
    · replace h := h.2 q
      refine V_aload_n dX5_readNumber_26 rfl rfl ?_
      refine V_iconst dX5_readNumber_27 ?_
      refine V_iload_n dX5_readNumber_28 rfl rfl ?_
      refine V_callV (av := [vi 1, vi (σ1 3 4)]) (stk := []) cvX5_73 rfl rfl rfl (by decide) (by simp [ctg]) dX5_readNumber_29 h ?_
      rintro _ σ7 ⟨z7, rfl, h⟩
      exact V_ireturn (stk := []) rfl dX5_readNumber_32 h
set_option maxRecDepth 100000 in
theorem BX5_readNumber_60 {σ : Sg} {post : Po} {x1 : Int} {x2 : Int} {x3 : Int} {x4 : Int} {x5 : Int} 
  (h : (rng x5) ∧ ((rng (σ 3 4)) ∧ (((σ 3 4) ≤ x5 → (rng x4) ∧ ((rng x1) ∧ ((x4 < x1 → Cl mX5_fail [vr 3, vi 2, vi x3] σ (pI fun z1 σ1 => post (some (vi z1)) σ1)) ∧ (¬ x4 < x1 → (rng x2) ∧ ((x4 ≤ x2 → post (some (vi x4)) σ) ∧ (¬ x4 ≤ x2 → Cl mX5_fail [vr 3, vi 2, vi x3] σ (pI fun z2 σ2 => post (some (vi z2)) σ2))))))) ∧ (¬ (σ 3 4) ≤ x5 → (0 ≤ x5 ∧ x5 < 600) ∧ (V mX5_readNumber 60 [some (vr 3), some (vi x1), some (vi x2), some (vi x3), some (vi (((x4 * 10) + (σ 4 x5)) - 48)), some (vi (x5 + 1))] [] σ post))))) :
  V mX5_readNumber 60 [some (vr 3), some (vi x1), some (vi x2), some (vi x3), some (vi x4), some (vi x5)] [] σ post := by
  refine V_iload dX5_readNumber_60 rfl ?_
  refine V_aload_n dX5_readNumber_62 rfl rfl ?_
  refine V_getI (f := (σ 3 4)) flX5_25 rfl (rfl) (by decide) dX5_readNumber_63 ?_
  obtain ⟨r1, h⟩ := h
  obtain ⟨r2, h⟩ := h
  refine V_icmp_ge (tgt := 93) dX5_readNumber_66 rfl r1 r2 (fun q => ?_) (fun q => ?_)
  · replace h := h.1 q
    refine V_iload dX5_readNumber_93 rfl ?_
    refine V_iload_n dX5_readNumber_95 rfl rfl ?_
    obtain ⟨r3, h⟩ := h
    obtain ⟨r4, h⟩ := h
    refine V_icmp_lt (tgt := 105) dX5_readNumber_96 rfl r3 r4 (fun q => ?_) (fun q => ?_)
    · replace h := h.1 q
      refine V_aload_n dX5_readNumber_105 rfl rfl ?_
      refine V_iconst dX5_readNumber_106 ?_
      refine V_iload_n dX5_readNumber_107 rfl rfl ?_
      refine V_callV (av := [vi 2, vi x3]) (stk := []) cvX5_73 rfl rfl rfl (by decide) (by simp [ctg]) dX5_readNumber_108 h ?_
      rintro _ σ1 ⟨z1, rfl, h⟩
      refine V_goto (tgt := 116) dX5_readNumber_111 rfl ?_
      exact V_ireturn (stk := []) rfl dX5_readNumber_116 h
    · replace h := h.2 q
      refine V_iload dX5_readNumber_99 rfl ?_
      refine V_iload_n dX5_readNumber_101 rfl rfl ?_
      obtain ⟨r5, h⟩ := h
      refine V_icmp_le (tgt := 114) dX5_readNumber_102 rfl r3 r5 (fun q => ?_) (fun q => ?_)
      · replace h := h.1 q
        refine V_iload dX5_readNumber_114 rfl ?_
        exact V_ireturn (stk := []) rfl dX5_readNumber_116 h
      · replace h := h.2 q
        refine V_aload_n dX5_readNumber_105 rfl rfl ?_
        refine V_iconst dX5_readNumber_106 ?_
        refine V_iload_n dX5_readNumber_107 rfl rfl ?_
        refine V_callV (av := [vi 2, vi x3]) (stk := []) cvX5_73 rfl rfl rfl (by decide) (by simp [ctg]) dX5_readNumber_108 h ?_
        rintro _ σ2 ⟨z2, rfl, h⟩
        refine V_goto (tgt := 116) dX5_readNumber_111 rfl ?_
        exact V_ireturn (stk := []) rfl dX5_readNumber_116 h
  · replace h := h.2 q
    refine V_iload dX5_readNumber_69 rfl ?_
    refine V_bipush dX5_readNumber_71 (by decide) ?_
    refine V_imul dX5_readNumber_73 ?_
    refine V_aload_n dX5_readNumber_74 rfl rfl ?_
    refine V_getR (k2 := 4) flX5_21 rfl rfl (by decide) dX5_readNumber_75 ?_
    refine V_iload dX5_readNumber_78 rfl ?_
    obtain ⟨r6, h⟩ := h
    refine V_bald (f := (σ 4 x5)) (rfl : shp[4]? = some (2, 600, 0)) r6 (rfl) dX5_readNumber_80 ?_
    refine V_iadd dX5_readNumber_81 ?_
    refine V_bipush dX5_readNumber_82 (by decide) ?_
    refine V_isub dX5_readNumber_84 ?_
    refine V_istore (L' := [some (vr 3), some (vi x1), some (vi x2), some (vi x3), some (vi (((x4 * 10) + (σ 4 x5)) - 48)), some (vi x5)]) dX5_readNumber_85 (by decide) rfl ?_
    refine V_iinc (L' := [some (vr 3), some (vi x1), some (vi x2), some (vi x3), some (vi (((x4 * 10) + (σ 4 x5)) - 48)), some (vi (x5 + 1))]) dX5_readNumber_87 rfl (by decide) rfl ?_
    refine V_goto (tgt := 60) dX5_readNumber_90 rfl ?_
    exact V.sub (SubL_s (SubL_s (SubL_s (SubL_s (SubL_s (SubL_s (SubL_0))))))) h

