/-! ===== blocks: X12a (printed by wip/whole/gen/mkblk.py) ===== -/
set_option maxRecDepth 100000 in
theorem BX12_in_0 {σ : Sg} {post : Po} {x0 : Int} {x2 : Int} {x4 : Int} 
  (h : (rngL x0) ∧ ((rngL x2) ∧ ((x0 < x2 → post (some (vi 0)) σ) ∧ (¬ x0 < x2 → (rngL x4) ∧ ((x4 < x0 → post (some (vi 0)) σ) ∧ (¬ x4 < x0 → post (some (vi 1)) σ)))))) :
  V mX12_in 0 [some (vl x0), none, some (vl x2), none, some (vl x4), none] [] σ post := by
  refine V_lload_n dX12_in_0 rfl rfl ?_
  refine V_lload_n dX12_in_1 rfl rfl ?_
  obtain ⟨r1, h⟩ := h
  obtain ⟨r2, h⟩ := h
  refine V_lif_lt (tgt := 17) dX12_in_2 dX12_in_3 rfl r1 r2 (fun q => ?_) (fun q => ?_)
  · replace h := h.1 q
    refine V_iconst dX12_in_17 ?_
    exact V_zreturn (stk := []) rfl dX12_in_18 (by decide) h
  · replace h := h.2 q
    refine V_lload_n dX12_in_6 rfl rfl ?_
    refine V_lload dX12_in_7 rfl ?_
    obtain ⟨r3, h⟩ := h
    refine V_lif_gt (tgt := 17) dX12_in_9 dX12_in_10 rfl r1 r3 (fun q => ?_) (fun q => ?_)
    · replace h := h.1 q
      refine V_iconst dX12_in_17 ?_
      exact V_zreturn (stk := []) rfl dX12_in_18 (by decide) h
    · replace h := h.2 q
      refine V_iconst dX12_in_13 ?_
      refine V_goto (tgt := 18) dX12_in_14 rfl ?_
      exact V_zreturn (stk := []) rfl dX12_in_18 (by decide) h

set_option maxRecDepth 100000 in
theorem BX12_one_0 {σ : Sg} {post : Po} {x0 : Int} 
  (h : (rng x0) ∧ ((x0 = 0 → post (some (vi 0)) σ) ∧ (¬ x0 = 0 → post (some (vi 1)) σ))) :
  V mX12_one 0 [some (vi x0)] [] σ post := by
  refine V_iload_n dX12_one_0 rfl rfl ?_
  obtain ⟨r1, h⟩ := h
  refine V_if_eq (tgt := 8) dX12_one_1 rfl r1 (fun q => ?_) (fun q => ?_)
  · replace h := h.1 q
    refine V_iconst dX12_one_8 ?_
    exact V_ireturn (stk := []) rfl dX12_one_9 h
  · replace h := h.2 q
    refine V_iconst dX12_one_4 ?_
    refine V_goto (tgt := 9) dX12_one_5 rfl ?_
    exact V_ireturn (stk := []) rfl dX12_one_9 h

set_option maxRecDepth 100000 in
theorem BX12_has_0 {σ : Sg} {post : Po} {x0 : Int} {x1 : Int} 
  (h : (¬ (iAnd (iShr x0 x1) 1) = 1 → post (some (vi 0)) σ) ∧ ((iAnd (iShr x0 x1) 1) = 1 → post (some (vi 1)) σ)) :
  V mX12_has 0 [some (vi x0), some (vi x1)] [] σ post := by
  refine V_iload_n dX12_has_0 rfl rfl ?_
  refine V_iload_n dX12_has_1 rfl rfl ?_
  refine V_ishr dX12_has_2 ?_
  refine V_iconst dX12_has_3 ?_
  refine V_iand dX12_has_4 ?_
  refine V_iconst dX12_has_5 ?_
  refine V_icmp_ne (tgt := 13) dX12_has_6 rfl (rng_of _) (by decide) (fun q => ?_) (fun q => ?_)
  · replace h := h.1 q
    refine V_iconst dX12_has_13 ?_
    exact V_zreturn (stk := []) rfl dX12_has_14 (by decide) h
  · replace h := h.2 q
    refine V_iconst dX12_has_9 ?_
    refine V_goto (tgt := 14) dX12_has_10 rfl ?_
    exact V_zreturn (stk := []) rfl dX12_has_14 (by decide) h

set_option maxRecDepth 100000 in
theorem BX12_slot_0 {σ : Sg} {post : Po} {x0 : Int} {x1 : Int} 
  (h : post (some (vi (((7 * x0) + 1) + x1))) σ) :
  V mX12_slot 0 [some (vi x0), some (vi x1)] [] σ post := by
  refine V_bipush dX12_slot_0 (by decide) ?_
  refine V_iload_n dX12_slot_2 rfl rfl ?_
  refine V_imul dX12_slot_3 ?_
  refine V_iconst dX12_slot_4 ?_
  refine V_iadd dX12_slot_5 ?_
  refine V_iload_n dX12_slot_6 rfl rfl ?_
  refine V_iadd dX12_slot_7 ?_
  exact V_ireturn (stk := []) rfl dX12_slot_8 h

set_option maxRecDepth 100000 in
theorem BX12_feed_0 {σ : Sg} {post : Po} {x1 : Int} {x2 : Int} 
  (h : (rng x1) ∧ (Cl mX12_in [vl x1, vl 1, vl 8] σ (pI fun z1 σ1 => (rng z1) ∧ ((¬ z1 = 0 → (rng ((σ1 94 14) + x1)) ∧ ((((σ1 94 14) + x1) ≤ 600 → V mX12_feed 37 [some (vr 94), none, some (vl x2), none, some (vi (x1 - 1))] [] σ1 post) ∧ (¬ ((σ1 94 14) + x1) ≤ 600 → post (some (vi (-1004))) σ1))) ∧ (z1 = 0 → post (some (vi (-1002))) σ1))))) :
  V mX12_feed 0 [some (vr 94), some (vi x1), some (vl x2), none, none] [] σ post := by
  refine V_iload_n dX12_feed_0 rfl rfl ?_
  obtain ⟨r1, h⟩ := h
  refine V_i2l dX12_feed_1 r1 ?_
  refine V_lconst (z := 1) dX12_feed_2 rfl ?_
  refine V_ldc2 dX12_feed_3 klX12_144 ?_
  refine V_callS (av := [vl x1, vl 1, vl 8]) (stk := []) cvX12_146 rfl rfl (by decide) (by simp [ctg]) dX12_feed_6 h ?_
  rintro _ σ1 ⟨z1, rfl, h⟩
  obtain ⟨r2, h⟩ := h
  refine V_if_ne (tgt := 16) dX12_feed_9 rfl r2 (fun q => ?_) (fun q => ?_)
  · replace h := h.1 q
    refine V_aload_n dX12_feed_16 rfl rfl ?_
    refine V_getI (f := (σ1 94 14)) flX12_150 rfl (rfl) (by decide) dX12_feed_17 ?_
    refine V_iload_n dX12_feed_20 rfl rfl ?_
    refine V_iadd dX12_feed_21 ?_
    refine V_sipush dX12_feed_22 (by decide) ?_
    obtain ⟨r3, h⟩ := h
    refine V_icmp_le (tgt := 32) dX12_feed_25 rfl r3 (by decide) (fun q => ?_) (fun q => ?_)
    · replace h := h.1 q
      refine V_iload_n dX12_feed_32 rfl rfl ?_
      refine V_iconst dX12_feed_33 ?_
      refine V_isub dX12_feed_34 ?_
      refine V_istore (L' := [some (vr 94), some (vi x1), some (vl x2), none, some (vi (x1 - 1))]) dX12_feed_35 (by decide) rfl ?_
      exact V.sub (SubL_s (SubL_n (SubL_s (SubL_n (SubL_s (SubL_0)))))) h
    · replace h := h.2 q
      refine V_sipush dX12_feed_28 (by decide) ?_
      exact V_ireturn (stk := []) rfl dX12_feed_31 h
  · replace h := h.2 q
    refine V_sipush dX12_feed_12 (by decide) ?_
    exact V_ireturn (stk := []) rfl dX12_feed_15 h
set_option maxRecDepth 100000 in
theorem BX12_feed_37 {σ : Sg} {post : Po} {x2 : Int} {x4 : Int} 
  (h : (rng x4) ∧ ((x4 < 0 → post (some (vi (σ 94 14))) σ) ∧ (¬ x4 < 0 → (0 ≤ (σ 94 14) ∧ (σ 94 14) < 600) ∧ (V mX12_feed 37 [some (vr 94), none, some (vl x2), none, some (vi (x4 + (-1)))] [] (up (up σ 106 (σ 94 14) (lAnd (lShr x2 (8 * x4)) 255)) 94 14 ((σ 94 14) + 1)) post)))) :
  V mX12_feed 37 [some (vr 94), none, some (vl x2), none, some (vi x4)] [] σ post := by
  refine V_iload dX12_feed_37 rfl ?_
  obtain ⟨r1, h⟩ := h
  refine V_if_lt (tgt := 79) dX12_feed_39 rfl r1 (fun q => ?_) (fun q => ?_)
  · replace h := h.1 q
    refine V_aload_n dX12_feed_79 rfl rfl ?_
    refine V_getI (f := (σ 94 14)) flX12_150 rfl (rfl) (by decide) dX12_feed_80 ?_
    exact V_ireturn (stk := []) rfl dX12_feed_83 h
  · replace h := h.2 q
    refine V_aload_n dX12_feed_42 rfl rfl ?_
    refine V_getR (k2 := 106) flX12_44 rfl rfl (by decide) dX12_feed_43 ?_
    refine V_aload_n dX12_feed_46 rfl rfl ?_
    refine V_getI (f := (σ 94 14)) flX12_150 rfl (rfl) (by decide) dX12_feed_47 ?_
    refine V_lload_n dX12_feed_50 rfl rfl ?_
    refine V_bipush dX12_feed_51 (by decide) ?_
    refine V_iload dX12_feed_53 rfl ?_
    refine V_imul dX12_feed_55 ?_
    refine V_lshr dX12_feed_56 ?_
    refine V_ldc2 dX12_feed_57 klX12_153 ?_
    refine V_land dX12_feed_60 ?_
    refine V_l2i dX12_feed_61 ?_
    obtain ⟨r2, h⟩ := h
    refine V_iast (rfl : shp[106]? = some (1, 600, 0)) r2 dX12_feed_62 ?_
    refine V_aload_n dX12_feed_63 rfl rfl ?_
    refine V_dup dX12_feed_64 trivial ?_
    refine V_getI (f := (σ 94 14)) flX12_150 rfl (up_o (by omega)) (by decide) dX12_feed_65 ?_
    refine V_iconst dX12_feed_68 ?_
    refine V_iadd dX12_feed_69 ?_
    refine V_putI flX12_150 rfl (by decide) dX12_feed_70 ?_
    refine V_iinc (L' := [some (vr 94), none, some (vl x2), none, some (vi (x4 + (-1)))]) dX12_feed_73 rfl (by decide) rfl ?_
    refine V_goto (tgt := 37) dX12_feed_76 rfl ?_
    exact V.sub (SubL_s (SubL_n (SubL_s (SubL_n (SubL_s (SubL_0)))))) h

set_option maxRecDepth 100000 in
theorem BX12_here_0 {σ : Sg} {post : Po}  
  (h : (rng (σ 94 15)) ∧ ((rng (σ 94 14)) ∧ (((σ 94 14) ≤ (σ 94 15) → ((σ 94 14) ≤ (σ 94 15) → post (some (vi (-1))) σ) ∧ (¬ (σ 94 14) ≤ (σ 94 15) → (0 ≤ (σ 94 15) ∧ (σ 94 15) < 600) ∧ (post (some (vi (σ 106 (σ 94 15)))) σ))) ∧ (¬ (σ 94 14) ≤ (σ 94 15) → (0 ≤ (σ 94 15) ∧ (σ 94 15) < 600) ∧ ((rng (σ 106 (σ 94 15))) ∧ ((¬ (σ 106 (σ 94 15)) = 32 → ((σ 94 14) ≤ (σ 94 15) → post (some (vi (-1))) σ) ∧ (¬ (σ 94 14) ≤ (σ 94 15) → post (some (vi (σ 106 (σ 94 15)))) σ)) ∧ ((σ 106 (σ 94 15)) = 32 → V mX12_here 0 [some (vr 94)] [] (up σ 94 15 ((σ 94 15) + 1)) post))))))) :
  V mX12_here 0 [some (vr 94)] [] σ post := by
  refine V_aload_n dX12_here_0 rfl rfl ?_
  refine V_getI (f := (σ 94 15)) flX12_155 rfl (rfl) (by decide) dX12_here_1 ?_
  refine V_aload_n dX12_here_4 rfl rfl ?_
  refine V_getI (f := (σ 94 14)) flX12_150 rfl (rfl) (by decide) dX12_here_5 ?_
  obtain ⟨r1, h⟩ := h
  obtain ⟨r2, h⟩ := h
  refine V_icmp_ge (tgt := 38) dX12_here_8 rfl r1 r2 (fun q => ?_) (fun q => ?_)
  · replace h := h.1 q
    refine V_aload_n dX12_here_38 rfl rfl ?_
    refine V_getI (f := (σ 94 15)) flX12_155 rfl (rfl) (by decide) dX12_here_39 ?_
    refine V_aload_n dX12_here_42 rfl rfl ?_
    refine V_getI (f := (σ 94 14)) flX12_150 rfl (rfl) (by decide) dX12_here_43 ?_
    refine V_icmp_ge (tgt := 61) dX12_here_46 rfl r1 r2 (fun q => ?_) (fun q => ?_)
    · replace h := h.1 q
      refine V_iconst dX12_here_61 ?_
      exact V_ireturn (stk := []) rfl dX12_here_62 h
    · replace h := h.2 q
      refine V_aload_n dX12_here_49 rfl rfl ?_
      refine V_getR (k2 := 106) flX12_44 rfl rfl (by decide) dX12_here_50 ?_
      refine V_aload_n dX12_here_53 rfl rfl ?_
      refine V_getI (f := (σ 94 15)) flX12_155 rfl (rfl) (by decide) dX12_here_54 ?_
      obtain ⟨r3, h⟩ := h
      refine V_iald (f := (σ 106 (σ 94 15))) (rfl : shp[106]? = some (1, 600, 0)) r3 (rfl) dX12_here_57 ?_
      refine V_goto (tgt := 62) dX12_here_58 rfl ?_
      exact V_ireturn (stk := []) rfl dX12_here_62 h
  · replace h := h.2 q
    refine V_aload_n dX12_here_11 rfl rfl ?_
    refine V_getR (k2 := 106) flX12_44 rfl rfl (by decide) dX12_here_12 ?_
    refine V_aload_n dX12_here_15 rfl rfl ?_
    refine V_getI (f := (σ 94 15)) flX12_155 rfl (rfl) (by decide) dX12_here_16 ?_
    obtain ⟨r4, h⟩ := h
    refine V_iald (f := (σ 106 (σ 94 15))) (rfl : shp[106]? = some (1, 600, 0)) r4 (rfl) dX12_here_19 ?_
    refine V_bipush dX12_here_20 (by decide) ?_
    obtain ⟨r5, h⟩ := h
    refine V_icmp_ne (tgt := 38) dX12_here_22 rfl r5 (by decide) (fun q => ?_) (fun q => ?_)
    · replace h := h.1 q
      refine V_aload_n dX12_here_38 rfl rfl ?_
      refine V_getI (f := (σ 94 15)) flX12_155 rfl (rfl) (by decide) dX12_here_39 ?_
      refine V_aload_n dX12_here_42 rfl rfl ?_
      refine V_getI (f := (σ 94 14)) flX12_150 rfl (rfl) (by decide) dX12_here_43 ?_
      refine V_icmp_ge (tgt := 61) dX12_here_46 rfl r1 r2 (fun q => ?_) (fun q => ?_)
      · replace h := h.1 q
        refine V_iconst dX12_here_61 ?_
        exact V_ireturn (stk := []) rfl dX12_here_62 h
      · replace h := h.2 q
        refine V_aload_n dX12_here_49 rfl rfl ?_
        refine V_getR (k2 := 106) flX12_44 rfl rfl (by decide) dX12_here_50 ?_
        refine V_aload_n dX12_here_53 rfl rfl ?_
        refine V_getI (f := (σ 94 15)) flX12_155 rfl (rfl) (by decide) dX12_here_54 ?_
        refine V_iald (f := (σ 106 (σ 94 15))) (rfl : shp[106]? = some (1, 600, 0)) r4 (rfl) dX12_here_57 ?_
        refine V_goto (tgt := 62) dX12_here_58 rfl ?_
        exact V_ireturn (stk := []) rfl dX12_here_62 h
    · replace h := h.2 q
      refine V_aload_n dX12_here_25 rfl rfl ?_
      refine V_dup dX12_here_26 trivial ?_
      refine V_getI (f := (σ 94 15)) flX12_155 rfl (rfl) (by decide) dX12_here_27 ?_
      refine V_iconst dX12_here_30 ?_
      refine V_iadd dX12_here_31 ?_
      refine V_putI flX12_155 rfl (by decide) dX12_here_32 ?_
      refine V_goto (tgt := 0) dX12_here_35 rfl ?_
      exact V.sub (SubL_s (SubL_0)) h

set_option maxRecDepth 100000 in
theorem BX12_want_0 {σ : Sg} {post : Po} {x1 : Int} {x2 : Int} {x3 : Int} 
  (h : (rng x1) ∧ ((¬ x1 = 0 → (rng (σ 94 18)) ∧ ((¬ (σ 94 18) = 0 → post (some (vi 0)) σ) ∧ ((σ 94 18) = 0 → post (some (vi 1)) σ))) ∧ (x1 = 0 → (rng (σ 94 18)) ∧ ((¬ (σ 94 18) = 0 → (¬ (σ 94 18) = 0 → post (some (vi 0)) σ) ∧ ((σ 94 18) = 0 → post (some (vi 1)) σ)) ∧ ((σ 94 18) = 0 → (rng x2) ∧ ((¬ x2 = 0 → post (some (vi 0)) (up (up σ 94 18 x2) 94 19 x3)) ∧ (x2 = 0 → post (some (vi 1)) (up (up σ 94 18 x2) 94 19 x3)))))))) :
  V mX12_want 0 [some (vr 94), some (vi x1), some (vi x2), some (vi x3)] [] σ post := by
  refine V_iload_n dX12_want_0 rfl rfl ?_
  obtain ⟨r1, h⟩ := h
  refine V_if_ne (tgt := 21) dX12_want_1 rfl r1 (fun q => ?_) (fun q => ?_)
  · replace h := h.1 q
    refine V_aload_n dX12_want_21 rfl rfl ?_
    refine V_getI (f := (σ 94 18)) flX12_158 rfl (rfl) (by decide) dX12_want_22 ?_
    obtain ⟨r2, h⟩ := h
    refine V_if_ne (tgt := 32) dX12_want_25 rfl r2 (fun q => ?_) (fun q => ?_)
    · replace h := h.1 q
      refine V_iconst dX12_want_32 ?_
      exact V_zreturn (stk := []) rfl dX12_want_33 (by decide) h
    · replace h := h.2 q
      refine V_iconst dX12_want_28 ?_
      refine V_goto (tgt := 33) dX12_want_29 rfl ?_
      exact V_zreturn (stk := []) rfl dX12_want_33 (by decide) h
  · replace h := h.2 q
    refine V_aload_n dX12_want_4 rfl rfl ?_
    refine V_getI (f := (σ 94 18)) flX12_158 rfl (rfl) (by decide) dX12_want_5 ?_
    obtain ⟨r3, h⟩ := h
    refine V_if_ne (tgt := 21) dX12_want_8 rfl r3 (fun q => ?_) (fun q => ?_)
    · replace h := h.1 q
      refine V_aload_n dX12_want_21 rfl rfl ?_
      refine V_getI (f := (σ 94 18)) flX12_158 rfl (rfl) (by decide) dX12_want_22 ?_
      refine V_if_ne (tgt := 32) dX12_want_25 rfl r3 (fun q => ?_) (fun q => ?_)
      · replace h := h.1 q
        refine V_iconst dX12_want_32 ?_
        exact V_zreturn (stk := []) rfl dX12_want_33 (by decide) h
      · replace h := h.2 q
        refine V_iconst dX12_want_28 ?_
        refine V_goto (tgt := 33) dX12_want_29 rfl ?_
        exact V_zreturn (stk := []) rfl dX12_want_33 (by decide) h
    · replace h := h.2 q
      refine V_aload_n dX12_want_11 rfl rfl ?_
      refine V_iload_n dX12_want_12 rfl rfl ?_
      refine V_putI flX12_158 rfl (by decide) dX12_want_13 ?_
      refine V_aload_n dX12_want_16 rfl rfl ?_
      refine V_iload_n dX12_want_17 rfl rfl ?_
      refine V_putI flX12_47 rfl (by decide) dX12_want_18 ?_
      refine V_aload_n dX12_want_21 rfl rfl ?_
      refine V_getI (f := x2) flX12_158 rfl ((up_f (by omega)).trans (up_s)) (by decide) dX12_want_22 ?_
      obtain ⟨r4, h⟩ := h
      refine V_if_ne (tgt := 32) dX12_want_25 rfl r4 (fun q => ?_) (fun q => ?_)
      · replace h := h.1 q
        refine V_iconst dX12_want_32 ?_
        exact V_zreturn (stk := []) rfl dX12_want_33 (by decide) h
      · replace h := h.2 q
        refine V_iconst dX12_want_28 ?_
        refine V_goto (tgt := 33) dX12_want_29 rfl ?_
        exact V_zreturn (stk := []) rfl dX12_want_33 (by decide) h

set_option maxRecDepth 100000 in
theorem BX12_isLetter_0 {σ : Sg} {post : Po} {x0 : Int} 
  (h : (rng x0) ∧ (Cl mX12_in [vl x0, vl 97, vl 122] σ (pI fun z1 σ1 => (rng z1) ∧ ((¬ z1 = 0 → post (some (vi 1)) σ1) ∧ (z1 = 0 → (¬ x0 = 95 → post (some (vi 0)) σ1) ∧ (x0 = 95 → post (some (vi 1)) σ1)))))) :
  V mX12_isLetter 0 [some (vi x0)] [] σ post := by
  refine V_iload_n dX12_isLetter_0 rfl rfl ?_
  obtain ⟨r1, h⟩ := h
  refine V_i2l dX12_isLetter_1 r1 ?_
  refine V_ldc2 dX12_isLetter_2 klX12_161 ?_
  refine V_ldc2 dX12_isLetter_5 klX12_163 ?_
  refine V_callS (av := [vl x0, vl 97, vl 122]) (stk := []) cvX12_146 rfl rfl (by decide) (by simp [ctg]) dX12_isLetter_8 h ?_
  rintro _ σ1 ⟨z1, rfl, h⟩
  obtain ⟨r2, h⟩ := h
  refine V_if_ne (tgt := 20) dX12_isLetter_11 rfl r2 (fun q => ?_) (fun q => ?_)
  · replace h := h.1 q
    refine V_iconst dX12_isLetter_20 ?_
    refine V_goto (tgt := 25) dX12_isLetter_21 rfl ?_
    exact V_zreturn (stk := []) rfl dX12_isLetter_25 (by decide) h
  · replace h := h.2 q
    refine V_iload_n dX12_isLetter_14 rfl rfl ?_
    refine V_bipush dX12_isLetter_15 (by decide) ?_
    refine V_icmp_ne (tgt := 24) dX12_isLetter_17 rfl r1 (by decide) (fun q => ?_) (fun q => ?_)
    · replace h := h.1 q
      refine V_iconst dX12_isLetter_24 ?_
      exact V_zreturn (stk := []) rfl dX12_isLetter_25 (by decide) h
    · replace h := h.2 q
      refine V_iconst dX12_isLetter_20 ?_
      refine V_goto (tgt := 25) dX12_isLetter_21 rfl ?_
      exact V_zreturn (stk := []) rfl dX12_isLetter_25 (by decide) h

set_option maxRecDepth 100000 in
theorem BX12_takeWord_0 {σ : Sg} {post : Po}  
  (h : Cl mX12_here [vr 94] σ (pI fun z1 σ1 => V mX12_takeWord 13 [some (vr 94), none] [] (up σ1 94 16 (σ1 94 15)) post)) :
  V mX12_takeWord 0 [some (vr 94), none] [] σ post := by
  refine V_aload_n dX12_takeWord_0 rfl rfl ?_
  refine V_callV (av := []) (stk := []) cvX12_165 rfl rfl rfl (by decide) (by simp [ctg]) dX12_takeWord_1 h ?_
  rintro _ σ1 ⟨z1, rfl, h⟩
  refine V_istore_n (L' := [some (vr 94), some (vi z1)]) dX12_takeWord_4 rfl (by decide) rfl ?_
  refine V_aload_n dX12_takeWord_5 rfl rfl ?_
  refine V_aload_n dX12_takeWord_6 rfl rfl ?_
  refine V_getI (f := (σ1 94 15)) flX12_155 rfl (rfl) (by decide) dX12_takeWord_7 ?_
  refine V_putI flX12_169 rfl (by decide) dX12_takeWord_10 ?_
  exact V.sub (SubL_s (SubL_n (SubL_0))) h
set_option maxRecDepth 100000 in
theorem BX12_takeWord_13 {σ : Sg} {post : Po}  
  (h : (rng (σ 94 15)) ∧ ((rng (σ 94 14)) ∧ (((σ 94 14) ≤ (σ 94 15) → post none (up σ 94 17 ((σ 94 15) - (σ 94 16)))) ∧ (¬ (σ 94 14) ≤ (σ 94 15) → (0 ≤ (σ 94 15) ∧ (σ 94 15) < 600) ∧ (Cl mX12_isLetter [vi (σ 106 (σ 94 15))] σ (pI fun z1 σ1 => (rng z1) ∧ ((z1 = 0 → post none (up σ1 94 17 ((σ1 94 15) - (σ1 94 16)))) ∧ (¬ z1 = 0 → V mX12_takeWord 13 [some (vr 94), none] [] (up σ1 94 15 ((σ1 94 15) + 1)) post)))))))) :
  V mX12_takeWord 13 [some (vr 94), none] [] σ post := by
  refine V_aload_n dX12_takeWord_13 rfl rfl ?_
  refine V_getI (f := (σ 94 15)) flX12_155 rfl (rfl) (by decide) dX12_takeWord_14 ?_
  refine V_aload_n dX12_takeWord_17 rfl rfl ?_
  refine V_getI (f := (σ 94 14)) flX12_150 rfl (rfl) (by decide) dX12_takeWord_18 ?_
  obtain ⟨r1, h⟩ := h
  obtain ⟨r2, h⟩ := h
  refine V_icmp_ge (tgt := 52) dX12_takeWord_21 rfl r1 r2 (fun q => ?_) (fun q => ?_)
  · replace h := h.1 q
    refine V_aload_n dX12_takeWord_52 rfl rfl ?_
    refine V_aload_n dX12_takeWord_53 rfl rfl ?_
    refine V_getI (f := (σ 94 15)) flX12_155 rfl (rfl) (by decide) dX12_takeWord_54 ?_
    refine V_aload_n dX12_takeWord_57 rfl rfl ?_
    refine V_getI (f := (σ 94 16)) flX12_169 rfl (rfl) (by decide) dX12_takeWord_58 ?_
    refine V_isub dX12_takeWord_61 ?_
    refine V_putI flX12_176 rfl (by decide) dX12_takeWord_62 ?_
    exact V_return (stk := []) rfl dX12_takeWord_65 h
  · replace h := h.2 q
    refine V_aload_n dX12_takeWord_24 rfl rfl ?_
    refine V_getR (k2 := 106) flX12_44 rfl rfl (by decide) dX12_takeWord_25 ?_
    refine V_aload_n dX12_takeWord_28 rfl rfl ?_
    refine V_getI (f := (σ 94 15)) flX12_155 rfl (rfl) (by decide) dX12_takeWord_29 ?_
    obtain ⟨r3, h⟩ := h
    refine V_iald (f := (σ 106 (σ 94 15))) (rfl : shp[106]? = some (1, 600, 0)) r3 (rfl) dX12_takeWord_32 ?_
    refine V_callS (av := [vi (σ 106 (σ 94 15))]) (stk := []) cvX12_172 rfl rfl (by decide) (by simp [ctg]) dX12_takeWord_33 h ?_
    rintro _ σ1 ⟨z1, rfl, h⟩
    obtain ⟨r4, h⟩ := h
    refine V_if_eq (tgt := 52) dX12_takeWord_36 rfl r4 (fun q => ?_) (fun q => ?_)
    · replace h := h.1 q
      refine V_aload_n dX12_takeWord_52 rfl rfl ?_
      refine V_aload_n dX12_takeWord_53 rfl rfl ?_
      refine V_getI (f := (σ1 94 15)) flX12_155 rfl (rfl) (by decide) dX12_takeWord_54 ?_
      refine V_aload_n dX12_takeWord_57 rfl rfl ?_
      refine V_getI (f := (σ1 94 16)) flX12_169 rfl (rfl) (by decide) dX12_takeWord_58 ?_
      refine V_isub dX12_takeWord_61 ?_
      refine V_putI flX12_176 rfl (by decide) dX12_takeWord_62 ?_
      exact V_return (stk := []) rfl dX12_takeWord_65 h
    · replace h := h.2 q
      refine V_aload_n dX12_takeWord_39 rfl rfl ?_
      refine V_dup dX12_takeWord_40 trivial ?_
      refine V_getI (f := (σ1 94 15)) flX12_155 rfl (rfl) (by decide) dX12_takeWord_41 ?_
      refine V_iconst dX12_takeWord_44 ?_
      refine V_iadd dX12_takeWord_45 ?_
      refine V_putI flX12_155 rfl (by decide) dX12_takeWord_46 ?_
      refine V_goto (tgt := 13) dX12_takeWord_49 rfl ?_
      exact V.sub (SubL_s (SubL_n (SubL_0))) h

set_option maxRecDepth 100000 in
theorem BX12_isWord_0 {σ : Sg} {post : Po} {x1 : Int} {x2 : Int} {x3 : Int} {x4 : Int} {x5 : Int} {x6 : Int} 
  (h : (rng (σ 94 17)) ∧ ((rng x1) ∧ ((¬ (σ 94 17) = x1 → V mX12_isWord 18 [some (vr 94), some (vi x1), some (vi x2), some (vi x3), some (vi x4), some (vi x5), some (vi x6), some (vi 0), some (vi 0)] [] σ post) ∧ ((σ 94 17) = x1 → V mX12_isWord 18 [some (vr 94), some (vi x1), some (vi x2), some (vi x3), some (vi x4), some (vi x5), some (vi x6), some (vi 1), some (vi 0)] [] σ post)))) :
  V mX12_isWord 0 [some (vr 94), some (vi x1), some (vi x2), some (vi x3), some (vi x4), some (vi x5), some (vi x6), none, none] [] σ post := by
  refine V_aload_n dX12_isWord_0 rfl rfl ?_
  refine V_getI (f := (σ 94 17)) flX12_176 rfl (rfl) (by decide) dX12_isWord_1 ?_
  refine V_iload_n dX12_isWord_4 rfl rfl ?_
  obtain ⟨r1, h⟩ := h
  obtain ⟨r2, h⟩ := h
  refine V_icmp_ne (tgt := 12) dX12_isWord_5 rfl r1 r2 (fun q => ?_) (fun q => ?_)
  · replace h := h.1 q
    refine V_iconst dX12_isWord_12 ?_
    refine V_istore (L' := [some (vr 94), some (vi x1), some (vi x2), some (vi x3), some (vi x4), some (vi x5), some (vi x6), some (vi 0), none]) dX12_isWord_13 (by decide) rfl ?_
    refine V_iconst dX12_isWord_15 ?_
    refine V_istore (L' := [some (vr 94), some (vi x1), some (vi x2), some (vi x3), some (vi x4), some (vi x5), some (vi x6), some (vi 0), some (vi 0)]) dX12_isWord_16 (by decide) rfl ?_
    exact V.sub (SubL_s (SubL_s (SubL_s (SubL_s (SubL_s (SubL_s (SubL_s (SubL_s (SubL_s (SubL_0)))))))))) h
  · replace h := h.2 q
    refine V_iconst dX12_isWord_8 ?_
    refine V_goto (tgt := 13) dX12_isWord_9 rfl ?_
    refine V_istore (L' := [some (vr 94), some (vi x1), some (vi x2), some (vi x3), some (vi x4), some (vi x5), some (vi x6), some (vi 1), none]) dX12_isWord_13 (by decide) rfl ?_
    refine V_iconst dX12_isWord_15 ?_
    refine V_istore (L' := [some (vr 94), some (vi x1), some (vi x2), some (vi x3), some (vi x4), some (vi x5), some (vi x6), some (vi 1), some (vi 0)]) dX12_isWord_16 (by decide) rfl ?_
    exact V.sub (SubL_s (SubL_s (SubL_s (SubL_s (SubL_s (SubL_s (SubL_s (SubL_s (SubL_s (SubL_0)))))))))) h
set_option maxRecDepth 100000 in
theorem BX12_isWord_18 {σ : Sg} {post : Po} {x1 : Int} {x2 : Int} {x3 : Int} {x4 : Int} {x5 : Int} {x6 : Int} {x7 : Int} {x8 : Int} 
  (h : (rng x8) ∧ ((rng x1) ∧ ((x1 ≤ x8 → (x7 = 0 ∨ x7 = 1) ∧ (post (some (vi x7)) σ)) ∧ (¬ x1 ≤ x8 → (rng x7) ∧ ((x7 = 0 → (x7 = 0 ∨ x7 = 1) ∧ (post (some (vi x7)) σ)) ∧ (¬ x7 = 0 → (0 ≤ ((σ 94 16) + x8) ∧ ((σ 94 16) + x8) < 600) ∧ ((¬ x8 = 0 → (¬ x8 = 1 → (¬ x8 = 2 → (¬ x8 = 3 → (rng (σ 106 ((σ 94 16) + x8))) ∧ ((rng x6) ∧ ((¬ (σ 106 ((σ 94 16) + x8)) = x6 → V mX12_isWord 18 [some (vr 94), some (vi x1), some (vi x2), some (vi x3), some (vi x4), some (vi x5), some (vi x6), some (vi 0), some (vi (x8 + 1))] [] σ post) ∧ ((σ 106 ((σ 94 16) + x8)) = x6 → V mX12_isWord 18 [some (vr 94), some (vi x1), some (vi x2), some (vi x3), some (vi x4), some (vi x5), some (vi x6), some (vi 1), some (vi (x8 + 1))] [] σ post)))) ∧ (x8 = 3 → (rng (σ 106 ((σ 94 16) + x8))) ∧ ((rng x5) ∧ ((¬ (σ 106 ((σ 94 16) + x8)) = x5 → V mX12_isWord 18 [some (vr 94), some (vi x1), some (vi x2), some (vi x3), some (vi x4), some (vi x5), some (vi x6), some (vi 0), some (vi (x8 + 1))] [] σ post) ∧ ((σ 106 ((σ 94 16) + x8)) = x5 → V mX12_isWord 18 [some (vr 94), some (vi x1), some (vi x2), some (vi x3), some (vi x4), some (vi x5), some (vi x6), some (vi 1), some (vi (x8 + 1))] [] σ post))))) ∧ (x8 = 2 → (rng (σ 106 ((σ 94 16) + x8))) ∧ ((rng x4) ∧ ((¬ (σ 106 ((σ 94 16) + x8)) = x4 → V mX12_isWord 18 [some (vr 94), some (vi x1), some (vi x2), some (vi x3), some (vi x4), some (vi x5), some (vi x6), some (vi 0), some (vi (x8 + 1))] [] σ post) ∧ ((σ 106 ((σ 94 16) + x8)) = x4 → V mX12_isWord 18 [some (vr 94), some (vi x1), some (vi x2), some (vi x3), some (vi x4), some (vi x5), some (vi x6), some (vi 1), some (vi (x8 + 1))] [] σ post))))) ∧ (x8 = 1 → (rng (σ 106 ((σ 94 16) + x8))) ∧ ((rng x3) ∧ ((¬ (σ 106 ((σ 94 16) + x8)) = x3 → V mX12_isWord 18 [some (vr 94), some (vi x1), some (vi x2), some (vi x3), some (vi x4), some (vi x5), some (vi x6), some (vi 0), some (vi (x8 + 1))] [] σ post) ∧ ((σ 106 ((σ 94 16) + x8)) = x3 → V mX12_isWord 18 [some (vr 94), some (vi x1), some (vi x2), some (vi x3), some (vi x4), some (vi x5), some (vi x6), some (vi 1), some (vi (x8 + 1))] [] σ post))))) ∧ (x8 = 0 → (rng (σ 106 ((σ 94 16) + x8))) ∧ ((rng x2) ∧ ((¬ (σ 106 ((σ 94 16) + x8)) = x2 → V mX12_isWord 18 [some (vr 94), some (vi x1), some (vi x2), some (vi x3), some (vi x4), some (vi x5), some (vi x6), some (vi 0), some (vi (x8 + 1))] [] σ post) ∧ ((σ 106 ((σ 94 16) + x8)) = x2 → V mX12_isWord 18 [some (vr 94), some (vi x1), some (vi x2), some (vi x3), some (vi x4), some (vi x5), some (vi x6), some (vi 1), some (vi (x8 + 1))] [] σ post))))))))))) :
  V mX12_isWord 18 [some (vr 94), some (vi x1), some (vi x2), some (vi x3), some (vi x4), some (vi x5), some (vi x6), some (vi x7), some (vi x8)] [] σ post := by
  refine V_iload dX12_isWord_18 rfl ?_
  refine V_iload_n dX12_isWord_20 rfl rfl ?_
  obtain ⟨r1, h⟩ := h
  obtain ⟨r2, h⟩ := h
  refine V_icmp_ge (tgt := 100) dX12_isWord_21 rfl r1 r2 (fun q => ?_) (fun q => ?_)
  · replace h := h.1 q
    refine V_iload dX12_isWord_100 rfl ?_
    obtain ⟨r3, h⟩ := h
    exact V_zreturn (stk := []) rfl dX12_isWord_102 r3 h
  · replace h := h.2 q
    refine V_iload dX12_isWord_24 rfl ?_
    obtain ⟨r4, h⟩ := h
    refine V_if_eq (tgt := 100) dX12_isWord_26 rfl r4 (fun q => ?_) (fun q => ?_)
    · replace h := h.1 q
      refine V_iload dX12_isWord_100 rfl ?_
      obtain ⟨r5, h⟩ := h
      exact V_zreturn (stk := []) rfl dX12_isWord_102 r5 h
    · replace h := h.2 q
      refine V_aload_n dX12_isWord_29 rfl rfl ?_
      refine V_getR (k2 := 106) flX12_44 rfl rfl (by decide) dX12_isWord_30 ?_
      refine V_aload_n dX12_isWord_33 rfl rfl ?_
      refine V_getI (f := (σ 94 16)) flX12_169 rfl (rfl) (by decide) dX12_isWord_34 ?_
      refine V_iload dX12_isWord_37 rfl ?_
      refine V_iadd dX12_isWord_39 ?_
      obtain ⟨r6, h⟩ := h
      refine V_iald (f := (σ 106 ((σ 94 16) + x8))) (rfl : shp[106]? = some (1, 600, 0)) r6 (rfl) dX12_isWord_40 ?_
      refine V_iload dX12_isWord_41 rfl ?_
      refine V_if_ne (tgt := 50) dX12_isWord_43 rfl r1 (fun q => ?_) (fun q => ?_)
      · replace h := h.1 q
        refine V_iload dX12_isWord_50 rfl ?_
        refine V_iconst dX12_isWord_52 ?_
        refine V_icmp_ne (tgt := 60) dX12_isWord_53 rfl r1 (by decide) (fun q => ?_) (fun q => ?_)
        · replace h := h.1 q
          refine V_iload dX12_isWord_60 rfl ?_
          refine V_iconst dX12_isWord_62 ?_
          refine V_icmp_ne (tgt := 71) dX12_isWord_63 rfl r1 (by decide) (fun q => ?_) (fun q => ?_)
          · replace h := h.1 q
            refine V_iload dX12_isWord_71 rfl ?_
            refine V_iconst dX12_isWord_73 ?_
            refine V_icmp_ne (tgt := 82) dX12_isWord_74 rfl r1 (by decide) (fun q => ?_) (fun q => ?_)
            · replace h := h.1 q
              refine V_iload dX12_isWord_82 rfl ?_
              obtain ⟨r7, h⟩ := h
              obtain ⟨r8, h⟩ := h
              refine V_icmp_ne (tgt := 91) dX12_isWord_84 rfl r7 r8 (fun q => ?_) (fun q => ?_)
              · replace h := h.1 q
                refine V_iconst dX12_isWord_91 ?_
                refine V_istore (L' := [some (vr 94), some (vi x1), some (vi x2), some (vi x3), some (vi x4), some (vi x5), some (vi x6), some (vi 0), some (vi x8)]) dX12_isWord_92 (by decide) rfl ?_
                refine V_iinc (L' := [some (vr 94), some (vi x1), some (vi x2), some (vi x3), some (vi x4), some (vi x5), some (vi x6), some (vi 0), some (vi (x8 + 1))]) dX12_isWord_94 rfl (by decide) rfl ?_
                refine V_goto (tgt := 18) dX12_isWord_97 rfl ?_
                exact V.sub (SubL_s (SubL_s (SubL_s (SubL_s (SubL_s (SubL_s (SubL_s (SubL_s (SubL_s (SubL_0)))))))))) h
              · replace h := h.2 q
                refine V_iconst dX12_isWord_87 ?_
                refine V_goto (tgt := 92) dX12_isWord_88 rfl ?_
                refine V_istore (L' := [some (vr 94), some (vi x1), some (vi x2), some (vi x3), some (vi x4), some (vi x5), some (vi x6), some (vi 1), some (vi x8)]) dX12_isWord_92 (by decide) rfl ?_
                refine V_iinc (L' := [some (vr 94), some (vi x1), some (vi x2), some (vi x3), some (vi x4), some (vi x5), some (vi x6), some (vi 1), some (vi (x8 + 1))]) dX12_isWord_94 rfl (by decide) rfl ?_
                refine V_goto (tgt := 18) dX12_isWord_97 rfl ?_
                exact V.sub (SubL_s (SubL_s (SubL_s (SubL_s (SubL_s (SubL_s (SubL_s (SubL_s (SubL_s (SubL_0)))))))))) h
            · replace h := h.2 q
              refine V_iload dX12_isWord_77 rfl ?_
              refine V_goto (tgt := 84) dX12_isWord_79 rfl ?_
              obtain ⟨r9, h⟩ := h
              obtain ⟨r10, h⟩ := h
              refine V_icmp_ne (tgt := 91) dX12_isWord_84 rfl r9 r10 (fun q => ?_) (fun q => ?_)
              · replace h := h.1 q
                refine V_iconst dX12_isWord_91 ?_
                refine V_istore (L' := [some (vr 94), some (vi x1), some (vi x2), some (vi x3), some (vi x4), some (vi x5), some (vi x6), some (vi 0), some (vi x8)]) dX12_isWord_92 (by decide) rfl ?_
                refine V_iinc (L' := [some (vr 94), some (vi x1), some (vi x2), some (vi x3), some (vi x4), some (vi x5), some (vi x6), some (vi 0), some (vi (x8 + 1))]) dX12_isWord_94 rfl (by decide) rfl ?_
                refine V_goto (tgt := 18) dX12_isWord_97 rfl ?_
                exact V.sub (SubL_s (SubL_s (SubL_s (SubL_s (SubL_s (SubL_s (SubL_s (SubL_s (SubL_s (SubL_0)))))))))) h
              · replace h := h.2 q
                refine V_iconst dX12_isWord_87 ?_
                refine V_goto (tgt := 92) dX12_isWord_88 rfl ?_
                refine V_istore (L' := [some (vr 94), some (vi x1), some (vi x2), some (vi x3), some (vi x4), some (vi x5), some (vi x6), some (vi 1), some (vi x8)]) dX12_isWord_92 (by decide) rfl ?_
                refine V_iinc (L' := [some (vr 94), some (vi x1), some (vi x2), some (vi x3), some (vi x4), some (vi x5), some (vi x6), some (vi 1), some (vi (x8 + 1))]) dX12_isWord_94 rfl (by decide) rfl ?_
                refine V_goto (tgt := 18) dX12_isWord_97 rfl ?_
                exact V.sub (SubL_s (SubL_s (SubL_s (SubL_s (SubL_s (SubL_s (SubL_s (SubL_s (SubL_s (SubL_0)))))))))) h
          · replace h := h.2 q
            refine V_iload dX12_isWord_66 rfl ?_
            refine V_goto (tgt := 84) dX12_isWord_68 rfl ?_
            obtain ⟨r11, h⟩ := h
            obtain ⟨r12, h⟩ := h
            refine V_icmp_ne (tgt := 91) dX12_isWord_84 rfl r11 r12 (fun q => ?_) (fun q => ?_)
            · replace h := h.1 q
              refine V_iconst dX12_isWord_91 ?_
              refine V_istore (L' := [some (vr 94), some (vi x1), some (vi x2), some (vi x3), some (vi x4), some (vi x5), some (vi x6), some (vi 0), some (vi x8)]) dX12_isWord_92 (by decide) rfl ?_
              refine V_iinc (L' := [some (vr 94), some (vi x1), some (vi x2), some (vi x3), some (vi x4), some (vi x5), some (vi x6), some (vi 0), some (vi (x8 + 1))]) dX12_isWord_94 rfl (by decide) rfl ?_
              refine V_goto (tgt := 18) dX12_isWord_97 rfl ?_
              exact V.sub (SubL_s (SubL_s (SubL_s (SubL_s (SubL_s (SubL_s (SubL_s (SubL_s (SubL_s (SubL_0)))))))))) h
            · replace h := h.2 q
              refine V_iconst dX12_isWord_87 ?_
              refine V_goto (tgt := 92) dX12_isWord_88 rfl ?_
              refine V_istore (L' := [some (vr 94), some (vi x1), some (vi x2), some (vi x3), some (vi x4), some (vi x5), some (vi x6), some (vi 1), some (vi x8)]) dX12_isWord_92 (by decide) rfl ?_
              refine V_iinc (L' := [some (vr 94), some (vi x1), some (vi x2), some (vi x3), some (vi x4), some (vi x5), some (vi x6), some (vi 1), some (vi (x8 + 1))]) dX12_isWord_94 rfl (by decide) rfl ?_
              refine V_goto (tgt := 18) dX12_isWord_97 rfl ?_
              exact V.sub (SubL_s (SubL_s (SubL_s (SubL_s (SubL_s (SubL_s (SubL_s (SubL_s (SubL_s (SubL_0)))))))))) h
        · replace h := h.2 q
          refine V_iload_n dX12_isWord_56 rfl rfl ?_
          refine V_goto (tgt := 84) dX12_isWord_57 rfl ?_
          obtain ⟨r13, h⟩ := h
          obtain ⟨r14, h⟩ := h
          refine V_icmp_ne (tgt := 91) dX12_isWord_84 rfl r13 r14 (fun q => ?_) (fun q => ?_)
          · replace h := h.1 q
            refine V_iconst dX12_isWord_91 ?_
            refine V_istore (L' := [some (vr 94), some (vi x1), some (vi x2), some (vi x3), some (vi x4), some (vi x5), some (vi x6), some (vi 0), some (vi x8)]) dX12_isWord_92 (by decide) rfl ?_
            refine V_iinc (L' := [some (vr 94), some (vi x1), some (vi x2), some (vi x3), some (vi x4), some (vi x5), some (vi x6), some (vi 0), some (vi (x8 + 1))]) dX12_isWord_94 rfl (by decide) rfl ?_
            refine V_goto (tgt := 18) dX12_isWord_97 rfl ?_
            exact V.sub (SubL_s (SubL_s (SubL_s (SubL_s (SubL_s (SubL_s (SubL_s (SubL_s (SubL_s (SubL_0)))))))))) h
          · replace h := h.2 q
            refine V_iconst dX12_isWord_87 ?_
            refine V_goto (tgt := 92) dX12_isWord_88 rfl ?_
            refine V_istore (L' := [some (vr 94), some (vi x1), some (vi x2), some (vi x3), some (vi x4), some (vi x5), some (vi x6), some (vi 1), some (vi x8)]) dX12_isWord_92 (by decide) rfl ?_
            refine V_iinc (L' := [some (vr 94), some (vi x1), some (vi x2), some (vi x3), some (vi x4), some (vi x5), some (vi x6), some (vi 1), some (vi (x8 + 1))]) dX12_isWord_94 rfl (by decide) rfl ?_
            refine V_goto (tgt := 18) dX12_isWord_97 rfl ?_
            exact V.sub (SubL_s (SubL_s (SubL_s (SubL_s (SubL_s (SubL_s (SubL_s (SubL_s (SubL_s (SubL_0)))))))))) h
      · replace h := h.2 q
        refine V_iload_n dX12_isWord_46 rfl rfl ?_
        refine V_goto (tgt := 84) dX12_isWord_47 rfl ?_
        obtain ⟨r15, h⟩ := h
        obtain ⟨r16, h⟩ := h
        refine V_icmp_ne (tgt := 91) dX12_isWord_84 rfl r15 r16 (fun q => ?_) (fun q => ?_)
        · replace h := h.1 q
          refine V_iconst dX12_isWord_91 ?_
          refine V_istore (L' := [some (vr 94), some (vi x1), some (vi x2), some (vi x3), some (vi x4), some (vi x5), some (vi x6), some (vi 0), some (vi x8)]) dX12_isWord_92 (by decide) rfl ?_
          refine V_iinc (L' := [some (vr 94), some (vi x1), some (vi x2), some (vi x3), some (vi x4), some (vi x5), some (vi x6), some (vi 0), some (vi (x8 + 1))]) dX12_isWord_94 rfl (by decide) rfl ?_
          refine V_goto (tgt := 18) dX12_isWord_97 rfl ?_
          exact V.sub (SubL_s (SubL_s (SubL_s (SubL_s (SubL_s (SubL_s (SubL_s (SubL_s (SubL_s (SubL_0)))))))))) h
        · replace h := h.2 q
          refine V_iconst dX12_isWord_87 ?_
          refine V_goto (tgt := 92) dX12_isWord_88 rfl ?_
          refine V_istore (L' := [some (vr 94), some (vi x1), some (vi x2), some (vi x3), some (vi x4), some (vi x5), some (vi x6), some (vi 1), some (vi x8)]) dX12_isWord_92 (by decide) rfl ?_
          refine V_iinc (L' := [some (vr 94), some (vi x1), some (vi x2), some (vi x3), some (vi x4), some (vi x5), some (vi x6), some (vi 1), some (vi (x8 + 1))]) dX12_isWord_94 rfl (by decide) rfl ?_
          refine V_goto (tgt := 18) dX12_isWord_97 rfl ?_
          exact V.sub (SubL_s (SubL_s (SubL_s (SubL_s (SubL_s (SubL_s (SubL_s (SubL_s (SubL_s (SubL_0)))))))))) h

set_option maxRecDepth 100000 in
theorem BX12_isName_0 {σ : Sg} {post : Po}  
  (h : (rng (σ 94 17)) ∧ (Cl mX12_in [vl (σ 94 17), vl 1, vl 12] σ (pI fun z1 σ1 => (rng z1) ∧ ((z1 = 0 → V mX12_isName 58 [some (vr 94), some (vi 0), some (vi 1)] [] σ1 post) ∧ (¬ z1 = 0 → (0 ≤ (σ1 94 16) ∧ (σ1 94 16) < 600) ∧ ((rng (σ1 106 (σ1 94 16))) ∧ (((σ1 106 (σ1 94 16)) = 95 → V mX12_isName 58 [some (vr 94), some (vi 0), some (vi 1)] [] σ1 post) ∧ (¬ (σ1 106 (σ1 94 16)) = 95 → (0 ≤ (((σ1 94 16) + (σ1 94 17)) - 1) ∧ (((σ1 94 16) + (σ1 94 17)) - 1) < 600) ∧ ((rng (σ1 106 (((σ1 94 16) + (σ1 94 17)) - 1))) ∧ (((σ1 106 (((σ1 94 16) + (σ1 94 17)) - 1)) = 95 → V mX12_isName 58 [some (vr 94), some (vi 0), some (vi 1)] [] σ1 post) ∧ (¬ (σ1 106 (((σ1 94 16) + (σ1 94 17)) - 1)) = 95 → V mX12_isName 58 [some (vr 94), some (vi 1), some (vi 1)] [] σ1 post))))))))))) :
  V mX12_isName 0 [some (vr 94), none, none] [] σ post := by
  refine V_aload_n dX12_isName_0 rfl rfl ?_
  refine V_getI (f := (σ 94 17)) flX12_176 rfl (rfl) (by decide) dX12_isName_1 ?_
  obtain ⟨r1, h⟩ := h
  refine V_i2l dX12_isName_4 r1 ?_
  refine V_lconst (z := 1) dX12_isName_5 rfl ?_
  refine V_ldc2 dX12_isName_6 klX12_179 ?_
  refine V_callS (av := [vl (σ 94 17), vl 1, vl 12]) (stk := []) cvX12_146 rfl rfl (by decide) (by simp [ctg]) dX12_isName_9 h ?_
  rintro _ σ1 ⟨z1, rfl, h⟩
  obtain ⟨r2, h⟩ := h
  refine V_if_eq (tgt := 54) dX12_isName_12 rfl r2 (fun q => ?_) (fun q => ?_)
  · replace h := h.1 q
    refine V_iconst dX12_isName_54 ?_
    refine V_istore_n (L' := [some (vr 94), some (vi 0), none]) dX12_isName_55 rfl (by decide) rfl ?_
    refine V_iconst dX12_isName_56 ?_
    refine V_istore_n (L' := [some (vr 94), some (vi 0), some (vi 1)]) dX12_isName_57 rfl (by decide) rfl ?_
    exact V.sub (SubL_s (SubL_s (SubL_s (SubL_0)))) h
  · replace h := h.2 q
    refine V_aload_n dX12_isName_15 rfl rfl ?_
    refine V_getR (k2 := 106) flX12_44 rfl rfl (by decide) dX12_isName_16 ?_
    refine V_aload_n dX12_isName_19 rfl rfl ?_
    refine V_getI (f := (σ1 94 16)) flX12_169 rfl (rfl) (by decide) dX12_isName_20 ?_
    obtain ⟨r3, h⟩ := h
    refine V_iald (f := (σ1 106 (σ1 94 16))) (rfl : shp[106]? = some (1, 600, 0)) r3 (rfl) dX12_isName_23 ?_
    refine V_bipush dX12_isName_24 (by decide) ?_
    obtain ⟨r4, h⟩ := h
    refine V_icmp_eq (tgt := 54) dX12_isName_26 rfl r4 (by decide) (fun q => ?_) (fun q => ?_)
    · replace h := h.1 q
      refine V_iconst dX12_isName_54 ?_
      refine V_istore_n (L' := [some (vr 94), some (vi 0), none]) dX12_isName_55 rfl (by decide) rfl ?_
      refine V_iconst dX12_isName_56 ?_
      refine V_istore_n (L' := [some (vr 94), some (vi 0), some (vi 1)]) dX12_isName_57 rfl (by decide) rfl ?_
      exact V.sub (SubL_s (SubL_s (SubL_s (SubL_0)))) h
    · replace h := h.2 q
      refine V_aload_n dX12_isName_29 rfl rfl ?_
      refine V_getR (k2 := 106) flX12_44 rfl rfl (by decide) dX12_isName_30 ?_
      refine V_aload_n dX12_isName_33 rfl rfl ?_
      refine V_getI (f := (σ1 94 16)) flX12_169 rfl (rfl) (by decide) dX12_isName_34 ?_
      refine V_aload_n dX12_isName_37 rfl rfl ?_
      refine V_getI (f := (σ1 94 17)) flX12_176 rfl (rfl) (by decide) dX12_isName_38 ?_
      refine V_iadd dX12_isName_41 ?_
      refine V_iconst dX12_isName_42 ?_
      refine V_isub dX12_isName_43 ?_
      obtain ⟨r5, h⟩ := h
      refine V_iald (f := (σ1 106 (((σ1 94 16) + (σ1 94 17)) - 1))) (rfl : shp[106]? = some (1, 600, 0)) r5 (rfl) dX12_isName_44 ?_
      refine V_bipush dX12_isName_45 (by decide) ?_
      obtain ⟨r6, h⟩ := h
      refine V_icmp_eq (tgt := 54) dX12_isName_47 rfl r6 (by decide) (fun q => ?_) (fun q => ?_)
      · replace h := h.1 q
        refine V_iconst dX12_isName_54 ?_
        refine V_istore_n (L' := [some (vr 94), some (vi 0), none]) dX12_isName_55 rfl (by decide) rfl ?_
        refine V_iconst dX12_isName_56 ?_
        refine V_istore_n (L' := [some (vr 94), some (vi 0), some (vi 1)]) dX12_isName_57 rfl (by decide) rfl ?_
        exact V.sub (SubL_s (SubL_s (SubL_s (SubL_0)))) h
      · replace h := h.2 q
        refine V_iconst dX12_isName_50 ?_
        refine V_goto (tgt := 55) dX12_isName_51 rfl ?_
        refine V_istore_n (L' := [some (vr 94), some (vi 1), none]) dX12_isName_55 rfl (by decide) rfl ?_
        refine V_iconst dX12_isName_56 ?_
        refine V_istore_n (L' := [some (vr 94), some (vi 1), some (vi 1)]) dX12_isName_57 rfl (by decide) rfl ?_
        exact V.sub (SubL_s (SubL_s (SubL_s (SubL_0)))) h
set_option maxRecDepth 100000 in
theorem BX12_isName_58 {σ : Sg} {post : Po} {x1 : Int} {x2 : Int} 
  (h : (rng x2) ∧ ((rng (σ 94 17)) ∧ (((σ 94 17) ≤ x2 → (x1 = 0 ∨ x1 = 1) ∧ (post (some (vi x1)) σ)) ∧ (¬ (σ 94 17) ≤ x2 → (rng x1) ∧ ((x1 = 0 → (x1 = 0 ∨ x1 = 1) ∧ (post (some (vi x1)) σ)) ∧ (¬ x1 = 0 → (0 ≤ ((σ 94 16) + x2) ∧ ((σ 94 16) + x2) < 600) ∧ ((rng (σ 106 ((σ 94 16) + x2))) ∧ ((¬ (σ 106 ((σ 94 16) + x2)) = 95 → V mX12_isName 58 [some (vr 94), some (vi 1), some (vi (x2 + 1))] [] σ post) ∧ ((σ 106 ((σ 94 16) + x2)) = 95 → (0 ≤ (((σ 94 16) + x2) - 1) ∧ (((σ 94 16) + x2) - 1) < 600) ∧ ((rng (σ 106 (((σ 94 16) + x2) - 1))) ∧ (((σ 106 (((σ 94 16) + x2) - 1)) = 95 → V mX12_isName 58 [some (vr 94), some (vi 0), some (vi (x2 + 1))] [] σ post) ∧ (¬ (σ 106 (((σ 94 16) + x2) - 1)) = 95 → V mX12_isName 58 [some (vr 94), some (vi 1), some (vi (x2 + 1))] [] σ post)))))))))))) :
  V mX12_isName 58 [some (vr 94), some (vi x1), some (vi x2)] [] σ post := by
  refine V_iload_n dX12_isName_58 rfl rfl ?_
  refine V_aload_n dX12_isName_59 rfl rfl ?_
  refine V_getI (f := (σ 94 17)) flX12_176 rfl (rfl) (by decide) dX12_isName_60 ?_
  obtain ⟨r1, h⟩ := h
  obtain ⟨r2, h⟩ := h
  refine V_icmp_ge (tgt := 116) dX12_isName_63 rfl r1 r2 (fun q => ?_) (fun q => ?_)
  · replace h := h.1 q
    refine V_iload_n dX12_isName_116 rfl rfl ?_
    obtain ⟨r3, h⟩ := h
    exact V_zreturn (stk := []) rfl dX12_isName_117 r3 h
  · replace h := h.2 q
    refine V_iload_n dX12_isName_66 rfl rfl ?_
    obtain ⟨r4, h⟩ := h
    refine V_if_eq (tgt := 116) dX12_isName_67 rfl r4 (fun q => ?_) (fun q => ?_)
    · replace h := h.1 q
      refine V_iload_n dX12_isName_116 rfl rfl ?_
      obtain ⟨r5, h⟩ := h
      exact V_zreturn (stk := []) rfl dX12_isName_117 r5 h
    · replace h := h.2 q
      refine V_aload_n dX12_isName_70 rfl rfl ?_
      refine V_getR (k2 := 106) flX12_44 rfl rfl (by decide) dX12_isName_71 ?_
      refine V_aload_n dX12_isName_74 rfl rfl ?_
      refine V_getI (f := (σ 94 16)) flX12_169 rfl (rfl) (by decide) dX12_isName_75 ?_
      refine V_iload_n dX12_isName_78 rfl rfl ?_
      refine V_iadd dX12_isName_79 ?_
      obtain ⟨r6, h⟩ := h
      refine V_iald (f := (σ 106 ((σ 94 16) + x2))) (rfl : shp[106]? = some (1, 600, 0)) r6 (rfl) dX12_isName_80 ?_
      refine V_bipush dX12_isName_81 (by decide) ?_
      obtain ⟨r7, h⟩ := h
      refine V_icmp_ne (tgt := 104) dX12_isName_83 rfl r7 (by decide) (fun q => ?_) (fun q => ?_)
      · replace h := h.1 q
        refine V_iconst dX12_isName_104 ?_
        refine V_goto (tgt := 109) dX12_isName_105 rfl ?_
        refine V_istore_n (L' := [some (vr 94), some (vi 1), some (vi x2)]) dX12_isName_109 rfl (by decide) rfl ?_
        refine V_iinc (L' := [some (vr 94), some (vi 1), some (vi (x2 + 1))]) dX12_isName_110 rfl (by decide) rfl ?_
        refine V_goto (tgt := 58) dX12_isName_113 rfl ?_
        exact V.sub (SubL_s (SubL_s (SubL_s (SubL_0)))) h
      · replace h := h.2 q
        refine V_aload_n dX12_isName_86 rfl rfl ?_
        refine V_getR (k2 := 106) flX12_44 rfl rfl (by decide) dX12_isName_87 ?_
        refine V_aload_n dX12_isName_90 rfl rfl ?_
        refine V_getI (f := (σ 94 16)) flX12_169 rfl (rfl) (by decide) dX12_isName_91 ?_
        refine V_iload_n dX12_isName_94 rfl rfl ?_
        refine V_iadd dX12_isName_95 ?_
        refine V_iconst dX12_isName_96 ?_
        refine V_isub dX12_isName_97 ?_
        obtain ⟨r8, h⟩ := h
        refine V_iald (f := (σ 106 (((σ 94 16) + x2) - 1))) (rfl : shp[106]? = some (1, 600, 0)) r8 (rfl) dX12_isName_98 ?_
        refine V_bipush dX12_isName_99 (by decide) ?_
        obtain ⟨r9, h⟩ := h
        refine V_icmp_eq (tgt := 108) dX12_isName_101 rfl r9 (by decide) (fun q => ?_) (fun q => ?_)
        · replace h := h.1 q
          refine V_iconst dX12_isName_108 ?_
          refine V_istore_n (L' := [some (vr 94), some (vi 0), some (vi x2)]) dX12_isName_109 rfl (by decide) rfl ?_
          refine V_iinc (L' := [some (vr 94), some (vi 0), some (vi (x2 + 1))]) dX12_isName_110 rfl (by decide) rfl ?_
          refine V_goto (tgt := 58) dX12_isName_113 rfl ?_
          exact V.sub (SubL_s (SubL_s (SubL_s (SubL_0)))) h
        · replace h := h.2 q
          refine V_iconst dX12_isName_104 ?_
          refine V_goto (tgt := 109) dX12_isName_105 rfl ?_
          refine V_istore_n (L' := [some (vr 94), some (vi 1), some (vi x2)]) dX12_isName_109 rfl (by decide) rfl ?_
          refine V_iinc (L' := [some (vr 94), some (vi 1), some (vi (x2 + 1))]) dX12_isName_110 rfl (by decide) rfl ?_
          refine V_goto (tgt := 58) dX12_isName_113 rfl ?_
          exact V.sub (SubL_s (SubL_s (SubL_s (SubL_0)))) h

set_option maxRecDepth 100000 in
theorem BX12_isHere_0 {σ : Sg} {post : Po} {x1 : Int} 
  (h : (0 ≤ x1 ∧ x1 < 112) ∧ ((rng (σ 96 x1)) ∧ ((rng (σ 94 17)) ∧ ((¬ (σ 96 x1) = (σ 94 17) → V mX12_isHere 21 [some (vr 94), some (vi x1), some (vi 0), some (vi 0)] [] σ post) ∧ ((σ 96 x1) = (σ 94 17) → V mX12_isHere 21 [some (vr 94), some (vi x1), some (vi 1), some (vi 0)] [] σ post))))) :
  V mX12_isHere 0 [some (vr 94), some (vi x1), none, none] [] σ post := by
  refine V_aload_n dX12_isHere_0 rfl rfl ?_
  refine V_getR (k2 := 96) flX12_13 rfl rfl (by decide) dX12_isHere_1 ?_
  refine V_iload_n dX12_isHere_4 rfl rfl ?_
  obtain ⟨r1, h⟩ := h
  refine V_iald (f := (σ 96 x1)) (rfl : shp[96]? = some (1, 112, 0)) r1 (rfl) dX12_isHere_5 ?_
  refine V_aload_n dX12_isHere_6 rfl rfl ?_
  refine V_getI (f := (σ 94 17)) flX12_176 rfl (rfl) (by decide) dX12_isHere_7 ?_
  obtain ⟨r2, h⟩ := h
  obtain ⟨r3, h⟩ := h
  refine V_icmp_ne (tgt := 17) dX12_isHere_10 rfl r2 r3 (fun q => ?_) (fun q => ?_)
  · replace h := h.1 q
    refine V_iconst dX12_isHere_17 ?_
    refine V_istore_n (L' := [some (vr 94), some (vi x1), some (vi 0), none]) dX12_isHere_18 rfl (by decide) rfl ?_
    refine V_iconst dX12_isHere_19 ?_
    refine V_istore_n (L' := [some (vr 94), some (vi x1), some (vi 0), some (vi 0)]) dX12_isHere_20 rfl (by decide) rfl ?_
    exact V.sub (SubL_s (SubL_s (SubL_s (SubL_s (SubL_0))))) h
  · replace h := h.2 q
    refine V_iconst dX12_isHere_13 ?_
    refine V_goto (tgt := 18) dX12_isHere_14 rfl ?_
    refine V_istore_n (L' := [some (vr 94), some (vi x1), some (vi 1), none]) dX12_isHere_18 rfl (by decide) rfl ?_
    refine V_iconst dX12_isHere_19 ?_
    refine V_istore_n (L' := [some (vr 94), some (vi x1), some (vi 1), some (vi 0)]) dX12_isHere_20 rfl (by decide) rfl ?_
    exact V.sub (SubL_s (SubL_s (SubL_s (SubL_s (SubL_0))))) h
set_option maxRecDepth 100000 in
theorem BX12_isHere_21 {σ : Sg} {post : Po} {x1 : Int} {x2 : Int} {x3 : Int} 
  (h : (rng x3) ∧ ((rng (σ 94 17)) ∧ (((σ 94 17) ≤ x3 → (x2 = 0 ∨ x2 = 1) ∧ (post (some (vi x2)) σ)) ∧ (¬ (σ 94 17) ≤ x3 → (rng x2) ∧ ((x2 = 0 → (x2 = 0 ∨ x2 = 1) ∧ (post (some (vi x2)) σ)) ∧ (¬ x2 = 0 → (0 ≤ ((12 * x1) + x3) ∧ ((12 * x1) + x3) < 1344) ∧ ((0 ≤ ((σ 94 16) + x3) ∧ ((σ 94 16) + x3) < 600) ∧ ((rng (σ 97 ((12 * x1) + x3))) ∧ ((rng (σ 106 ((σ 94 16) + x3))) ∧ ((¬ (σ 97 ((12 * x1) + x3)) = (σ 106 ((σ 94 16) + x3)) → V mX12_isHere 21 [some (vr 94), some (vi x1), some (vi 0), some (vi (x3 + 1))] [] σ post) ∧ ((σ 97 ((12 * x1) + x3)) = (σ 106 ((σ 94 16) + x3)) → V mX12_isHere 21 [some (vr 94), some (vi x1), some (vi 1), some (vi (x3 + 1))] [] σ post))))))))))) :
  V mX12_isHere 21 [some (vr 94), some (vi x1), some (vi x2), some (vi x3)] [] σ post := by
  refine V_iload_n dX12_isHere_21 rfl rfl ?_
  refine V_aload_n dX12_isHere_22 rfl rfl ?_
  refine V_getI (f := (σ 94 17)) flX12_176 rfl (rfl) (by decide) dX12_isHere_23 ?_
  obtain ⟨r1, h⟩ := h
  obtain ⟨r2, h⟩ := h
  refine V_icmp_ge (tgt := 70) dX12_isHere_26 rfl r1 r2 (fun q => ?_) (fun q => ?_)
  · replace h := h.1 q
    refine V_iload_n dX12_isHere_70 rfl rfl ?_
    obtain ⟨r3, h⟩ := h
    exact V_zreturn (stk := []) rfl dX12_isHere_71 r3 h
  · replace h := h.2 q
    refine V_iload_n dX12_isHere_29 rfl rfl ?_
    obtain ⟨r4, h⟩ := h
    refine V_if_eq (tgt := 70) dX12_isHere_30 rfl r4 (fun q => ?_) (fun q => ?_)
    · replace h := h.1 q
      refine V_iload_n dX12_isHere_70 rfl rfl ?_
      obtain ⟨r5, h⟩ := h
      exact V_zreturn (stk := []) rfl dX12_isHere_71 r5 h
    · replace h := h.2 q
      refine V_aload_n dX12_isHere_33 rfl rfl ?_
      refine V_getR (k2 := 97) flX12_16 rfl rfl (by decide) dX12_isHere_34 ?_
      refine V_bipush dX12_isHere_37 (by decide) ?_
      refine V_iload_n dX12_isHere_39 rfl rfl ?_
      refine V_imul dX12_isHere_40 ?_
      refine V_iload_n dX12_isHere_41 rfl rfl ?_
      refine V_iadd dX12_isHere_42 ?_
      obtain ⟨r6, h⟩ := h
      refine V_iald (f := (σ 97 ((12 * x1) + x3))) (rfl : shp[97]? = some (1, 1344, 0)) r6 (rfl) dX12_isHere_43 ?_
      refine V_aload_n dX12_isHere_44 rfl rfl ?_
      refine V_getR (k2 := 106) flX12_44 rfl rfl (by decide) dX12_isHere_45 ?_
      refine V_aload_n dX12_isHere_48 rfl rfl ?_
      refine V_getI (f := (σ 94 16)) flX12_169 rfl (rfl) (by decide) dX12_isHere_49 ?_
      refine V_iload_n dX12_isHere_52 rfl rfl ?_
      refine V_iadd dX12_isHere_53 ?_
      obtain ⟨r7, h⟩ := h
      refine V_iald (f := (σ 106 ((σ 94 16) + x3))) (rfl : shp[106]? = some (1, 600, 0)) r7 (rfl) dX12_isHere_54 ?_
      obtain ⟨r8, h⟩ := h
      obtain ⟨r9, h⟩ := h
      refine V_icmp_ne (tgt := 62) dX12_isHere_55 rfl r8 r9 (fun q => ?_) (fun q => ?_)
      · replace h := h.1 q
        refine V_iconst dX12_isHere_62 ?_
        refine V_istore_n (L' := [some (vr 94), some (vi x1), some (vi 0), some (vi x3)]) dX12_isHere_63 rfl (by decide) rfl ?_
        refine V_iinc (L' := [some (vr 94), some (vi x1), some (vi 0), some (vi (x3 + 1))]) dX12_isHere_64 rfl (by decide) rfl ?_
        refine V_goto (tgt := 21) dX12_isHere_67 rfl ?_
        exact V.sub (SubL_s (SubL_s (SubL_s (SubL_s (SubL_0))))) h
      · replace h := h.2 q
        refine V_iconst dX12_isHere_58 ?_
        refine V_goto (tgt := 63) dX12_isHere_59 rfl ?_
        refine V_istore_n (L' := [some (vr 94), some (vi x1), some (vi 1), some (vi x3)]) dX12_isHere_63 rfl (by decide) rfl ?_
        refine V_iinc (L' := [some (vr 94), some (vi x1), some (vi 1), some (vi (x3 + 1))]) dX12_isHere_64 rfl (by decide) rfl ?_
        refine V_goto (tgt := 21) dX12_isHere_67 rfl ?_
        exact V.sub (SubL_s (SubL_s (SubL_s (SubL_s (SubL_0))))) h

set_option maxRecDepth 100000 in
theorem BX12_nameIt_0 {σ : Sg} {post : Po} {x1 : Int} 
  (h : (0 ≤ x1 ∧ x1 < 112) ∧ (V mX12_nameIt 12 [some (vr 94), some (vi x1), some (vi 0)] [] (up σ 96 x1 (σ 94 17)) post)) :
  V mX12_nameIt 0 [some (vr 94), some (vi x1), none] [] σ post := by
  refine V_aload_n dX12_nameIt_0 rfl rfl ?_
  refine V_getR (k2 := 96) flX12_13 rfl rfl (by decide) dX12_nameIt_1 ?_
  refine V_iload_n dX12_nameIt_4 rfl rfl ?_
  refine V_aload_n dX12_nameIt_5 rfl rfl ?_
  refine V_getI (f := (σ 94 17)) flX12_176 rfl (rfl) (by decide) dX12_nameIt_6 ?_
  obtain ⟨r1, h⟩ := h
  refine V_iast (rfl : shp[96]? = some (1, 112, 0)) r1 dX12_nameIt_9 ?_
  refine V_iconst dX12_nameIt_10 ?_
  refine V_istore_n (L' := [some (vr 94), some (vi x1), some (vi 0)]) dX12_nameIt_11 rfl (by decide) rfl ?_
  exact V.sub (SubL_s (SubL_s (SubL_s (SubL_0)))) h
set_option maxRecDepth 100000 in
theorem BX12_nameIt_12 {σ : Sg} {post : Po} {x1 : Int} {x2 : Int} 
  (h : (rng x2) ∧ ((rng (σ 94 17)) ∧ (((σ 94 17) ≤ x2 → post none σ) ∧ (¬ (σ 94 17) ≤ x2 → (0 ≤ ((σ 94 16) + x2) ∧ ((σ 94 16) + x2) < 600) ∧ ((0 ≤ ((12 * x1) + x2) ∧ ((12 * x1) + x2) < 1344) ∧ (V mX12_nameIt 12 [some (vr 94), some (vi x1), some (vi (x2 + 1))] [] (up σ 97 ((12 * x1) + x2) (σ 106 ((σ 94 16) + x2))) post)))))) :
  V mX12_nameIt 12 [some (vr 94), some (vi x1), some (vi x2)] [] σ post := by
  refine V_iload_n dX12_nameIt_12 rfl rfl ?_
  refine V_aload_n dX12_nameIt_13 rfl rfl ?_
  refine V_getI (f := (σ 94 17)) flX12_176 rfl (rfl) (by decide) dX12_nameIt_14 ?_
  obtain ⟨r1, h⟩ := h
  obtain ⟨r2, h⟩ := h
  refine V_icmp_ge (tgt := 48) dX12_nameIt_17 rfl r1 r2 (fun q => ?_) (fun q => ?_)
  · replace h := h.1 q
    exact V_return (stk := []) rfl dX12_nameIt_48 h
  · replace h := h.2 q
    refine V_aload_n dX12_nameIt_20 rfl rfl ?_
    refine V_getR (k2 := 97) flX12_16 rfl rfl (by decide) dX12_nameIt_21 ?_
    refine V_bipush dX12_nameIt_24 (by decide) ?_
    refine V_iload_n dX12_nameIt_26 rfl rfl ?_
    refine V_imul dX12_nameIt_27 ?_
    refine V_iload_n dX12_nameIt_28 rfl rfl ?_
    refine V_iadd dX12_nameIt_29 ?_
    refine V_aload_n dX12_nameIt_30 rfl rfl ?_
    refine V_getR (k2 := 106) flX12_44 rfl rfl (by decide) dX12_nameIt_31 ?_
    refine V_aload_n dX12_nameIt_34 rfl rfl ?_
    refine V_getI (f := (σ 94 16)) flX12_169 rfl (rfl) (by decide) dX12_nameIt_35 ?_
    refine V_iload_n dX12_nameIt_38 rfl rfl ?_
    refine V_iadd dX12_nameIt_39 ?_
    obtain ⟨r3, h⟩ := h
    refine V_iald (f := (σ 106 ((σ 94 16) + x2))) (rfl : shp[106]? = some (1, 600, 0)) r3 (rfl) dX12_nameIt_40 ?_
    obtain ⟨r4, h⟩ := h
    refine V_iast (rfl : shp[97]? = some (1, 1344, 0)) r4 dX12_nameIt_41 ?_
    refine V_iinc (L' := [some (vr 94), some (vi x1), some (vi (x2 + 1))]) dX12_nameIt_42 rfl (by decide) rfl ?_
    refine V_goto (tgt := 12) dX12_nameIt_45 rfl ?_
    exact V.sub (SubL_s (SubL_s (SubL_s (SubL_0)))) h

set_option maxRecDepth 100000 in
theorem BX12_takeHead_0 {σ : Sg} {post : Po}  
  (h : Cl mX12_takeWord [vr 94] σ (pV fun σ1 => (rng (σ1 94 17)) ∧ (((σ1 94 17) ≤ 0 → Cl mX12_want [vr 94, vi 0, vi 1, vi (σ1 94 16)] σ1 (pI fun z2 σ2 => (rng z2) ∧ ((z2 = 0 → post (some (vi 0)) σ2) ∧ (¬ z2 = 0 → Cl mX12_isName [vr 94] σ2 (pI fun z3 σ3 => Cl mX12_want [vr 94, vi z3, vi 3, vi (σ3 94 16)] σ3 (pI fun z4 σ4 => (rng z4) ∧ ((¬ z4 = 0 → V mX12_takeHead 48 [some (vr 94), some (vi 0)] [] σ4 post) ∧ (z4 = 0 → post (some (vi 0)) σ4)))))))) ∧ (¬ (σ1 94 17) ≤ 0 → Cl mX12_want [vr 94, vi 1, vi 1, vi (σ1 94 16)] σ1 (pI fun z5 σ5 => (rng z5) ∧ ((z5 = 0 → post (some (vi 0)) σ5) ∧ (¬ z5 = 0 → Cl mX12_isName [vr 94] σ5 (pI fun z6 σ6 => Cl mX12_want [vr 94, vi z6, vi 3, vi (σ6 94 16)] σ6 (pI fun z7 σ7 => (rng z7) ∧ ((¬ z7 = 0 → V mX12_takeHead 48 [some (vr 94), some (vi 0)] [] σ7 post) ∧ (z7 = 0 → post (some (vi 0)) σ7))))))))))) :
  V mX12_takeHead 0 [some (vr 94), none] [] σ post := by
  refine V_aload_n dX12_takeHead_0 rfl rfl ?_
  refine V_callV (av := []) (stk := []) cvX12_181 rfl rfl rfl (by decide) (by simp [ctg]) dX12_takeHead_1 h ?_
  rintro _ σ1 ⟨rfl, h⟩
  refine V_aload_n dX12_takeHead_4 rfl rfl ?_
  refine V_aload_n dX12_takeHead_5 rfl rfl ?_
  refine V_getI (f := (σ1 94 17)) flX12_176 rfl (rfl) (by decide) dX12_takeHead_6 ?_
  obtain ⟨r1, h⟩ := h
  refine V_if_le (tgt := 16) dX12_takeHead_9 rfl r1 (fun q => ?_) (fun q => ?_)
  · replace h := h.1 q
    refine V_iconst dX12_takeHead_16 ?_
    refine V_iconst dX12_takeHead_17 ?_
    refine V_aload_n dX12_takeHead_18 rfl rfl ?_
    refine V_getI (f := (σ1 94 16)) flX12_169 rfl (rfl) (by decide) dX12_takeHead_19 ?_
    refine V_callV (av := [vi 0, vi 1, vi (σ1 94 16)]) (stk := []) cvX12_184 rfl rfl rfl (by decide) (by simp [ctg]) dX12_takeHead_22 h ?_
    rintro _ σ2 ⟨z2, rfl, h⟩
    obtain ⟨r2, h⟩ := h
    refine V_if_eq (tgt := 44) dX12_takeHead_25 rfl r2 (fun q => ?_) (fun q => ?_)
    · replace h := h.1 q
      refine V_iconst dX12_takeHead_44 ?_
      exact V_ireturn (stk := []) rfl dX12_takeHead_45 h
    · replace h := h.2 q
      refine V_aload_n dX12_takeHead_28 rfl rfl ?_
      refine V_aload_n dX12_takeHead_29 rfl rfl ?_
      refine V_callV (av := []) (stk := [vr 94]) cvX12_188 rfl rfl rfl (by decide) (by simp [ctg]) dX12_takeHead_30 h ?_
      rintro _ σ3 ⟨z3, rfl, h⟩
      refine V_iconst dX12_takeHead_33 ?_
      refine V_aload_n dX12_takeHead_34 rfl rfl ?_
      refine V_getI (f := (σ3 94 16)) flX12_169 rfl (rfl) (by decide) dX12_takeHead_35 ?_
      refine V_callV (av := [vi z3, vi 3, vi (σ3 94 16)]) (stk := []) cvX12_184 rfl rfl rfl (by decide) (by simp [ctg]) dX12_takeHead_38 h ?_
      rintro _ σ4 ⟨z4, rfl, h⟩
      obtain ⟨r3, h⟩ := h
      refine V_if_ne (tgt := 46) dX12_takeHead_41 rfl r3 (fun q => ?_) (fun q => ?_)
      · replace h := h.1 q
        refine V_iconst dX12_takeHead_46 ?_
        refine V_istore_n (L' := [some (vr 94), some (vi 0)]) dX12_takeHead_47 rfl (by decide) rfl ?_
        exact V.sub (SubL_s (SubL_s (SubL_0))) h
      · replace h := h.2 q
        refine V_iconst dX12_takeHead_44 ?_
        exact V_ireturn (stk := []) rfl dX12_takeHead_45 h
  · replace h := h.2 q
    refine V_iconst dX12_takeHead_12 ?_
    refine V_goto (tgt := 17) dX12_takeHead_13 rfl ?_
    refine V_iconst dX12_takeHead_17 ?_
    refine V_aload_n dX12_takeHead_18 rfl rfl ?_
    refine V_getI (f := (σ1 94 16)) flX12_169 rfl (rfl) (by decide) dX12_takeHead_19 ?_
    refine V_callV (av := [vi 1, vi 1, vi (σ1 94 16)]) (stk := []) cvX12_184 rfl rfl rfl (by decide) (by simp [ctg]) dX12_takeHead_22 h ?_
    rintro _ σ5 ⟨z5, rfl, h⟩
    obtain ⟨r4, h⟩ := h
    refine V_if_eq (tgt := 44) dX12_takeHead_25 rfl r4 (fun q => ?_) (fun q => ?_)
    · replace h := h.1 q
      refine V_iconst dX12_takeHead_44 ?_
      exact V_ireturn (stk := []) rfl dX12_takeHead_45 h
    · replace h := h.2 q
      refine V_aload_n dX12_takeHead_28 rfl rfl ?_
      refine V_aload_n dX12_takeHead_29 rfl rfl ?_
      refine V_callV (av := []) (stk := [vr 94]) cvX12_188 rfl rfl rfl (by decide) (by simp [ctg]) dX12_takeHead_30 h ?_
      rintro _ σ6 ⟨z6, rfl, h⟩
      refine V_iconst dX12_takeHead_33 ?_
      refine V_aload_n dX12_takeHead_34 rfl rfl ?_
      refine V_getI (f := (σ6 94 16)) flX12_169 rfl (rfl) (by decide) dX12_takeHead_35 ?_
      refine V_callV (av := [vi z6, vi 3, vi (σ6 94 16)]) (stk := []) cvX12_184 rfl rfl rfl (by decide) (by simp [ctg]) dX12_takeHead_38 h ?_
      rintro _ σ7 ⟨z7, rfl, h⟩
      obtain ⟨r5, h⟩ := h
      refine V_if_ne (tgt := 46) dX12_takeHead_41 rfl r5 (fun q => ?_) (fun q => ?_)
      · replace h := h.1 q
        refine V_iconst dX12_takeHead_46 ?_
        refine V_istore_n (L' := [some (vr 94), some (vi 0)]) dX12_takeHead_47 rfl (by decide) rfl ?_
        exact V.sub (SubL_s (SubL_s (SubL_0))) h
      · replace h := h.2 q
        refine V_iconst dX12_takeHead_44 ?_
        exact V_ireturn (stk := []) rfl dX12_takeHead_45 h
set_option maxRecDepth 100000 in
theorem BX12_takeHead_48 {σ : Sg} {post : Po} {x1 : Int} 
  (h : (rng x1) ∧ ((rng (σ 94 0)) ∧ (((σ 94 0) ≤ x1 → (16 ≤ (σ 94 0) → Cl mX12_want [vr 94, vi 0, vi 4, vi (σ 94 16)] σ (pI fun z1 σ1 => (rng z1) ∧ ((z1 = 0 → post (some (vi ((σ1 94 0) - 1))) σ1) ∧ (¬ z1 = 0 → Cl mX12_slot [vi (σ1 94 0), vi (-1)] σ1 (pI fun z2 σ2 => Cl mX12_nameIt [vr 94, vi z2] σ2 (pV fun σ3 => (0 ≤ (σ3 94 0) ∧ (σ3 94 0) < 16) ∧ (post (some (vi (((σ3 94 0) + 1) - 1))) (up (up (up (up (up σ3 95 (σ3 94 0) 0) 98 (σ3 94 0) (-1)) 99 (σ3 94 0) 0) 100 (σ3 94 0) 0) 94 0 ((σ3 94 0) + 1))))))))) ∧ (¬ 16 ≤ (σ 94 0) → Cl mX12_want [vr 94, vi 1, vi 4, vi (σ 94 16)] σ (pI fun z4 σ4 => (rng z4) ∧ ((z4 = 0 → post (some (vi ((σ4 94 0) - 1))) σ4) ∧ (¬ z4 = 0 → Cl mX12_slot [vi (σ4 94 0), vi (-1)] σ4 (pI fun z5 σ5 => Cl mX12_nameIt [vr 94, vi z5] σ5 (pV fun σ6 => (0 ≤ (σ6 94 0) ∧ (σ6 94 0) < 16) ∧ (post (some (vi (((σ6 94 0) + 1) - 1))) (up (up (up (up (up σ6 95 (σ6 94 0) 0) 98 (σ6 94 0) (-1)) 99 (σ6 94 0) 0) 100 (σ6 94 0) 0) 94 0 ((σ6 94 0) + 1)))))))))) ∧ (¬ (σ 94 0) ≤ x1 → Cl mX12_slot [vi x1, vi (-1)] σ (pI fun z7 σ7 => Cl mX12_isHere [vr 94, vi z7] σ7 (pI fun z8 σ8 => (rng z8) ∧ ((z8 = 0 → V mX12_takeHead 48 [some (vr 94), some (vi (x1 + 1))] [] σ8 post) ∧ (¬ z8 = 0 → post (some (vi x1)) σ8)))))))) :
  V mX12_takeHead 48 [some (vr 94), some (vi x1)] [] σ post := by
  refine V_iload_n dX12_takeHead_48 rfl rfl ?_
  refine V_aload_n dX12_takeHead_49 rfl rfl ?_
  refine V_getI (f := (σ 94 0)) flX12_192 rfl (rfl) (by decide) dX12_takeHead_50 ?_
  obtain ⟨r1, h⟩ := h
  obtain ⟨r2, h⟩ := h
  refine V_icmp_ge (tgt := 76) dX12_takeHead_53 rfl r1 r2 (fun q => ?_) (fun q => ?_)
  · replace h := h.1 q
    refine V_aload_n dX12_takeHead_76 rfl rfl ?_
    refine V_aload_n dX12_takeHead_77 rfl rfl ?_
    refine V_getI (f := (σ 94 0)) flX12_192 rfl (rfl) (by decide) dX12_takeHead_78 ?_
    refine V_bipush dX12_takeHead_81 (by decide) ?_
    refine V_icmp_ge (tgt := 90) dX12_takeHead_83 rfl r2 (by decide) (fun q => ?_) (fun q => ?_)
    · replace h := h.1 q
      refine V_iconst dX12_takeHead_90 ?_
      refine V_iconst dX12_takeHead_91 ?_
      refine V_aload_n dX12_takeHead_92 rfl rfl ?_
      refine V_getI (f := (σ 94 16)) flX12_169 rfl (rfl) (by decide) dX12_takeHead_93 ?_
      refine V_callV (av := [vi 0, vi 4, vi (σ 94 16)]) (stk := []) cvX12_184 rfl rfl rfl (by decide) (by simp [ctg]) dX12_takeHead_96 h ?_
      rintro _ σ1 ⟨z1, rfl, h⟩
      obtain ⟨r3, h⟩ := h
      refine V_if_eq (tgt := 164) dX12_takeHead_99 rfl r3 (fun q => ?_) (fun q => ?_)
      · replace h := h.1 q
        refine V_aload_n dX12_takeHead_164 rfl rfl ?_
        refine V_getI (f := (σ1 94 0)) flX12_192 rfl (rfl) (by decide) dX12_takeHead_165 ?_
        refine V_iconst dX12_takeHead_168 ?_
        refine V_isub dX12_takeHead_169 ?_
        exact V_ireturn (stk := []) rfl dX12_takeHead_170 h
      · replace h := h.2 q
        refine V_aload_n dX12_takeHead_102 rfl rfl ?_
        refine V_aload_n dX12_takeHead_103 rfl rfl ?_
        refine V_getI (f := (σ1 94 0)) flX12_192 rfl (rfl) (by decide) dX12_takeHead_104 ?_
        refine V_iconst dX12_takeHead_107 ?_
        refine V_callS (av := [vi (σ1 94 0), vi (-1)]) (stk := [vr 94]) cvX12_195 rfl rfl (by decide) (by simp [ctg]) dX12_takeHead_108 h ?_
        rintro _ σ2 ⟨z2, rfl, h⟩
        refine V_callV (av := [vi z2]) (stk := []) cvX12_202 rfl rfl rfl (by decide) (by simp [ctg]) dX12_takeHead_111 h ?_
        rintro _ σ3 ⟨rfl, h⟩
        refine V_aload_n dX12_takeHead_114 rfl rfl ?_
        refine V_getR (k2 := 95) flX12_7 rfl rfl (by decide) dX12_takeHead_115 ?_
        refine V_aload_n dX12_takeHead_118 rfl rfl ?_
        refine V_getI (f := (σ3 94 0)) flX12_192 rfl (rfl) (by decide) dX12_takeHead_119 ?_
        refine V_iconst dX12_takeHead_122 ?_
        obtain ⟨r4, h⟩ := h
        refine V_iast (rfl : shp[95]? = some (1, 16, 0)) r4 dX12_takeHead_123 ?_
        refine V_aload_n dX12_takeHead_124 rfl rfl ?_
        refine V_getR (k2 := 98) flX12_19 rfl rfl (by decide) dX12_takeHead_125 ?_
        refine V_aload_n dX12_takeHead_128 rfl rfl ?_
        refine V_getI (f := (σ3 94 0)) flX12_192 rfl (up_o (by omega)) (by decide) dX12_takeHead_129 ?_
        refine V_iconst dX12_takeHead_132 ?_
        refine V_iast (rfl : shp[98]? = some (1, 16, 0)) r4 dX12_takeHead_133 ?_
        refine V_aload_n dX12_takeHead_134 rfl rfl ?_
        refine V_getR (k2 := 99) flX12_22 rfl rfl (by decide) dX12_takeHead_135 ?_
        refine V_aload_n dX12_takeHead_138 rfl rfl ?_
        refine V_getI (f := (σ3 94 0)) flX12_192 rfl ((up_o (by omega)).trans (up_o (by omega))) (by decide) dX12_takeHead_139 ?_
        refine V_iconst dX12_takeHead_142 ?_
        refine V_iast (rfl : shp[99]? = some (1, 16, 0)) r4 dX12_takeHead_143 ?_
        refine V_aload_n dX12_takeHead_144 rfl rfl ?_
        refine V_getR (k2 := 100) flX12_25 rfl rfl (by decide) dX12_takeHead_145 ?_
        refine V_aload_n dX12_takeHead_148 rfl rfl ?_
        refine V_getI (f := (σ3 94 0)) flX12_192 rfl ((up_o (by omega)).trans ((up_o (by omega)).trans (up_o (by omega)))) (by decide) dX12_takeHead_149 ?_
        refine V_iconst dX12_takeHead_152 ?_
        refine V_iast (rfl : shp[100]? = some (1, 16, 0)) r4 dX12_takeHead_153 ?_
        refine V_aload_n dX12_takeHead_154 rfl rfl ?_
        refine V_dup dX12_takeHead_155 trivial ?_
        refine V_getI (f := (σ3 94 0)) flX12_192 rfl ((up_o (by omega)).trans ((up_o (by omega)).trans ((up_o (by omega)).trans (up_o (by omega))))) (by decide) dX12_takeHead_156 ?_
        refine V_iconst dX12_takeHead_159 ?_
        refine V_iadd dX12_takeHead_160 ?_
        refine V_putI flX12_192 rfl (by decide) dX12_takeHead_161 ?_
        refine V_aload_n dX12_takeHead_164 rfl rfl ?_
        refine V_getI (f := ((σ3 94 0) + 1)) flX12_192 rfl (up_s) (by decide) dX12_takeHead_165 ?_
        refine V_iconst dX12_takeHead_168 ?_
        refine V_isub dX12_takeHead_169 ?_
        exact V_ireturn (stk := []) rfl dX12_takeHead_170 h
    · replace h := h.2 q
      refine V_iconst dX12_takeHead_86 ?_
      refine V_goto (tgt := 91) dX12_takeHead_87 rfl ?_
      refine V_iconst dX12_takeHead_91 ?_
      refine V_aload_n dX12_takeHead_92 rfl rfl ?_
      refine V_getI (f := (σ 94 16)) flX12_169 rfl (rfl) (by decide) dX12_takeHead_93 ?_
      refine V_callV (av := [vi 1, vi 4, vi (σ 94 16)]) (stk := []) cvX12_184 rfl rfl rfl (by decide) (by simp [ctg]) dX12_takeHead_96 h ?_
      rintro _ σ4 ⟨z4, rfl, h⟩
      obtain ⟨r5, h⟩ := h
      refine V_if_eq (tgt := 164) dX12_takeHead_99 rfl r5 (fun q => ?_) (fun q => ?_)
      · replace h := h.1 q
        refine V_aload_n dX12_takeHead_164 rfl rfl ?_
        refine V_getI (f := (σ4 94 0)) flX12_192 rfl (rfl) (by decide) dX12_takeHead_165 ?_
        refine V_iconst dX12_takeHead_168 ?_
        refine V_isub dX12_takeHead_169 ?_
        exact V_ireturn (stk := []) rfl dX12_takeHead_170 h
      · replace h := h.2 q
        refine V_aload_n dX12_takeHead_102 rfl rfl ?_
        refine V_aload_n dX12_takeHead_103 rfl rfl ?_
        refine V_getI (f := (σ4 94 0)) flX12_192 rfl (rfl) (by decide) dX12_takeHead_104 ?_
        refine V_iconst dX12_takeHead_107 ?_
        refine V_callS (av := [vi (σ4 94 0), vi (-1)]) (stk := [vr 94]) cvX12_195 rfl rfl (by decide) (by simp [ctg]) dX12_takeHead_108 h ?_
        rintro _ σ5 ⟨z5, rfl, h⟩
        refine V_callV (av := [vi z5]) (stk := []) cvX12_202 rfl rfl rfl (by decide) (by simp [ctg]) dX12_takeHead_111 h ?_
        rintro _ σ6 ⟨rfl, h⟩
        refine V_aload_n dX12_takeHead_114 rfl rfl ?_
        refine V_getR (k2 := 95) flX12_7 rfl rfl (by decide) dX12_takeHead_115 ?_
        refine V_aload_n dX12_takeHead_118 rfl rfl ?_
        refine V_getI (f := (σ6 94 0)) flX12_192 rfl (rfl) (by decide) dX12_takeHead_119 ?_
        refine V_iconst dX12_takeHead_122 ?_
        obtain ⟨r6, h⟩ := h
        refine V_iast (rfl : shp[95]? = some (1, 16, 0)) r6 dX12_takeHead_123 ?_
        refine V_aload_n dX12_takeHead_124 rfl rfl ?_
        refine V_getR (k2 := 98) flX12_19 rfl rfl (by decide) dX12_takeHead_125 ?_
        refine V_aload_n dX12_takeHead_128 rfl rfl ?_
        refine V_getI (f := (σ6 94 0)) flX12_192 rfl (up_o (by omega)) (by decide) dX12_takeHead_129 ?_
        refine V_iconst dX12_takeHead_132 ?_
        refine V_iast (rfl : shp[98]? = some (1, 16, 0)) r6 dX12_takeHead_133 ?_
        refine V_aload_n dX12_takeHead_134 rfl rfl ?_
        refine V_getR (k2 := 99) flX12_22 rfl rfl (by decide) dX12_takeHead_135 ?_
        refine V_aload_n dX12_takeHead_138 rfl rfl ?_
        refine V_getI (f := (σ6 94 0)) flX12_192 rfl ((up_o (by omega)).trans (up_o (by omega))) (by decide) dX12_takeHead_139 ?_
        refine V_iconst dX12_takeHead_142 ?_
        refine V_iast (rfl : shp[99]? = some (1, 16, 0)) r6 dX12_takeHead_143 ?_
        refine V_aload_n dX12_takeHead_144 rfl rfl ?_
        refine V_getR (k2 := 100) flX12_25 rfl rfl (by decide) dX12_takeHead_145 ?_
        refine V_aload_n dX12_takeHead_148 rfl rfl ?_
        refine V_getI (f := (σ6 94 0)) flX12_192 rfl ((up_o (by omega)).trans ((up_o (by omega)).trans (up_o (by omega)))) (by decide) dX12_takeHead_149 ?_
        refine V_iconst dX12_takeHead_152 ?_
        refine V_iast (rfl : shp[100]? = some (1, 16, 0)) r6 dX12_takeHead_153 ?_
        refine V_aload_n dX12_takeHead_154 rfl rfl ?_
        refine V_dup dX12_takeHead_155 trivial ?_
        refine V_getI (f := (σ6 94 0)) flX12_192 rfl ((up_o (by omega)).trans ((up_o (by omega)).trans ((up_o (by omega)).trans (up_o (by omega))))) (by decide) dX12_takeHead_156 ?_
        refine V_iconst dX12_takeHead_159 ?_
        refine V_iadd dX12_takeHead_160 ?_
        refine V_putI flX12_192 rfl (by decide) dX12_takeHead_161 ?_
        refine V_aload_n dX12_takeHead_164 rfl rfl ?_
        refine V_getI (f := ((σ6 94 0) + 1)) flX12_192 rfl (up_s) (by decide) dX12_takeHead_165 ?_
        refine V_iconst dX12_takeHead_168 ?_
        refine V_isub dX12_takeHead_169 ?_
        exact V_ireturn (stk := []) rfl dX12_takeHead_170 h
  · replace h := h.2 q
    refine V_aload_n dX12_takeHead_56 rfl rfl ?_
    refine V_iload_n dX12_takeHead_57 rfl rfl ?_
    refine V_iconst dX12_takeHead_58 ?_
    refine V_callS (av := [vi x1, vi (-1)]) (stk := [vr 94]) cvX12_195 rfl rfl (by decide) (by simp [ctg]) dX12_takeHead_59 h ?_
    rintro _ σ7 ⟨z7, rfl, h⟩
    refine V_callV (av := [vi z7]) (stk := []) cvX12_199 rfl rfl rfl (by decide) (by simp [ctg]) dX12_takeHead_62 h ?_
    rintro _ σ8 ⟨z8, rfl, h⟩
    obtain ⟨r7, h⟩ := h
    refine V_if_eq (tgt := 70) dX12_takeHead_65 rfl r7 (fun q => ?_) (fun q => ?_)
    · replace h := h.1 q
      refine V_iinc (L' := [some (vr 94), some (vi (x1 + 1))]) dX12_takeHead_70 rfl (by decide) rfl ?_
      refine V_goto (tgt := 48) dX12_takeHead_73 rfl ?_
      exact V.sub (SubL_s (SubL_s (SubL_0))) h
    · replace h := h.2 q
      refine V_iload_n dX12_takeHead_68 rfl rfl ?_
      exact V_ireturn (stk := []) rfl dX12_takeHead_69 h

set_option maxRecDepth 100000 in
theorem BX12_takeSub_0 {σ : Sg} {post : Po} {x1 : Int} 
  (h : Cl mX12_takeWord [vr 94] σ (pV fun σ1 => (rng (σ1 94 17)) ∧ (((σ1 94 17) ≤ 0 → Cl mX12_want [vr 94, vi 0, vi 1, vi (σ1 94 16)] σ1 (pI fun z2 σ2 => (rng z2) ∧ ((z2 = 0 → post (some (vi 0)) σ2) ∧ (¬ z2 = 0 → Cl mX12_isName [vr 94] σ2 (pI fun z3 σ3 => Cl mX12_want [vr 94, vi z3, vi 3, vi (σ3 94 16)] σ3 (pI fun z4 σ4 => (rng z4) ∧ ((¬ z4 = 0 → V mX12_takeSub 48 [some (vr 94), some (vi x1), some (vi 0)] [] σ4 post) ∧ (z4 = 0 → post (some (vi 0)) σ4)))))))) ∧ (¬ (σ1 94 17) ≤ 0 → Cl mX12_want [vr 94, vi 1, vi 1, vi (σ1 94 16)] σ1 (pI fun z5 σ5 => (rng z5) ∧ ((z5 = 0 → post (some (vi 0)) σ5) ∧ (¬ z5 = 0 → Cl mX12_isName [vr 94] σ5 (pI fun z6 σ6 => Cl mX12_want [vr 94, vi z6, vi 3, vi (σ6 94 16)] σ6 (pI fun z7 σ7 => (rng z7) ∧ ((¬ z7 = 0 → V mX12_takeSub 48 [some (vr 94), some (vi x1), some (vi 0)] [] σ7 post) ∧ (z7 = 0 → post (some (vi 0)) σ7))))))))))) :
  V mX12_takeSub 0 [some (vr 94), some (vi x1), none] [] σ post := by
  refine V_aload_n dX12_takeSub_0 rfl rfl ?_
  refine V_callV (av := []) (stk := []) cvX12_181 rfl rfl rfl (by decide) (by simp [ctg]) dX12_takeSub_1 h ?_
  rintro _ σ1 ⟨rfl, h⟩
  refine V_aload_n dX12_takeSub_4 rfl rfl ?_
  refine V_aload_n dX12_takeSub_5 rfl rfl ?_
  refine V_getI (f := (σ1 94 17)) flX12_176 rfl (rfl) (by decide) dX12_takeSub_6 ?_
  obtain ⟨r1, h⟩ := h
  refine V_if_le (tgt := 16) dX12_takeSub_9 rfl r1 (fun q => ?_) (fun q => ?_)
  · replace h := h.1 q
    refine V_iconst dX12_takeSub_16 ?_
    refine V_iconst dX12_takeSub_17 ?_
    refine V_aload_n dX12_takeSub_18 rfl rfl ?_
    refine V_getI (f := (σ1 94 16)) flX12_169 rfl (rfl) (by decide) dX12_takeSub_19 ?_
    refine V_callV (av := [vi 0, vi 1, vi (σ1 94 16)]) (stk := []) cvX12_184 rfl rfl rfl (by decide) (by simp [ctg]) dX12_takeSub_22 h ?_
    rintro _ σ2 ⟨z2, rfl, h⟩
    obtain ⟨r2, h⟩ := h
    refine V_if_eq (tgt := 44) dX12_takeSub_25 rfl r2 (fun q => ?_) (fun q => ?_)
    · replace h := h.1 q
      refine V_iconst dX12_takeSub_44 ?_
      exact V_ireturn (stk := []) rfl dX12_takeSub_45 h
    · replace h := h.2 q
      refine V_aload_n dX12_takeSub_28 rfl rfl ?_
      refine V_aload_n dX12_takeSub_29 rfl rfl ?_
      refine V_callV (av := []) (stk := [vr 94]) cvX12_188 rfl rfl rfl (by decide) (by simp [ctg]) dX12_takeSub_30 h ?_
      rintro _ σ3 ⟨z3, rfl, h⟩
      refine V_iconst dX12_takeSub_33 ?_
      refine V_aload_n dX12_takeSub_34 rfl rfl ?_
      refine V_getI (f := (σ3 94 16)) flX12_169 rfl (rfl) (by decide) dX12_takeSub_35 ?_
      refine V_callV (av := [vi z3, vi 3, vi (σ3 94 16)]) (stk := []) cvX12_184 rfl rfl rfl (by decide) (by simp [ctg]) dX12_takeSub_38 h ?_
      rintro _ σ4 ⟨z4, rfl, h⟩
      obtain ⟨r3, h⟩ := h
      refine V_if_ne (tgt := 46) dX12_takeSub_41 rfl r3 (fun q => ?_) (fun q => ?_)
      · replace h := h.1 q
        refine V_iconst dX12_takeSub_46 ?_
        refine V_istore_n (L' := [some (vr 94), some (vi x1), some (vi 0)]) dX12_takeSub_47 rfl (by decide) rfl ?_
        exact V.sub (SubL_s (SubL_s (SubL_s (SubL_0)))) h
      · replace h := h.2 q
        refine V_iconst dX12_takeSub_44 ?_
        exact V_ireturn (stk := []) rfl dX12_takeSub_45 h
  · replace h := h.2 q
    refine V_iconst dX12_takeSub_12 ?_
    refine V_goto (tgt := 17) dX12_takeSub_13 rfl ?_
    refine V_iconst dX12_takeSub_17 ?_
    refine V_aload_n dX12_takeSub_18 rfl rfl ?_
    refine V_getI (f := (σ1 94 16)) flX12_169 rfl (rfl) (by decide) dX12_takeSub_19 ?_
    refine V_callV (av := [vi 1, vi 1, vi (σ1 94 16)]) (stk := []) cvX12_184 rfl rfl rfl (by decide) (by simp [ctg]) dX12_takeSub_22 h ?_
    rintro _ σ5 ⟨z5, rfl, h⟩
    obtain ⟨r4, h⟩ := h
    refine V_if_eq (tgt := 44) dX12_takeSub_25 rfl r4 (fun q => ?_) (fun q => ?_)
    · replace h := h.1 q
      refine V_iconst dX12_takeSub_44 ?_
      exact V_ireturn (stk := []) rfl dX12_takeSub_45 h
    · replace h := h.2 q
      refine V_aload_n dX12_takeSub_28 rfl rfl ?_
      refine V_aload_n dX12_takeSub_29 rfl rfl ?_
      refine V_callV (av := []) (stk := [vr 94]) cvX12_188 rfl rfl rfl (by decide) (by simp [ctg]) dX12_takeSub_30 h ?_
      rintro _ σ6 ⟨z6, rfl, h⟩
      refine V_iconst dX12_takeSub_33 ?_
      refine V_aload_n dX12_takeSub_34 rfl rfl ?_
      refine V_getI (f := (σ6 94 16)) flX12_169 rfl (rfl) (by decide) dX12_takeSub_35 ?_
      refine V_callV (av := [vi z6, vi 3, vi (σ6 94 16)]) (stk := []) cvX12_184 rfl rfl rfl (by decide) (by simp [ctg]) dX12_takeSub_38 h ?_
      rintro _ σ7 ⟨z7, rfl, h⟩
      obtain ⟨r5, h⟩ := h
      refine V_if_ne (tgt := 46) dX12_takeSub_41 rfl r5 (fun q => ?_) (fun q => ?_)
      · replace h := h.1 q
        refine V_iconst dX12_takeSub_46 ?_
        refine V_istore_n (L' := [some (vr 94), some (vi x1), some (vi 0)]) dX12_takeSub_47 rfl (by decide) rfl ?_
        exact V.sub (SubL_s (SubL_s (SubL_s (SubL_0)))) h
      · replace h := h.2 q
        refine V_iconst dX12_takeSub_44 ?_
        exact V_ireturn (stk := []) rfl dX12_takeSub_45 h
set_option maxRecDepth 100000 in
theorem BX12_takeSub_48 {σ : Sg} {post : Po} {x1 : Int} {x2 : Int} 
  (h : (0 ≤ x1 ∧ x1 < 16) ∧ ((rng x2) ∧ ((rng (σ 95 x1)) ∧ (((σ 95 x1) ≤ x2 → (6 ≤ (σ 95 x1) → Cl mX12_want [vr 94, vi 0, vi 4, vi (σ 94 16)] σ (pI fun z1 σ1 => (rng z1) ∧ ((z1 = 0 → post (some (vi ((σ1 95 x1) - 1))) σ1) ∧ (¬ z1 = 0 → Cl mX12_slot [vi x1, vi (σ1 95 x1)] σ1 (pI fun z2 σ2 => Cl mX12_nameIt [vr 94, vi z2] σ2 (pV fun σ3 => post (some (vi (((σ3 95 x1) + 1) - 1))) (up σ3 95 x1 ((σ3 95 x1) + 1)))))))) ∧ (¬ 6 ≤ (σ 95 x1) → Cl mX12_want [vr 94, vi 1, vi 4, vi (σ 94 16)] σ (pI fun z4 σ4 => (rng z4) ∧ ((z4 = 0 → post (some (vi ((σ4 95 x1) - 1))) σ4) ∧ (¬ z4 = 0 → Cl mX12_slot [vi x1, vi (σ4 95 x1)] σ4 (pI fun z5 σ5 => Cl mX12_nameIt [vr 94, vi z5] σ5 (pV fun σ6 => post (some (vi (((σ6 95 x1) + 1) - 1))) (up σ6 95 x1 ((σ6 95 x1) + 1))))))))) ∧ (¬ (σ 95 x1) ≤ x2 → Cl mX12_slot [vi x1, vi x2] σ (pI fun z7 σ7 => Cl mX12_isHere [vr 94, vi z7] σ7 (pI fun z8 σ8 => (rng z8) ∧ ((z8 = 0 → V mX12_takeSub 48 [some (vr 94), some (vi x1), some (vi (x2 + 1))] [] σ8 post) ∧ (¬ z8 = 0 → post (some (vi x2)) σ8))))))))) :
  V mX12_takeSub 48 [some (vr 94), some (vi x1), some (vi x2)] [] σ post := by
  refine V_iload_n dX12_takeSub_48 rfl rfl ?_
  refine V_aload_n dX12_takeSub_49 rfl rfl ?_
  refine V_getR (k2 := 95) flX12_7 rfl rfl (by decide) dX12_takeSub_50 ?_
  refine V_iload_n dX12_takeSub_53 rfl rfl ?_
  obtain ⟨r1, h⟩ := h
  refine V_iald (f := (σ 95 x1)) (rfl : shp[95]? = some (1, 16, 0)) r1 (rfl) dX12_takeSub_54 ?_
  obtain ⟨r2, h⟩ := h
  obtain ⟨r3, h⟩ := h
  refine V_icmp_ge (tgt := 78) dX12_takeSub_55 rfl r2 r3 (fun q => ?_) (fun q => ?_)
  · replace h := h.1 q
    refine V_aload_n dX12_takeSub_78 rfl rfl ?_
    refine V_aload_n dX12_takeSub_79 rfl rfl ?_
    refine V_getR (k2 := 95) flX12_7 rfl rfl (by decide) dX12_takeSub_80 ?_
    refine V_iload_n dX12_takeSub_83 rfl rfl ?_
    refine V_iald (f := (σ 95 x1)) (rfl : shp[95]? = some (1, 16, 0)) r1 (rfl) dX12_takeSub_84 ?_
    refine V_bipush dX12_takeSub_85 (by decide) ?_
    refine V_icmp_ge (tgt := 94) dX12_takeSub_87 rfl r3 (by decide) (fun q => ?_) (fun q => ?_)
    · replace h := h.1 q
      refine V_iconst dX12_takeSub_94 ?_
      refine V_iconst dX12_takeSub_95 ?_
      refine V_aload_n dX12_takeSub_96 rfl rfl ?_
      refine V_getI (f := (σ 94 16)) flX12_169 rfl (rfl) (by decide) dX12_takeSub_97 ?_
      refine V_callV (av := [vi 0, vi 4, vi (σ 94 16)]) (stk := []) cvX12_184 rfl rfl rfl (by decide) (by simp [ctg]) dX12_takeSub_100 h ?_
      rintro _ σ1 ⟨z1, rfl, h⟩
      obtain ⟨r4, h⟩ := h
      refine V_if_eq (tgt := 130) dX12_takeSub_103 rfl r4 (fun q => ?_) (fun q => ?_)
      · replace h := h.1 q
        refine V_aload_n dX12_takeSub_130 rfl rfl ?_
        refine V_getR (k2 := 95) flX12_7 rfl rfl (by decide) dX12_takeSub_131 ?_
        refine V_iload_n dX12_takeSub_134 rfl rfl ?_
        refine V_iald (f := (σ1 95 x1)) (rfl : shp[95]? = some (1, 16, 0)) r1 (rfl) dX12_takeSub_135 ?_
        refine V_iconst dX12_takeSub_136 ?_
        refine V_isub dX12_takeSub_137 ?_
        exact V_ireturn (stk := []) rfl dX12_takeSub_138 h
      · replace h := h.2 q
        refine V_aload_n dX12_takeSub_106 rfl rfl ?_
        refine V_iload_n dX12_takeSub_107 rfl rfl ?_
        refine V_aload_n dX12_takeSub_108 rfl rfl ?_
        refine V_getR (k2 := 95) flX12_7 rfl rfl (by decide) dX12_takeSub_109 ?_
        refine V_iload_n dX12_takeSub_112 rfl rfl ?_
        refine V_iald (f := (σ1 95 x1)) (rfl : shp[95]? = some (1, 16, 0)) r1 (rfl) dX12_takeSub_113 ?_
        refine V_callS (av := [vi x1, vi (σ1 95 x1)]) (stk := [vr 94]) cvX12_195 rfl rfl (by decide) (by simp [ctg]) dX12_takeSub_114 h ?_
        rintro _ σ2 ⟨z2, rfl, h⟩
        refine V_callV (av := [vi z2]) (stk := []) cvX12_202 rfl rfl rfl (by decide) (by simp [ctg]) dX12_takeSub_117 h ?_
        rintro _ σ3 ⟨rfl, h⟩
        refine V_aload_n dX12_takeSub_120 rfl rfl ?_
        refine V_getR (k2 := 95) flX12_7 rfl rfl (by decide) dX12_takeSub_121 ?_
        refine V_iload_n dX12_takeSub_124 rfl rfl ?_
        refine V_dup2 dX12_takeSub_125 trivial trivial ?_
        refine V_iald (f := (σ3 95 x1)) (rfl : shp[95]? = some (1, 16, 0)) r1 (rfl) dX12_takeSub_126 ?_
        refine V_iconst dX12_takeSub_127 ?_
        refine V_iadd dX12_takeSub_128 ?_
        refine V_iast (rfl : shp[95]? = some (1, 16, 0)) r1 dX12_takeSub_129 ?_
        refine V_aload_n dX12_takeSub_130 rfl rfl ?_
        refine V_getR (k2 := 95) flX12_7 rfl rfl (by decide) dX12_takeSub_131 ?_
        refine V_iload_n dX12_takeSub_134 rfl rfl ?_
        refine V_iald (f := ((σ3 95 x1) + 1)) (rfl : shp[95]? = some (1, 16, 0)) r1 (up_s) dX12_takeSub_135 ?_
        refine V_iconst dX12_takeSub_136 ?_
        refine V_isub dX12_takeSub_137 ?_
        exact V_ireturn (stk := []) rfl dX12_takeSub_138 h
    · replace h := h.2 q
      refine V_iconst dX12_takeSub_90 ?_
      refine V_goto (tgt := 95) dX12_takeSub_91 rfl ?_
      refine V_iconst dX12_takeSub_95 ?_
      refine V_aload_n dX12_takeSub_96 rfl rfl ?_
      refine V_getI (f := (σ 94 16)) flX12_169 rfl (rfl) (by decide) dX12_takeSub_97 ?_
      refine V_callV (av := [vi 1, vi 4, vi (σ 94 16)]) (stk := []) cvX12_184 rfl rfl rfl (by decide) (by simp [ctg]) dX12_takeSub_100 h ?_
      rintro _ σ4 ⟨z4, rfl, h⟩
      obtain ⟨r5, h⟩ := h
      refine V_if_eq (tgt := 130) dX12_takeSub_103 rfl r5 (fun q => ?_) (fun q => ?_)
      · replace h := h.1 q
        refine V_aload_n dX12_takeSub_130 rfl rfl ?_
        refine V_getR (k2 := 95) flX12_7 rfl rfl (by decide) dX12_takeSub_131 ?_
        refine V_iload_n dX12_takeSub_134 rfl rfl ?_
        refine V_iald (f := (σ4 95 x1)) (rfl : shp[95]? = some (1, 16, 0)) r1 (rfl) dX12_takeSub_135 ?_
        refine V_iconst dX12_takeSub_136 ?_
        refine V_isub dX12_takeSub_137 ?_
        exact V_ireturn (stk := []) rfl dX12_takeSub_138 h
      · replace h := h.2 q
        refine V_aload_n dX12_takeSub_106 rfl rfl ?_
        refine V_iload_n dX12_takeSub_107 rfl rfl ?_
        refine V_aload_n dX12_takeSub_108 rfl rfl ?_
        refine V_getR (k2 := 95) flX12_7 rfl rfl (by decide) dX12_takeSub_109 ?_
        refine V_iload_n dX12_takeSub_112 rfl rfl ?_
        refine V_iald (f := (σ4 95 x1)) (rfl : shp[95]? = some (1, 16, 0)) r1 (rfl) dX12_takeSub_113 ?_
        refine V_callS (av := [vi x1, vi (σ4 95 x1)]) (stk := [vr 94]) cvX12_195 rfl rfl (by decide) (by simp [ctg]) dX12_takeSub_114 h ?_
        rintro _ σ5 ⟨z5, rfl, h⟩
        refine V_callV (av := [vi z5]) (stk := []) cvX12_202 rfl rfl rfl (by decide) (by simp [ctg]) dX12_takeSub_117 h ?_
        rintro _ σ6 ⟨rfl, h⟩
        refine V_aload_n dX12_takeSub_120 rfl rfl ?_
        refine V_getR (k2 := 95) flX12_7 rfl rfl (by decide) dX12_takeSub_121 ?_
        refine V_iload_n dX12_takeSub_124 rfl rfl ?_
        refine V_dup2 dX12_takeSub_125 trivial trivial ?_
        refine V_iald (f := (σ6 95 x1)) (rfl : shp[95]? = some (1, 16, 0)) r1 (rfl) dX12_takeSub_126 ?_
        refine V_iconst dX12_takeSub_127 ?_
        refine V_iadd dX12_takeSub_128 ?_
        refine V_iast (rfl : shp[95]? = some (1, 16, 0)) r1 dX12_takeSub_129 ?_
        refine V_aload_n dX12_takeSub_130 rfl rfl ?_
        refine V_getR (k2 := 95) flX12_7 rfl rfl (by decide) dX12_takeSub_131 ?_
        refine V_iload_n dX12_takeSub_134 rfl rfl ?_
        refine V_iald (f := ((σ6 95 x1) + 1)) (rfl : shp[95]? = some (1, 16, 0)) r1 (up_s) dX12_takeSub_135 ?_
        refine V_iconst dX12_takeSub_136 ?_
        refine V_isub dX12_takeSub_137 ?_
        exact V_ireturn (stk := []) rfl dX12_takeSub_138 h
  · replace h := h.2 q
    refine V_aload_n dX12_takeSub_58 rfl rfl ?_
    refine V_iload_n dX12_takeSub_59 rfl rfl ?_
    refine V_iload_n dX12_takeSub_60 rfl rfl ?_
    refine V_callS (av := [vi x1, vi x2]) (stk := [vr 94]) cvX12_195 rfl rfl (by decide) (by simp [ctg]) dX12_takeSub_61 h ?_
    rintro _ σ7 ⟨z7, rfl, h⟩
    refine V_callV (av := [vi z7]) (stk := []) cvX12_199 rfl rfl rfl (by decide) (by simp [ctg]) dX12_takeSub_64 h ?_
    rintro _ σ8 ⟨z8, rfl, h⟩
    obtain ⟨r6, h⟩ := h
    refine V_if_eq (tgt := 72) dX12_takeSub_67 rfl r6 (fun q => ?_) (fun q => ?_)
    · replace h := h.1 q
      refine V_iinc (L' := [some (vr 94), some (vi x1), some (vi (x2 + 1))]) dX12_takeSub_72 rfl (by decide) rfl ?_
      refine V_goto (tgt := 48) dX12_takeSub_75 rfl ?_
      exact V.sub (SubL_s (SubL_s (SubL_s (SubL_0)))) h
    · replace h := h.2 q
      refine V_iload_n dX12_takeSub_70 rfl rfl ?_
      exact V_ireturn (stk := []) rfl dX12_takeSub_71 h

set_option maxRecDepth 100000 in
theorem BX12_takeNumber_0 {σ : Sg} {post : Po} {x1 : Int} {x2 : Int} 
  (h : Cl mX12_here [vr 94] σ (pI fun z1 σ1 => (rng z1) ∧ (Cl mX12_in [vl z1, vl 48, vl 57] (up σ1 94 16 (σ1 94 15)) (pI fun z2 σ2 => Cl mX12_want [vr 94, vi z2, vi 1, vi (σ2 94 15)] σ2 (pI fun z3 σ3 => (rng z3) ∧ ((¬ z3 = 0 → V mX12_takeNumber 41 [some (vr 94), some (vi x1), some (vi x2), none, some (vi 0), none] [] σ3 post) ∧ (z3 = 0 → post (some (vi 0)) σ3))))))) :
  V mX12_takeNumber 0 [some (vr 94), some (vi x1), some (vi x2), none, none, none] [] σ post := by
  refine V_aload_n dX12_takeNumber_0 rfl rfl ?_
  refine V_callV (av := []) (stk := []) cvX12_165 rfl rfl rfl (by decide) (by simp [ctg]) dX12_takeNumber_1 h ?_
  rintro _ σ1 ⟨z1, rfl, h⟩
  refine V_istore_n (L' := [some (vr 94), some (vi x1), some (vi x2), some (vi z1), none, none]) dX12_takeNumber_4 rfl (by decide) rfl ?_
  refine V_aload_n dX12_takeNumber_5 rfl rfl ?_
  refine V_aload_n dX12_takeNumber_6 rfl rfl ?_
  refine V_getI (f := (σ1 94 15)) flX12_155 rfl (rfl) (by decide) dX12_takeNumber_7 ?_
  refine V_putI flX12_169 rfl (by decide) dX12_takeNumber_10 ?_
  refine V_aload_n dX12_takeNumber_13 rfl rfl ?_
  refine V_iload_n dX12_takeNumber_14 rfl rfl ?_
  obtain ⟨r1, h⟩ := h
  refine V_i2l dX12_takeNumber_15 r1 ?_
  refine V_ldc2 dX12_takeNumber_16 klX12_206 ?_
  refine V_ldc2 dX12_takeNumber_19 klX12_208 ?_
  refine V_callS (av := [vl z1, vl 48, vl 57]) (stk := [vr 94]) cvX12_146 rfl rfl (by decide) (by simp [ctg]) dX12_takeNumber_22 h ?_
  rintro _ σ2 ⟨z2, rfl, h⟩
  refine V_iconst dX12_takeNumber_25 ?_
  refine V_aload_n dX12_takeNumber_26 rfl rfl ?_
  refine V_getI (f := (σ2 94 15)) flX12_155 rfl (rfl) (by decide) dX12_takeNumber_27 ?_
  refine V_callV (av := [vi z2, vi 1, vi (σ2 94 15)]) (stk := []) cvX12_184 rfl rfl rfl (by decide) (by simp [ctg]) dX12_takeNumber_30 h ?_
  rintro _ σ3 ⟨z3, rfl, h⟩
  obtain ⟨r2, h⟩ := h
  refine V_if_ne (tgt := 38) dX12_takeNumber_33 rfl r2 (fun q => ?_) (fun q => ?_)
  · replace h := h.1 q
    refine V_iconst dX12_takeNumber_38 ?_
    refine V_istore (L' := [some (vr 94), some (vi x1), some (vi x2), some (vi z1), some (vi 0), none]) dX12_takeNumber_39 (by decide) rfl ?_
    exact V.sub (SubL_s (SubL_s (SubL_s (SubL_n (SubL_s (SubL_n (SubL_0))))))) h
  · replace h := h.2 q
    refine V_iconst dX12_takeNumber_36 ?_
    exact V_ireturn (stk := []) rfl dX12_takeNumber_37 h
set_option maxRecDepth 100000 in
theorem BX12_takeNumber_41 {σ : Sg} {post : Po} {x1 : Int} {x2 : Int} {x4 : Int} 
  (h : (rng (σ 94 15)) ∧ ((rng (σ 94 14)) ∧ (((σ 94 14) ≤ (σ 94 15) → (rng ((σ 94 15) - (σ 94 16))) ∧ ((3 ≤ ((σ 94 15) - (σ 94 16)) → Cl mX12_want [vr 94, vi 0, vi 2, vi (σ 94 16)] σ (pI fun z1 σ1 => post (some (vi x4)) σ1)) ∧ (¬ 3 ≤ ((σ 94 15) - (σ 94 16)) → (rng x4) ∧ ((rng x1) ∧ ((rng x2) ∧ (Cl mX12_in [vl x4, vl x1, vl x2] σ (pI fun z2 σ2 => (rng z2) ∧ ((z2 = 0 → Cl mX12_want [vr 94, vi 0, vi 2, vi (σ2 94 16)] σ2 (pI fun z3 σ3 => post (some (vi x4)) σ3)) ∧ (¬ z2 = 0 → Cl mX12_want [vr 94, vi 1, vi 2, vi (σ2 94 16)] σ2 (pI fun z4 σ4 => post (some (vi x4)) σ4)))))))))) ∧ (¬ (σ 94 14) ≤ (σ 94 15) → (0 ≤ (σ 94 15) ∧ (σ 94 15) < 600) ∧ ((rng (σ 106 (σ 94 15))) ∧ (Cl mX12_in [vl (σ 106 (σ 94 15)), vl 48, vl 57] σ (pI fun z5 σ5 => (rng z5) ∧ ((z5 = 0 → (rng ((σ5 94 15) - (σ5 94 16))) ∧ ((3 ≤ ((σ5 94 15) - (σ5 94 16)) → Cl mX12_want [vr 94, vi 0, vi 2, vi (σ5 94 16)] σ5 (pI fun z6 σ6 => post (some (vi x4)) σ6)) ∧ (¬ 3 ≤ ((σ5 94 15) - (σ5 94 16)) → (rng x4) ∧ ((rng x1) ∧ ((rng x2) ∧ (Cl mX12_in [vl x4, vl x1, vl x2] σ5 (pI fun z7 σ7 => (rng z7) ∧ ((z7 = 0 → Cl mX12_want [vr 94, vi 0, vi 2, vi (σ7 94 16)] σ7 (pI fun z8 σ8 => post (some (vi x4)) σ8)) ∧ (¬ z7 = 0 → Cl mX12_want [vr 94, vi 1, vi 2, vi (σ7 94 16)] σ7 (pI fun z9 σ9 => post (some (vi x4)) σ9)))))))))) ∧ (¬ z5 = 0 → (rng x4) ∧ ((x4 ≤ 999 → (0 ≤ (σ5 94 15) ∧ (σ5 94 15) < 600) ∧ (V mX12_takeNumber 41 [some (vr 94), some (vi x1), some (vi x2), none, some (vi (((10 * x4) + (σ5 106 (σ5 94 15))) - 48)), none] [] (up σ5 94 15 ((σ5 94 15) + 1)) post)) ∧ (¬ x4 ≤ 999 → V mX12_takeNumber 41 [some (vr 94), some (vi x1), some (vi x2), none, some (vi x4), none] [] (up σ5 94 15 ((σ5 94 15) + 1)) post))))))))))) :
  V mX12_takeNumber 41 [some (vr 94), some (vi x1), some (vi x2), none, some (vi x4), none] [] σ post := by
  refine V_aload_n dX12_takeNumber_41 rfl rfl ?_
  refine V_getI (f := (σ 94 15)) flX12_155 rfl (rfl) (by decide) dX12_takeNumber_42 ?_
  refine V_aload_n dX12_takeNumber_45 rfl rfl ?_
  refine V_getI (f := (σ 94 14)) flX12_150 rfl (rfl) (by decide) dX12_takeNumber_46 ?_
  obtain ⟨r1, h⟩ := h
  obtain ⟨r2, h⟩ := h
  refine V_icmp_ge (tgt := 120) dX12_takeNumber_49 rfl r1 r2 (fun q => ?_) (fun q => ?_)
  · replace h := h.1 q
    refine V_aload_n dX12_takeNumber_120 rfl rfl ?_
    refine V_aload_n dX12_takeNumber_121 rfl rfl ?_
    refine V_getI (f := (σ 94 15)) flX12_155 rfl (rfl) (by decide) dX12_takeNumber_122 ?_
    refine V_aload_n dX12_takeNumber_125 rfl rfl ?_
    refine V_getI (f := (σ 94 16)) flX12_169 rfl (rfl) (by decide) dX12_takeNumber_126 ?_
    refine V_isub dX12_takeNumber_129 ?_
    refine V_iconst dX12_takeNumber_130 ?_
    obtain ⟨r3, h⟩ := h
    refine V_icmp_ge (tgt := 151) dX12_takeNumber_131 rfl r3 (by decide) (fun q => ?_) (fun q => ?_)
    · replace h := h.1 q
      refine V_iconst dX12_takeNumber_151 ?_
      refine V_iconst dX12_takeNumber_152 ?_
      refine V_aload_n dX12_takeNumber_153 rfl rfl ?_
      refine V_getI (f := (σ 94 16)) flX12_169 rfl (rfl) (by decide) dX12_takeNumber_154 ?_
      refine V_callV (av := [vi 0, vi 2, vi (σ 94 16)]) (stk := []) cvX12_184 rfl rfl rfl (by decide) (by simp [ctg]) dX12_takeNumber_157 h ?_
      rintro _ σ1 ⟨z1, rfl, h⟩
      refine V_istore (L' := [some (vr 94), some (vi x1), some (vi x2), none, some (vi x4), some (vi z1)]) dX12_takeNumber_160 (by decide) rfl ?_
      refine V_iload dX12_takeNumber_162 rfl ?_
      exact V_ireturn (stk := []) rfl dX12_takeNumber_164 h
    · replace h := h.2 q
      refine V_iload dX12_takeNumber_134 rfl ?_
      obtain ⟨r4, h⟩ := h
      refine V_i2l dX12_takeNumber_136 r4 ?_
      refine V_iload_n dX12_takeNumber_137 rfl rfl ?_
      obtain ⟨r5, h⟩ := h
      refine V_i2l dX12_takeNumber_138 r5 ?_
      refine V_iload_n dX12_takeNumber_139 rfl rfl ?_
      obtain ⟨r6, h⟩ := h
      refine V_i2l dX12_takeNumber_140 r6 ?_
      refine V_callS (av := [vl x4, vl x1, vl x2]) (stk := [vr 94]) cvX12_146 rfl rfl (by decide) (by simp [ctg]) dX12_takeNumber_141 h ?_
      rintro _ σ2 ⟨z2, rfl, h⟩
      obtain ⟨r7, h⟩ := h
      refine V_if_eq (tgt := 151) dX12_takeNumber_144 rfl r7 (fun q => ?_) (fun q => ?_)
      · replace h := h.1 q
        refine V_iconst dX12_takeNumber_151 ?_
        refine V_iconst dX12_takeNumber_152 ?_
        refine V_aload_n dX12_takeNumber_153 rfl rfl ?_
        refine V_getI (f := (σ2 94 16)) flX12_169 rfl (rfl) (by decide) dX12_takeNumber_154 ?_
        refine V_callV (av := [vi 0, vi 2, vi (σ2 94 16)]) (stk := []) cvX12_184 rfl rfl rfl (by decide) (by simp [ctg]) dX12_takeNumber_157 h ?_
        rintro _ σ3 ⟨z3, rfl, h⟩
        refine V_istore (L' := [some (vr 94), some (vi x1), some (vi x2), none, some (vi x4), some (vi z3)]) dX12_takeNumber_160 (by decide) rfl ?_
        refine V_iload dX12_takeNumber_162 rfl ?_
        exact V_ireturn (stk := []) rfl dX12_takeNumber_164 h
      · replace h := h.2 q
        refine V_iconst dX12_takeNumber_147 ?_
        refine V_goto (tgt := 152) dX12_takeNumber_148 rfl ?_
        refine V_iconst dX12_takeNumber_152 ?_
        refine V_aload_n dX12_takeNumber_153 rfl rfl ?_
        refine V_getI (f := (σ2 94 16)) flX12_169 rfl (rfl) (by decide) dX12_takeNumber_154 ?_
        refine V_callV (av := [vi 1, vi 2, vi (σ2 94 16)]) (stk := []) cvX12_184 rfl rfl rfl (by decide) (by simp [ctg]) dX12_takeNumber_157 h ?_
        rintro _ σ4 ⟨z4, rfl, h⟩
        refine V_istore (L' := [some (vr 94), some (vi x1), some (vi x2), none, some (vi x4), some (vi z4)]) dX12_takeNumber_160 (by decide) rfl ?_
        refine V_iload dX12_takeNumber_162 rfl ?_
        exact V_ireturn (stk := []) rfl dX12_takeNumber_164 h
  · replace h := h.2 q
    refine V_aload_n dX12_takeNumber_52 rfl rfl ?_
    refine V_getR (k2 := 106) flX12_44 rfl rfl (by decide) dX12_takeNumber_53 ?_
    refine V_aload_n dX12_takeNumber_56 rfl rfl ?_
    refine V_getI (f := (σ 94 15)) flX12_155 rfl (rfl) (by decide) dX12_takeNumber_57 ?_
    obtain ⟨r8, h⟩ := h
    refine V_iald (f := (σ 106 (σ 94 15))) (rfl : shp[106]? = some (1, 600, 0)) r8 (rfl) dX12_takeNumber_60 ?_
    obtain ⟨r9, h⟩ := h
    refine V_i2l dX12_takeNumber_61 r9 ?_
    refine V_ldc2 dX12_takeNumber_62 klX12_206 ?_
    refine V_ldc2 dX12_takeNumber_65 klX12_208 ?_
    refine V_callS (av := [vl (σ 106 (σ 94 15)), vl 48, vl 57]) (stk := []) cvX12_146 rfl rfl (by decide) (by simp [ctg]) dX12_takeNumber_68 h ?_
    rintro _ σ5 ⟨z5, rfl, h⟩
    obtain ⟨r10, h⟩ := h
    refine V_if_eq (tgt := 120) dX12_takeNumber_71 rfl r10 (fun q => ?_) (fun q => ?_)
    · replace h := h.1 q
      refine V_aload_n dX12_takeNumber_120 rfl rfl ?_
      refine V_aload_n dX12_takeNumber_121 rfl rfl ?_
      refine V_getI (f := (σ5 94 15)) flX12_155 rfl (rfl) (by decide) dX12_takeNumber_122 ?_
      refine V_aload_n dX12_takeNumber_125 rfl rfl ?_
      refine V_getI (f := (σ5 94 16)) flX12_169 rfl (rfl) (by decide) dX12_takeNumber_126 ?_
      refine V_isub dX12_takeNumber_129 ?_
      refine V_iconst dX12_takeNumber_130 ?_
      obtain ⟨r11, h⟩ := h
      refine V_icmp_ge (tgt := 151) dX12_takeNumber_131 rfl r11 (by decide) (fun q => ?_) (fun q => ?_)
      · replace h := h.1 q
        refine V_iconst dX12_takeNumber_151 ?_
        refine V_iconst dX12_takeNumber_152 ?_
        refine V_aload_n dX12_takeNumber_153 rfl rfl ?_
        refine V_getI (f := (σ5 94 16)) flX12_169 rfl (rfl) (by decide) dX12_takeNumber_154 ?_
        refine V_callV (av := [vi 0, vi 2, vi (σ5 94 16)]) (stk := []) cvX12_184 rfl rfl rfl (by decide) (by simp [ctg]) dX12_takeNumber_157 h ?_
        rintro _ σ6 ⟨z6, rfl, h⟩
        refine V_istore (L' := [some (vr 94), some (vi x1), some (vi x2), none, some (vi x4), some (vi z6)]) dX12_takeNumber_160 (by decide) rfl ?_
        refine V_iload dX12_takeNumber_162 rfl ?_
        exact V_ireturn (stk := []) rfl dX12_takeNumber_164 h
      · replace h := h.2 q
        refine V_iload dX12_takeNumber_134 rfl ?_
        obtain ⟨r12, h⟩ := h
        refine V_i2l dX12_takeNumber_136 r12 ?_
        refine V_iload_n dX12_takeNumber_137 rfl rfl ?_
        obtain ⟨r13, h⟩ := h
        refine V_i2l dX12_takeNumber_138 r13 ?_
        refine V_iload_n dX12_takeNumber_139 rfl rfl ?_
        obtain ⟨r14, h⟩ := h
        refine V_i2l dX12_takeNumber_140 r14 ?_
        refine V_callS (av := [vl x4, vl x1, vl x2]) (stk := [vr 94]) cvX12_146 rfl rfl (by decide) (by simp [ctg]) dX12_takeNumber_141 h ?_
        rintro _ σ7 ⟨z7, rfl, h⟩
        obtain ⟨r15, h⟩ := h
        refine V_if_eq (tgt := 151) dX12_takeNumber_144 rfl r15 (fun q => ?_) (fun q => ?_)
        · replace h := h.1 q
          refine V_iconst dX12_takeNumber_151 ?_
          refine V_iconst dX12_takeNumber_152 ?_
          refine V_aload_n dX12_takeNumber_153 rfl rfl ?_
          refine V_getI (f := (σ7 94 16)) flX12_169 rfl (rfl) (by decide) dX12_takeNumber_154 ?_
          refine V_callV (av := [vi 0, vi 2, vi (σ7 94 16)]) (stk := []) cvX12_184 rfl rfl rfl (by decide) (by simp [ctg]) dX12_takeNumber_157 h ?_
          rintro _ σ8 ⟨z8, rfl, h⟩
          refine V_istore (L' := [some (vr 94), some (vi x1), some (vi x2), none, some (vi x4), some (vi z8)]) dX12_takeNumber_160 (by decide) rfl ?_
          refine V_iload dX12_takeNumber_162 rfl ?_
          exact V_ireturn (stk := []) rfl dX12_takeNumber_164 h
        · replace h := h.2 q
          refine V_iconst dX12_takeNumber_147 ?_
          refine V_goto (tgt := 152) dX12_takeNumber_148 rfl ?_
          refine V_iconst dX12_takeNumber_152 ?_
          refine V_aload_n dX12_takeNumber_153 rfl rfl ?_
          refine V_getI (f := (σ7 94 16)) flX12_169 rfl (rfl) (by decide) dX12_takeNumber_154 ?_
          refine V_callV (av := [vi 1, vi 2, vi (σ7 94 16)]) (stk := []) cvX12_184 rfl rfl rfl (by decide) (by simp [ctg]) dX12_takeNumber_157 h ?_
          rintro _ σ9 ⟨z9, rfl, h⟩
          refine V_istore (L' := [some (vr 94), some (vi x1), some (vi x2), none, some (vi x4), some (vi z9)]) dX12_takeNumber_160 (by decide) rfl ?_
          refine V_iload dX12_takeNumber_162 rfl ?_
          exact V_ireturn (stk := []) rfl dX12_takeNumber_164 h
    · replace h := h.2 q
      refine V_iload dX12_takeNumber_74 rfl ?_
      refine V_sipush dX12_takeNumber_76 (by decide) ?_
      obtain ⟨r16, h⟩ := h
      refine V_icmp_le (tgt := 87) dX12_takeNumber_79 rfl r16 (by decide) (fun q => ?_) (fun q => ?_)
      · replace h := h.1 q
        refine V_bipush dX12_takeNumber_87 (by decide) ?_
        refine V_iload dX12_takeNumber_89 rfl ?_
        refine V_imul dX12_takeNumber_91 ?_
        refine V_aload_n dX12_takeNumber_92 rfl rfl ?_
        refine V_getR (k2 := 106) flX12_44 rfl rfl (by decide) dX12_takeNumber_93 ?_
        refine V_aload_n dX12_takeNumber_96 rfl rfl ?_
        refine V_getI (f := (σ5 94 15)) flX12_155 rfl (rfl) (by decide) dX12_takeNumber_97 ?_
        obtain ⟨r17, h⟩ := h
        refine V_iald (f := (σ5 106 (σ5 94 15))) (rfl : shp[106]? = some (1, 600, 0)) r17 (rfl) dX12_takeNumber_100 ?_
        refine V_iadd dX12_takeNumber_101 ?_
        refine V_bipush dX12_takeNumber_102 (by decide) ?_
        refine V_isub dX12_takeNumber_104 ?_
        refine V_istore (L' := [some (vr 94), some (vi x1), some (vi x2), none, some (vi (((10 * x4) + (σ5 106 (σ5 94 15))) - 48)), none]) dX12_takeNumber_105 (by decide) rfl ?_
        refine V_aload_n dX12_takeNumber_107 rfl rfl ?_
        refine V_dup dX12_takeNumber_108 trivial ?_
        refine V_getI (f := (σ5 94 15)) flX12_155 rfl (rfl) (by decide) dX12_takeNumber_109 ?_
        refine V_iconst dX12_takeNumber_112 ?_
        refine V_iadd dX12_takeNumber_113 ?_
        refine V_putI flX12_155 rfl (by decide) dX12_takeNumber_114 ?_
        refine V_goto (tgt := 41) dX12_takeNumber_117 rfl ?_
        exact V.sub (SubL_s (SubL_s (SubL_s (SubL_n (SubL_s (SubL_n (SubL_0))))))) h
      · replace h := h.2 q
        refine V_iload dX12_takeNumber_82 rfl ?_
        refine V_goto (tgt := 105) dX12_takeNumber_84 rfl ?_
        refine V_istore (L' := [some (vr 94), some (vi x1), some (vi x2), none, some (vi x4), none]) dX12_takeNumber_105 (by decide) rfl ?_
        refine V_aload_n dX12_takeNumber_107 rfl rfl ?_
        refine V_dup dX12_takeNumber_108 trivial ?_
        refine V_getI (f := (σ5 94 15)) flX12_155 rfl (rfl) (by decide) dX12_takeNumber_109 ?_
        refine V_iconst dX12_takeNumber_112 ?_
        refine V_iadd dX12_takeNumber_113 ?_
        refine V_putI flX12_155 rfl (by decide) dX12_takeNumber_114 ?_
        refine V_goto (tgt := 41) dX12_takeNumber_117 rfl ?_
        exact V.sub (SubL_s (SubL_s (SubL_s (SubL_n (SubL_s (SubL_n (SubL_0))))))) h

set_option maxRecDepth 100000 in
theorem BX12_takeMark_0 {σ : Sg} {post : Po} {x1 : Int} 
  (h : (rng (σ 94 7)) ∧ ((60 ≤ (σ 94 7) → Cl mX12_want [vr 94, vi 0, vi 5, vi x1] σ (pI fun z1 σ1 => (rng z1) ∧ ((¬ z1 = 0 → Cl mX12_takeHead [vr 94] σ1 (pI fun z2 σ2 => (rng (σ2 94 18)) ∧ ((¬ (σ2 94 18) = 0 → V mX12_takeMark 63 [some (vr 94), none, some (vi z2), some (vi (-1)), none, none, none] [] σ2 post) ∧ ((σ2 94 18) = 0 → Cl mX12_here [vr 94] σ2 (pI fun z3 σ3 => (rng z3) ∧ ((¬ z3 = 47 → V mX12_takeMark 63 [some (vr 94), none, some (vi z2), some (vi (-1)), none, none, none] [] σ3 post) ∧ (z3 = 47 → Cl mX12_takeSub [vr 94, vi z2] (up σ3 94 15 ((σ3 94 15) + 1)) (pI fun z4 σ4 => V mX12_takeMark 63 [some (vr 94), none, some (vi z2), some (vi z4), none, none, none] [] σ4 post)))))))) ∧ (z1 = 0 → post none σ1)))) ∧ (¬ 60 ≤ (σ 94 7) → Cl mX12_want [vr 94, vi 1, vi 5, vi x1] σ (pI fun z5 σ5 => (rng z5) ∧ ((¬ z5 = 0 → Cl mX12_takeHead [vr 94] σ5 (pI fun z6 σ6 => (rng (σ6 94 18)) ∧ ((¬ (σ6 94 18) = 0 → V mX12_takeMark 63 [some (vr 94), none, some (vi z6), some (vi (-1)), none, none, none] [] σ6 post) ∧ ((σ6 94 18) = 0 → Cl mX12_here [vr 94] σ6 (pI fun z7 σ7 => (rng z7) ∧ ((¬ z7 = 47 → V mX12_takeMark 63 [some (vr 94), none, some (vi z6), some (vi (-1)), none, none, none] [] σ7 post) ∧ (z7 = 47 → Cl mX12_takeSub [vr 94, vi z6] (up σ7 94 15 ((σ7 94 15) + 1)) (pI fun z8 σ8 => V mX12_takeMark 63 [some (vr 94), none, some (vi z6), some (vi z8), none, none, none] [] σ8 post)))))))) ∧ (z5 = 0 → post none σ5)))))) :
  V mX12_takeMark 0 [some (vr 94), some (vi x1), none, none, none, none, none] [] σ post := by
  refine V_aload_n dX12_takeMark_0 rfl rfl ?_
  refine V_aload_n dX12_takeMark_1 rfl rfl ?_
  refine V_getI (f := (σ 94 7)) flX12_210 rfl (rfl) (by decide) dX12_takeMark_2 ?_
  refine V_bipush dX12_takeMark_5 (by decide) ?_
  obtain ⟨r1, h⟩ := h
  refine V_icmp_ge (tgt := 14) dX12_takeMark_7 rfl r1 (by decide) (fun q => ?_) (fun q => ?_)
  · replace h := h.1 q
    refine V_iconst dX12_takeMark_14 ?_
    refine V_iconst dX12_takeMark_15 ?_
    refine V_iload_n dX12_takeMark_16 rfl rfl ?_
    refine V_callV (av := [vi 0, vi 5, vi x1]) (stk := []) cvX12_184 rfl rfl rfl (by decide) (by simp [ctg]) dX12_takeMark_17 h ?_
    rintro _ σ1 ⟨z1, rfl, h⟩
    obtain ⟨r2, h⟩ := h
    refine V_if_ne (tgt := 24) dX12_takeMark_20 rfl r2 (fun q => ?_) (fun q => ?_)
    · replace h := h.1 q
      refine V_aload_n dX12_takeMark_24 rfl rfl ?_
      refine V_callV (av := []) (stk := []) cvX12_213 rfl rfl rfl (by decide) (by simp [ctg]) dX12_takeMark_25 h ?_
      rintro _ σ2 ⟨z2, rfl, h⟩
      refine V_istore_n (L' := [some (vr 94), some (vi x1), some (vi z2), none, none, none, none]) dX12_takeMark_28 rfl (by decide) rfl ?_
      refine V_iconst dX12_takeMark_29 ?_
      refine V_istore_n (L' := [some (vr 94), some (vi x1), some (vi z2), some (vi (-1)), none, none, none]) dX12_takeMark_30 rfl (by decide) rfl ?_
      refine V_aload_n dX12_takeMark_31 rfl rfl ?_
      refine V_getI (f := (σ2 94 18)) flX12_158 rfl (rfl) (by decide) dX12_takeMark_32 ?_
      obtain ⟨r3, h⟩ := h
      refine V_if_ne (tgt := 63) dX12_takeMark_35 rfl r3 (fun q => ?_) (fun q => ?_)
      · replace h := h.1 q
        exact V.sub (SubL_s (SubL_n (SubL_s (SubL_s (SubL_n (SubL_n (SubL_n (SubL_0)))))))) h
      · replace h := h.2 q
        refine V_aload_n dX12_takeMark_38 rfl rfl ?_
        refine V_callV (av := []) (stk := []) cvX12_165 rfl rfl rfl (by decide) (by simp [ctg]) dX12_takeMark_39 h ?_
        rintro _ σ3 ⟨z3, rfl, h⟩
        refine V_bipush dX12_takeMark_42 (by decide) ?_
        obtain ⟨r4, h⟩ := h
        refine V_icmp_ne (tgt := 63) dX12_takeMark_44 rfl r4 (by decide) (fun q => ?_) (fun q => ?_)
        · replace h := h.1 q
          exact V.sub (SubL_s (SubL_n (SubL_s (SubL_s (SubL_n (SubL_n (SubL_n (SubL_0)))))))) h
        · replace h := h.2 q
          refine V_aload_n dX12_takeMark_47 rfl rfl ?_
          refine V_dup dX12_takeMark_48 trivial ?_
          refine V_getI (f := (σ3 94 15)) flX12_155 rfl (rfl) (by decide) dX12_takeMark_49 ?_
          refine V_iconst dX12_takeMark_52 ?_
          refine V_iadd dX12_takeMark_53 ?_
          refine V_putI flX12_155 rfl (by decide) dX12_takeMark_54 ?_
          refine V_aload_n dX12_takeMark_57 rfl rfl ?_
          refine V_iload_n dX12_takeMark_58 rfl rfl ?_
          refine V_callV (av := [vi z2]) (stk := []) cvX12_216 rfl rfl rfl (by decide) (by simp [ctg]) dX12_takeMark_59 h ?_
          rintro _ σ4 ⟨z4, rfl, h⟩
          refine V_istore_n (L' := [some (vr 94), some (vi x1), some (vi z2), some (vi z4), none, none, none]) dX12_takeMark_62 rfl (by decide) rfl ?_
          exact V.sub (SubL_s (SubL_n (SubL_s (SubL_s (SubL_n (SubL_n (SubL_n (SubL_0)))))))) h
    · replace h := h.2 q
      exact V_return (stk := []) rfl dX12_takeMark_23 h
  · replace h := h.2 q
    refine V_iconst dX12_takeMark_10 ?_
    refine V_goto (tgt := 15) dX12_takeMark_11 rfl ?_
    refine V_iconst dX12_takeMark_15 ?_
    refine V_iload_n dX12_takeMark_16 rfl rfl ?_
    refine V_callV (av := [vi 1, vi 5, vi x1]) (stk := []) cvX12_184 rfl rfl rfl (by decide) (by simp [ctg]) dX12_takeMark_17 h ?_
    rintro _ σ5 ⟨z5, rfl, h⟩
    obtain ⟨r5, h⟩ := h
    refine V_if_ne (tgt := 24) dX12_takeMark_20 rfl r5 (fun q => ?_) (fun q => ?_)
    · replace h := h.1 q
      refine V_aload_n dX12_takeMark_24 rfl rfl ?_
      refine V_callV (av := []) (stk := []) cvX12_213 rfl rfl rfl (by decide) (by simp [ctg]) dX12_takeMark_25 h ?_
      rintro _ σ6 ⟨z6, rfl, h⟩
      refine V_istore_n (L' := [some (vr 94), some (vi x1), some (vi z6), none, none, none, none]) dX12_takeMark_28 rfl (by decide) rfl ?_
      refine V_iconst dX12_takeMark_29 ?_
      refine V_istore_n (L' := [some (vr 94), some (vi x1), some (vi z6), some (vi (-1)), none, none, none]) dX12_takeMark_30 rfl (by decide) rfl ?_
      refine V_aload_n dX12_takeMark_31 rfl rfl ?_
      refine V_getI (f := (σ6 94 18)) flX12_158 rfl (rfl) (by decide) dX12_takeMark_32 ?_
      obtain ⟨r6, h⟩ := h
      refine V_if_ne (tgt := 63) dX12_takeMark_35 rfl r6 (fun q => ?_) (fun q => ?_)
      · replace h := h.1 q
        exact V.sub (SubL_s (SubL_n (SubL_s (SubL_s (SubL_n (SubL_n (SubL_n (SubL_0)))))))) h
      · replace h := h.2 q
        refine V_aload_n dX12_takeMark_38 rfl rfl ?_
        refine V_callV (av := []) (stk := []) cvX12_165 rfl rfl rfl (by decide) (by simp [ctg]) dX12_takeMark_39 h ?_
        rintro _ σ7 ⟨z7, rfl, h⟩
        refine V_bipush dX12_takeMark_42 (by decide) ?_
        obtain ⟨r7, h⟩ := h
        refine V_icmp_ne (tgt := 63) dX12_takeMark_44 rfl r7 (by decide) (fun q => ?_) (fun q => ?_)
        · replace h := h.1 q
          exact V.sub (SubL_s (SubL_n (SubL_s (SubL_s (SubL_n (SubL_n (SubL_n (SubL_0)))))))) h
        · replace h := h.2 q
          refine V_aload_n dX12_takeMark_47 rfl rfl ?_
          refine V_dup dX12_takeMark_48 trivial ?_
          refine V_getI (f := (σ7 94 15)) flX12_155 rfl (rfl) (by decide) dX12_takeMark_49 ?_
          refine V_iconst dX12_takeMark_52 ?_
          refine V_iadd dX12_takeMark_53 ?_
          refine V_putI flX12_155 rfl (by decide) dX12_takeMark_54 ?_
          refine V_aload_n dX12_takeMark_57 rfl rfl ?_
          refine V_iload_n dX12_takeMark_58 rfl rfl ?_
          refine V_callV (av := [vi z6]) (stk := []) cvX12_216 rfl rfl rfl (by decide) (by simp [ctg]) dX12_takeMark_59 h ?_
          rintro _ σ8 ⟨z8, rfl, h⟩
          refine V_istore_n (L' := [some (vr 94), some (vi x1), some (vi z6), some (vi z8), none, none, none]) dX12_takeMark_62 rfl (by decide) rfl ?_
          exact V.sub (SubL_s (SubL_n (SubL_s (SubL_s (SubL_n (SubL_n (SubL_n (SubL_0)))))))) h
    · replace h := h.2 q
      exact V_return (stk := []) rfl dX12_takeMark_23 h
set_option maxRecDepth 100000 in
theorem BX12_takeMark_63 {σ : Sg} {post : Po} {x2 : Int} {x3 : Int} 
  (h : (rng (σ 94 18)) ∧ ((¬ (σ 94 18) = 0 → (¬ (σ 94 18) = 0 → V mX12_takeMark 125 [some (vr 94), none, some (vi x2), some (vi x3), some (vi 0), some (vi 0), none] [] σ post) ∧ ((σ 94 18) = 0 → Cl mX12_here [vr 94] σ (pI fun z1 σ1 => (rng z1) ∧ ((¬ z1 = 45 → V mX12_takeMark 125 [some (vr 94), none, some (vi x2), some (vi x3), some (vi 0), some (vi 0), none] [] σ1 post) ∧ (z1 = 45 → Cl mX12_takeNumber [vr 94, vi 1, vi 99] (up σ1 94 15 ((σ1 94 15) + 1)) (pI fun z2 σ2 => V mX12_takeMark 125 [some (vr 94), none, some (vi x2), some (vi x3), some (vi 0), some (vi z2), none] [] σ2 post)))))) ∧ ((σ 94 18) = 0 → Cl mX12_takeNumber [vr 94, vi 1, vi 99] σ (pI fun z3 σ3 => (rng (σ3 94 18)) ∧ ((¬ (σ3 94 18) = 0 → V mX12_takeMark 125 [some (vr 94), none, some (vi x2), some (vi x3), some (vi z3), some (vi z3), none] [] σ3 post) ∧ ((σ3 94 18) = 0 → Cl mX12_here [vr 94] σ3 (pI fun z4 σ4 => (rng z4) ∧ ((¬ z4 = 45 → V mX12_takeMark 125 [some (vr 94), none, some (vi x2), some (vi x3), some (vi z3), some (vi z3), none] [] σ4 post) ∧ (z4 = 45 → Cl mX12_takeNumber [vr 94, vi (z3 + 1), vi 99] (up σ4 94 15 ((σ4 94 15) + 1)) (pI fun z5 σ5 => V mX12_takeMark 125 [some (vr 94), none, some (vi x2), some (vi x3), some (vi z3), some (vi z5), none] [] σ5 post)))))))))) :
  V mX12_takeMark 63 [some (vr 94), none, some (vi x2), some (vi x3), none, none, none] [] σ post := by
  refine V_aload_n dX12_takeMark_63 rfl rfl ?_
  refine V_getI (f := (σ 94 18)) flX12_158 rfl (rfl) (by decide) dX12_takeMark_64 ?_
  obtain ⟨r1, h⟩ := h
  refine V_if_ne (tgt := 80) dX12_takeMark_67 rfl r1 (fun q => ?_) (fun q => ?_)
  · replace h := h.1 q
    refine V_iconst dX12_takeMark_80 ?_
    refine V_istore (L' := [some (vr 94), none, some (vi x2), some (vi x3), some (vi 0), none, none]) dX12_takeMark_81 (by decide) rfl ?_
    refine V_iload dX12_takeMark_83 rfl ?_
    refine V_istore (L' := [some (vr 94), none, some (vi x2), some (vi x3), some (vi 0), some (vi 0), none]) dX12_takeMark_85 (by decide) rfl ?_
    refine V_aload_n dX12_takeMark_87 rfl rfl ?_
    refine V_getI (f := (σ 94 18)) flX12_158 rfl (rfl) (by decide) dX12_takeMark_88 ?_
    refine V_if_ne (tgt := 125) dX12_takeMark_91 rfl r1 (fun q => ?_) (fun q => ?_)
    · replace h := h.1 q
      exact V.sub (SubL_s (SubL_n (SubL_s (SubL_s (SubL_s (SubL_s (SubL_n (SubL_0)))))))) h
    · replace h := h.2 q
      refine V_aload_n dX12_takeMark_94 rfl rfl ?_
      refine V_callV (av := []) (stk := []) cvX12_165 rfl rfl rfl (by decide) (by simp [ctg]) dX12_takeMark_95 h ?_
      rintro _ σ1 ⟨z1, rfl, h⟩
      refine V_bipush dX12_takeMark_98 (by decide) ?_
      obtain ⟨r2, h⟩ := h
      refine V_icmp_ne (tgt := 125) dX12_takeMark_100 rfl r2 (by decide) (fun q => ?_) (fun q => ?_)
      · replace h := h.1 q
        exact V.sub (SubL_s (SubL_n (SubL_s (SubL_s (SubL_s (SubL_s (SubL_n (SubL_0)))))))) h
      · replace h := h.2 q
        refine V_aload_n dX12_takeMark_103 rfl rfl ?_
        refine V_dup dX12_takeMark_104 trivial ?_
        refine V_getI (f := (σ1 94 15)) flX12_155 rfl (rfl) (by decide) dX12_takeMark_105 ?_
        refine V_iconst dX12_takeMark_108 ?_
        refine V_iadd dX12_takeMark_109 ?_
        refine V_putI flX12_155 rfl (by decide) dX12_takeMark_110 ?_
        refine V_aload_n dX12_takeMark_113 rfl rfl ?_
        refine V_iload dX12_takeMark_114 rfl ?_
        refine V_iconst dX12_takeMark_116 ?_
        refine V_iadd dX12_takeMark_117 ?_
        refine V_bipush dX12_takeMark_118 (by decide) ?_
        refine V_callV (av := [vi 1, vi 99]) (stk := []) cvX12_220 rfl rfl rfl (by decide) (by simp [ctg]) dX12_takeMark_120 h ?_
        rintro _ σ2 ⟨z2, rfl, h⟩
        refine V_istore (L' := [some (vr 94), none, some (vi x2), some (vi x3), some (vi 0), some (vi z2), none]) dX12_takeMark_123 (by decide) rfl ?_
        exact V.sub (SubL_s (SubL_n (SubL_s (SubL_s (SubL_s (SubL_s (SubL_n (SubL_0)))))))) h
  · replace h := h.2 q
    refine V_aload_n dX12_takeMark_70 rfl rfl ?_
    refine V_iconst dX12_takeMark_71 ?_
    refine V_bipush dX12_takeMark_72 (by decide) ?_
    refine V_callV (av := [vi 1, vi 99]) (stk := []) cvX12_220 rfl rfl rfl (by decide) (by simp [ctg]) dX12_takeMark_74 h ?_
    rintro _ σ3 ⟨z3, rfl, h⟩
    refine V_goto (tgt := 81) dX12_takeMark_77 rfl ?_
    refine V_istore (L' := [some (vr 94), none, some (vi x2), some (vi x3), some (vi z3), none, none]) dX12_takeMark_81 (by decide) rfl ?_
    refine V_iload dX12_takeMark_83 rfl ?_
    refine V_istore (L' := [some (vr 94), none, some (vi x2), some (vi x3), some (vi z3), some (vi z3), none]) dX12_takeMark_85 (by decide) rfl ?_
    refine V_aload_n dX12_takeMark_87 rfl rfl ?_
    refine V_getI (f := (σ3 94 18)) flX12_158 rfl (rfl) (by decide) dX12_takeMark_88 ?_
    obtain ⟨r3, h⟩ := h
    refine V_if_ne (tgt := 125) dX12_takeMark_91 rfl r3 (fun q => ?_) (fun q => ?_)
    · replace h := h.1 q
      exact V.sub (SubL_s (SubL_n (SubL_s (SubL_s (SubL_s (SubL_s (SubL_n (SubL_0)))))))) h
    · replace h := h.2 q
      refine V_aload_n dX12_takeMark_94 rfl rfl ?_
      refine V_callV (av := []) (stk := []) cvX12_165 rfl rfl rfl (by decide) (by simp [ctg]) dX12_takeMark_95 h ?_
      rintro _ σ4 ⟨z4, rfl, h⟩
      refine V_bipush dX12_takeMark_98 (by decide) ?_
      obtain ⟨r4, h⟩ := h
      refine V_icmp_ne (tgt := 125) dX12_takeMark_100 rfl r4 (by decide) (fun q => ?_) (fun q => ?_)
      · replace h := h.1 q
        exact V.sub (SubL_s (SubL_n (SubL_s (SubL_s (SubL_s (SubL_s (SubL_n (SubL_0)))))))) h
      · replace h := h.2 q
        refine V_aload_n dX12_takeMark_103 rfl rfl ?_
        refine V_dup dX12_takeMark_104 trivial ?_
        refine V_getI (f := (σ4 94 15)) flX12_155 rfl (rfl) (by decide) dX12_takeMark_105 ?_
        refine V_iconst dX12_takeMark_108 ?_
        refine V_iadd dX12_takeMark_109 ?_
        refine V_putI flX12_155 rfl (by decide) dX12_takeMark_110 ?_
        refine V_aload_n dX12_takeMark_113 rfl rfl ?_
        refine V_iload dX12_takeMark_114 rfl ?_
        refine V_iconst dX12_takeMark_116 ?_
        refine V_iadd dX12_takeMark_117 ?_
        refine V_bipush dX12_takeMark_118 (by decide) ?_
        refine V_callV (av := [vi (z3 + 1), vi 99]) (stk := []) cvX12_220 rfl rfl rfl (by decide) (by simp [ctg]) dX12_takeMark_120 h ?_
        rintro _ σ5 ⟨z5, rfl, h⟩
        refine V_istore (L' := [some (vr 94), none, some (vi x2), some (vi x3), some (vi z3), some (vi z5), none]) dX12_takeMark_123 (by decide) rfl ?_
        exact V.sub (SubL_s (SubL_n (SubL_s (SubL_s (SubL_s (SubL_s (SubL_n (SubL_0)))))))) h
set_option maxRecDepth 100000 in
theorem BX12_takeMark_125 {σ : Sg} {post : Po} {x2 : Int} {x3 : Int} {x4 : Int} {x5 : Int} 
  (h : (rng (σ 94 18)) ∧ ((¬ (σ 94 18) = 0 → V mX12_takeMark 174 [some (vr 94), none, some (vi x2), some (vi x3), some (vi x4), some (vi x5), some (vi 0)] [] σ post) ∧ ((σ 94 18) = 0 → Cl mX12_here [vr 94] σ (pI fun z1 σ1 => Cl mX12_isLetter [vi z1] σ1 (pI fun z2 σ2 => (rng z2) ∧ ((z2 = 0 → V mX12_takeMark 174 [some (vr 94), none, some (vi x2), some (vi x3), some (vi x4), some (vi x5), some (vi 0)] [] σ2 post) ∧ (¬ z2 = 0 → Cl mX12_takeWord [vr 94] σ2 (pV fun σ3 => Cl mX12_isWord [vr 94, vi 4, vi 109, vi 97, vi 105, vi 110, vi 0] σ3 (pI fun z4 σ4 => Cl mX12_want [vr 94, vi z4, vi 1, vi (σ4 94 16)] σ4 (pI fun z5 σ5 => V mX12_takeMark 174 [some (vr 94), none, some (vi x2), some (vi x3), some (vi x4), some (vi x5), some (vi z5)] [] σ5 post)))))))))) :
  V mX12_takeMark 125 [some (vr 94), none, some (vi x2), some (vi x3), some (vi x4), some (vi x5), none] [] σ post := by
  refine V_iconst dX12_takeMark_125 ?_
  refine V_istore (L' := [some (vr 94), none, some (vi x2), some (vi x3), some (vi x4), some (vi x5), some (vi 0)]) dX12_takeMark_126 (by decide) rfl ?_
  refine V_aload_n dX12_takeMark_128 rfl rfl ?_
  refine V_getI (f := (σ 94 18)) flX12_158 rfl (rfl) (by decide) dX12_takeMark_129 ?_
  obtain ⟨r1, h⟩ := h
  refine V_if_ne (tgt := 174) dX12_takeMark_132 rfl r1 (fun q => ?_) (fun q => ?_)
  · replace h := h.1 q
    exact V.sub (SubL_s (SubL_n (SubL_s (SubL_s (SubL_s (SubL_s (SubL_s (SubL_0)))))))) h
  · replace h := h.2 q
    refine V_aload_n dX12_takeMark_135 rfl rfl ?_
    refine V_callV (av := []) (stk := []) cvX12_165 rfl rfl rfl (by decide) (by simp [ctg]) dX12_takeMark_136 h ?_
    rintro _ σ1 ⟨z1, rfl, h⟩
    refine V_callS (av := [vi z1]) (stk := []) cvX12_172 rfl rfl (by decide) (by simp [ctg]) dX12_takeMark_139 h ?_
    rintro _ σ2 ⟨z2, rfl, h⟩
    obtain ⟨r2, h⟩ := h
    refine V_if_eq (tgt := 174) dX12_takeMark_142 rfl r2 (fun q => ?_) (fun q => ?_)
    · replace h := h.1 q
      exact V.sub (SubL_s (SubL_n (SubL_s (SubL_s (SubL_s (SubL_s (SubL_s (SubL_0)))))))) h
    · replace h := h.2 q
      refine V_aload_n dX12_takeMark_145 rfl rfl ?_
      refine V_callV (av := []) (stk := []) cvX12_181 rfl rfl rfl (by decide) (by simp [ctg]) dX12_takeMark_146 h ?_
      rintro _ σ3 ⟨rfl, h⟩
      refine V_aload_n dX12_takeMark_149 rfl rfl ?_
      refine V_aload_n dX12_takeMark_150 rfl rfl ?_
      refine V_iconst dX12_takeMark_151 ?_
      refine V_bipush dX12_takeMark_152 (by decide) ?_
      refine V_bipush dX12_takeMark_154 (by decide) ?_
      refine V_bipush dX12_takeMark_156 (by decide) ?_
      refine V_bipush dX12_takeMark_158 (by decide) ?_
      refine V_iconst dX12_takeMark_160 ?_
      refine V_callV (av := [vi 4, vi 109, vi 97, vi 105, vi 110, vi 0]) (stk := [vr 94]) cvX12_223 rfl rfl rfl (by decide) (by simp [ctg]) dX12_takeMark_161 h ?_
      rintro _ σ4 ⟨z4, rfl, h⟩
      refine V_iconst dX12_takeMark_164 ?_
      refine V_aload_n dX12_takeMark_165 rfl rfl ?_
      refine V_getI (f := (σ4 94 16)) flX12_169 rfl (rfl) (by decide) dX12_takeMark_166 ?_
      refine V_callV (av := [vi z4, vi 1, vi (σ4 94 16)]) (stk := []) cvX12_184 rfl rfl rfl (by decide) (by simp [ctg]) dX12_takeMark_169 h ?_
      rintro _ σ5 ⟨z5, rfl, h⟩
      refine V_istore (L' := [some (vr 94), none, some (vi x2), some (vi x3), some (vi x4), some (vi x5), some (vi z5)]) dX12_takeMark_172 (by decide) rfl ?_
      exact V.sub (SubL_s (SubL_n (SubL_s (SubL_s (SubL_s (SubL_s (SubL_s (SubL_0)))))))) h
set_option maxRecDepth 100000 in
theorem BX12_takeMark_174 {σ : Sg} {post : Po} {x2 : Int} {x3 : Int} {x4 : Int} {x5 : Int} {x6 : Int} 
  (h : (rng (σ 94 18)) ∧ ((¬ (σ 94 18) = 0 → post none σ) ∧ ((σ 94 18) = 0 → Cl mX12_lay [vr 94, vi x2, vi x3, vi x4, vi x5, vi x6] σ (pV fun σ1 => post none σ1)))) :
  V mX12_takeMark 174 [some (vr 94), none, some (vi x2), some (vi x3), some (vi x4), some (vi x5), some (vi x6)] [] σ post := by
  refine V_aload_n dX12_takeMark_174 rfl rfl ?_
  refine V_getI (f := (σ 94 18)) flX12_158 rfl (rfl) (by decide) dX12_takeMark_175 ?_
  obtain ⟨r1, h⟩ := h
  refine V_if_ne (tgt := 193) dX12_takeMark_178 rfl r1 (fun q => ?_) (fun q => ?_)
  · replace h := h.1 q
    exact V_return (stk := []) rfl dX12_takeMark_193 h
  · replace h := h.2 q
    refine V_aload_n dX12_takeMark_181 rfl rfl ?_
    refine V_iload_n dX12_takeMark_182 rfl rfl ?_
    refine V_iload_n dX12_takeMark_183 rfl rfl ?_
    refine V_iload dX12_takeMark_184 rfl ?_
    refine V_iload dX12_takeMark_186 rfl ?_
    refine V_iload dX12_takeMark_188 rfl ?_
    refine V_callV (av := [vi x2, vi x3, vi x4, vi x5, vi x6]) (stk := []) cvX12_227 rfl rfl rfl (by decide) (by simp [ctg]) dX12_takeMark_190 h ?_
    rintro _ σ1 ⟨rfl, h⟩
    exact V_return (stk := []) rfl dX12_takeMark_193 h

set_option maxRecDepth 100000 in
theorem BX12_lay_0 {σ : Sg} {post : Po} {x1 : Int} {x2 : Int} {x3 : Int} {x4 : Int} {x5 : Int} 
  (h : (0 ≤ (σ 94 7) ∧ (σ 94 7) < 60) ∧ ((x5 = 0 ∨ x5 = 1) ∧ (post none (up (up (up (up (up (up σ 101 (σ 94 7) x1) 102 (σ 94 7) x2) 103 (σ 94 7) x3) 104 (σ 94 7) x4) 105 (σ 94 7) x5) 94 7 ((σ 94 7) + 1))))) :
  V mX12_lay 0 [some (vr 94), some (vi x1), some (vi x2), some (vi x3), some (vi x4), some (vi x5)] [] σ post := by
  refine V_aload_n dX12_lay_0 rfl rfl ?_
  refine V_getR (k2 := 101) flX12_28 rfl rfl (by decide) dX12_lay_1 ?_
  refine V_aload_n dX12_lay_4 rfl rfl ?_
  refine V_getI (f := (σ 94 7)) flX12_210 rfl (rfl) (by decide) dX12_lay_5 ?_
  refine V_iload_n dX12_lay_8 rfl rfl ?_
  obtain ⟨r1, h⟩ := h
  refine V_iast (rfl : shp[101]? = some (1, 60, 0)) r1 dX12_lay_9 ?_
  refine V_aload_n dX12_lay_10 rfl rfl ?_
  refine V_getR (k2 := 102) flX12_31 rfl rfl (by decide) dX12_lay_11 ?_
  refine V_aload_n dX12_lay_14 rfl rfl ?_
  refine V_getI (f := (σ 94 7)) flX12_210 rfl (up_o (by omega)) (by decide) dX12_lay_15 ?_
  refine V_iload_n dX12_lay_18 rfl rfl ?_
  refine V_iast (rfl : shp[102]? = some (1, 60, 0)) r1 dX12_lay_19 ?_
  refine V_aload_n dX12_lay_20 rfl rfl ?_
  refine V_getR (k2 := 103) flX12_34 rfl rfl (by decide) dX12_lay_21 ?_
  refine V_aload_n dX12_lay_24 rfl rfl ?_
  refine V_getI (f := (σ 94 7)) flX12_210 rfl ((up_o (by omega)).trans (up_o (by omega))) (by decide) dX12_lay_25 ?_
  refine V_iload_n dX12_lay_28 rfl rfl ?_
  refine V_iast (rfl : shp[103]? = some (1, 60, 0)) r1 dX12_lay_29 ?_
  refine V_aload_n dX12_lay_30 rfl rfl ?_
  refine V_getR (k2 := 104) flX12_37 rfl rfl (by decide) dX12_lay_31 ?_
  refine V_aload_n dX12_lay_34 rfl rfl ?_
  refine V_getI (f := (σ 94 7)) flX12_210 rfl ((up_o (by omega)).trans ((up_o (by omega)).trans (up_o (by omega)))) (by decide) dX12_lay_35 ?_
  refine V_iload dX12_lay_38 rfl ?_
  refine V_iast (rfl : shp[104]? = some (1, 60, 0)) r1 dX12_lay_40 ?_
  refine V_aload_n dX12_lay_41 rfl rfl ?_
  refine V_getR (k2 := 105) flX12_40 rfl rfl (by decide) dX12_lay_42 ?_
  refine V_aload_n dX12_lay_45 rfl rfl ?_
  refine V_getI (f := (σ 94 7)) flX12_210 rfl ((up_o (by omega)).trans ((up_o (by omega)).trans ((up_o (by omega)).trans (up_o (by omega))))) (by decide) dX12_lay_46 ?_
  refine V_iload dX12_lay_49 rfl ?_
  obtain ⟨r2, h⟩ := h
  refine V_zast (rfl : shp[105]? = some (3, 60, 0)) r1 r2 dX12_lay_51 ?_
  refine V_aload_n dX12_lay_52 rfl rfl ?_
  refine V_dup dX12_lay_53 trivial ?_
  refine V_getI (f := (σ 94 7)) flX12_210 rfl ((up_o (by omega)).trans ((up_o (by omega)).trans ((up_o (by omega)).trans ((up_o (by omega)).trans (up_o (by omega)))))) (by decide) dX12_lay_54 ?_
  refine V_iconst dX12_lay_57 ?_
  refine V_iadd dX12_lay_58 ?_
  refine V_putI flX12_210 rfl (by decide) dX12_lay_59 ?_
  exact V_return (stk := []) rfl dX12_lay_62 h

set_option maxRecDepth 100000 in
theorem BX12_takeSee_0 {σ : Sg} {post : Po} {x1 : Int} 
  (h : (rng (σ 94 20)) ∧ ((8 ≤ (σ 94 20) → Cl mX12_want [vr 94, vi 0, vi 5, vi x1] σ (pI fun z1 σ1 => (rng z1) ∧ ((¬ z1 = 0 → Cl mX12_takeHead [vr 94] σ1 (pI fun z2 σ2 => (rng (σ2 94 18)) ∧ ((¬ (σ2 94 18) = 0 → post none σ2) ∧ ((σ2 94 18) = 0 → (0 ≤ z2 ∧ z2 < 16) ∧ ((rng (σ2 98 z2)) ∧ ((0 ≤ (σ2 98 z2) → Cl mX12_want [vr 94, vi 0, vi 6, vi (σ2 94 16)] σ2 (pI fun z3 σ3 => (rng z3) ∧ ((z3 = 0 → post none σ3) ∧ (¬ z3 = 0 → Cl mX12_takeHead [vr 94] σ3 (pI fun z4 σ4 => (rng (σ4 94 18)) ∧ ((¬ (σ4 94 18) = 0 → post none σ4) ∧ ((σ4 94 18) = 0 → (rng z4) ∧ ((rng z2) ∧ ((z4 = z2 → Cl mX12_want [vr 94, vi 0, vi 6, vi (σ4 94 16)] σ4 (pI fun z5 σ5 => (rng z5) ∧ ((z5 = 0 → post none σ5) ∧ (¬ z5 = 0 → post none (up (up σ5 98 z2 z4) 94 20 ((σ5 94 20) + 1)))))) ∧ (¬ z4 = z2 → Cl mX12_want [vr 94, vi 1, vi 6, vi (σ4 94 16)] σ4 (pI fun z6 σ6 => (rng z6) ∧ ((z6 = 0 → post none σ6) ∧ (¬ z6 = 0 → post none (up (up σ6 98 z2 z4) 94 20 ((σ6 94 20) + 1))))))))))))))) ∧ (¬ 0 ≤ (σ2 98 z2) → Cl mX12_want [vr 94, vi 1, vi 6, vi (σ2 94 16)] σ2 (pI fun z7 σ7 => (rng z7) ∧ ((z7 = 0 → post none σ7) ∧ (¬ z7 = 0 → Cl mX12_takeHead [vr 94] σ7 (pI fun z8 σ8 => (rng (σ8 94 18)) ∧ ((¬ (σ8 94 18) = 0 → post none σ8) ∧ ((σ8 94 18) = 0 → (rng z8) ∧ ((rng z2) ∧ ((z8 = z2 → Cl mX12_want [vr 94, vi 0, vi 6, vi (σ8 94 16)] σ8 (pI fun z9 σ9 => (rng z9) ∧ ((z9 = 0 → post none σ9) ∧ (¬ z9 = 0 → post none (up (up σ9 98 z2 z8) 94 20 ((σ9 94 20) + 1)))))) ∧ (¬ z8 = z2 → Cl mX12_want [vr 94, vi 1, vi 6, vi (σ8 94 16)] σ8 (pI fun z10 σ10 => (rng z10) ∧ ((z10 = 0 → post none σ10) ∧ (¬ z10 = 0 → post none (up (up σ10 98 z2 z8) 94 20 ((σ10 94 20) + 1))))))))))))))))))))) ∧ (z1 = 0 → post none σ1)))) ∧ (¬ 8 ≤ (σ 94 20) → Cl mX12_want [vr 94, vi 1, vi 5, vi x1] σ (pI fun z11 σ11 => (rng z11) ∧ ((¬ z11 = 0 → Cl mX12_takeHead [vr 94] σ11 (pI fun z12 σ12 => (rng (σ12 94 18)) ∧ ((¬ (σ12 94 18) = 0 → post none σ12) ∧ ((σ12 94 18) = 0 → (0 ≤ z12 ∧ z12 < 16) ∧ ((rng (σ12 98 z12)) ∧ ((0 ≤ (σ12 98 z12) → Cl mX12_want [vr 94, vi 0, vi 6, vi (σ12 94 16)] σ12 (pI fun z13 σ13 => (rng z13) ∧ ((z13 = 0 → post none σ13) ∧ (¬ z13 = 0 → Cl mX12_takeHead [vr 94] σ13 (pI fun z14 σ14 => (rng (σ14 94 18)) ∧ ((¬ (σ14 94 18) = 0 → post none σ14) ∧ ((σ14 94 18) = 0 → (rng z14) ∧ ((rng z12) ∧ ((z14 = z12 → Cl mX12_want [vr 94, vi 0, vi 6, vi (σ14 94 16)] σ14 (pI fun z15 σ15 => (rng z15) ∧ ((z15 = 0 → post none σ15) ∧ (¬ z15 = 0 → post none (up (up σ15 98 z12 z14) 94 20 ((σ15 94 20) + 1)))))) ∧ (¬ z14 = z12 → Cl mX12_want [vr 94, vi 1, vi 6, vi (σ14 94 16)] σ14 (pI fun z16 σ16 => (rng z16) ∧ ((z16 = 0 → post none σ16) ∧ (¬ z16 = 0 → post none (up (up σ16 98 z12 z14) 94 20 ((σ16 94 20) + 1))))))))))))))) ∧ (¬ 0 ≤ (σ12 98 z12) → Cl mX12_want [vr 94, vi 1, vi 6, vi (σ12 94 16)] σ12 (pI fun z17 σ17 => (rng z17) ∧ ((z17 = 0 → post none σ17) ∧ (¬ z17 = 0 → Cl mX12_takeHead [vr 94] σ17 (pI fun z18 σ18 => (rng (σ18 94 18)) ∧ ((¬ (σ18 94 18) = 0 → post none σ18) ∧ ((σ18 94 18) = 0 → (rng z18) ∧ ((rng z12) ∧ ((z18 = z12 → Cl mX12_want [vr 94, vi 0, vi 6, vi (σ18 94 16)] σ18 (pI fun z19 σ19 => (rng z19) ∧ ((z19 = 0 → post none σ19) ∧ (¬ z19 = 0 → post none (up (up σ19 98 z12 z18) 94 20 ((σ19 94 20) + 1)))))) ∧ (¬ z18 = z12 → Cl mX12_want [vr 94, vi 1, vi 6, vi (σ18 94 16)] σ18 (pI fun z20 σ20 => (rng z20) ∧ ((z20 = 0 → post none σ20) ∧ (¬ z20 = 0 → post none (up (up σ20 98 z12 z18) 94 20 ((σ20 94 20) + 1))))))))))))))))))))) ∧ (z11 = 0 → post none σ11)))))) :
  V mX12_takeSee 0 [some (vr 94), some (vi x1), none, none] [] σ post := by
  refine V_aload_n dX12_takeSee_0 rfl rfl ?_
  refine V_aload_n dX12_takeSee_1 rfl rfl ?_
  refine V_getI (f := (σ 94 20)) flX12_231 rfl (rfl) (by decide) dX12_takeSee_2 ?_
  refine V_bipush dX12_takeSee_5 (by decide) ?_
  obtain ⟨r1, h⟩ := h
  refine V_icmp_ge (tgt := 14) dX12_takeSee_7 rfl r1 (by decide) (fun q => ?_) (fun q => ?_)
  · replace h := h.1 q
    refine V_iconst dX12_takeSee_14 ?_
    refine V_iconst dX12_takeSee_15 ?_
    refine V_iload_n dX12_takeSee_16 rfl rfl ?_
    refine V_callV (av := [vi 0, vi 5, vi x1]) (stk := []) cvX12_184 rfl rfl rfl (by decide) (by simp [ctg]) dX12_takeSee_17 h ?_
    rintro _ σ1 ⟨z1, rfl, h⟩
    obtain ⟨r2, h⟩ := h
    refine V_if_ne (tgt := 24) dX12_takeSee_20 rfl r2 (fun q => ?_) (fun q => ?_)
    · replace h := h.1 q
      refine V_aload_n dX12_takeSee_24 rfl rfl ?_
      refine V_callV (av := []) (stk := []) cvX12_213 rfl rfl rfl (by decide) (by simp [ctg]) dX12_takeSee_25 h ?_
      rintro _ σ2 ⟨z2, rfl, h⟩
      refine V_istore_n (L' := [some (vr 94), some (vi x1), some (vi z2), none]) dX12_takeSee_28 rfl (by decide) rfl ?_
      refine V_aload_n dX12_takeSee_29 rfl rfl ?_
      refine V_getI (f := (σ2 94 18)) flX12_158 rfl (rfl) (by decide) dX12_takeSee_30 ?_
      obtain ⟨r3, h⟩ := h
      refine V_if_ne (tgt := 115) dX12_takeSee_33 rfl r3 (fun q => ?_) (fun q => ?_)
      · replace h := h.1 q
        exact V_return (stk := []) rfl dX12_takeSee_115 h
      · replace h := h.2 q
        refine V_aload_n dX12_takeSee_36 rfl rfl ?_
        refine V_aload_n dX12_takeSee_37 rfl rfl ?_
        refine V_getR (k2 := 98) flX12_19 rfl rfl (by decide) dX12_takeSee_38 ?_
        refine V_iload_n dX12_takeSee_41 rfl rfl ?_
        obtain ⟨r4, h⟩ := h
        refine V_iald (f := (σ2 98 z2)) (rfl : shp[98]? = some (1, 16, 0)) r4 (rfl) dX12_takeSee_42 ?_
        obtain ⟨r5, h⟩ := h
        refine V_if_ge (tgt := 50) dX12_takeSee_43 rfl r5 (fun q => ?_) (fun q => ?_)
        · replace h := h.1 q
          refine V_iconst dX12_takeSee_50 ?_
          refine V_bipush dX12_takeSee_51 (by decide) ?_
          refine V_aload_n dX12_takeSee_53 rfl rfl ?_
          refine V_getI (f := (σ2 94 16)) flX12_169 rfl (rfl) (by decide) dX12_takeSee_54 ?_
          refine V_callV (av := [vi 0, vi 6, vi (σ2 94 16)]) (stk := []) cvX12_184 rfl rfl rfl (by decide) (by simp [ctg]) dX12_takeSee_57 h ?_
          rintro _ σ3 ⟨z3, rfl, h⟩
          obtain ⟨r6, h⟩ := h
          refine V_if_eq (tgt := 115) dX12_takeSee_60 rfl r6 (fun q => ?_) (fun q => ?_)
          · replace h := h.1 q
            exact V_return (stk := []) rfl dX12_takeSee_115 h
          · replace h := h.2 q
            refine V_aload_n dX12_takeSee_63 rfl rfl ?_
            refine V_callV (av := []) (stk := []) cvX12_213 rfl rfl rfl (by decide) (by simp [ctg]) dX12_takeSee_64 h ?_
            rintro _ σ4 ⟨z4, rfl, h⟩
            refine V_istore_n (L' := [some (vr 94), some (vi x1), some (vi z2), some (vi z4)]) dX12_takeSee_67 rfl (by decide) rfl ?_
            refine V_aload_n dX12_takeSee_68 rfl rfl ?_
            refine V_getI (f := (σ4 94 18)) flX12_158 rfl (rfl) (by decide) dX12_takeSee_69 ?_
            obtain ⟨r7, h⟩ := h
            refine V_if_ne (tgt := 115) dX12_takeSee_72 rfl r7 (fun q => ?_) (fun q => ?_)
            · replace h := h.1 q
              exact V_return (stk := []) rfl dX12_takeSee_115 h
            · replace h := h.2 q
              refine V_aload_n dX12_takeSee_75 rfl rfl ?_
              refine V_iload_n dX12_takeSee_76 rfl rfl ?_
              refine V_iload_n dX12_takeSee_77 rfl rfl ?_
              obtain ⟨r8, h⟩ := h
              obtain ⟨r9, h⟩ := h
              refine V_icmp_eq (tgt := 85) dX12_takeSee_78 rfl r8 r9 (fun q => ?_) (fun q => ?_)
              · replace h := h.1 q
                refine V_iconst dX12_takeSee_85 ?_
                refine V_bipush dX12_takeSee_86 (by decide) ?_
                refine V_aload_n dX12_takeSee_88 rfl rfl ?_
                refine V_getI (f := (σ4 94 16)) flX12_169 rfl (rfl) (by decide) dX12_takeSee_89 ?_
                refine V_callV (av := [vi 0, vi 6, vi (σ4 94 16)]) (stk := []) cvX12_184 rfl rfl rfl (by decide) (by simp [ctg]) dX12_takeSee_92 h ?_
                rintro _ σ5 ⟨z5, rfl, h⟩
                obtain ⟨r10, h⟩ := h
                refine V_if_eq (tgt := 115) dX12_takeSee_95 rfl r10 (fun q => ?_) (fun q => ?_)
                · replace h := h.1 q
                  exact V_return (stk := []) rfl dX12_takeSee_115 h
                · replace h := h.2 q
                  refine V_aload_n dX12_takeSee_98 rfl rfl ?_
                  refine V_getR (k2 := 98) flX12_19 rfl rfl (by decide) dX12_takeSee_99 ?_
                  refine V_iload_n dX12_takeSee_102 rfl rfl ?_
                  refine V_iload_n dX12_takeSee_103 rfl rfl ?_
                  refine V_iast (rfl : shp[98]? = some (1, 16, 0)) r4 dX12_takeSee_104 ?_
                  refine V_aload_n dX12_takeSee_105 rfl rfl ?_
                  refine V_dup dX12_takeSee_106 trivial ?_
                  refine V_getI (f := (σ5 94 20)) flX12_231 rfl (up_o (by omega)) (by decide) dX12_takeSee_107 ?_
                  refine V_iconst dX12_takeSee_110 ?_
                  refine V_iadd dX12_takeSee_111 ?_
                  refine V_putI flX12_231 rfl (by decide) dX12_takeSee_112 ?_
                  exact V_return (stk := []) rfl dX12_takeSee_115 h
              · replace h := h.2 q
                refine V_iconst dX12_takeSee_81 ?_
                refine V_goto (tgt := 86) dX12_takeSee_82 rfl ?_
                refine V_bipush dX12_takeSee_86 (by decide) ?_
                refine V_aload_n dX12_takeSee_88 rfl rfl ?_
                refine V_getI (f := (σ4 94 16)) flX12_169 rfl (rfl) (by decide) dX12_takeSee_89 ?_
                refine V_callV (av := [vi 1, vi 6, vi (σ4 94 16)]) (stk := []) cvX12_184 rfl rfl rfl (by decide) (by simp [ctg]) dX12_takeSee_92 h ?_
                rintro _ σ6 ⟨z6, rfl, h⟩
                obtain ⟨r11, h⟩ := h
                refine V_if_eq (tgt := 115) dX12_takeSee_95 rfl r11 (fun q => ?_) (fun q => ?_)
                · replace h := h.1 q
                  exact V_return (stk := []) rfl dX12_takeSee_115 h
                · replace h := h.2 q
                  refine V_aload_n dX12_takeSee_98 rfl rfl ?_
                  refine V_getR (k2 := 98) flX12_19 rfl rfl (by decide) dX12_takeSee_99 ?_
                  refine V_iload_n dX12_takeSee_102 rfl rfl ?_
                  refine V_iload_n dX12_takeSee_103 rfl rfl ?_
                  refine V_iast (rfl : shp[98]? = some (1, 16, 0)) r4 dX12_takeSee_104 ?_
                  refine V_aload_n dX12_takeSee_105 rfl rfl ?_
                  refine V_dup dX12_takeSee_106 trivial ?_
                  refine V_getI (f := (σ6 94 20)) flX12_231 rfl (up_o (by omega)) (by decide) dX12_takeSee_107 ?_
                  refine V_iconst dX12_takeSee_110 ?_
                  refine V_iadd dX12_takeSee_111 ?_
                  refine V_putI flX12_231 rfl (by decide) dX12_takeSee_112 ?_
                  exact V_return (stk := []) rfl dX12_takeSee_115 h
        · replace h := h.2 q
          refine V_iconst dX12_takeSee_46 ?_
          refine V_goto (tgt := 51) dX12_takeSee_47 rfl ?_
          refine V_bipush dX12_takeSee_51 (by decide) ?_
          refine V_aload_n dX12_takeSee_53 rfl rfl ?_
          refine V_getI (f := (σ2 94 16)) flX12_169 rfl (rfl) (by decide) dX12_takeSee_54 ?_
          refine V_callV (av := [vi 1, vi 6, vi (σ2 94 16)]) (stk := []) cvX12_184 rfl rfl rfl (by decide) (by simp [ctg]) dX12_takeSee_57 h ?_
          rintro _ σ7 ⟨z7, rfl, h⟩
          obtain ⟨r12, h⟩ := h
          refine V_if_eq (tgt := 115) dX12_takeSee_60 rfl r12 (fun q => ?_) (fun q => ?_)
          · replace h := h.1 q
            exact V_return (stk := []) rfl dX12_takeSee_115 h
          · replace h := h.2 q
            refine V_aload_n dX12_takeSee_63 rfl rfl ?_
            refine V_callV (av := []) (stk := []) cvX12_213 rfl rfl rfl (by decide) (by simp [ctg]) dX12_takeSee_64 h ?_
            rintro _ σ8 ⟨z8, rfl, h⟩
            refine V_istore_n (L' := [some (vr 94), some (vi x1), some (vi z2), some (vi z8)]) dX12_takeSee_67 rfl (by decide) rfl ?_
            refine V_aload_n dX12_takeSee_68 rfl rfl ?_
            refine V_getI (f := (σ8 94 18)) flX12_158 rfl (rfl) (by decide) dX12_takeSee_69 ?_
            obtain ⟨r13, h⟩ := h
            refine V_if_ne (tgt := 115) dX12_takeSee_72 rfl r13 (fun q => ?_) (fun q => ?_)
            · replace h := h.1 q
              exact V_return (stk := []) rfl dX12_takeSee_115 h
            · replace h := h.2 q
              refine V_aload_n dX12_takeSee_75 rfl rfl ?_
              refine V_iload_n dX12_takeSee_76 rfl rfl ?_
              refine V_iload_n dX12_takeSee_77 rfl rfl ?_
              obtain ⟨r14, h⟩ := h
              obtain ⟨r15, h⟩ := h
              refine V_icmp_eq (tgt := 85) dX12_takeSee_78 rfl r14 r15 (fun q => ?_) (fun q => ?_)
              · replace h := h.1 q
                refine V_iconst dX12_takeSee_85 ?_
                refine V_bipush dX12_takeSee_86 (by decide) ?_
                refine V_aload_n dX12_takeSee_88 rfl rfl ?_
                refine V_getI (f := (σ8 94 16)) flX12_169 rfl (rfl) (by decide) dX12_takeSee_89 ?_
                refine V_callV (av := [vi 0, vi 6, vi (σ8 94 16)]) (stk := []) cvX12_184 rfl rfl rfl (by decide) (by simp [ctg]) dX12_takeSee_92 h ?_
                rintro _ σ9 ⟨z9, rfl, h⟩
                obtain ⟨r16, h⟩ := h
                refine V_if_eq (tgt := 115) dX12_takeSee_95 rfl r16 (fun q => ?_) (fun q => ?_)
                · replace h := h.1 q
                  exact V_return (stk := []) rfl dX12_takeSee_115 h
                · replace h := h.2 q
                  refine V_aload_n dX12_takeSee_98 rfl rfl ?_
                  refine V_getR (k2 := 98) flX12_19 rfl rfl (by decide) dX12_takeSee_99 ?_
                  refine V_iload_n dX12_takeSee_102 rfl rfl ?_
                  refine V_iload_n dX12_takeSee_103 rfl rfl ?_
                  refine V_iast (rfl : shp[98]? = some (1, 16, 0)) r4 dX12_takeSee_104 ?_
                  refine V_aload_n dX12_takeSee_105 rfl rfl ?_
                  refine V_dup dX12_takeSee_106 trivial ?_
                  refine V_getI (f := (σ9 94 20)) flX12_231 rfl (up_o (by omega)) (by decide) dX12_takeSee_107 ?_
                  refine V_iconst dX12_takeSee_110 ?_
                  refine V_iadd dX12_takeSee_111 ?_
                  refine V_putI flX12_231 rfl (by decide) dX12_takeSee_112 ?_
                  exact V_return (stk := []) rfl dX12_takeSee_115 h
              · replace h := h.2 q
                refine V_iconst dX12_takeSee_81 ?_
                refine V_goto (tgt := 86) dX12_takeSee_82 rfl ?_
                refine V_bipush dX12_takeSee_86 (by decide) ?_
                refine V_aload_n dX12_takeSee_88 rfl rfl ?_
                refine V_getI (f := (σ8 94 16)) flX12_169 rfl (rfl) (by decide) dX12_takeSee_89 ?_
                refine V_callV (av := [vi 1, vi 6, vi (σ8 94 16)]) (stk := []) cvX12_184 rfl rfl rfl (by decide) (by simp [ctg]) dX12_takeSee_92 h ?_
                rintro _ σ10 ⟨z10, rfl, h⟩
                obtain ⟨r17, h⟩ := h
                refine V_if_eq (tgt := 115) dX12_takeSee_95 rfl r17 (fun q => ?_) (fun q => ?_)
                · replace h := h.1 q
                  exact V_return (stk := []) rfl dX12_takeSee_115 h
                · replace h := h.2 q
                  refine V_aload_n dX12_takeSee_98 rfl rfl ?_
                  refine V_getR (k2 := 98) flX12_19 rfl rfl (by decide) dX12_takeSee_99 ?_
                  refine V_iload_n dX12_takeSee_102 rfl rfl ?_
                  refine V_iload_n dX12_takeSee_103 rfl rfl ?_
                  refine V_iast (rfl : shp[98]? = some (1, 16, 0)) r4 dX12_takeSee_104 ?_
                  refine V_aload_n dX12_takeSee_105 rfl rfl ?_
                  refine V_dup dX12_takeSee_106 trivial ?_
                  refine V_getI (f := (σ10 94 20)) flX12_231 rfl (up_o (by omega)) (by decide) dX12_takeSee_107 ?_
                  refine V_iconst dX12_takeSee_110 ?_
                  refine V_iadd dX12_takeSee_111 ?_
                  refine V_putI flX12_231 rfl (by decide) dX12_takeSee_112 ?_
                  exact V_return (stk := []) rfl dX12_takeSee_115 h
    · replace h := h.2 q
      exact V_return (stk := []) rfl dX12_takeSee_23 h
  · replace h := h.2 q
    refine V_iconst dX12_takeSee_10 ?_
    refine V_goto (tgt := 15) dX12_takeSee_11 rfl ?_
    refine V_iconst dX12_takeSee_15 ?_
    refine V_iload_n dX12_takeSee_16 rfl rfl ?_
    refine V_callV (av := [vi 1, vi 5, vi x1]) (stk := []) cvX12_184 rfl rfl rfl (by decide) (by simp [ctg]) dX12_takeSee_17 h ?_
    rintro _ σ11 ⟨z11, rfl, h⟩
    obtain ⟨r18, h⟩ := h
    refine V_if_ne (tgt := 24) dX12_takeSee_20 rfl r18 (fun q => ?_) (fun q => ?_)
    · replace h := h.1 q
      refine V_aload_n dX12_takeSee_24 rfl rfl ?_
      refine V_callV (av := []) (stk := []) cvX12_213 rfl rfl rfl (by decide) (by simp [ctg]) dX12_takeSee_25 h ?_
      rintro _ σ12 ⟨z12, rfl, h⟩
      refine V_istore_n (L' := [some (vr 94), some (vi x1), some (vi z12), none]) dX12_takeSee_28 rfl (by decide) rfl ?_
      refine V_aload_n dX12_takeSee_29 rfl rfl ?_
      refine V_getI (f := (σ12 94 18)) flX12_158 rfl (rfl) (by decide) dX12_takeSee_30 ?_
      obtain ⟨r19, h⟩ := h
      refine V_if_ne (tgt := 115) dX12_takeSee_33 rfl r19 (fun q => ?_) (fun q => ?_)
      · replace h := h.1 q
        exact V_return (stk := []) rfl dX12_takeSee_115 h
      · replace h := h.2 q
        refine V_aload_n dX12_takeSee_36 rfl rfl ?_
        refine V_aload_n dX12_takeSee_37 rfl rfl ?_
        refine V_getR (k2 := 98) flX12_19 rfl rfl (by decide) dX12_takeSee_38 ?_
        refine V_iload_n dX12_takeSee_41 rfl rfl ?_
        obtain ⟨r20, h⟩ := h
        refine V_iald (f := (σ12 98 z12)) (rfl : shp[98]? = some (1, 16, 0)) r20 (rfl) dX12_takeSee_42 ?_
        obtain ⟨r21, h⟩ := h
        refine V_if_ge (tgt := 50) dX12_takeSee_43 rfl r21 (fun q => ?_) (fun q => ?_)
        · replace h := h.1 q
          refine V_iconst dX12_takeSee_50 ?_
          refine V_bipush dX12_takeSee_51 (by decide) ?_
          refine V_aload_n dX12_takeSee_53 rfl rfl ?_
          refine V_getI (f := (σ12 94 16)) flX12_169 rfl (rfl) (by decide) dX12_takeSee_54 ?_
          refine V_callV (av := [vi 0, vi 6, vi (σ12 94 16)]) (stk := []) cvX12_184 rfl rfl rfl (by decide) (by simp [ctg]) dX12_takeSee_57 h ?_
          rintro _ σ13 ⟨z13, rfl, h⟩
          obtain ⟨r22, h⟩ := h
          refine V_if_eq (tgt := 115) dX12_takeSee_60 rfl r22 (fun q => ?_) (fun q => ?_)
          · replace h := h.1 q
            exact V_return (stk := []) rfl dX12_takeSee_115 h
          · replace h := h.2 q
            refine V_aload_n dX12_takeSee_63 rfl rfl ?_
            refine V_callV (av := []) (stk := []) cvX12_213 rfl rfl rfl (by decide) (by simp [ctg]) dX12_takeSee_64 h ?_
            rintro _ σ14 ⟨z14, rfl, h⟩
            refine V_istore_n (L' := [some (vr 94), some (vi x1), some (vi z12), some (vi z14)]) dX12_takeSee_67 rfl (by decide) rfl ?_
            refine V_aload_n dX12_takeSee_68 rfl rfl ?_
            refine V_getI (f := (σ14 94 18)) flX12_158 rfl (rfl) (by decide) dX12_takeSee_69 ?_
            obtain ⟨r23, h⟩ := h
            refine V_if_ne (tgt := 115) dX12_takeSee_72 rfl r23 (fun q => ?_) (fun q => ?_)
            · replace h := h.1 q
              exact V_return (stk := []) rfl dX12_takeSee_115 h
            · replace h := h.2 q
              refine V_aload_n dX12_takeSee_75 rfl rfl ?_
              refine V_iload_n dX12_takeSee_76 rfl rfl ?_
              refine V_iload_n dX12_takeSee_77 rfl rfl ?_
              obtain ⟨r24, h⟩ := h
              obtain ⟨r25, h⟩ := h
              refine V_icmp_eq (tgt := 85) dX12_takeSee_78 rfl r24 r25 (fun q => ?_) (fun q => ?_)
              · replace h := h.1 q
                refine V_iconst dX12_takeSee_85 ?_
                refine V_bipush dX12_takeSee_86 (by decide) ?_
                refine V_aload_n dX12_takeSee_88 rfl rfl ?_
                refine V_getI (f := (σ14 94 16)) flX12_169 rfl (rfl) (by decide) dX12_takeSee_89 ?_
                refine V_callV (av := [vi 0, vi 6, vi (σ14 94 16)]) (stk := []) cvX12_184 rfl rfl rfl (by decide) (by simp [ctg]) dX12_takeSee_92 h ?_
                rintro _ σ15 ⟨z15, rfl, h⟩
                obtain ⟨r26, h⟩ := h
                refine V_if_eq (tgt := 115) dX12_takeSee_95 rfl r26 (fun q => ?_) (fun q => ?_)
                · replace h := h.1 q
                  exact V_return (stk := []) rfl dX12_takeSee_115 h
                · replace h := h.2 q
                  refine V_aload_n dX12_takeSee_98 rfl rfl ?_
                  refine V_getR (k2 := 98) flX12_19 rfl rfl (by decide) dX12_takeSee_99 ?_
                  refine V_iload_n dX12_takeSee_102 rfl rfl ?_
                  refine V_iload_n dX12_takeSee_103 rfl rfl ?_
                  refine V_iast (rfl : shp[98]? = some (1, 16, 0)) r20 dX12_takeSee_104 ?_
                  refine V_aload_n dX12_takeSee_105 rfl rfl ?_
                  refine V_dup dX12_takeSee_106 trivial ?_
                  refine V_getI (f := (σ15 94 20)) flX12_231 rfl (up_o (by omega)) (by decide) dX12_takeSee_107 ?_
                  refine V_iconst dX12_takeSee_110 ?_
                  refine V_iadd dX12_takeSee_111 ?_
                  refine V_putI flX12_231 rfl (by decide) dX12_takeSee_112 ?_
                  exact V_return (stk := []) rfl dX12_takeSee_115 h
              · replace h := h.2 q
                refine V_iconst dX12_takeSee_81 ?_
                refine V_goto (tgt := 86) dX12_takeSee_82 rfl ?_
                refine V_bipush dX12_takeSee_86 (by decide) ?_
                refine V_aload_n dX12_takeSee_88 rfl rfl ?_
                refine V_getI (f := (σ14 94 16)) flX12_169 rfl (rfl) (by decide) dX12_takeSee_89 ?_
                refine V_callV (av := [vi 1, vi 6, vi (σ14 94 16)]) (stk := []) cvX12_184 rfl rfl rfl (by decide) (by simp [ctg]) dX12_takeSee_92 h ?_
                rintro _ σ16 ⟨z16, rfl, h⟩
                obtain ⟨r27, h⟩ := h
                refine V_if_eq (tgt := 115) dX12_takeSee_95 rfl r27 (fun q => ?_) (fun q => ?_)
                · replace h := h.1 q
                  exact V_return (stk := []) rfl dX12_takeSee_115 h
                · replace h := h.2 q
                  refine V_aload_n dX12_takeSee_98 rfl rfl ?_
                  refine V_getR (k2 := 98) flX12_19 rfl rfl (by decide) dX12_takeSee_99 ?_
                  refine V_iload_n dX12_takeSee_102 rfl rfl ?_
                  refine V_iload_n dX12_takeSee_103 rfl rfl ?_
                  refine V_iast (rfl : shp[98]? = some (1, 16, 0)) r20 dX12_takeSee_104 ?_
                  refine V_aload_n dX12_takeSee_105 rfl rfl ?_
                  refine V_dup dX12_takeSee_106 trivial ?_
                  refine V_getI (f := (σ16 94 20)) flX12_231 rfl (up_o (by omega)) (by decide) dX12_takeSee_107 ?_
                  refine V_iconst dX12_takeSee_110 ?_
                  refine V_iadd dX12_takeSee_111 ?_
                  refine V_putI flX12_231 rfl (by decide) dX12_takeSee_112 ?_
                  exact V_return (stk := []) rfl dX12_takeSee_115 h
        · replace h := h.2 q
          refine V_iconst dX12_takeSee_46 ?_
          refine V_goto (tgt := 51) dX12_takeSee_47 rfl ?_
          refine V_bipush dX12_takeSee_51 (by decide) ?_
          refine V_aload_n dX12_takeSee_53 rfl rfl ?_
          refine V_getI (f := (σ12 94 16)) flX12_169 rfl (rfl) (by decide) dX12_takeSee_54 ?_
          refine V_callV (av := [vi 1, vi 6, vi (σ12 94 16)]) (stk := []) cvX12_184 rfl rfl rfl (by decide) (by simp [ctg]) dX12_takeSee_57 h ?_
          rintro _ σ17 ⟨z17, rfl, h⟩
          obtain ⟨r28, h⟩ := h
          refine V_if_eq (tgt := 115) dX12_takeSee_60 rfl r28 (fun q => ?_) (fun q => ?_)
          · replace h := h.1 q
            exact V_return (stk := []) rfl dX12_takeSee_115 h
          · replace h := h.2 q
            refine V_aload_n dX12_takeSee_63 rfl rfl ?_
            refine V_callV (av := []) (stk := []) cvX12_213 rfl rfl rfl (by decide) (by simp [ctg]) dX12_takeSee_64 h ?_
            rintro _ σ18 ⟨z18, rfl, h⟩
            refine V_istore_n (L' := [some (vr 94), some (vi x1), some (vi z12), some (vi z18)]) dX12_takeSee_67 rfl (by decide) rfl ?_
            refine V_aload_n dX12_takeSee_68 rfl rfl ?_
            refine V_getI (f := (σ18 94 18)) flX12_158 rfl (rfl) (by decide) dX12_takeSee_69 ?_
            obtain ⟨r29, h⟩ := h
            refine V_if_ne (tgt := 115) dX12_takeSee_72 rfl r29 (fun q => ?_) (fun q => ?_)
            · replace h := h.1 q
              exact V_return (stk := []) rfl dX12_takeSee_115 h
            · replace h := h.2 q
              refine V_aload_n dX12_takeSee_75 rfl rfl ?_
              refine V_iload_n dX12_takeSee_76 rfl rfl ?_
              refine V_iload_n dX12_takeSee_77 rfl rfl ?_
              obtain ⟨r30, h⟩ := h
              obtain ⟨r31, h⟩ := h
              refine V_icmp_eq (tgt := 85) dX12_takeSee_78 rfl r30 r31 (fun q => ?_) (fun q => ?_)
              · replace h := h.1 q
                refine V_iconst dX12_takeSee_85 ?_
                refine V_bipush dX12_takeSee_86 (by decide) ?_
                refine V_aload_n dX12_takeSee_88 rfl rfl ?_
                refine V_getI (f := (σ18 94 16)) flX12_169 rfl (rfl) (by decide) dX12_takeSee_89 ?_
                refine V_callV (av := [vi 0, vi 6, vi (σ18 94 16)]) (stk := []) cvX12_184 rfl rfl rfl (by decide) (by simp [ctg]) dX12_takeSee_92 h ?_
                rintro _ σ19 ⟨z19, rfl, h⟩
                obtain ⟨r32, h⟩ := h
                refine V_if_eq (tgt := 115) dX12_takeSee_95 rfl r32 (fun q => ?_) (fun q => ?_)
                · replace h := h.1 q
                  exact V_return (stk := []) rfl dX12_takeSee_115 h
                · replace h := h.2 q
                  refine V_aload_n dX12_takeSee_98 rfl rfl ?_
                  refine V_getR (k2 := 98) flX12_19 rfl rfl (by decide) dX12_takeSee_99 ?_
                  refine V_iload_n dX12_takeSee_102 rfl rfl ?_
                  refine V_iload_n dX12_takeSee_103 rfl rfl ?_
                  refine V_iast (rfl : shp[98]? = some (1, 16, 0)) r20 dX12_takeSee_104 ?_
                  refine V_aload_n dX12_takeSee_105 rfl rfl ?_
                  refine V_dup dX12_takeSee_106 trivial ?_
                  refine V_getI (f := (σ19 94 20)) flX12_231 rfl (up_o (by omega)) (by decide) dX12_takeSee_107 ?_
                  refine V_iconst dX12_takeSee_110 ?_
                  refine V_iadd dX12_takeSee_111 ?_
                  refine V_putI flX12_231 rfl (by decide) dX12_takeSee_112 ?_
                  exact V_return (stk := []) rfl dX12_takeSee_115 h
              · replace h := h.2 q
                refine V_iconst dX12_takeSee_81 ?_
                refine V_goto (tgt := 86) dX12_takeSee_82 rfl ?_
                refine V_bipush dX12_takeSee_86 (by decide) ?_
                refine V_aload_n dX12_takeSee_88 rfl rfl ?_
                refine V_getI (f := (σ18 94 16)) flX12_169 rfl (rfl) (by decide) dX12_takeSee_89 ?_
                refine V_callV (av := [vi 1, vi 6, vi (σ18 94 16)]) (stk := []) cvX12_184 rfl rfl rfl (by decide) (by simp [ctg]) dX12_takeSee_92 h ?_
                rintro _ σ20 ⟨z20, rfl, h⟩
                obtain ⟨r33, h⟩ := h
                refine V_if_eq (tgt := 115) dX12_takeSee_95 rfl r33 (fun q => ?_) (fun q => ?_)
                · replace h := h.1 q
                  exact V_return (stk := []) rfl dX12_takeSee_115 h
                · replace h := h.2 q
                  refine V_aload_n dX12_takeSee_98 rfl rfl ?_
                  refine V_getR (k2 := 98) flX12_19 rfl rfl (by decide) dX12_takeSee_99 ?_
                  refine V_iload_n dX12_takeSee_102 rfl rfl ?_
                  refine V_iload_n dX12_takeSee_103 rfl rfl ?_
                  refine V_iast (rfl : shp[98]? = some (1, 16, 0)) r20 dX12_takeSee_104 ?_
                  refine V_aload_n dX12_takeSee_105 rfl rfl ?_
                  refine V_dup dX12_takeSee_106 trivial ?_
                  refine V_getI (f := (σ20 94 20)) flX12_231 rfl (up_o (by omega)) (by decide) dX12_takeSee_107 ?_
                  refine V_iconst dX12_takeSee_110 ?_
                  refine V_iadd dX12_takeSee_111 ?_
                  refine V_putI flX12_231 rfl (by decide) dX12_takeSee_112 ?_
                  exact V_return (stk := []) rfl dX12_takeSee_115 h
    · replace h := h.2 q
      exact V_return (stk := []) rfl dX12_takeSee_23 h

set_option maxRecDepth 100000 in
theorem BX12_takeAlso_0 {σ : Sg} {post : Po} {x1 : Int} 
  (h : (rng (σ 94 21)) ∧ ((8 ≤ (σ 94 21) → Cl mX12_want [vr 94, vi 0, vi 5, vi x1] σ (pI fun z1 σ1 => (rng z1) ∧ ((¬ z1 = 0 → Cl mX12_takeHead [vr 94] σ1 (pI fun z2 σ2 => (rng (σ2 94 18)) ∧ ((¬ (σ2 94 18) = 0 → (¬ (σ2 94 18) = 0 → post none σ2) ∧ ((σ2 94 18) = 0 → (rng z2) ∧ ((0 = z2 → Cl mX12_want [vr 94, vi 0, vi 6, vi (σ2 94 16)] σ2 (pI fun z3 σ3 => (rng z3) ∧ ((z3 = 0 → post none σ3) ∧ (¬ z3 = 0 → (0 ≤ z2 ∧ z2 < 16) ∧ (post none (up (up σ3 99 z2 (iOr (σ3 99 z2) (iShl 1 0))) 94 21 ((σ3 94 21) + 1))))))) ∧ (¬ 0 = z2 → (0 ≤ z2 ∧ z2 < 16) ∧ (Cl mX12_has [vi (σ2 99 z2), vi 0] σ2 (pI fun z4 σ4 => (rng z4) ∧ ((¬ z4 = 0 → Cl mX12_want [vr 94, vi 0, vi 6, vi (σ4 94 16)] σ4 (pI fun z5 σ5 => (rng z5) ∧ ((z5 = 0 → post none σ5) ∧ (¬ z5 = 0 → post none (up (up σ5 99 z2 (iOr (σ5 99 z2) (iShl 1 0))) 94 21 ((σ5 94 21) + 1)))))) ∧ (z4 = 0 → Cl mX12_want [vr 94, vi 1, vi 6, vi (σ4 94 16)] σ4 (pI fun z6 σ6 => (rng z6) ∧ ((z6 = 0 → post none σ6) ∧ (¬ z6 = 0 → post none (up (up σ6 99 z2 (iOr (σ6 99 z2) (iShl 1 0))) 94 21 ((σ6 94 21) + 1))))))))))))) ∧ ((σ2 94 18) = 0 → Cl mX12_takeHead [vr 94] σ2 (pI fun z7 σ7 => (rng (σ7 94 18)) ∧ ((¬ (σ7 94 18) = 0 → post none σ7) ∧ ((σ7 94 18) = 0 → (rng z7) ∧ ((rng z2) ∧ ((z7 = z2 → Cl mX12_want [vr 94, vi 0, vi 6, vi (σ7 94 16)] σ7 (pI fun z8 σ8 => (rng z8) ∧ ((z8 = 0 → post none σ8) ∧ (¬ z8 = 0 → (0 ≤ z2 ∧ z2 < 16) ∧ (post none (up (up σ8 99 z2 (iOr (σ8 99 z2) (iShl 1 z7))) 94 21 ((σ8 94 21) + 1))))))) ∧ (¬ z7 = z2 → (0 ≤ z2 ∧ z2 < 16) ∧ (Cl mX12_has [vi (σ7 99 z2), vi z7] σ7 (pI fun z9 σ9 => (rng z9) ∧ ((¬ z9 = 0 → Cl mX12_want [vr 94, vi 0, vi 6, vi (σ9 94 16)] σ9 (pI fun z10 σ10 => (rng z10) ∧ ((z10 = 0 → post none σ10) ∧ (¬ z10 = 0 → post none (up (up σ10 99 z2 (iOr (σ10 99 z2) (iShl 1 z7))) 94 21 ((σ10 94 21) + 1)))))) ∧ (z9 = 0 → Cl mX12_want [vr 94, vi 1, vi 6, vi (σ9 94 16)] σ9 (pI fun z11 σ11 => (rng z11) ∧ ((z11 = 0 → post none σ11) ∧ (¬ z11 = 0 → post none (up (up σ11 99 z2 (iOr (σ11 99 z2) (iShl 1 z7))) 94 21 ((σ11 94 21) + 1))))))))))))))))))) ∧ (z1 = 0 → post none σ1)))) ∧ (¬ 8 ≤ (σ 94 21) → Cl mX12_want [vr 94, vi 1, vi 5, vi x1] σ (pI fun z12 σ12 => (rng z12) ∧ ((¬ z12 = 0 → Cl mX12_takeHead [vr 94] σ12 (pI fun z13 σ13 => (rng (σ13 94 18)) ∧ ((¬ (σ13 94 18) = 0 → (¬ (σ13 94 18) = 0 → post none σ13) ∧ ((σ13 94 18) = 0 → (rng z13) ∧ ((0 = z13 → Cl mX12_want [vr 94, vi 0, vi 6, vi (σ13 94 16)] σ13 (pI fun z14 σ14 => (rng z14) ∧ ((z14 = 0 → post none σ14) ∧ (¬ z14 = 0 → (0 ≤ z13 ∧ z13 < 16) ∧ (post none (up (up σ14 99 z13 (iOr (σ14 99 z13) (iShl 1 0))) 94 21 ((σ14 94 21) + 1))))))) ∧ (¬ 0 = z13 → (0 ≤ z13 ∧ z13 < 16) ∧ (Cl mX12_has [vi (σ13 99 z13), vi 0] σ13 (pI fun z15 σ15 => (rng z15) ∧ ((¬ z15 = 0 → Cl mX12_want [vr 94, vi 0, vi 6, vi (σ15 94 16)] σ15 (pI fun z16 σ16 => (rng z16) ∧ ((z16 = 0 → post none σ16) ∧ (¬ z16 = 0 → post none (up (up σ16 99 z13 (iOr (σ16 99 z13) (iShl 1 0))) 94 21 ((σ16 94 21) + 1)))))) ∧ (z15 = 0 → Cl mX12_want [vr 94, vi 1, vi 6, vi (σ15 94 16)] σ15 (pI fun z17 σ17 => (rng z17) ∧ ((z17 = 0 → post none σ17) ∧ (¬ z17 = 0 → post none (up (up σ17 99 z13 (iOr (σ17 99 z13) (iShl 1 0))) 94 21 ((σ17 94 21) + 1))))))))))))) ∧ ((σ13 94 18) = 0 → Cl mX12_takeHead [vr 94] σ13 (pI fun z18 σ18 => (rng (σ18 94 18)) ∧ ((¬ (σ18 94 18) = 0 → post none σ18) ∧ ((σ18 94 18) = 0 → (rng z18) ∧ ((rng z13) ∧ ((z18 = z13 → Cl mX12_want [vr 94, vi 0, vi 6, vi (σ18 94 16)] σ18 (pI fun z19 σ19 => (rng z19) ∧ ((z19 = 0 → post none σ19) ∧ (¬ z19 = 0 → (0 ≤ z13 ∧ z13 < 16) ∧ (post none (up (up σ19 99 z13 (iOr (σ19 99 z13) (iShl 1 z18))) 94 21 ((σ19 94 21) + 1))))))) ∧ (¬ z18 = z13 → (0 ≤ z13 ∧ z13 < 16) ∧ (Cl mX12_has [vi (σ18 99 z13), vi z18] σ18 (pI fun z20 σ20 => (rng z20) ∧ ((¬ z20 = 0 → Cl mX12_want [vr 94, vi 0, vi 6, vi (σ20 94 16)] σ20 (pI fun z21 σ21 => (rng z21) ∧ ((z21 = 0 → post none σ21) ∧ (¬ z21 = 0 → post none (up (up σ21 99 z13 (iOr (σ21 99 z13) (iShl 1 z18))) 94 21 ((σ21 94 21) + 1)))))) ∧ (z20 = 0 → Cl mX12_want [vr 94, vi 1, vi 6, vi (σ20 94 16)] σ20 (pI fun z22 σ22 => (rng z22) ∧ ((z22 = 0 → post none σ22) ∧ (¬ z22 = 0 → post none (up (up σ22 99 z13 (iOr (σ22 99 z13) (iShl 1 z18))) 94 21 ((σ22 94 21) + 1))))))))))))))))))) ∧ (z12 = 0 → post none σ12)))))) :
  V mX12_takeAlso 0 [some (vr 94), some (vi x1), none, none] [] σ post := by
  refine V_aload_n dX12_takeAlso_0 rfl rfl ?_
  refine V_aload_n dX12_takeAlso_1 rfl rfl ?_
  refine V_getI (f := (σ 94 21)) flX12_234 rfl (rfl) (by decide) dX12_takeAlso_2 ?_
  refine V_bipush dX12_takeAlso_5 (by decide) ?_
  obtain ⟨r1, h⟩ := h
  refine V_icmp_ge (tgt := 14) dX12_takeAlso_7 rfl r1 (by decide) (fun q => ?_) (fun q => ?_)
  · replace h := h.1 q
    refine V_iconst dX12_takeAlso_14 ?_
    refine V_iconst dX12_takeAlso_15 ?_
    refine V_iload_n dX12_takeAlso_16 rfl rfl ?_
    refine V_callV (av := [vi 0, vi 5, vi x1]) (stk := []) cvX12_184 rfl rfl rfl (by decide) (by simp [ctg]) dX12_takeAlso_17 h ?_
    rintro _ σ1 ⟨z1, rfl, h⟩
    obtain ⟨r2, h⟩ := h
    refine V_if_ne (tgt := 24) dX12_takeAlso_20 rfl r2 (fun q => ?_) (fun q => ?_)
    · replace h := h.1 q
      refine V_aload_n dX12_takeAlso_24 rfl rfl ?_
      refine V_callV (av := []) (stk := []) cvX12_213 rfl rfl rfl (by decide) (by simp [ctg]) dX12_takeAlso_25 h ?_
      rintro _ σ2 ⟨z2, rfl, h⟩
      refine V_istore_n (L' := [some (vr 94), some (vi x1), some (vi z2), none]) dX12_takeAlso_28 rfl (by decide) rfl ?_
      refine V_aload_n dX12_takeAlso_29 rfl rfl ?_
      refine V_getI (f := (σ2 94 18)) flX12_158 rfl (rfl) (by decide) dX12_takeAlso_30 ?_
      obtain ⟨r3, h⟩ := h
      refine V_if_ne (tgt := 43) dX12_takeAlso_33 rfl r3 (fun q => ?_) (fun q => ?_)
      · replace h := h.1 q
        refine V_iconst dX12_takeAlso_43 ?_
        refine V_istore_n (L' := [some (vr 94), some (vi x1), some (vi z2), some (vi 0)]) dX12_takeAlso_44 rfl (by decide) rfl ?_
        refine V_aload_n dX12_takeAlso_45 rfl rfl ?_
        refine V_getI (f := (σ2 94 18)) flX12_158 rfl (rfl) (by decide) dX12_takeAlso_46 ?_
        refine V_if_ne (tgt := 110) dX12_takeAlso_49 rfl r3 (fun q => ?_) (fun q => ?_)
        · replace h := h.1 q
          exact V_return (stk := []) rfl dX12_takeAlso_110 h
        · replace h := h.2 q
          refine V_aload_n dX12_takeAlso_52 rfl rfl ?_
          refine V_iload_n dX12_takeAlso_53 rfl rfl ?_
          refine V_iload_n dX12_takeAlso_54 rfl rfl ?_
          obtain ⟨r4, h⟩ := h
          refine V_icmp_eq (tgt := 75) dX12_takeAlso_55 rfl (by decide) r4 (fun q => ?_) (fun q => ?_)
          · replace h := h.1 q
            refine V_iconst dX12_takeAlso_75 ?_
            refine V_bipush dX12_takeAlso_76 (by decide) ?_
            refine V_aload_n dX12_takeAlso_78 rfl rfl ?_
            refine V_getI (f := (σ2 94 16)) flX12_169 rfl (rfl) (by decide) dX12_takeAlso_79 ?_
            refine V_callV (av := [vi 0, vi 6, vi (σ2 94 16)]) (stk := []) cvX12_184 rfl rfl rfl (by decide) (by simp [ctg]) dX12_takeAlso_82 h ?_
            rintro _ σ3 ⟨z3, rfl, h⟩
            obtain ⟨r5, h⟩ := h
            refine V_if_eq (tgt := 110) dX12_takeAlso_85 rfl r5 (fun q => ?_) (fun q => ?_)
            · replace h := h.1 q
              exact V_return (stk := []) rfl dX12_takeAlso_110 h
            · replace h := h.2 q
              refine V_aload_n dX12_takeAlso_88 rfl rfl ?_
              refine V_getR (k2 := 99) flX12_22 rfl rfl (by decide) dX12_takeAlso_89 ?_
              refine V_iload_n dX12_takeAlso_92 rfl rfl ?_
              refine V_dup2 dX12_takeAlso_93 trivial trivial ?_
              obtain ⟨r6, h⟩ := h
              refine V_iald (f := (σ3 99 z2)) (rfl : shp[99]? = some (1, 16, 0)) r6 (rfl) dX12_takeAlso_94 ?_
              refine V_iconst dX12_takeAlso_95 ?_
              refine V_iload_n dX12_takeAlso_96 rfl rfl ?_
              refine V_ishl dX12_takeAlso_97 ?_
              refine V_ior dX12_takeAlso_98 ?_
              refine V_iast (rfl : shp[99]? = some (1, 16, 0)) r6 dX12_takeAlso_99 ?_
              refine V_aload_n dX12_takeAlso_100 rfl rfl ?_
              refine V_dup dX12_takeAlso_101 trivial ?_
              refine V_getI (f := (σ3 94 21)) flX12_234 rfl (up_o (by omega)) (by decide) dX12_takeAlso_102 ?_
              refine V_iconst dX12_takeAlso_105 ?_
              refine V_iadd dX12_takeAlso_106 ?_
              refine V_putI flX12_234 rfl (by decide) dX12_takeAlso_107 ?_
              exact V_return (stk := []) rfl dX12_takeAlso_110 h
          · replace h := h.2 q
            refine V_aload_n dX12_takeAlso_58 rfl rfl ?_
            refine V_getR (k2 := 99) flX12_22 rfl rfl (by decide) dX12_takeAlso_59 ?_
            refine V_iload_n dX12_takeAlso_62 rfl rfl ?_
            obtain ⟨r7, h⟩ := h
            refine V_iald (f := (σ2 99 z2)) (rfl : shp[99]? = some (1, 16, 0)) r7 (rfl) dX12_takeAlso_63 ?_
            refine V_iload_n dX12_takeAlso_64 rfl rfl ?_
            refine V_callS (av := [vi (σ2 99 z2), vi 0]) (stk := [vr 94]) cvX12_237 rfl rfl (by decide) (by simp [ctg]) dX12_takeAlso_65 h ?_
            rintro _ σ4 ⟨z4, rfl, h⟩
            obtain ⟨r8, h⟩ := h
            refine V_if_ne (tgt := 75) dX12_takeAlso_68 rfl r8 (fun q => ?_) (fun q => ?_)
            · replace h := h.1 q
              refine V_iconst dX12_takeAlso_75 ?_
              refine V_bipush dX12_takeAlso_76 (by decide) ?_
              refine V_aload_n dX12_takeAlso_78 rfl rfl ?_
              refine V_getI (f := (σ4 94 16)) flX12_169 rfl (rfl) (by decide) dX12_takeAlso_79 ?_
              refine V_callV (av := [vi 0, vi 6, vi (σ4 94 16)]) (stk := []) cvX12_184 rfl rfl rfl (by decide) (by simp [ctg]) dX12_takeAlso_82 h ?_
              rintro _ σ5 ⟨z5, rfl, h⟩
              obtain ⟨r9, h⟩ := h
              refine V_if_eq (tgt := 110) dX12_takeAlso_85 rfl r9 (fun q => ?_) (fun q => ?_)
              · replace h := h.1 q
                exact V_return (stk := []) rfl dX12_takeAlso_110 h
              · replace h := h.2 q
                refine V_aload_n dX12_takeAlso_88 rfl rfl ?_
                refine V_getR (k2 := 99) flX12_22 rfl rfl (by decide) dX12_takeAlso_89 ?_
                refine V_iload_n dX12_takeAlso_92 rfl rfl ?_
                refine V_dup2 dX12_takeAlso_93 trivial trivial ?_
                refine V_iald (f := (σ5 99 z2)) (rfl : shp[99]? = some (1, 16, 0)) r7 (rfl) dX12_takeAlso_94 ?_
                refine V_iconst dX12_takeAlso_95 ?_
                refine V_iload_n dX12_takeAlso_96 rfl rfl ?_
                refine V_ishl dX12_takeAlso_97 ?_
                refine V_ior dX12_takeAlso_98 ?_
                refine V_iast (rfl : shp[99]? = some (1, 16, 0)) r7 dX12_takeAlso_99 ?_
                refine V_aload_n dX12_takeAlso_100 rfl rfl ?_
                refine V_dup dX12_takeAlso_101 trivial ?_
                refine V_getI (f := (σ5 94 21)) flX12_234 rfl (up_o (by omega)) (by decide) dX12_takeAlso_102 ?_
                refine V_iconst dX12_takeAlso_105 ?_
                refine V_iadd dX12_takeAlso_106 ?_
                refine V_putI flX12_234 rfl (by decide) dX12_takeAlso_107 ?_
                exact V_return (stk := []) rfl dX12_takeAlso_110 h
            · replace h := h.2 q
              refine V_iconst dX12_takeAlso_71 ?_
              refine V_goto (tgt := 76) dX12_takeAlso_72 rfl ?_
              refine V_bipush dX12_takeAlso_76 (by decide) ?_
              refine V_aload_n dX12_takeAlso_78 rfl rfl ?_
              refine V_getI (f := (σ4 94 16)) flX12_169 rfl (rfl) (by decide) dX12_takeAlso_79 ?_
              refine V_callV (av := [vi 1, vi 6, vi (σ4 94 16)]) (stk := []) cvX12_184 rfl rfl rfl (by decide) (by simp [ctg]) dX12_takeAlso_82 h ?_
              rintro _ σ6 ⟨z6, rfl, h⟩
              obtain ⟨r10, h⟩ := h
              refine V_if_eq (tgt := 110) dX12_takeAlso_85 rfl r10 (fun q => ?_) (fun q => ?_)
              · replace h := h.1 q
                exact V_return (stk := []) rfl dX12_takeAlso_110 h
              · replace h := h.2 q
                refine V_aload_n dX12_takeAlso_88 rfl rfl ?_
                refine V_getR (k2 := 99) flX12_22 rfl rfl (by decide) dX12_takeAlso_89 ?_
                refine V_iload_n dX12_takeAlso_92 rfl rfl ?_
                refine V_dup2 dX12_takeAlso_93 trivial trivial ?_
                refine V_iald (f := (σ6 99 z2)) (rfl : shp[99]? = some (1, 16, 0)) r7 (rfl) dX12_takeAlso_94 ?_
                refine V_iconst dX12_takeAlso_95 ?_
                refine V_iload_n dX12_takeAlso_96 rfl rfl ?_
                refine V_ishl dX12_takeAlso_97 ?_
                refine V_ior dX12_takeAlso_98 ?_
                refine V_iast (rfl : shp[99]? = some (1, 16, 0)) r7 dX12_takeAlso_99 ?_
                refine V_aload_n dX12_takeAlso_100 rfl rfl ?_
                refine V_dup dX12_takeAlso_101 trivial ?_
                refine V_getI (f := (σ6 94 21)) flX12_234 rfl (up_o (by omega)) (by decide) dX12_takeAlso_102 ?_
                refine V_iconst dX12_takeAlso_105 ?_
                refine V_iadd dX12_takeAlso_106 ?_
                refine V_putI flX12_234 rfl (by decide) dX12_takeAlso_107 ?_
                exact V_return (stk := []) rfl dX12_takeAlso_110 h
      · replace h := h.2 q
        refine V_aload_n dX12_takeAlso_36 rfl rfl ?_
        refine V_callV (av := []) (stk := []) cvX12_213 rfl rfl rfl (by decide) (by simp [ctg]) dX12_takeAlso_37 h ?_
        rintro _ σ7 ⟨z7, rfl, h⟩
        refine V_goto (tgt := 44) dX12_takeAlso_40 rfl ?_
        refine V_istore_n (L' := [some (vr 94), some (vi x1), some (vi z2), some (vi z7)]) dX12_takeAlso_44 rfl (by decide) rfl ?_
        refine V_aload_n dX12_takeAlso_45 rfl rfl ?_
        refine V_getI (f := (σ7 94 18)) flX12_158 rfl (rfl) (by decide) dX12_takeAlso_46 ?_
        obtain ⟨r11, h⟩ := h
        refine V_if_ne (tgt := 110) dX12_takeAlso_49 rfl r11 (fun q => ?_) (fun q => ?_)
        · replace h := h.1 q
          exact V_return (stk := []) rfl dX12_takeAlso_110 h
        · replace h := h.2 q
          refine V_aload_n dX12_takeAlso_52 rfl rfl ?_
          refine V_iload_n dX12_takeAlso_53 rfl rfl ?_
          refine V_iload_n dX12_takeAlso_54 rfl rfl ?_
          obtain ⟨r12, h⟩ := h
          obtain ⟨r13, h⟩ := h
          refine V_icmp_eq (tgt := 75) dX12_takeAlso_55 rfl r12 r13 (fun q => ?_) (fun q => ?_)
          · replace h := h.1 q
            refine V_iconst dX12_takeAlso_75 ?_
            refine V_bipush dX12_takeAlso_76 (by decide) ?_
            refine V_aload_n dX12_takeAlso_78 rfl rfl ?_
            refine V_getI (f := (σ7 94 16)) flX12_169 rfl (rfl) (by decide) dX12_takeAlso_79 ?_
            refine V_callV (av := [vi 0, vi 6, vi (σ7 94 16)]) (stk := []) cvX12_184 rfl rfl rfl (by decide) (by simp [ctg]) dX12_takeAlso_82 h ?_
            rintro _ σ8 ⟨z8, rfl, h⟩
            obtain ⟨r14, h⟩ := h
            refine V_if_eq (tgt := 110) dX12_takeAlso_85 rfl r14 (fun q => ?_) (fun q => ?_)
            · replace h := h.1 q
              exact V_return (stk := []) rfl dX12_takeAlso_110 h
            · replace h := h.2 q
              refine V_aload_n dX12_takeAlso_88 rfl rfl ?_
              refine V_getR (k2 := 99) flX12_22 rfl rfl (by decide) dX12_takeAlso_89 ?_
              refine V_iload_n dX12_takeAlso_92 rfl rfl ?_
              refine V_dup2 dX12_takeAlso_93 trivial trivial ?_
              obtain ⟨r15, h⟩ := h
              refine V_iald (f := (σ8 99 z2)) (rfl : shp[99]? = some (1, 16, 0)) r15 (rfl) dX12_takeAlso_94 ?_
              refine V_iconst dX12_takeAlso_95 ?_
              refine V_iload_n dX12_takeAlso_96 rfl rfl ?_
              refine V_ishl dX12_takeAlso_97 ?_
              refine V_ior dX12_takeAlso_98 ?_
              refine V_iast (rfl : shp[99]? = some (1, 16, 0)) r15 dX12_takeAlso_99 ?_
              refine V_aload_n dX12_takeAlso_100 rfl rfl ?_
              refine V_dup dX12_takeAlso_101 trivial ?_
              refine V_getI (f := (σ8 94 21)) flX12_234 rfl (up_o (by omega)) (by decide) dX12_takeAlso_102 ?_
              refine V_iconst dX12_takeAlso_105 ?_
              refine V_iadd dX12_takeAlso_106 ?_
              refine V_putI flX12_234 rfl (by decide) dX12_takeAlso_107 ?_
              exact V_return (stk := []) rfl dX12_takeAlso_110 h
          · replace h := h.2 q
            refine V_aload_n dX12_takeAlso_58 rfl rfl ?_
            refine V_getR (k2 := 99) flX12_22 rfl rfl (by decide) dX12_takeAlso_59 ?_
            refine V_iload_n dX12_takeAlso_62 rfl rfl ?_
            obtain ⟨r16, h⟩ := h
            refine V_iald (f := (σ7 99 z2)) (rfl : shp[99]? = some (1, 16, 0)) r16 (rfl) dX12_takeAlso_63 ?_
            refine V_iload_n dX12_takeAlso_64 rfl rfl ?_
            refine V_callS (av := [vi (σ7 99 z2), vi z7]) (stk := [vr 94]) cvX12_237 rfl rfl (by decide) (by simp [ctg]) dX12_takeAlso_65 h ?_
            rintro _ σ9 ⟨z9, rfl, h⟩
            obtain ⟨r17, h⟩ := h
            refine V_if_ne (tgt := 75) dX12_takeAlso_68 rfl r17 (fun q => ?_) (fun q => ?_)
            · replace h := h.1 q
              refine V_iconst dX12_takeAlso_75 ?_
              refine V_bipush dX12_takeAlso_76 (by decide) ?_
              refine V_aload_n dX12_takeAlso_78 rfl rfl ?_
              refine V_getI (f := (σ9 94 16)) flX12_169 rfl (rfl) (by decide) dX12_takeAlso_79 ?_
              refine V_callV (av := [vi 0, vi 6, vi (σ9 94 16)]) (stk := []) cvX12_184 rfl rfl rfl (by decide) (by simp [ctg]) dX12_takeAlso_82 h ?_
              rintro _ σ10 ⟨z10, rfl, h⟩
              obtain ⟨r18, h⟩ := h
              refine V_if_eq (tgt := 110) dX12_takeAlso_85 rfl r18 (fun q => ?_) (fun q => ?_)
              · replace h := h.1 q
                exact V_return (stk := []) rfl dX12_takeAlso_110 h
              · replace h := h.2 q
                refine V_aload_n dX12_takeAlso_88 rfl rfl ?_
                refine V_getR (k2 := 99) flX12_22 rfl rfl (by decide) dX12_takeAlso_89 ?_
                refine V_iload_n dX12_takeAlso_92 rfl rfl ?_
                refine V_dup2 dX12_takeAlso_93 trivial trivial ?_
                refine V_iald (f := (σ10 99 z2)) (rfl : shp[99]? = some (1, 16, 0)) r16 (rfl) dX12_takeAlso_94 ?_
                refine V_iconst dX12_takeAlso_95 ?_
                refine V_iload_n dX12_takeAlso_96 rfl rfl ?_
                refine V_ishl dX12_takeAlso_97 ?_
                refine V_ior dX12_takeAlso_98 ?_
                refine V_iast (rfl : shp[99]? = some (1, 16, 0)) r16 dX12_takeAlso_99 ?_
                refine V_aload_n dX12_takeAlso_100 rfl rfl ?_
                refine V_dup dX12_takeAlso_101 trivial ?_
                refine V_getI (f := (σ10 94 21)) flX12_234 rfl (up_o (by omega)) (by decide) dX12_takeAlso_102 ?_
                refine V_iconst dX12_takeAlso_105 ?_
                refine V_iadd dX12_takeAlso_106 ?_
                refine V_putI flX12_234 rfl (by decide) dX12_takeAlso_107 ?_
                exact V_return (stk := []) rfl dX12_takeAlso_110 h
            · replace h := h.2 q
              refine V_iconst dX12_takeAlso_71 ?_
              refine V_goto (tgt := 76) dX12_takeAlso_72 rfl ?_
              refine V_bipush dX12_takeAlso_76 (by decide) ?_
              refine V_aload_n dX12_takeAlso_78 rfl rfl ?_
              refine V_getI (f := (σ9 94 16)) flX12_169 rfl (rfl) (by decide) dX12_takeAlso_79 ?_
              refine V_callV (av := [vi 1, vi 6, vi (σ9 94 16)]) (stk := []) cvX12_184 rfl rfl rfl (by decide) (by simp [ctg]) dX12_takeAlso_82 h ?_
              rintro _ σ11 ⟨z11, rfl, h⟩
              obtain ⟨r19, h⟩ := h
              refine V_if_eq (tgt := 110) dX12_takeAlso_85 rfl r19 (fun q => ?_) (fun q => ?_)
              · replace h := h.1 q
                exact V_return (stk := []) rfl dX12_takeAlso_110 h
              · replace h := h.2 q
                refine V_aload_n dX12_takeAlso_88 rfl rfl ?_
                refine V_getR (k2 := 99) flX12_22 rfl rfl (by decide) dX12_takeAlso_89 ?_
                refine V_iload_n dX12_takeAlso_92 rfl rfl ?_
                refine V_dup2 dX12_takeAlso_93 trivial trivial ?_
                refine V_iald (f := (σ11 99 z2)) (rfl : shp[99]? = some (1, 16, 0)) r16 (rfl) dX12_takeAlso_94 ?_
                refine V_iconst dX12_takeAlso_95 ?_
                refine V_iload_n dX12_takeAlso_96 rfl rfl ?_
                refine V_ishl dX12_takeAlso_97 ?_
                refine V_ior dX12_takeAlso_98 ?_
                refine V_iast (rfl : shp[99]? = some (1, 16, 0)) r16 dX12_takeAlso_99 ?_
                refine V_aload_n dX12_takeAlso_100 rfl rfl ?_
                refine V_dup dX12_takeAlso_101 trivial ?_
                refine V_getI (f := (σ11 94 21)) flX12_234 rfl (up_o (by omega)) (by decide) dX12_takeAlso_102 ?_
                refine V_iconst dX12_takeAlso_105 ?_
                refine V_iadd dX12_takeAlso_106 ?_
                refine V_putI flX12_234 rfl (by decide) dX12_takeAlso_107 ?_
                exact V_return (stk := []) rfl dX12_takeAlso_110 h
    · replace h := h.2 q
      exact V_return (stk := []) rfl dX12_takeAlso_23 h
  · replace h := h.2 q
    refine V_iconst dX12_takeAlso_10 ?_
    refine V_goto (tgt := 15) dX12_takeAlso_11 rfl ?_
    refine V_iconst dX12_takeAlso_15 ?_
    refine V_iload_n dX12_takeAlso_16 rfl rfl ?_
    refine V_callV (av := [vi 1, vi 5, vi x1]) (stk := []) cvX12_184 rfl rfl rfl (by decide) (by simp [ctg]) dX12_takeAlso_17 h ?_
    rintro _ σ12 ⟨z12, rfl, h⟩
    obtain ⟨r20, h⟩ := h
    refine V_if_ne (tgt := 24) dX12_takeAlso_20 rfl r20 (fun q => ?_) (fun q => ?_)
    · replace h := h.1 q
      refine V_aload_n dX12_takeAlso_24 rfl rfl ?_
      refine V_callV (av := []) (stk := []) cvX12_213 rfl rfl rfl (by decide) (by simp [ctg]) dX12_takeAlso_25 h ?_
      rintro _ σ13 ⟨z13, rfl, h⟩
      refine V_istore_n (L' := [some (vr 94), some (vi x1), some (vi z13), none]) dX12_takeAlso_28 rfl (by decide) rfl ?_
      refine V_aload_n dX12_takeAlso_29 rfl rfl ?_
      refine V_getI (f := (σ13 94 18)) flX12_158 rfl (rfl) (by decide) dX12_takeAlso_30 ?_
      obtain ⟨r21, h⟩ := h
      refine V_if_ne (tgt := 43) dX12_takeAlso_33 rfl r21 (fun q => ?_) (fun q => ?_)
      · replace h := h.1 q
        refine V_iconst dX12_takeAlso_43 ?_
        refine V_istore_n (L' := [some (vr 94), some (vi x1), some (vi z13), some (vi 0)]) dX12_takeAlso_44 rfl (by decide) rfl ?_
        refine V_aload_n dX12_takeAlso_45 rfl rfl ?_
        refine V_getI (f := (σ13 94 18)) flX12_158 rfl (rfl) (by decide) dX12_takeAlso_46 ?_
        refine V_if_ne (tgt := 110) dX12_takeAlso_49 rfl r21 (fun q => ?_) (fun q => ?_)
        · replace h := h.1 q
          exact V_return (stk := []) rfl dX12_takeAlso_110 h
        · replace h := h.2 q
          refine V_aload_n dX12_takeAlso_52 rfl rfl ?_
          refine V_iload_n dX12_takeAlso_53 rfl rfl ?_
          refine V_iload_n dX12_takeAlso_54 rfl rfl ?_
          obtain ⟨r22, h⟩ := h
          refine V_icmp_eq (tgt := 75) dX12_takeAlso_55 rfl (by decide) r22 (fun q => ?_) (fun q => ?_)
          · replace h := h.1 q
            refine V_iconst dX12_takeAlso_75 ?_
            refine V_bipush dX12_takeAlso_76 (by decide) ?_
            refine V_aload_n dX12_takeAlso_78 rfl rfl ?_
            refine V_getI (f := (σ13 94 16)) flX12_169 rfl (rfl) (by decide) dX12_takeAlso_79 ?_
            refine V_callV (av := [vi 0, vi 6, vi (σ13 94 16)]) (stk := []) cvX12_184 rfl rfl rfl (by decide) (by simp [ctg]) dX12_takeAlso_82 h ?_
            rintro _ σ14 ⟨z14, rfl, h⟩
            obtain ⟨r23, h⟩ := h
            refine V_if_eq (tgt := 110) dX12_takeAlso_85 rfl r23 (fun q => ?_) (fun q => ?_)
            · replace h := h.1 q
              exact V_return (stk := []) rfl dX12_takeAlso_110 h
            · replace h := h.2 q
              refine V_aload_n dX12_takeAlso_88 rfl rfl ?_
              refine V_getR (k2 := 99) flX12_22 rfl rfl (by decide) dX12_takeAlso_89 ?_
              refine V_iload_n dX12_takeAlso_92 rfl rfl ?_
              refine V_dup2 dX12_takeAlso_93 trivial trivial ?_
              obtain ⟨r24, h⟩ := h
              refine V_iald (f := (σ14 99 z13)) (rfl : shp[99]? = some (1, 16, 0)) r24 (rfl) dX12_takeAlso_94 ?_
              refine V_iconst dX12_takeAlso_95 ?_
              refine V_iload_n dX12_takeAlso_96 rfl rfl ?_
              refine V_ishl dX12_takeAlso_97 ?_
              refine V_ior dX12_takeAlso_98 ?_
              refine V_iast (rfl : shp[99]? = some (1, 16, 0)) r24 dX12_takeAlso_99 ?_
              refine V_aload_n dX12_takeAlso_100 rfl rfl ?_
              refine V_dup dX12_takeAlso_101 trivial ?_
              refine V_getI (f := (σ14 94 21)) flX12_234 rfl (up_o (by omega)) (by decide) dX12_takeAlso_102 ?_
              refine V_iconst dX12_takeAlso_105 ?_
              refine V_iadd dX12_takeAlso_106 ?_
              refine V_putI flX12_234 rfl (by decide) dX12_takeAlso_107 ?_
              exact V_return (stk := []) rfl dX12_takeAlso_110 h
          · replace h := h.2 q
            refine V_aload_n dX12_takeAlso_58 rfl rfl ?_
            refine V_getR (k2 := 99) flX12_22 rfl rfl (by decide) dX12_takeAlso_59 ?_
            refine V_iload_n dX12_takeAlso_62 rfl rfl ?_
            obtain ⟨r25, h⟩ := h
            refine V_iald (f := (σ13 99 z13)) (rfl : shp[99]? = some (1, 16, 0)) r25 (rfl) dX12_takeAlso_63 ?_
            refine V_iload_n dX12_takeAlso_64 rfl rfl ?_
            refine V_callS (av := [vi (σ13 99 z13), vi 0]) (stk := [vr 94]) cvX12_237 rfl rfl (by decide) (by simp [ctg]) dX12_takeAlso_65 h ?_
            rintro _ σ15 ⟨z15, rfl, h⟩
            obtain ⟨r26, h⟩ := h
            refine V_if_ne (tgt := 75) dX12_takeAlso_68 rfl r26 (fun q => ?_) (fun q => ?_)
            · replace h := h.1 q
              refine V_iconst dX12_takeAlso_75 ?_
              refine V_bipush dX12_takeAlso_76 (by decide) ?_
              refine V_aload_n dX12_takeAlso_78 rfl rfl ?_
              refine V_getI (f := (σ15 94 16)) flX12_169 rfl (rfl) (by decide) dX12_takeAlso_79 ?_
              refine V_callV (av := [vi 0, vi 6, vi (σ15 94 16)]) (stk := []) cvX12_184 rfl rfl rfl (by decide) (by simp [ctg]) dX12_takeAlso_82 h ?_
              rintro _ σ16 ⟨z16, rfl, h⟩
              obtain ⟨r27, h⟩ := h
              refine V_if_eq (tgt := 110) dX12_takeAlso_85 rfl r27 (fun q => ?_) (fun q => ?_)
              · replace h := h.1 q
                exact V_return (stk := []) rfl dX12_takeAlso_110 h
              · replace h := h.2 q
                refine V_aload_n dX12_takeAlso_88 rfl rfl ?_
                refine V_getR (k2 := 99) flX12_22 rfl rfl (by decide) dX12_takeAlso_89 ?_
                refine V_iload_n dX12_takeAlso_92 rfl rfl ?_
                refine V_dup2 dX12_takeAlso_93 trivial trivial ?_
                refine V_iald (f := (σ16 99 z13)) (rfl : shp[99]? = some (1, 16, 0)) r25 (rfl) dX12_takeAlso_94 ?_
                refine V_iconst dX12_takeAlso_95 ?_
                refine V_iload_n dX12_takeAlso_96 rfl rfl ?_
                refine V_ishl dX12_takeAlso_97 ?_
                refine V_ior dX12_takeAlso_98 ?_
                refine V_iast (rfl : shp[99]? = some (1, 16, 0)) r25 dX12_takeAlso_99 ?_
                refine V_aload_n dX12_takeAlso_100 rfl rfl ?_
                refine V_dup dX12_takeAlso_101 trivial ?_
                refine V_getI (f := (σ16 94 21)) flX12_234 rfl (up_o (by omega)) (by decide) dX12_takeAlso_102 ?_
                refine V_iconst dX12_takeAlso_105 ?_
                refine V_iadd dX12_takeAlso_106 ?_
                refine V_putI flX12_234 rfl (by decide) dX12_takeAlso_107 ?_
                exact V_return (stk := []) rfl dX12_takeAlso_110 h
            · replace h := h.2 q
              refine V_iconst dX12_takeAlso_71 ?_
              refine V_goto (tgt := 76) dX12_takeAlso_72 rfl ?_
              refine V_bipush dX12_takeAlso_76 (by decide) ?_
              refine V_aload_n dX12_takeAlso_78 rfl rfl ?_
              refine V_getI (f := (σ15 94 16)) flX12_169 rfl (rfl) (by decide) dX12_takeAlso_79 ?_
              refine V_callV (av := [vi 1, vi 6, vi (σ15 94 16)]) (stk := []) cvX12_184 rfl rfl rfl (by decide) (by simp [ctg]) dX12_takeAlso_82 h ?_
              rintro _ σ17 ⟨z17, rfl, h⟩
              obtain ⟨r28, h⟩ := h
              refine V_if_eq (tgt := 110) dX12_takeAlso_85 rfl r28 (fun q => ?_) (fun q => ?_)
              · replace h := h.1 q
                exact V_return (stk := []) rfl dX12_takeAlso_110 h
              · replace h := h.2 q
                refine V_aload_n dX12_takeAlso_88 rfl rfl ?_
                refine V_getR (k2 := 99) flX12_22 rfl rfl (by decide) dX12_takeAlso_89 ?_
                refine V_iload_n dX12_takeAlso_92 rfl rfl ?_
                refine V_dup2 dX12_takeAlso_93 trivial trivial ?_
                refine V_iald (f := (σ17 99 z13)) (rfl : shp[99]? = some (1, 16, 0)) r25 (rfl) dX12_takeAlso_94 ?_
                refine V_iconst dX12_takeAlso_95 ?_
                refine V_iload_n dX12_takeAlso_96 rfl rfl ?_
                refine V_ishl dX12_takeAlso_97 ?_
                refine V_ior dX12_takeAlso_98 ?_
                refine V_iast (rfl : shp[99]? = some (1, 16, 0)) r25 dX12_takeAlso_99 ?_
                refine V_aload_n dX12_takeAlso_100 rfl rfl ?_
                refine V_dup dX12_takeAlso_101 trivial ?_
                refine V_getI (f := (σ17 94 21)) flX12_234 rfl (up_o (by omega)) (by decide) dX12_takeAlso_102 ?_
                refine V_iconst dX12_takeAlso_105 ?_
                refine V_iadd dX12_takeAlso_106 ?_
                refine V_putI flX12_234 rfl (by decide) dX12_takeAlso_107 ?_
                exact V_return (stk := []) rfl dX12_takeAlso_110 h
      · replace h := h.2 q
        refine V_aload_n dX12_takeAlso_36 rfl rfl ?_
        refine V_callV (av := []) (stk := []) cvX12_213 rfl rfl rfl (by decide) (by simp [ctg]) dX12_takeAlso_37 h ?_
        rintro _ σ18 ⟨z18, rfl, h⟩
        refine V_goto (tgt := 44) dX12_takeAlso_40 rfl ?_
        refine V_istore_n (L' := [some (vr 94), some (vi x1), some (vi z13), some (vi z18)]) dX12_takeAlso_44 rfl (by decide) rfl ?_
        refine V_aload_n dX12_takeAlso_45 rfl rfl ?_
        refine V_getI (f := (σ18 94 18)) flX12_158 rfl (rfl) (by decide) dX12_takeAlso_46 ?_
        obtain ⟨r29, h⟩ := h
        refine V_if_ne (tgt := 110) dX12_takeAlso_49 rfl r29 (fun q => ?_) (fun q => ?_)
        · replace h := h.1 q
          exact V_return (stk := []) rfl dX12_takeAlso_110 h
        · replace h := h.2 q
          refine V_aload_n dX12_takeAlso_52 rfl rfl ?_
          refine V_iload_n dX12_takeAlso_53 rfl rfl ?_
          refine V_iload_n dX12_takeAlso_54 rfl rfl ?_
          obtain ⟨r30, h⟩ := h
          obtain ⟨r31, h⟩ := h
          refine V_icmp_eq (tgt := 75) dX12_takeAlso_55 rfl r30 r31 (fun q => ?_) (fun q => ?_)
          · replace h := h.1 q
            refine V_iconst dX12_takeAlso_75 ?_
            refine V_bipush dX12_takeAlso_76 (by decide) ?_
            refine V_aload_n dX12_takeAlso_78 rfl rfl ?_
            refine V_getI (f := (σ18 94 16)) flX12_169 rfl (rfl) (by decide) dX12_takeAlso_79 ?_
            refine V_callV (av := [vi 0, vi 6, vi (σ18 94 16)]) (stk := []) cvX12_184 rfl rfl rfl (by decide) (by simp [ctg]) dX12_takeAlso_82 h ?_
            rintro _ σ19 ⟨z19, rfl, h⟩
            obtain ⟨r32, h⟩ := h
            refine V_if_eq (tgt := 110) dX12_takeAlso_85 rfl r32 (fun q => ?_) (fun q => ?_)
            · replace h := h.1 q
              exact V_return (stk := []) rfl dX12_takeAlso_110 h
            · replace h := h.2 q
              refine V_aload_n dX12_takeAlso_88 rfl rfl ?_
              refine V_getR (k2 := 99) flX12_22 rfl rfl (by decide) dX12_takeAlso_89 ?_
              refine V_iload_n dX12_takeAlso_92 rfl rfl ?_
              refine V_dup2 dX12_takeAlso_93 trivial trivial ?_
              obtain ⟨r33, h⟩ := h
              refine V_iald (f := (σ19 99 z13)) (rfl : shp[99]? = some (1, 16, 0)) r33 (rfl) dX12_takeAlso_94 ?_
              refine V_iconst dX12_takeAlso_95 ?_
              refine V_iload_n dX12_takeAlso_96 rfl rfl ?_
              refine V_ishl dX12_takeAlso_97 ?_
              refine V_ior dX12_takeAlso_98 ?_
              refine V_iast (rfl : shp[99]? = some (1, 16, 0)) r33 dX12_takeAlso_99 ?_
              refine V_aload_n dX12_takeAlso_100 rfl rfl ?_
              refine V_dup dX12_takeAlso_101 trivial ?_
              refine V_getI (f := (σ19 94 21)) flX12_234 rfl (up_o (by omega)) (by decide) dX12_takeAlso_102 ?_
              refine V_iconst dX12_takeAlso_105 ?_
              refine V_iadd dX12_takeAlso_106 ?_
              refine V_putI flX12_234 rfl (by decide) dX12_takeAlso_107 ?_
              exact V_return (stk := []) rfl dX12_takeAlso_110 h
          · replace h := h.2 q
            refine V_aload_n dX12_takeAlso_58 rfl rfl ?_
            refine V_getR (k2 := 99) flX12_22 rfl rfl (by decide) dX12_takeAlso_59 ?_
            refine V_iload_n dX12_takeAlso_62 rfl rfl ?_
            obtain ⟨r34, h⟩ := h
            refine V_iald (f := (σ18 99 z13)) (rfl : shp[99]? = some (1, 16, 0)) r34 (rfl) dX12_takeAlso_63 ?_
            refine V_iload_n dX12_takeAlso_64 rfl rfl ?_
            refine V_callS (av := [vi (σ18 99 z13), vi z18]) (stk := [vr 94]) cvX12_237 rfl rfl (by decide) (by simp [ctg]) dX12_takeAlso_65 h ?_
            rintro _ σ20 ⟨z20, rfl, h⟩
            obtain ⟨r35, h⟩ := h
            refine V_if_ne (tgt := 75) dX12_takeAlso_68 rfl r35 (fun q => ?_) (fun q => ?_)
            · replace h := h.1 q
              refine V_iconst dX12_takeAlso_75 ?_
              refine V_bipush dX12_takeAlso_76 (by decide) ?_
              refine V_aload_n dX12_takeAlso_78 rfl rfl ?_
              refine V_getI (f := (σ20 94 16)) flX12_169 rfl (rfl) (by decide) dX12_takeAlso_79 ?_
              refine V_callV (av := [vi 0, vi 6, vi (σ20 94 16)]) (stk := []) cvX12_184 rfl rfl rfl (by decide) (by simp [ctg]) dX12_takeAlso_82 h ?_
              rintro _ σ21 ⟨z21, rfl, h⟩
              obtain ⟨r36, h⟩ := h
              refine V_if_eq (tgt := 110) dX12_takeAlso_85 rfl r36 (fun q => ?_) (fun q => ?_)
              · replace h := h.1 q
                exact V_return (stk := []) rfl dX12_takeAlso_110 h
              · replace h := h.2 q
                refine V_aload_n dX12_takeAlso_88 rfl rfl ?_
                refine V_getR (k2 := 99) flX12_22 rfl rfl (by decide) dX12_takeAlso_89 ?_
                refine V_iload_n dX12_takeAlso_92 rfl rfl ?_
                refine V_dup2 dX12_takeAlso_93 trivial trivial ?_
                refine V_iald (f := (σ21 99 z13)) (rfl : shp[99]? = some (1, 16, 0)) r34 (rfl) dX12_takeAlso_94 ?_
                refine V_iconst dX12_takeAlso_95 ?_
                refine V_iload_n dX12_takeAlso_96 rfl rfl ?_
                refine V_ishl dX12_takeAlso_97 ?_
                refine V_ior dX12_takeAlso_98 ?_
                refine V_iast (rfl : shp[99]? = some (1, 16, 0)) r34 dX12_takeAlso_99 ?_
                refine V_aload_n dX12_takeAlso_100 rfl rfl ?_
                refine V_dup dX12_takeAlso_101 trivial ?_
                refine V_getI (f := (σ21 94 21)) flX12_234 rfl (up_o (by omega)) (by decide) dX12_takeAlso_102 ?_
                refine V_iconst dX12_takeAlso_105 ?_
                refine V_iadd dX12_takeAlso_106 ?_
                refine V_putI flX12_234 rfl (by decide) dX12_takeAlso_107 ?_
                exact V_return (stk := []) rfl dX12_takeAlso_110 h
            · replace h := h.2 q
              refine V_iconst dX12_takeAlso_71 ?_
              refine V_goto (tgt := 76) dX12_takeAlso_72 rfl ?_
              refine V_bipush dX12_takeAlso_76 (by decide) ?_
              refine V_aload_n dX12_takeAlso_78 rfl rfl ?_
              refine V_getI (f := (σ20 94 16)) flX12_169 rfl (rfl) (by decide) dX12_takeAlso_79 ?_
              refine V_callV (av := [vi 1, vi 6, vi (σ20 94 16)]) (stk := []) cvX12_184 rfl rfl rfl (by decide) (by simp [ctg]) dX12_takeAlso_82 h ?_
              rintro _ σ22 ⟨z22, rfl, h⟩
              obtain ⟨r37, h⟩ := h
              refine V_if_eq (tgt := 110) dX12_takeAlso_85 rfl r37 (fun q => ?_) (fun q => ?_)
              · replace h := h.1 q
                exact V_return (stk := []) rfl dX12_takeAlso_110 h
              · replace h := h.2 q
                refine V_aload_n dX12_takeAlso_88 rfl rfl ?_
                refine V_getR (k2 := 99) flX12_22 rfl rfl (by decide) dX12_takeAlso_89 ?_
                refine V_iload_n dX12_takeAlso_92 rfl rfl ?_
                refine V_dup2 dX12_takeAlso_93 trivial trivial ?_
                refine V_iald (f := (σ22 99 z13)) (rfl : shp[99]? = some (1, 16, 0)) r34 (rfl) dX12_takeAlso_94 ?_
                refine V_iconst dX12_takeAlso_95 ?_
                refine V_iload_n dX12_takeAlso_96 rfl rfl ?_
                refine V_ishl dX12_takeAlso_97 ?_
                refine V_ior dX12_takeAlso_98 ?_
                refine V_iast (rfl : shp[99]? = some (1, 16, 0)) r34 dX12_takeAlso_99 ?_
                refine V_aload_n dX12_takeAlso_100 rfl rfl ?_
                refine V_dup dX12_takeAlso_101 trivial ?_
                refine V_getI (f := (σ22 94 21)) flX12_234 rfl (up_o (by omega)) (by decide) dX12_takeAlso_102 ?_
                refine V_iconst dX12_takeAlso_105 ?_
                refine V_iadd dX12_takeAlso_106 ?_
                refine V_putI flX12_234 rfl (by decide) dX12_takeAlso_107 ?_
                exact V_return (stk := []) rfl dX12_takeAlso_110 h
    · replace h := h.2 q
      exact V_return (stk := []) rfl dX12_takeAlso_23 h

set_option maxRecDepth 100000 in
theorem BX12_takeAsked_0 {σ : Sg} {post : Po}  
  (h : Cl mX12_takeHead [vr 94] σ (pI fun z1 σ1 => (rng (σ1 94 18)) ∧ ((¬ (σ1 94 18) = 0 → post none σ1) ∧ ((σ1 94 18) = 0 → Cl mX12_has [vi (σ1 94 22), vi z1] σ1 (pI fun z2 σ2 => (rng z2) ∧ ((¬ z2 = 0 → Cl mX12_want [vr 94, vi 0, vi 6, vi (σ2 94 16)] σ2 (pI fun z3 σ3 => (rng z3) ∧ ((z3 = 0 → post none σ3) ∧ (¬ z3 = 0 → Cl mX12_takeNumber [vr 94, vi 0, vi 99] (up σ3 94 22 (iOr (σ3 94 22) (iShl 1 z1))) (pI fun z4 σ4 => (0 ≤ z1 ∧ z1 < 16) ∧ (post none (up σ4 100 z1 z4))))))) ∧ (z2 = 0 → Cl mX12_want [vr 94, vi 1, vi 6, vi (σ2 94 16)] σ2 (pI fun z5 σ5 => (rng z5) ∧ ((z5 = 0 → post none σ5) ∧ (¬ z5 = 0 → Cl mX12_takeNumber [vr 94, vi 0, vi 99] (up σ5 94 22 (iOr (σ5 94 22) (iShl 1 z1))) (pI fun z6 σ6 => (0 ≤ z1 ∧ z1 < 16) ∧ (post none (up σ6 100 z1 z6))))))))))))) :
  V mX12_takeAsked 0 [some (vr 94), none] [] σ post := by
  refine V_aload_n dX12_takeAsked_0 rfl rfl ?_
  refine V_callV (av := []) (stk := []) cvX12_213 rfl rfl rfl (by decide) (by simp [ctg]) dX12_takeAsked_1 h ?_
  rintro _ σ1 ⟨z1, rfl, h⟩
  refine V_istore_n (L' := [some (vr 94), some (vi z1)]) dX12_takeAsked_4 rfl (by decide) rfl ?_
  refine V_aload_n dX12_takeAsked_5 rfl rfl ?_
  refine V_getI (f := (σ1 94 18)) flX12_158 rfl (rfl) (by decide) dX12_takeAsked_6 ?_
  obtain ⟨r1, h⟩ := h
  refine V_if_ne (tgt := 66) dX12_takeAsked_9 rfl r1 (fun q => ?_) (fun q => ?_)
  · replace h := h.1 q
    exact V_return (stk := []) rfl dX12_takeAsked_66 h
  · replace h := h.2 q
    refine V_aload_n dX12_takeAsked_12 rfl rfl ?_
    refine V_aload_n dX12_takeAsked_13 rfl rfl ?_
    refine V_getI (f := (σ1 94 22)) flX12_241 rfl (rfl) (by decide) dX12_takeAsked_14 ?_
    refine V_iload_n dX12_takeAsked_17 rfl rfl ?_
    refine V_callS (av := [vi (σ1 94 22), vi z1]) (stk := [vr 94]) cvX12_237 rfl rfl (by decide) (by simp [ctg]) dX12_takeAsked_18 h ?_
    rintro _ σ2 ⟨z2, rfl, h⟩
    obtain ⟨r2, h⟩ := h
    refine V_if_ne (tgt := 28) dX12_takeAsked_21 rfl r2 (fun q => ?_) (fun q => ?_)
    · replace h := h.1 q
      refine V_iconst dX12_takeAsked_28 ?_
      refine V_bipush dX12_takeAsked_29 (by decide) ?_
      refine V_aload_n dX12_takeAsked_31 rfl rfl ?_
      refine V_getI (f := (σ2 94 16)) flX12_169 rfl (rfl) (by decide) dX12_takeAsked_32 ?_
      refine V_callV (av := [vi 0, vi 6, vi (σ2 94 16)]) (stk := []) cvX12_184 rfl rfl rfl (by decide) (by simp [ctg]) dX12_takeAsked_35 h ?_
      rintro _ σ3 ⟨z3, rfl, h⟩
      obtain ⟨r3, h⟩ := h
      refine V_if_eq (tgt := 66) dX12_takeAsked_38 rfl r3 (fun q => ?_) (fun q => ?_)
      · replace h := h.1 q
        exact V_return (stk := []) rfl dX12_takeAsked_66 h
      · replace h := h.2 q
        refine V_aload_n dX12_takeAsked_41 rfl rfl ?_
        refine V_dup dX12_takeAsked_42 trivial ?_
        refine V_getI (f := (σ3 94 22)) flX12_241 rfl (rfl) (by decide) dX12_takeAsked_43 ?_
        refine V_iconst dX12_takeAsked_46 ?_
        refine V_iload_n dX12_takeAsked_47 rfl rfl ?_
        refine V_ishl dX12_takeAsked_48 ?_
        refine V_ior dX12_takeAsked_49 ?_
        refine V_putI flX12_241 rfl (by decide) dX12_takeAsked_50 ?_
        refine V_aload_n dX12_takeAsked_53 rfl rfl ?_
        refine V_getR (k2 := 100) flX12_25 rfl rfl (by decide) dX12_takeAsked_54 ?_
        refine V_iload_n dX12_takeAsked_57 rfl rfl ?_
        refine V_aload_n dX12_takeAsked_58 rfl rfl ?_
        refine V_iconst dX12_takeAsked_59 ?_
        refine V_bipush dX12_takeAsked_60 (by decide) ?_
        refine V_callV (av := [vi 0, vi 99]) (stk := [vi z1, vr 100]) cvX12_220 rfl rfl rfl (by decide) (by simp [ctg]) dX12_takeAsked_62 h ?_
        rintro _ σ4 ⟨z4, rfl, h⟩
        obtain ⟨r4, h⟩ := h
        refine V_iast (rfl : shp[100]? = some (1, 16, 0)) r4 dX12_takeAsked_65 ?_
        exact V_return (stk := []) rfl dX12_takeAsked_66 h
    · replace h := h.2 q
      refine V_iconst dX12_takeAsked_24 ?_
      refine V_goto (tgt := 29) dX12_takeAsked_25 rfl ?_
      refine V_bipush dX12_takeAsked_29 (by decide) ?_
      refine V_aload_n dX12_takeAsked_31 rfl rfl ?_
      refine V_getI (f := (σ2 94 16)) flX12_169 rfl (rfl) (by decide) dX12_takeAsked_32 ?_
      refine V_callV (av := [vi 1, vi 6, vi (σ2 94 16)]) (stk := []) cvX12_184 rfl rfl rfl (by decide) (by simp [ctg]) dX12_takeAsked_35 h ?_
      rintro _ σ5 ⟨z5, rfl, h⟩
      obtain ⟨r5, h⟩ := h
      refine V_if_eq (tgt := 66) dX12_takeAsked_38 rfl r5 (fun q => ?_) (fun q => ?_)
      · replace h := h.1 q
        exact V_return (stk := []) rfl dX12_takeAsked_66 h
      · replace h := h.2 q
        refine V_aload_n dX12_takeAsked_41 rfl rfl ?_
        refine V_dup dX12_takeAsked_42 trivial ?_
        refine V_getI (f := (σ5 94 22)) flX12_241 rfl (rfl) (by decide) dX12_takeAsked_43 ?_
        refine V_iconst dX12_takeAsked_46 ?_
        refine V_iload_n dX12_takeAsked_47 rfl rfl ?_
        refine V_ishl dX12_takeAsked_48 ?_
        refine V_ior dX12_takeAsked_49 ?_
        refine V_putI flX12_241 rfl (by decide) dX12_takeAsked_50 ?_
        refine V_aload_n dX12_takeAsked_53 rfl rfl ?_
        refine V_getR (k2 := 100) flX12_25 rfl rfl (by decide) dX12_takeAsked_54 ?_
        refine V_iload_n dX12_takeAsked_57 rfl rfl ?_
        refine V_aload_n dX12_takeAsked_58 rfl rfl ?_
        refine V_iconst dX12_takeAsked_59 ?_
        refine V_bipush dX12_takeAsked_60 (by decide) ?_
        refine V_callV (av := [vi 0, vi 99]) (stk := [vi z1, vr 100]) cvX12_220 rfl rfl rfl (by decide) (by simp [ctg]) dX12_takeAsked_62 h ?_
        rintro _ σ6 ⟨z6, rfl, h⟩
        obtain ⟨r6, h⟩ := h
        refine V_iast (rfl : shp[100]? = some (1, 16, 0)) r6 dX12_takeAsked_65 ?_
        exact V_return (stk := []) rfl dX12_takeAsked_66 h

set_option maxRecDepth 100000 in
theorem BX12_takeClause_0 {σ : Sg} {post : Po}  
  (h : Cl mX12_takeWord [vr 94] σ (pV fun σ1 => Cl mX12_isWord [vr 94, vi 4, vi 109, vi 97, vi 114, vi 107, vi 0] σ1 (pI fun z2 σ2 => (rng z2) ∧ ((z2 = 0 → Cl mX12_isWord [vr 94, vi 3, vi 115, vi 101, vi 101, vi 0, vi 0] σ2 (pI fun z3 σ3 => (rng z3) ∧ ((z3 = 0 → Cl mX12_isWord [vr 94, vi 4, vi 97, vi 108, vi 115, vi 111, vi 0] σ3 (pI fun z4 σ4 => (rng z4) ∧ ((z4 = 0 → Cl mX12_isWord [vr 94, vi 5, vi 97, vi 115, vi 107, vi 101, vi 100] σ4 (pI fun z5 σ5 => Cl mX12_want [vr 94, vi z5, vi 1, vi (σ1 94 16)] σ5 (pI fun z6 σ6 => (rng z6) ∧ ((z6 = 0 → V mX12_takeClause 111 [some (vr 94), none] [] σ6 post) ∧ (¬ z6 = 0 → Cl mX12_takeAsked [vr 94] σ6 (pV fun σ7 => V mX12_takeClause 111 [some (vr 94), none] [] σ7 post)))))) ∧ (¬ z4 = 0 → Cl mX12_takeAlso [vr 94, vi (σ1 94 16)] σ4 (pV fun σ8 => V mX12_takeClause 111 [some (vr 94), none] [] σ8 post))))) ∧ (¬ z3 = 0 → Cl mX12_takeSee [vr 94, vi (σ1 94 16)] σ3 (pV fun σ9 => V mX12_takeClause 111 [some (vr 94), none] [] σ9 post))))) ∧ (¬ z2 = 0 → Cl mX12_takeMark [vr 94, vi (σ1 94 16)] σ2 (pV fun σ10 => V mX12_takeClause 111 [some (vr 94), none] [] σ10 post)))))) :
  V mX12_takeClause 0 [some (vr 94), none] [] σ post := by
  refine V_aload_n dX12_takeClause_0 rfl rfl ?_
  refine V_callV (av := []) (stk := []) cvX12_181 rfl rfl rfl (by decide) (by simp [ctg]) dX12_takeClause_1 h ?_
  rintro _ σ1 ⟨rfl, h⟩
  refine V_aload_n dX12_takeClause_4 rfl rfl ?_
  refine V_getI (f := (σ1 94 16)) flX12_169 rfl (rfl) (by decide) dX12_takeClause_5 ?_
  refine V_istore_n (L' := [some (vr 94), some (vi (σ1 94 16))]) dX12_takeClause_8 rfl (by decide) rfl ?_
  refine V_aload_n dX12_takeClause_9 rfl rfl ?_
  refine V_iconst dX12_takeClause_10 ?_
  refine V_bipush dX12_takeClause_11 (by decide) ?_
  refine V_bipush dX12_takeClause_13 (by decide) ?_
  refine V_bipush dX12_takeClause_15 (by decide) ?_
  refine V_bipush dX12_takeClause_17 (by decide) ?_
  refine V_iconst dX12_takeClause_19 ?_
  refine V_callV (av := [vi 4, vi 109, vi 97, vi 114, vi 107, vi 0]) (stk := []) cvX12_223 rfl rfl rfl (by decide) (by simp [ctg]) dX12_takeClause_20 h ?_
  rintro _ σ2 ⟨z2, rfl, h⟩
  obtain ⟨r1, h⟩ := h
  refine V_if_eq (tgt := 34) dX12_takeClause_23 rfl r1 (fun q => ?_) (fun q => ?_)
  · replace h := h.1 q
    refine V_aload_n dX12_takeClause_34 rfl rfl ?_
    refine V_iconst dX12_takeClause_35 ?_
    refine V_bipush dX12_takeClause_36 (by decide) ?_
    refine V_bipush dX12_takeClause_38 (by decide) ?_
    refine V_bipush dX12_takeClause_40 (by decide) ?_
    refine V_iconst dX12_takeClause_42 ?_
    refine V_iconst dX12_takeClause_43 ?_
    refine V_callV (av := [vi 3, vi 115, vi 101, vi 101, vi 0, vi 0]) (stk := []) cvX12_223 rfl rfl rfl (by decide) (by simp [ctg]) dX12_takeClause_44 h ?_
    rintro _ σ3 ⟨z3, rfl, h⟩
    obtain ⟨r2, h⟩ := h
    refine V_if_eq (tgt := 58) dX12_takeClause_47 rfl r2 (fun q => ?_) (fun q => ?_)
    · replace h := h.1 q
      refine V_aload_n dX12_takeClause_58 rfl rfl ?_
      refine V_iconst dX12_takeClause_59 ?_
      refine V_bipush dX12_takeClause_60 (by decide) ?_
      refine V_bipush dX12_takeClause_62 (by decide) ?_
      refine V_bipush dX12_takeClause_64 (by decide) ?_
      refine V_bipush dX12_takeClause_66 (by decide) ?_
      refine V_iconst dX12_takeClause_68 ?_
      refine V_callV (av := [vi 4, vi 97, vi 108, vi 115, vi 111, vi 0]) (stk := []) cvX12_223 rfl rfl rfl (by decide) (by simp [ctg]) dX12_takeClause_69 h ?_
      rintro _ σ4 ⟨z4, rfl, h⟩
      obtain ⟨r3, h⟩ := h
      refine V_if_eq (tgt := 83) dX12_takeClause_72 rfl r3 (fun q => ?_) (fun q => ?_)
      · replace h := h.1 q
        refine V_aload_n dX12_takeClause_83 rfl rfl ?_
        refine V_aload_n dX12_takeClause_84 rfl rfl ?_
        refine V_iconst dX12_takeClause_85 ?_
        refine V_bipush dX12_takeClause_86 (by decide) ?_
        refine V_bipush dX12_takeClause_88 (by decide) ?_
        refine V_bipush dX12_takeClause_90 (by decide) ?_
        refine V_bipush dX12_takeClause_92 (by decide) ?_
        refine V_bipush dX12_takeClause_94 (by decide) ?_
        refine V_callV (av := [vi 5, vi 97, vi 115, vi 107, vi 101, vi 100]) (stk := [vr 94]) cvX12_223 rfl rfl rfl (by decide) (by simp [ctg]) dX12_takeClause_96 h ?_
        rintro _ σ5 ⟨z5, rfl, h⟩
        refine V_iconst dX12_takeClause_99 ?_
        refine V_iload_n dX12_takeClause_100 rfl rfl ?_
        refine V_callV (av := [vi z5, vi 1, vi (σ1 94 16)]) (stk := []) cvX12_184 rfl rfl rfl (by decide) (by simp [ctg]) dX12_takeClause_101 h ?_
        rintro _ σ6 ⟨z6, rfl, h⟩
        obtain ⟨r4, h⟩ := h
        refine V_if_eq (tgt := 111) dX12_takeClause_104 rfl r4 (fun q => ?_) (fun q => ?_)
        · replace h := h.1 q
          exact V.sub (SubL_s (SubL_n (SubL_0))) h
        · replace h := h.2 q
          refine V_aload_n dX12_takeClause_107 rfl rfl ?_
          refine V_callV (av := []) (stk := []) cvX12_253 rfl rfl rfl (by decide) (by simp [ctg]) dX12_takeClause_108 h ?_
          rintro _ σ7 ⟨rfl, h⟩
          exact V.sub (SubL_s (SubL_n (SubL_0))) h
      · replace h := h.2 q
        refine V_aload_n dX12_takeClause_75 rfl rfl ?_
        refine V_iload_n dX12_takeClause_76 rfl rfl ?_
        refine V_callV (av := [vi (σ1 94 16)]) (stk := []) cvX12_250 rfl rfl rfl (by decide) (by simp [ctg]) dX12_takeClause_77 h ?_
        rintro _ σ8 ⟨rfl, h⟩
        refine V_goto (tgt := 111) dX12_takeClause_80 rfl ?_
        exact V.sub (SubL_s (SubL_n (SubL_0))) h
    · replace h := h.2 q
      refine V_aload_n dX12_takeClause_50 rfl rfl ?_
      refine V_iload_n dX12_takeClause_51 rfl rfl ?_
      refine V_callV (av := [vi (σ1 94 16)]) (stk := []) cvX12_247 rfl rfl rfl (by decide) (by simp [ctg]) dX12_takeClause_52 h ?_
      rintro _ σ9 ⟨rfl, h⟩
      refine V_goto (tgt := 111) dX12_takeClause_55 rfl ?_
      exact V.sub (SubL_s (SubL_n (SubL_0))) h
  · replace h := h.2 q
    refine V_aload_n dX12_takeClause_26 rfl rfl ?_
    refine V_iload_n dX12_takeClause_27 rfl rfl ?_
    refine V_callV (av := [vi (σ1 94 16)]) (stk := []) cvX12_244 rfl rfl rfl (by decide) (by simp [ctg]) dX12_takeClause_28 h ?_
    rintro _ σ10 ⟨rfl, h⟩
    refine V_goto (tgt := 111) dX12_takeClause_31 rfl ?_
    exact V.sub (SubL_s (SubL_n (SubL_0))) h
set_option maxRecDepth 100000 in
theorem BX12_takeClause_111 {σ : Sg} {post : Po}  
  (h : (rng (σ 94 18)) ∧ ((¬ (σ 94 18) = 0 → post none σ) ∧ ((σ 94 18) = 0 → Cl mX12_here [vr 94] σ (pI fun z1 σ1 => (rng z1) ∧ ((¬ z1 = 59 → Cl mX12_want [vr 94, vi 0, vi 1, vi (σ1 94 15)] σ1 (pI fun z2 σ2 => (rng z2) ∧ ((z2 = 0 → post none σ2) ∧ (¬ z2 = 0 → post none (up σ2 94 15 ((σ2 94 15) + 1)))))) ∧ (z1 = 59 → Cl mX12_want [vr 94, vi 1, vi 1, vi (σ1 94 15)] σ1 (pI fun z3 σ3 => (rng z3) ∧ ((z3 = 0 → post none σ3) ∧ (¬ z3 = 0 → post none (up σ3 94 15 ((σ3 94 15) + 1))))))))))) :
  V mX12_takeClause 111 [some (vr 94), none] [] σ post := by
  refine V_aload_n dX12_takeClause_111 rfl rfl ?_
  refine V_getI (f := (σ 94 18)) flX12_158 rfl (rfl) (by decide) dX12_takeClause_112 ?_
  obtain ⟨r1, h⟩ := h
  refine V_if_ne (tgt := 154) dX12_takeClause_115 rfl r1 (fun q => ?_) (fun q => ?_)
  · replace h := h.1 q
    exact V_return (stk := []) rfl dX12_takeClause_154 h
  · replace h := h.2 q
    refine V_aload_n dX12_takeClause_118 rfl rfl ?_
    refine V_aload_n dX12_takeClause_119 rfl rfl ?_
    refine V_callV (av := []) (stk := [vr 94]) cvX12_165 rfl rfl rfl (by decide) (by simp [ctg]) dX12_takeClause_120 h ?_
    rintro _ σ1 ⟨z1, rfl, h⟩
    refine V_bipush dX12_takeClause_123 (by decide) ?_
    obtain ⟨r2, h⟩ := h
    refine V_icmp_ne (tgt := 132) dX12_takeClause_125 rfl r2 (by decide) (fun q => ?_) (fun q => ?_)
    · replace h := h.1 q
      refine V_iconst dX12_takeClause_132 ?_
      refine V_iconst dX12_takeClause_133 ?_
      refine V_aload_n dX12_takeClause_134 rfl rfl ?_
      refine V_getI (f := (σ1 94 15)) flX12_155 rfl (rfl) (by decide) dX12_takeClause_135 ?_
      refine V_callV (av := [vi 0, vi 1, vi (σ1 94 15)]) (stk := []) cvX12_184 rfl rfl rfl (by decide) (by simp [ctg]) dX12_takeClause_138 h ?_
      rintro _ σ2 ⟨z2, rfl, h⟩
      obtain ⟨r3, h⟩ := h
      refine V_if_eq (tgt := 154) dX12_takeClause_141 rfl r3 (fun q => ?_) (fun q => ?_)
      · replace h := h.1 q
        exact V_return (stk := []) rfl dX12_takeClause_154 h
      · replace h := h.2 q
        refine V_aload_n dX12_takeClause_144 rfl rfl ?_
        refine V_dup dX12_takeClause_145 trivial ?_
        refine V_getI (f := (σ2 94 15)) flX12_155 rfl (rfl) (by decide) dX12_takeClause_146 ?_
        refine V_iconst dX12_takeClause_149 ?_
        refine V_iadd dX12_takeClause_150 ?_
        refine V_putI flX12_155 rfl (by decide) dX12_takeClause_151 ?_
        exact V_return (stk := []) rfl dX12_takeClause_154 h
    · replace h := h.2 q
      refine V_iconst dX12_takeClause_128 ?_
      refine V_goto (tgt := 133) dX12_takeClause_129 rfl ?_
      refine V_iconst dX12_takeClause_133 ?_
      refine V_aload_n dX12_takeClause_134 rfl rfl ?_
      refine V_getI (f := (σ1 94 15)) flX12_155 rfl (rfl) (by decide) dX12_takeClause_135 ?_
      refine V_callV (av := [vi 1, vi 1, vi (σ1 94 15)]) (stk := []) cvX12_184 rfl rfl rfl (by decide) (by simp [ctg]) dX12_takeClause_138 h ?_
      rintro _ σ3 ⟨z3, rfl, h⟩
      obtain ⟨r4, h⟩ := h
      refine V_if_eq (tgt := 154) dX12_takeClause_141 rfl r4 (fun q => ?_) (fun q => ?_)
      · replace h := h.1 q
        exact V_return (stk := []) rfl dX12_takeClause_154 h
      · replace h := h.2 q
        refine V_aload_n dX12_takeClause_144 rfl rfl ?_
        refine V_dup dX12_takeClause_145 trivial ?_
        refine V_getI (f := (σ3 94 15)) flX12_155 rfl (rfl) (by decide) dX12_takeClause_146 ?_
        refine V_iconst dX12_takeClause_149 ?_
        refine V_iadd dX12_takeClause_150 ?_
        refine V_putI flX12_155 rfl (by decide) dX12_takeClause_151 ?_
        exact V_return (stk := []) rfl dX12_takeClause_154 h

set_option maxRecDepth 100000 in
theorem BX12_read_0 {σ : Sg} {post : Po}  
  (h : Cl mX12_keepAt [vr 94, vi 2] σ (pV fun σ1 => V mX12_read 45 [some (vr 94)] [] (up (up (up (up (up (up (up (up σ1 94 15 0) 94 18 0) 94 19 (-1)) 94 0 0) 94 7 0) 94 20 0) 94 21 0) 94 22 0) post)) :
  V mX12_read 0 [some (vr 94)] [] σ post := by
  refine V_aload_n dX12_read_0 rfl rfl ?_
  refine V_iconst dX12_read_1 ?_
  refine V_callV (av := [vi 2]) (stk := []) cvX12_256 rfl rfl rfl (by decide) (by simp [ctg]) dX12_read_2 h ?_
  rintro _ σ1 ⟨rfl, h⟩
  refine V_aload_n dX12_read_5 rfl rfl ?_
  refine V_iconst dX12_read_6 ?_
  refine V_putI flX12_155 rfl (by decide) dX12_read_7 ?_
  refine V_aload_n dX12_read_10 rfl rfl ?_
  refine V_iconst dX12_read_11 ?_
  refine V_putI flX12_158 rfl (by decide) dX12_read_12 ?_
  refine V_aload_n dX12_read_15 rfl rfl ?_
  refine V_iconst dX12_read_16 ?_
  refine V_putI flX12_47 rfl (by decide) dX12_read_17 ?_
  refine V_aload_n dX12_read_20 rfl rfl ?_
  refine V_iconst dX12_read_21 ?_
  refine V_putI flX12_192 rfl (by decide) dX12_read_22 ?_
  refine V_aload_n dX12_read_25 rfl rfl ?_
  refine V_iconst dX12_read_26 ?_
  refine V_putI flX12_210 rfl (by decide) dX12_read_27 ?_
  refine V_aload_n dX12_read_30 rfl rfl ?_
  refine V_iconst dX12_read_31 ?_
  refine V_putI flX12_231 rfl (by decide) dX12_read_32 ?_
  refine V_aload_n dX12_read_35 rfl rfl ?_
  refine V_iconst dX12_read_36 ?_
  refine V_putI flX12_234 rfl (by decide) dX12_read_37 ?_
  refine V_aload_n dX12_read_40 rfl rfl ?_
  refine V_iconst dX12_read_41 ?_
  refine V_putI flX12_241 rfl (by decide) dX12_read_42 ?_
  exact V.sub (SubL_s (SubL_0)) h
set_option maxRecDepth 100000 in
theorem BX12_read_45 {σ : Sg} {post : Po}  
  (h : (rng (σ 94 18)) ∧ ((¬ (σ 94 18) = 0 → ((σ 94 18) ≤ 0 → post (some (vi (σ 94 0))) (up σ 94 14 0)) ∧ (¬ (σ 94 18) ≤ 0 → Cl mX12_backTo [vr 94, vi 2] (up σ 94 14 0) (pV fun σ1 => post (some (vi ((-10) - (σ1 94 18)))) σ1))) ∧ ((σ 94 18) = 0 → Cl mX12_here [vr 94] σ (pI fun z2 σ2 => (rng z2) ∧ ((z2 < 0 → (rng (σ2 94 18)) ∧ (((σ2 94 18) ≤ 0 → post (some (vi (σ2 94 0))) (up σ2 94 14 0)) ∧ (¬ (σ2 94 18) ≤ 0 → Cl mX12_backTo [vr 94, vi 2] (up σ2 94 14 0) (pV fun σ3 => post (some (vi ((-10) - (σ3 94 18)))) σ3)))) ∧ (¬ z2 < 0 → Cl mX12_takeClause [vr 94] σ2 (pV fun σ4 => V mX12_read 45 [some (vr 94)] [] σ4 post))))))) :
  V mX12_read 45 [some (vr 94)] [] σ post := by
  refine V_aload_n dX12_read_45 rfl rfl ?_
  refine V_getI (f := (σ 94 18)) flX12_158 rfl (rfl) (by decide) dX12_read_46 ?_
  obtain ⟨r1, h⟩ := h
  refine V_if_ne (tgt := 66) dX12_read_49 rfl r1 (fun q => ?_) (fun q => ?_)
  · replace h := h.1 q
    refine V_aload_n dX12_read_66 rfl rfl ?_
    refine V_iconst dX12_read_67 ?_
    refine V_putI flX12_150 rfl (by decide) dX12_read_68 ?_
    refine V_aload_n dX12_read_71 rfl rfl ?_
    refine V_getI (f := (σ 94 18)) flX12_158 rfl (up_f (by omega)) (by decide) dX12_read_72 ?_
    refine V_if_le (tgt := 91) dX12_read_75 rfl r1 (fun q => ?_) (fun q => ?_)
    · replace h := h.1 q
      refine V_aload_n dX12_read_91 rfl rfl ?_
      refine V_getI (f := (σ 94 0)) flX12_192 rfl (up_f (by omega)) (by decide) dX12_read_92 ?_
      exact V_ireturn (stk := []) rfl dX12_read_95 h
    · replace h := h.2 q
      refine V_aload_n dX12_read_78 rfl rfl ?_
      refine V_iconst dX12_read_79 ?_
      refine V_callV (av := [vi 2]) (stk := []) cvX12_262 rfl rfl rfl (by decide) (by simp [ctg]) dX12_read_80 h ?_
      rintro _ σ1 ⟨rfl, h⟩
      refine V_bipush dX12_read_83 (by decide) ?_
      refine V_aload_n dX12_read_85 rfl rfl ?_
      refine V_getI (f := (σ1 94 18)) flX12_158 rfl (rfl) (by decide) dX12_read_86 ?_
      refine V_isub dX12_read_89 ?_
      exact V_ireturn (stk := []) rfl dX12_read_90 h
  · replace h := h.2 q
    refine V_aload_n dX12_read_52 rfl rfl ?_
    refine V_callV (av := []) (stk := []) cvX12_165 rfl rfl rfl (by decide) (by simp [ctg]) dX12_read_53 h ?_
    rintro _ σ2 ⟨z2, rfl, h⟩
    obtain ⟨r2, h⟩ := h
    refine V_if_lt (tgt := 66) dX12_read_56 rfl r2 (fun q => ?_) (fun q => ?_)
    · replace h := h.1 q
      refine V_aload_n dX12_read_66 rfl rfl ?_
      refine V_iconst dX12_read_67 ?_
      refine V_putI flX12_150 rfl (by decide) dX12_read_68 ?_
      refine V_aload_n dX12_read_71 rfl rfl ?_
      refine V_getI (f := (σ2 94 18)) flX12_158 rfl (up_f (by omega)) (by decide) dX12_read_72 ?_
      obtain ⟨r3, h⟩ := h
      refine V_if_le (tgt := 91) dX12_read_75 rfl r3 (fun q => ?_) (fun q => ?_)
      · replace h := h.1 q
        refine V_aload_n dX12_read_91 rfl rfl ?_
        refine V_getI (f := (σ2 94 0)) flX12_192 rfl (up_f (by omega)) (by decide) dX12_read_92 ?_
        exact V_ireturn (stk := []) rfl dX12_read_95 h
      · replace h := h.2 q
        refine V_aload_n dX12_read_78 rfl rfl ?_
        refine V_iconst dX12_read_79 ?_
        refine V_callV (av := [vi 2]) (stk := []) cvX12_262 rfl rfl rfl (by decide) (by simp [ctg]) dX12_read_80 h ?_
        rintro _ σ3 ⟨rfl, h⟩
        refine V_bipush dX12_read_83 (by decide) ?_
        refine V_aload_n dX12_read_85 rfl rfl ?_
        refine V_getI (f := (σ3 94 18)) flX12_158 rfl (rfl) (by decide) dX12_read_86 ?_
        refine V_isub dX12_read_89 ?_
        exact V_ireturn (stk := []) rfl dX12_read_90 h
    · replace h := h.2 q
      refine V_aload_n dX12_read_59 rfl rfl ?_
      refine V_callV (av := []) (stk := []) cvX12_259 rfl rfl rfl (by decide) (by simp [ctg]) dX12_read_60 h ?_
      rintro _ σ4 ⟨rfl, h⟩
      refine V_goto (tgt := 45) dX12_read_63 rfl ?_
      exact V.sub (SubL_s (SubL_0)) h

set_option maxRecDepth 100000 in
theorem BX12_fault_0 {σ : Sg} {post : Po}  
  (h : post (some (vi (σ 94 19))) σ) :
  V mX12_fault 0 [some (vr 94)] [] σ post := by
  refine V_aload_n dX12_fault_0 rfl rfl ?_
  refine V_getI (f := (σ 94 19)) flX12_47 rfl (rfl) (by decide) dX12_fault_1 ?_
  exact V_ireturn (stk := []) rfl dX12_fault_4 h

set_option maxRecDepth 100000 in
theorem BX12_noHead_0 {σ : Sg} {post : Po} {x1 : Int} 
  (h : (rng x1) ∧ ((rng ((σ 94 0) - 1)) ∧ (Cl mX12_in [vl x1, vl 0, vl ((σ 94 0) - 1)] σ (pI fun z1 σ1 => (rng z1) ∧ ((¬ z1 = 0 → post (some (vi 0)) σ1) ∧ (z1 = 0 → post (some (vi 1)) σ1)))))) :
  V mX12_noHead 0 [some (vr 94), some (vi x1)] [] σ post := by
  refine V_iload_n dX12_noHead_0 rfl rfl ?_
  obtain ⟨r1, h⟩ := h
  refine V_i2l dX12_noHead_1 r1 ?_
  refine V_lconst (z := 0) dX12_noHead_2 rfl ?_
  refine V_aload_n dX12_noHead_3 rfl rfl ?_
  refine V_getI (f := (σ 94 0)) flX12_192 rfl (rfl) (by decide) dX12_noHead_4 ?_
  refine V_iconst dX12_noHead_7 ?_
  refine V_isub dX12_noHead_8 ?_
  obtain ⟨r2, h⟩ := h
  refine V_i2l dX12_noHead_9 r2 ?_
  refine V_callS (av := [vl x1, vl 0, vl ((σ 94 0) - 1)]) (stk := []) cvX12_146 rfl rfl (by decide) (by simp [ctg]) dX12_noHead_10 h ?_
  rintro _ σ1 ⟨z1, rfl, h⟩
  obtain ⟨r3, h⟩ := h
  refine V_if_ne (tgt := 20) dX12_noHead_13 rfl r3 (fun q => ?_) (fun q => ?_)
  · replace h := h.1 q
    refine V_iconst dX12_noHead_20 ?_
    exact V_zreturn (stk := []) rfl dX12_noHead_21 (by decide) h
  · replace h := h.2 q
    refine V_iconst dX12_noHead_16 ?_
    refine V_goto (tgt := 21) dX12_noHead_17 rfl ?_
    exact V_zreturn (stk := []) rfl dX12_noHead_21 (by decide) h

set_option maxRecDepth 100000 in
theorem BX12_noSub_0 {σ : Sg} {post : Po} {x1 : Int} {x2 : Int} 
  (h : (rng x2) ∧ ((0 ≤ x1 ∧ x1 < 16) ∧ ((rng ((σ 95 x1) - 1)) ∧ (Cl mX12_in [vl x2, vl (-1), vl ((σ 95 x1) - 1)] σ (pI fun z1 σ1 => (rng z1) ∧ ((¬ z1 = 0 → post (some (vi 0)) σ1) ∧ (z1 = 0 → post (some (vi 1)) σ1))))))) :
  V mX12_noSub 0 [some (vr 94), some (vi x1), some (vi x2)] [] σ post := by
  refine V_iload_n dX12_noSub_0 rfl rfl ?_
  obtain ⟨r1, h⟩ := h
  refine V_i2l dX12_noSub_1 r1 ?_
  refine V_ldc2 dX12_noSub_2 klX12_265 ?_
  refine V_aload_n dX12_noSub_5 rfl rfl ?_
  refine V_getR (k2 := 95) flX12_7 rfl rfl (by decide) dX12_noSub_6 ?_
  refine V_iload_n dX12_noSub_9 rfl rfl ?_
  obtain ⟨r2, h⟩ := h
  refine V_iald (f := (σ 95 x1)) (rfl : shp[95]? = some (1, 16, 0)) r2 (rfl) dX12_noSub_10 ?_
  refine V_iconst dX12_noSub_11 ?_
  refine V_isub dX12_noSub_12 ?_
  obtain ⟨r3, h⟩ := h
  refine V_i2l dX12_noSub_13 r3 ?_
  refine V_callS (av := [vl x2, vl (-1), vl ((σ 95 x1) - 1)]) (stk := []) cvX12_146 rfl rfl (by decide) (by simp [ctg]) dX12_noSub_14 h ?_
  rintro _ σ1 ⟨z1, rfl, h⟩
  obtain ⟨r4, h⟩ := h
  refine V_if_ne (tgt := 24) dX12_noSub_17 rfl r4 (fun q => ?_) (fun q => ?_)
  · replace h := h.1 q
    refine V_iconst dX12_noSub_24 ?_
    exact V_zreturn (stk := []) rfl dX12_noSub_25 (by decide) h
  · replace h := h.2 q
    refine V_iconst dX12_noSub_20 ?_
    refine V_goto (tgt := 25) dX12_noSub_21 rfl ?_
    exact V_zreturn (stk := []) rfl dX12_noSub_25 (by decide) h

set_option maxRecDepth 100000 in
theorem BX12_isOf_0 {σ : Sg} {post : Po} {x1 : Int} {x2 : Int} {x3 : Int} 
  (h : (0 ≤ x1 ∧ x1 < 60) ∧ ((rng (σ 101 x1)) ∧ ((rng x2) ∧ ((¬ (σ 101 x1) = x2 → post (some (vi 0)) σ) ∧ ((σ 101 x1) = x2 → (rng x3) ∧ ((x3 = (-2) → post (some (vi 1)) σ) ∧ (¬ x3 = (-2) → (rng (σ 102 x1)) ∧ ((¬ (σ 102 x1) = x3 → post (some (vi 0)) σ) ∧ ((σ 102 x1) = x3 → post (some (vi 1)) σ))))))))) :
  V mX12_isOf 0 [some (vr 94), some (vi x1), some (vi x2), some (vi x3)] [] σ post := by
  refine V_aload_n dX12_isOf_0 rfl rfl ?_
  refine V_getR (k2 := 101) flX12_28 rfl rfl (by decide) dX12_isOf_1 ?_
  refine V_iload_n dX12_isOf_4 rfl rfl ?_
  obtain ⟨r1, h⟩ := h
  refine V_iald (f := (σ 101 x1)) (rfl : shp[101]? = some (1, 60, 0)) r1 (rfl) dX12_isOf_5 ?_
  refine V_iload_n dX12_isOf_6 rfl rfl ?_
  obtain ⟨r2, h⟩ := h
  obtain ⟨r3, h⟩ := h
  refine V_icmp_ne (tgt := 30) dX12_isOf_7 rfl r2 r3 (fun q => ?_) (fun q => ?_)
  · replace h := h.1 q
    refine V_iconst dX12_isOf_30 ?_
    exact V_zreturn (stk := []) rfl dX12_isOf_31 (by decide) h
  · replace h := h.2 q
    refine V_iload_n dX12_isOf_10 rfl rfl ?_
    refine V_bipush dX12_isOf_11 (by decide) ?_
    obtain ⟨r4, h⟩ := h
    refine V_icmp_eq (tgt := 26) dX12_isOf_13 rfl r4 (by decide) (fun q => ?_) (fun q => ?_)
    · replace h := h.1 q
      refine V_iconst dX12_isOf_26 ?_
      refine V_goto (tgt := 31) dX12_isOf_27 rfl ?_
      exact V_zreturn (stk := []) rfl dX12_isOf_31 (by decide) h
    · replace h := h.2 q
      refine V_aload_n dX12_isOf_16 rfl rfl ?_
      refine V_getR (k2 := 102) flX12_31 rfl rfl (by decide) dX12_isOf_17 ?_
      refine V_iload_n dX12_isOf_20 rfl rfl ?_
      refine V_iald (f := (σ 102 x1)) (rfl : shp[102]? = some (1, 60, 0)) r1 (rfl) dX12_isOf_21 ?_
      refine V_iload_n dX12_isOf_22 rfl rfl ?_
      obtain ⟨r5, h⟩ := h
      refine V_icmp_ne (tgt := 30) dX12_isOf_23 rfl r5 r4 (fun q => ?_) (fun q => ?_)
      · replace h := h.1 q
        refine V_iconst dX12_isOf_30 ?_
        exact V_zreturn (stk := []) rfl dX12_isOf_31 (by decide) h
      · replace h := h.2 q
        refine V_iconst dX12_isOf_26 ?_
        refine V_goto (tgt := 31) dX12_isOf_27 rfl ?_
        exact V_zreturn (stk := []) rfl dX12_isOf_31 (by decide) h

set_option maxRecDepth 100000 in
theorem BX12_marksOf_0 {σ : Sg} {post : Po} {x1 : Int} {x2 : Int} 
  (h : V mX12_marksOf 5 [some (vr 94), some (vi x1), some (vi x2), some (vi 0), some (vi 0)] [] σ post) :
  V mX12_marksOf 0 [some (vr 94), some (vi x1), some (vi x2), none, none] [] σ post := by
  refine V_iconst dX12_marksOf_0 ?_
  refine V_istore_n (L' := [some (vr 94), some (vi x1), some (vi x2), some (vi 0), none]) dX12_marksOf_1 rfl (by decide) rfl ?_
  refine V_iconst dX12_marksOf_2 ?_
  refine V_istore (L' := [some (vr 94), some (vi x1), some (vi x2), some (vi 0), some (vi 0)]) dX12_marksOf_3 (by decide) rfl ?_
  exact V.sub (SubL_s (SubL_s (SubL_s (SubL_s (SubL_s (SubL_0)))))) h
set_option maxRecDepth 100000 in
theorem BX12_marksOf_5 {σ : Sg} {post : Po} {x1 : Int} {x2 : Int} {x3 : Int} {x4 : Int} 
  (h : (rng x4) ∧ ((rng (σ 94 7)) ∧ (((σ 94 7) ≤ x4 → post (some (vi x3)) σ) ∧ (¬ (σ 94 7) ≤ x4 → Cl mX12_isOf [vr 94, vi x4, vi x1, vi x2] σ (pI fun z1 σ1 => Cl mX12_one [vi z1] σ1 (pI fun z2 σ2 => V mX12_marksOf 5 [some (vr 94), some (vi x1), some (vi x2), some (vi (x3 + z2)), some (vi (x4 + 1))] [] σ2 post)))))) :
  V mX12_marksOf 5 [some (vr 94), some (vi x1), some (vi x2), some (vi x3), some (vi x4)] [] σ post := by
  refine V_iload dX12_marksOf_5 rfl ?_
  refine V_aload_n dX12_marksOf_7 rfl rfl ?_
  refine V_getI (f := (σ 94 7)) flX12_210 rfl (rfl) (by decide) dX12_marksOf_8 ?_
  obtain ⟨r1, h⟩ := h
  obtain ⟨r2, h⟩ := h
  refine V_icmp_ge (tgt := 34) dX12_marksOf_11 rfl r1 r2 (fun q => ?_) (fun q => ?_)
  · replace h := h.1 q
    refine V_iload_n dX12_marksOf_34 rfl rfl ?_
    exact V_ireturn (stk := []) rfl dX12_marksOf_35 h
  · replace h := h.2 q
    refine V_iload_n dX12_marksOf_14 rfl rfl ?_
    refine V_aload_n dX12_marksOf_15 rfl rfl ?_
    refine V_iload dX12_marksOf_16 rfl ?_
    refine V_iload_n dX12_marksOf_18 rfl rfl ?_
    refine V_iload_n dX12_marksOf_19 rfl rfl ?_
    refine V_callV (av := [vi x4, vi x1, vi x2]) (stk := [vi x3]) cvX12_267 rfl rfl rfl (by decide) (by simp [ctg]) dX12_marksOf_20 h ?_
    rintro _ σ1 ⟨z1, rfl, h⟩
    refine V_callS (av := [vi z1]) (stk := [vi x3]) cvX12_271 rfl rfl (by decide) (by simp [ctg]) dX12_marksOf_23 h ?_
    rintro _ σ2 ⟨z2, rfl, h⟩
    refine V_iadd dX12_marksOf_26 ?_
    refine V_istore_n (L' := [some (vr 94), some (vi x1), some (vi x2), some (vi (x3 + z2)), some (vi x4)]) dX12_marksOf_27 rfl (by decide) rfl ?_
    refine V_iinc (L' := [some (vr 94), some (vi x1), some (vi x2), some (vi (x3 + z2)), some (vi (x4 + 1))]) dX12_marksOf_28 rfl (by decide) rfl ?_
    refine V_goto (tgt := 5) dX12_marksOf_31 rfl ?_
    exact V.sub (SubL_s (SubL_s (SubL_s (SubL_s (SubL_s (SubL_0)))))) h

set_option maxRecDepth 100000 in
theorem BX12_isFilled_0 {σ : Sg} {post : Po} {x1 : Int} 
  (h : Cl mX12_marksOf [vr 94, vi x1, vi (-2)] σ (pI fun z1 σ1 => (rng z1) ∧ ((z1 ≤ 0 → post (some (vi 0)) σ1) ∧ (¬ z1 ≤ 0 → post (some (vi 1)) σ1)))) :
  V mX12_isFilled 0 [some (vr 94), some (vi x1)] [] σ post := by
  refine V_aload_n dX12_isFilled_0 rfl rfl ?_
  refine V_iload_n dX12_isFilled_1 rfl rfl ?_
  refine V_bipush dX12_isFilled_2 (by decide) ?_
  refine V_callV (av := [vi x1, vi (-2)]) (stk := []) cvX12_275 rfl rfl rfl (by decide) (by simp [ctg]) dX12_isFilled_4 h ?_
  rintro _ σ1 ⟨z1, rfl, h⟩
  obtain ⟨r1, h⟩ := h
  refine V_if_le (tgt := 14) dX12_isFilled_7 rfl r1 (fun q => ?_) (fun q => ?_)
  · replace h := h.1 q
    refine V_iconst dX12_isFilled_14 ?_
    exact V_zreturn (stk := []) rfl dX12_isFilled_15 (by decide) h
  · replace h := h.2 q
    refine V_iconst dX12_isFilled_10 ?_
    refine V_goto (tgt := 15) dX12_isFilled_11 rfl ?_
    exact V_zreturn (stk := []) rfl dX12_isFilled_15 (by decide) h

set_option maxRecDepth 100000 in
theorem BX12_fullSubs_0 {σ : Sg} {post : Po} {x1 : Int} 
  (h : V mX12_fullSubs 4 [some (vr 94), some (vi x1), some (vi 0), some (vi 0)] [] σ post) :
  V mX12_fullSubs 0 [some (vr 94), some (vi x1), none, none] [] σ post := by
  refine V_iconst dX12_fullSubs_0 ?_
  refine V_istore_n (L' := [some (vr 94), some (vi x1), some (vi 0), none]) dX12_fullSubs_1 rfl (by decide) rfl ?_
  refine V_iconst dX12_fullSubs_2 ?_
  refine V_istore_n (L' := [some (vr 94), some (vi x1), some (vi 0), some (vi 0)]) dX12_fullSubs_3 rfl (by decide) rfl ?_
  exact V.sub (SubL_s (SubL_s (SubL_s (SubL_s (SubL_0))))) h
set_option maxRecDepth 100000 in
theorem BX12_fullSubs_4 {σ : Sg} {post : Po} {x1 : Int} {x2 : Int} {x3 : Int} 
  (h : (0 ≤ x1 ∧ x1 < 16) ∧ ((rng x3) ∧ ((rng (σ 95 x1)) ∧ (((σ 95 x1) ≤ x3 → post (some (vi x2)) σ) ∧ (¬ (σ 95 x1) ≤ x3 → Cl mX12_marksOf [vr 94, vi x1, vi x3] σ (pI fun z1 σ1 => (rng z1) ∧ ((z1 ≤ 0 → Cl mX12_one [vi 0] σ1 (pI fun z2 σ2 => V mX12_fullSubs 4 [some (vr 94), some (vi x1), some (vi (x2 + z2)), some (vi (x3 + 1))] [] σ2 post)) ∧ (¬ z1 ≤ 0 → Cl mX12_one [vi 1] σ1 (pI fun z3 σ3 => V mX12_fullSubs 4 [some (vr 94), some (vi x1), some (vi (x2 + z3)), some (vi (x3 + 1))] [] σ3 post))))))))) :
  V mX12_fullSubs 4 [some (vr 94), some (vi x1), some (vi x2), some (vi x3)] [] σ post := by
  refine V_iload_n dX12_fullSubs_4 rfl rfl ?_
  refine V_aload_n dX12_fullSubs_5 rfl rfl ?_
  refine V_getR (k2 := 95) flX12_7 rfl rfl (by decide) dX12_fullSubs_6 ?_
  refine V_iload_n dX12_fullSubs_9 rfl rfl ?_
  obtain ⟨r1, h⟩ := h
  refine V_iald (f := (σ 95 x1)) (rfl : shp[95]? = some (1, 16, 0)) r1 (rfl) dX12_fullSubs_10 ?_
  obtain ⟨r2, h⟩ := h
  obtain ⟨r3, h⟩ := h
  refine V_icmp_ge (tgt := 40) dX12_fullSubs_11 rfl r2 r3 (fun q => ?_) (fun q => ?_)
  · replace h := h.1 q
    refine V_iload_n dX12_fullSubs_40 rfl rfl ?_
    exact V_ireturn (stk := []) rfl dX12_fullSubs_41 h
  · replace h := h.2 q
    refine V_iload_n dX12_fullSubs_14 rfl rfl ?_
    refine V_aload_n dX12_fullSubs_15 rfl rfl ?_
    refine V_iload_n dX12_fullSubs_16 rfl rfl ?_
    refine V_iload_n dX12_fullSubs_17 rfl rfl ?_
    refine V_callV (av := [vi x1, vi x3]) (stk := [vi x2]) cvX12_275 rfl rfl rfl (by decide) (by simp [ctg]) dX12_fullSubs_18 h ?_
    rintro _ σ1 ⟨z1, rfl, h⟩
    obtain ⟨r4, h⟩ := h
    refine V_if_le (tgt := 28) dX12_fullSubs_21 rfl r4 (fun q => ?_) (fun q => ?_)
    · replace h := h.1 q
      refine V_iconst dX12_fullSubs_28 ?_
      refine V_callS (av := [vi 0]) (stk := [vi x2]) cvX12_271 rfl rfl (by decide) (by simp [ctg]) dX12_fullSubs_29 h ?_
      rintro _ σ2 ⟨z2, rfl, h⟩
      refine V_iadd dX12_fullSubs_32 ?_
      refine V_istore_n (L' := [some (vr 94), some (vi x1), some (vi (x2 + z2)), some (vi x3)]) dX12_fullSubs_33 rfl (by decide) rfl ?_
      refine V_iinc (L' := [some (vr 94), some (vi x1), some (vi (x2 + z2)), some (vi (x3 + 1))]) dX12_fullSubs_34 rfl (by decide) rfl ?_
      refine V_goto (tgt := 4) dX12_fullSubs_37 rfl ?_
      exact V.sub (SubL_s (SubL_s (SubL_s (SubL_s (SubL_0))))) h
    · replace h := h.2 q
      refine V_iconst dX12_fullSubs_24 ?_
      refine V_goto (tgt := 29) dX12_fullSubs_25 rfl ?_
      refine V_callS (av := [vi 1]) (stk := [vi x2]) cvX12_271 rfl rfl (by decide) (by simp [ctg]) dX12_fullSubs_29 h ?_
      rintro _ σ3 ⟨z3, rfl, h⟩
      refine V_iadd dX12_fullSubs_32 ?_
      refine V_istore_n (L' := [some (vr 94), some (vi x1), some (vi (x2 + z3)), some (vi x3)]) dX12_fullSubs_33 rfl (by decide) rfl ?_
      refine V_iinc (L' := [some (vr 94), some (vi x1), some (vi (x2 + z3)), some (vi (x3 + 1))]) dX12_fullSubs_34 rfl (by decide) rfl ?_
      refine V_goto (tgt := 4) dX12_fullSubs_37 rfl ?_
      exact V.sub (SubL_s (SubL_s (SubL_s (SubL_s (SubL_0))))) h

set_option maxRecDepth 100000 in
theorem BX12_filled_0 {σ : Sg} {post : Po}  
  (h : V mX12_filled 4 [some (vr 94), some (vi 0), some (vi 0)] [] σ post) :
  V mX12_filled 0 [some (vr 94), none, none] [] σ post := by
  refine V_iconst dX12_filled_0 ?_
  refine V_istore_n (L' := [some (vr 94), some (vi 0), none]) dX12_filled_1 rfl (by decide) rfl ?_
  refine V_iconst dX12_filled_2 ?_
  refine V_istore_n (L' := [some (vr 94), some (vi 0), some (vi 0)]) dX12_filled_3 rfl (by decide) rfl ?_
  exact V.sub (SubL_s (SubL_s (SubL_s (SubL_0)))) h
set_option maxRecDepth 100000 in
theorem BX12_filled_4 {σ : Sg} {post : Po} {x1 : Int} {x2 : Int} 
  (h : (rng x2) ∧ ((rng (σ 94 0)) ∧ (((σ 94 0) ≤ x2 → post (some (vi x1)) σ) ∧ (¬ (σ 94 0) ≤ x2 → Cl mX12_isFilled [vr 94, vi x2] σ (pI fun z1 σ1 => Cl mX12_one [vi z1] σ1 (pI fun z2 σ2 => V mX12_filled 4 [some (vr 94), some (vi (x1 + z2)), some (vi (x2 + 1))] [] σ2 post)))))) :
  V mX12_filled 4 [some (vr 94), some (vi x1), some (vi x2)] [] σ post := by
  refine V_iload_n dX12_filled_4 rfl rfl ?_
  refine V_aload_n dX12_filled_5 rfl rfl ?_
  refine V_getI (f := (σ 94 0)) flX12_192 rfl (rfl) (by decide) dX12_filled_6 ?_
  obtain ⟨r1, h⟩ := h
  obtain ⟨r2, h⟩ := h
  refine V_icmp_ge (tgt := 29) dX12_filled_9 rfl r1 r2 (fun q => ?_) (fun q => ?_)
  · replace h := h.1 q
    refine V_iload_n dX12_filled_29 rfl rfl ?_
    exact V_ireturn (stk := []) rfl dX12_filled_30 h
  · replace h := h.2 q
    refine V_iload_n dX12_filled_12 rfl rfl ?_
    refine V_aload_n dX12_filled_13 rfl rfl ?_
    refine V_iload_n dX12_filled_14 rfl rfl ?_
    refine V_callV (av := [vi x2]) (stk := [vi x1]) cvX12_278 rfl rfl rfl (by decide) (by simp [ctg]) dX12_filled_15 h ?_
    rintro _ σ1 ⟨z1, rfl, h⟩
    refine V_callS (av := [vi z1]) (stk := [vi x1]) cvX12_271 rfl rfl (by decide) (by simp [ctg]) dX12_filled_18 h ?_
    rintro _ σ2 ⟨z2, rfl, h⟩
    refine V_iadd dX12_filled_21 ?_
    refine V_istore_n (L' := [some (vr 94), some (vi (x1 + z2)), some (vi x2)]) dX12_filled_22 rfl (by decide) rfl ?_
    refine V_iinc (L' := [some (vr 94), some (vi (x1 + z2)), some (vi (x2 + 1))]) dX12_filled_23 rfl (by decide) rfl ?_
    refine V_goto (tgt := 4) dX12_filled_26 rfl ?_
    exact V.sub (SubL_s (SubL_s (SubL_s (SubL_0)))) h

set_option maxRecDepth 100000 in
theorem BX12_count_0 {σ : Sg} {post : Po} {x1 : Int} 
  (h : (rng x1) ∧ ((x1 < 0 ∨ 6 < x1 → post (some (vi (-1002))) σ) ∧ (x1 = 0 → post (some (vi (σ 94 0))) σ) ∧ (x1 = 1 → post (some (vi (σ 94 7))) σ) ∧ (x1 = 2 → post (some (vi (σ 94 14))) σ) ∧ (x1 = 3 → post (some (vi (σ 94 47))) σ) ∧ (x1 = 4 → Cl mX12_linesOfAll [vr 94, vi 0] σ (pI fun z1 σ1 => post (some (vi z1)) σ1)) ∧ (x1 = 5 → Cl mX12_bytesOfAll [vr 94] σ (pI fun z2 σ2 => post (some (vi z2)) σ2)) ∧ (x1 = 6 → Cl mX12_filled [vr 94] σ (pI fun z3 σ3 => post (some (vi z3)) σ3)))) :
  V mX12_count 0 [some (vr 94), some (vi x1)] [] σ post := by
  refine V_iload_n dX12_count_0 rfl rfl ?_
  obtain ⟨r1, h⟩ := h
  refine V_tsw (dt := 80) dX12_count_1 r1 rfl rfl (fun q => ?_) (fun j off tgt hx ho ht hp => ?_) (by decide)
  · replace h := h.1 q
    refine V_sipush dX12_count_80 (by decide) ?_
    exact V_ireturn (stk := []) rfl dX12_count_83 h
  · rcases j with _ | _ | _ | _ | _ | _ | _ | j
    · have e9 : off = 43 := (Option.some.inj (show some (43 : Int) = some off from ho)).symm
      subst e9
      obtain rfl : tgt = 44 := by omega
      replace h := h.2.1 (by omega)
      refine V_aload_n dX12_count_44 rfl rfl ?_
      refine V_getI (f := (σ 94 0)) flX12_192 rfl (rfl) (by decide) dX12_count_45 ?_
      exact V_ireturn (stk := []) rfl dX12_count_48 h
    · have e9 : off = 48 := (Option.some.inj (show some (48 : Int) = some off from ho)).symm
      subst e9
      obtain rfl : tgt = 49 := by omega
      replace h := h.2.2.1 (by omega)
      refine V_aload_n dX12_count_49 rfl rfl ?_
      refine V_getI (f := (σ 94 7)) flX12_210 rfl (rfl) (by decide) dX12_count_50 ?_
      exact V_ireturn (stk := []) rfl dX12_count_53 h
    · have e9 : off = 53 := (Option.some.inj (show some (53 : Int) = some off from ho)).symm
      subst e9
      obtain rfl : tgt = 54 := by omega
      replace h := h.2.2.2.1 (by omega)
      refine V_aload_n dX12_count_54 rfl rfl ?_
      refine V_getI (f := (σ 94 14)) flX12_150 rfl (rfl) (by decide) dX12_count_55 ?_
      exact V_ireturn (stk := []) rfl dX12_count_58 h
    · have e9 : off = 58 := (Option.some.inj (show some (58 : Int) = some off from ho)).symm
      subst e9
      obtain rfl : tgt = 59 := by omega
      replace h := h.2.2.2.2.1 (by omega)
      refine V_aload_n dX12_count_59 rfl rfl ?_
      refine V_getI (f := (σ 94 47)) flX12_281 rfl (rfl) (by decide) dX12_count_60 ?_
      exact V_ireturn (stk := []) rfl dX12_count_63 h
    · have e9 : off = 63 := (Option.some.inj (show some (63 : Int) = some off from ho)).symm
      subst e9
      obtain rfl : tgt = 64 := by omega
      replace h := h.2.2.2.2.2.1 (by omega)
      refine V_aload_n dX12_count_64 rfl rfl ?_
      refine V_iconst dX12_count_65 ?_
      refine V_callV (av := [vi 0]) (stk := []) cvX12_284 rfl rfl rfl (by decide) (by simp [ctg]) dX12_count_66 h ?_
      rintro _ σ1 ⟨z1, rfl, h⟩
      exact V_ireturn (stk := []) rfl dX12_count_69 h
    · have e9 : off = 69 := (Option.some.inj (show some (69 : Int) = some off from ho)).symm
      subst e9
      obtain rfl : tgt = 70 := by omega
      replace h := h.2.2.2.2.2.2.1 (by omega)
      refine V_aload_n dX12_count_70 rfl rfl ?_
      refine V_callV (av := []) (stk := []) cvX12_287 rfl rfl rfl (by decide) (by simp [ctg]) dX12_count_71 h ?_
      rintro _ σ2 ⟨z2, rfl, h⟩
      exact V_ireturn (stk := []) rfl dX12_count_74 h
    · have e9 : off = 74 := (Option.some.inj (show some (74 : Int) = some off from ho)).symm
      subst e9
      obtain rfl : tgt = 75 := by omega
      replace h := h.2.2.2.2.2.2.2 (by omega)
      refine V_aload_n dX12_count_75 rfl rfl ?_
      refine V_callV (av := []) (stk := []) cvX12_290 rfl rfl rfl (by decide) (by simp [ctg]) dX12_count_76 h ?_
      rintro _ σ3 ⟨z3, rfl, h⟩
      exact V_ireturn (stk := []) rfl dX12_count_79 h
    · exact absurd ho (by simp)

set_option maxRecDepth 100000 in
theorem BX12_head_0 {σ : Sg} {post : Po} {x1 : Int} {x2 : Int} 
  (h : Cl mX12_noHead [vr 94, vi x1] σ (pI fun z1 σ1 => (rng z1) ∧ ((z1 = 0 → (rng x2) ∧ ((x2 < 0 ∨ 6 < x2 → post (some (vi (-1002))) σ1) ∧ (x2 = 0 → (0 ≤ x1 ∧ x1 < 16) ∧ (post (some (vi (σ1 95 x1))) σ1)) ∧ (x2 = 1 → Cl mX12_tick [vr 94, vi x1, vi (-1)] σ1 (pV fun σ2 => Cl mX12_runsTicked [vr 94] σ2 (pI fun z3 σ3 => post (some (vi z3)) σ3))) ∧ (x2 = 2 → (0 ≤ x1 ∧ x1 < 16) ∧ (post (some (vi (σ1 98 x1))) σ1)) ∧ (x2 = 3 → (0 ≤ x1 ∧ x1 < 16) ∧ (post (some (vi (σ1 99 x1))) σ1)) ∧ (x2 = 4 → (0 ≤ x1 ∧ x1 < 16) ∧ (post (some (vi (σ1 100 x1))) σ1)) ∧ (x2 = 5 → Cl mX12_isFilled [vr 94, vi x1] σ1 (pI fun z4 σ4 => Cl mX12_one [vi z4] σ4 (pI fun z5 σ5 => post (some (vi z5)) σ5))) ∧ (x2 = 6 → Cl mX12_linesOf [vr 94, vi x1, vi 0] σ1 (pI fun z6 σ6 => post (some (vi z6)) σ6)))) ∧ (¬ z1 = 0 → post (some (vi (-1001))) σ1)))) :
  V mX12_head 0 [some (vr 94), some (vi x1), some (vi x2)] [] σ post := by
  refine V_aload_n dX12_head_0 rfl rfl ?_
  refine V_iload_n dX12_head_1 rfl rfl ?_
  refine V_callV (av := [vi x1]) (stk := []) cvX12_293 rfl rfl rfl (by decide) (by simp [ctg]) dX12_head_2 h ?_
  rintro _ σ1 ⟨z1, rfl, h⟩
  obtain ⟨r1, h⟩ := h
  refine V_if_eq (tgt := 12) dX12_head_5 rfl r1 (fun q => ?_) (fun q => ?_)
  · replace h := h.1 q
    refine V_iload_n dX12_head_12 rfl rfl ?_
    obtain ⟨r2, h⟩ := h
    refine V_tsw (dt := 111) dX12_head_13 r2 rfl rfl (fun q => ?_) (fun j off tgt hx ho ht hp => ?_) (by decide)
    · replace h := h.1 q
      refine V_sipush dX12_head_111 (by decide) ?_
      exact V_ireturn (stk := []) rfl dX12_head_114 h
    · rcases j with _ | _ | _ | _ | _ | _ | _ | j
      · have e9 : off = 43 := (Option.some.inj (show some (43 : Int) = some off from ho)).symm
        subst e9
        obtain rfl : tgt = 56 := by omega
        replace h := h.2.1 (by omega)
        refine V_aload_n dX12_head_56 rfl rfl ?_
        refine V_getR (k2 := 95) flX12_7 rfl rfl (by decide) dX12_head_57 ?_
        refine V_iload_n dX12_head_60 rfl rfl ?_
        obtain ⟨r3, h⟩ := h
        refine V_iald (f := (σ1 95 x1)) (rfl : shp[95]? = some (1, 16, 0)) r3 (rfl) dX12_head_61 ?_
        exact V_ireturn (stk := []) rfl dX12_head_62 h
      · have e9 : off = 50 := (Option.some.inj (show some (50 : Int) = some off from ho)).symm
        subst e9
        obtain rfl : tgt = 63 := by omega
        replace h := h.2.2.1 (by omega)
        refine V_aload_n dX12_head_63 rfl rfl ?_
        refine V_iload_n dX12_head_64 rfl rfl ?_
        refine V_iconst dX12_head_65 ?_
        refine V_callV (av := [vi x1, vi (-1)]) (stk := []) cvX12_296 rfl rfl rfl (by decide) (by simp [ctg]) dX12_head_66 h ?_
        rintro _ σ2 ⟨rfl, h⟩
        refine V_aload_n dX12_head_69 rfl rfl ?_
        refine V_callV (av := []) (stk := []) cvX12_300 rfl rfl rfl (by decide) (by simp [ctg]) dX12_head_70 h ?_
        rintro _ σ3 ⟨z3, rfl, h⟩
        exact V_ireturn (stk := []) rfl dX12_head_73 h
      · have e9 : off = 61 := (Option.some.inj (show some (61 : Int) = some off from ho)).symm
        subst e9
        obtain rfl : tgt = 74 := by omega
        replace h := h.2.2.2.1 (by omega)
        refine V_aload_n dX12_head_74 rfl rfl ?_
        refine V_getR (k2 := 98) flX12_19 rfl rfl (by decide) dX12_head_75 ?_
        refine V_iload_n dX12_head_78 rfl rfl ?_
        obtain ⟨r4, h⟩ := h
        refine V_iald (f := (σ1 98 x1)) (rfl : shp[98]? = some (1, 16, 0)) r4 (rfl) dX12_head_79 ?_
        exact V_ireturn (stk := []) rfl dX12_head_80 h
      · have e9 : off = 68 := (Option.some.inj (show some (68 : Int) = some off from ho)).symm
        subst e9
        obtain rfl : tgt = 81 := by omega
        replace h := h.2.2.2.2.1 (by omega)
        refine V_aload_n dX12_head_81 rfl rfl ?_
        refine V_getR (k2 := 99) flX12_22 rfl rfl (by decide) dX12_head_82 ?_
        refine V_iload_n dX12_head_85 rfl rfl ?_
        obtain ⟨r5, h⟩ := h
        refine V_iald (f := (σ1 99 x1)) (rfl : shp[99]? = some (1, 16, 0)) r5 (rfl) dX12_head_86 ?_
        exact V_ireturn (stk := []) rfl dX12_head_87 h
      · have e9 : off = 75 := (Option.some.inj (show some (75 : Int) = some off from ho)).symm
        subst e9
        obtain rfl : tgt = 88 := by omega
        replace h := h.2.2.2.2.2.1 (by omega)
        refine V_aload_n dX12_head_88 rfl rfl ?_
        refine V_getR (k2 := 100) flX12_25 rfl rfl (by decide) dX12_head_89 ?_
        refine V_iload_n dX12_head_92 rfl rfl ?_
        obtain ⟨r6, h⟩ := h
        refine V_iald (f := (σ1 100 x1)) (rfl : shp[100]? = some (1, 16, 0)) r6 (rfl) dX12_head_93 ?_
        exact V_ireturn (stk := []) rfl dX12_head_94 h
      · have e9 : off = 82 := (Option.some.inj (show some (82 : Int) = some off from ho)).symm
        subst e9
        obtain rfl : tgt = 95 := by omega
        replace h := h.2.2.2.2.2.2.1 (by omega)
        refine V_aload_n dX12_head_95 rfl rfl ?_
        refine V_iload_n dX12_head_96 rfl rfl ?_
        refine V_callV (av := [vi x1]) (stk := []) cvX12_278 rfl rfl rfl (by decide) (by simp [ctg]) dX12_head_97 h ?_
        rintro _ σ4 ⟨z4, rfl, h⟩
        refine V_callS (av := [vi z4]) (stk := []) cvX12_271 rfl rfl (by decide) (by simp [ctg]) dX12_head_100 h ?_
        rintro _ σ5 ⟨z5, rfl, h⟩
        exact V_ireturn (stk := []) rfl dX12_head_103 h
      · have e9 : off = 91 := (Option.some.inj (show some (91 : Int) = some off from ho)).symm
        subst e9
        obtain rfl : tgt = 104 := by omega
        replace h := h.2.2.2.2.2.2.2 (by omega)
        refine V_aload_n dX12_head_104 rfl rfl ?_
        refine V_iload_n dX12_head_105 rfl rfl ?_
        refine V_iconst dX12_head_106 ?_
        refine V_callV (av := [vi x1, vi 0]) (stk := []) cvX12_303 rfl rfl rfl (by decide) (by simp [ctg]) dX12_head_107 h ?_
        rintro _ σ6 ⟨z6, rfl, h⟩
        exact V_ireturn (stk := []) rfl dX12_head_110 h
      · exact absurd ho (by simp)
  · replace h := h.2 q
    refine V_sipush dX12_head_8 (by decide) ?_
    exact V_ireturn (stk := []) rfl dX12_head_11 h

set_option maxRecDepth 100000 in
theorem BX12_name_0 {σ : Sg} {post : Po} {x1 : Int} {x2 : Int} {x3 : Int} 
  (h : Cl mX12_noHead [vr 94, vi x1] σ (pI fun z1 σ1 => (rng z1) ∧ ((¬ z1 = 0 → post (some (vi (-1001))) σ1) ∧ (z1 = 0 → Cl mX12_noSub [vr 94, vi x1, vi x2] σ1 (pI fun z2 σ2 => (rng z2) ∧ ((z2 = 0 → Cl mX12_slot [vi x1, vi x2] σ2 (pI fun z3 σ3 => (rng x3) ∧ ((¬ x3 = (-1) → (0 ≤ z3 ∧ z3 < 112) ∧ ((rng ((σ3 96 z3) - 1)) ∧ (Cl mX12_in [vl x3, vl 0, vl ((σ3 96 z3) - 1)] σ3 (pI fun z4 σ4 => (rng z4) ∧ ((z4 = 0 → post (some (vi (-1))) σ4) ∧ (¬ z4 = 0 → (0 ≤ ((12 * z3) + x3) ∧ ((12 * z3) + x3) < 1344) ∧ (post (some (vi (σ4 97 ((12 * z3) + x3)))) σ4))))))) ∧ (x3 = (-1) → (0 ≤ z3 ∧ z3 < 112) ∧ (post (some (vi (σ3 96 z3))) σ3))))) ∧ (¬ z2 = 0 → post (some (vi (-1001))) σ2))))))) :
  V mX12_name 0 [some (vr 94), some (vi x1), some (vi x2), some (vi x3), none] [] σ post := by
  refine V_aload_n dX12_name_0 rfl rfl ?_
  refine V_iload_n dX12_name_1 rfl rfl ?_
  refine V_callV (av := [vi x1]) (stk := []) cvX12_293 rfl rfl rfl (by decide) (by simp [ctg]) dX12_name_2 h ?_
  rintro _ σ1 ⟨z1, rfl, h⟩
  obtain ⟨r1, h⟩ := h
  refine V_if_ne (tgt := 17) dX12_name_5 rfl r1 (fun q => ?_) (fun q => ?_)
  · replace h := h.1 q
    refine V_sipush dX12_name_17 (by decide) ?_
    exact V_ireturn (stk := []) rfl dX12_name_20 h
  · replace h := h.2 q
    refine V_aload_n dX12_name_8 rfl rfl ?_
    refine V_iload_n dX12_name_9 rfl rfl ?_
    refine V_iload_n dX12_name_10 rfl rfl ?_
    refine V_callV (av := [vi x1, vi x2]) (stk := []) cvX12_306 rfl rfl rfl (by decide) (by simp [ctg]) dX12_name_11 h ?_
    rintro _ σ2 ⟨z2, rfl, h⟩
    obtain ⟨r2, h⟩ := h
    refine V_if_eq (tgt := 21) dX12_name_14 rfl r2 (fun q => ?_) (fun q => ?_)
    · replace h := h.1 q
      refine V_iload_n dX12_name_21 rfl rfl ?_
      refine V_iload_n dX12_name_22 rfl rfl ?_
      refine V_callS (av := [vi x1, vi x2]) (stk := []) cvX12_195 rfl rfl (by decide) (by simp [ctg]) dX12_name_23 h ?_
      rintro _ σ3 ⟨z3, rfl, h⟩
      refine V_istore (L' := [some (vr 94), some (vi x1), some (vi x2), some (vi x3), some (vi z3)]) dX12_name_26 (by decide) rfl ?_
      refine V_iload_n dX12_name_28 rfl rfl ?_
      refine V_iconst dX12_name_29 ?_
      obtain ⟨r3, h⟩ := h
      refine V_icmp_ne (tgt := 43) dX12_name_30 rfl r3 (by decide) (fun q => ?_) (fun q => ?_)
      · replace h := h.1 q
        refine V_iload_n dX12_name_43 rfl rfl ?_
        refine V_i2l dX12_name_44 r3 ?_
        refine V_lconst (z := 0) dX12_name_45 rfl ?_
        refine V_aload_n dX12_name_46 rfl rfl ?_
        refine V_getR (k2 := 96) flX12_13 rfl rfl (by decide) dX12_name_47 ?_
        refine V_iload dX12_name_50 rfl ?_
        obtain ⟨r4, h⟩ := h
        refine V_iald (f := (σ3 96 z3)) (rfl : shp[96]? = some (1, 112, 0)) r4 (rfl) dX12_name_52 ?_
        refine V_iconst dX12_name_53 ?_
        refine V_isub dX12_name_54 ?_
        obtain ⟨r5, h⟩ := h
        refine V_i2l dX12_name_55 r5 ?_
        refine V_callS (av := [vl x3, vl 0, vl ((σ3 96 z3) - 1)]) (stk := []) cvX12_146 rfl rfl (by decide) (by simp [ctg]) dX12_name_56 h ?_
        rintro _ σ4 ⟨z4, rfl, h⟩
        obtain ⟨r6, h⟩ := h
        refine V_if_eq (tgt := 77) dX12_name_59 rfl r6 (fun q => ?_) (fun q => ?_)
        · replace h := h.1 q
          refine V_iconst dX12_name_77 ?_
          exact V_ireturn (stk := []) rfl dX12_name_78 h
        · replace h := h.2 q
          refine V_aload_n dX12_name_62 rfl rfl ?_
          refine V_getR (k2 := 97) flX12_16 rfl rfl (by decide) dX12_name_63 ?_
          refine V_bipush dX12_name_66 (by decide) ?_
          refine V_iload dX12_name_68 rfl ?_
          refine V_imul dX12_name_70 ?_
          refine V_iload_n dX12_name_71 rfl rfl ?_
          refine V_iadd dX12_name_72 ?_
          obtain ⟨r7, h⟩ := h
          refine V_iald (f := (σ4 97 ((12 * z3) + x3))) (rfl : shp[97]? = some (1, 1344, 0)) r7 (rfl) dX12_name_73 ?_
          refine V_goto (tgt := 78) dX12_name_74 rfl ?_
          exact V_ireturn (stk := []) rfl dX12_name_78 h
      · replace h := h.2 q
        refine V_aload_n dX12_name_33 rfl rfl ?_
        refine V_getR (k2 := 96) flX12_13 rfl rfl (by decide) dX12_name_34 ?_
        refine V_iload dX12_name_37 rfl ?_
        obtain ⟨r8, h⟩ := h
        refine V_iald (f := (σ3 96 z3)) (rfl : shp[96]? = some (1, 112, 0)) r8 (rfl) dX12_name_39 ?_
        refine V_goto (tgt := 78) dX12_name_40 rfl ?_
        exact V_ireturn (stk := []) rfl dX12_name_78 h
    · replace h := h.2 q
      refine V_sipush dX12_name_17 (by decide) ?_
      exact V_ireturn (stk := []) rfl dX12_name_20 h

set_option maxRecDepth 100000 in
theorem BX12_mark_0 {σ : Sg} {post : Po} {x1 : Int} {x2 : Int} 
  (h : (rng x1) ∧ ((rng ((σ 94 7) - 1)) ∧ (Cl mX12_in [vl x1, vl 0, vl ((σ 94 7) - 1)] σ (pI fun z1 σ1 => (rng z1) ∧ ((¬ z1 = 0 → (rng x2) ∧ ((x2 < 0 ∨ 4 < x2 → post (some (vi (-1002))) σ1) ∧ (x2 = 0 → (0 ≤ x1 ∧ x1 < 60) ∧ (post (some (vi (σ1 101 x1))) σ1)) ∧ (x2 = 1 → (0 ≤ x1 ∧ x1 < 60) ∧ (post (some (vi (σ1 102 x1))) σ1)) ∧ (x2 = 2 → (0 ≤ x1 ∧ x1 < 60) ∧ (post (some (vi (σ1 103 x1))) σ1)) ∧ (x2 = 3 → (0 ≤ x1 ∧ x1 < 60) ∧ (post (some (vi (σ1 104 x1))) σ1)) ∧ (x2 = 4 → (0 ≤ x1 ∧ x1 < 60) ∧ (Cl mX12_one [vi (σ1 105 x1)] σ1 (pI fun z2 σ2 => post (some (vi z2)) σ2))))) ∧ (z1 = 0 → post (some (vi (-1001))) σ1)))))) :
  V mX12_mark 0 [some (vr 94), some (vi x1), some (vi x2)] [] σ post := by
  refine V_iload_n dX12_mark_0 rfl rfl ?_
  obtain ⟨r1, h⟩ := h
  refine V_i2l dX12_mark_1 r1 ?_
  refine V_lconst (z := 0) dX12_mark_2 rfl ?_
  refine V_aload_n dX12_mark_3 rfl rfl ?_
  refine V_getI (f := (σ 94 7)) flX12_210 rfl (rfl) (by decide) dX12_mark_4 ?_
  refine V_iconst dX12_mark_7 ?_
  refine V_isub dX12_mark_8 ?_
  obtain ⟨r2, h⟩ := h
  refine V_i2l dX12_mark_9 r2 ?_
  refine V_callS (av := [vl x1, vl 0, vl ((σ 94 7) - 1)]) (stk := []) cvX12_146 rfl rfl (by decide) (by simp [ctg]) dX12_mark_10 h ?_
  rintro _ σ1 ⟨z1, rfl, h⟩
  obtain ⟨r3, h⟩ := h
  refine V_if_ne (tgt := 20) dX12_mark_13 rfl r3 (fun q => ?_) (fun q => ?_)
  · replace h := h.1 q
    refine V_iload_n dX12_mark_20 rfl rfl ?_
    obtain ⟨r4, h⟩ := h
    refine V_tsw (dt := 94) dX12_mark_21 r4 rfl rfl (fun q => ?_) (fun j off tgt hx ho ht hp => ?_) (by decide)
    · replace h := h.1 q
      refine V_sipush dX12_mark_94 (by decide) ?_
      exact V_ireturn (stk := []) rfl dX12_mark_97 h
    · rcases j with _ | _ | _ | _ | _ | j
      · have e9 : off = 35 := (Option.some.inj (show some (35 : Int) = some off from ho)).symm
        subst e9
        obtain rfl : tgt = 56 := by omega
        replace h := h.2.1 (by omega)
        refine V_aload_n dX12_mark_56 rfl rfl ?_
        refine V_getR (k2 := 101) flX12_28 rfl rfl (by decide) dX12_mark_57 ?_
        refine V_iload_n dX12_mark_60 rfl rfl ?_
        obtain ⟨r5, h⟩ := h
        refine V_iald (f := (σ1 101 x1)) (rfl : shp[101]? = some (1, 60, 0)) r5 (rfl) dX12_mark_61 ?_
        exact V_ireturn (stk := []) rfl dX12_mark_62 h
      · have e9 : off = 42 := (Option.some.inj (show some (42 : Int) = some off from ho)).symm
        subst e9
        obtain rfl : tgt = 63 := by omega
        replace h := h.2.2.1 (by omega)
        refine V_aload_n dX12_mark_63 rfl rfl ?_
        refine V_getR (k2 := 102) flX12_31 rfl rfl (by decide) dX12_mark_64 ?_
        refine V_iload_n dX12_mark_67 rfl rfl ?_
        obtain ⟨r6, h⟩ := h
        refine V_iald (f := (σ1 102 x1)) (rfl : shp[102]? = some (1, 60, 0)) r6 (rfl) dX12_mark_68 ?_
        exact V_ireturn (stk := []) rfl dX12_mark_69 h
      · have e9 : off = 49 := (Option.some.inj (show some (49 : Int) = some off from ho)).symm
        subst e9
        obtain rfl : tgt = 70 := by omega
        replace h := h.2.2.2.1 (by omega)
        refine V_aload_n dX12_mark_70 rfl rfl ?_
        refine V_getR (k2 := 103) flX12_34 rfl rfl (by decide) dX12_mark_71 ?_
        refine V_iload_n dX12_mark_74 rfl rfl ?_
        obtain ⟨r7, h⟩ := h
        refine V_iald (f := (σ1 103 x1)) (rfl : shp[103]? = some (1, 60, 0)) r7 (rfl) dX12_mark_75 ?_
        exact V_ireturn (stk := []) rfl dX12_mark_76 h
      · have e9 : off = 56 := (Option.some.inj (show some (56 : Int) = some off from ho)).symm
        subst e9
        obtain rfl : tgt = 77 := by omega
        replace h := h.2.2.2.2.1 (by omega)
        refine V_aload_n dX12_mark_77 rfl rfl ?_
        refine V_getR (k2 := 104) flX12_37 rfl rfl (by decide) dX12_mark_78 ?_
        refine V_iload_n dX12_mark_81 rfl rfl ?_
        obtain ⟨r8, h⟩ := h
        refine V_iald (f := (σ1 104 x1)) (rfl : shp[104]? = some (1, 60, 0)) r8 (rfl) dX12_mark_82 ?_
        exact V_ireturn (stk := []) rfl dX12_mark_83 h
      · have e9 : off = 63 := (Option.some.inj (show some (63 : Int) = some off from ho)).symm
        subst e9
        obtain rfl : tgt = 84 := by omega
        replace h := h.2.2.2.2.2 (by omega)
        refine V_aload_n dX12_mark_84 rfl rfl ?_
        refine V_getR (k2 := 105) flX12_40 rfl rfl (by decide) dX12_mark_85 ?_
        refine V_iload_n dX12_mark_88 rfl rfl ?_
        obtain ⟨r9, h⟩ := h
        refine V_zald (f := (σ1 105 x1)) (rfl : shp[105]? = some (3, 60, 0)) r9 (rfl) dX12_mark_89 ?_
        refine V_callS (av := [vi (σ1 105 x1)]) (stk := []) cvX12_271 rfl rfl (by decide) (by simp [ctg]) dX12_mark_90 h ?_
        rintro _ σ2 ⟨z2, rfl, h⟩
        exact V_ireturn (stk := []) rfl dX12_mark_93 h
      · exact absurd ho (by simp)
  · replace h := h.2 q
    refine V_sipush dX12_mark_16 (by decide) ?_
    exact V_ireturn (stk := []) rfl dX12_mark_19 h

set_option maxRecDepth 100000 in
theorem BX12_isPage_0 {σ : Sg} {post : Po} {x0 : Int} 
  (h : (rng x0) ∧ (Cl mX12_in [vl x0, vl 1, vl 99] σ (pI fun z1 σ1 => (z1 = 0 ∨ z1 = 1) ∧ (post (some (vi z1)) σ1)))) :
  V mX12_isPage 0 [some (vi x0)] [] σ post := by
  refine V_iload_n dX12_isPage_0 rfl rfl ?_
  obtain ⟨r1, h⟩ := h
  refine V_i2l dX12_isPage_1 r1 ?_
  refine V_lconst (z := 1) dX12_isPage_2 rfl ?_
  refine V_ldc2 dX12_isPage_3 klX12_309 ?_
  refine V_callS (av := [vl x0, vl 1, vl 99]) (stk := []) cvX12_146 rfl rfl (by decide) (by simp [ctg]) dX12_isPage_6 h ?_
  rintro _ σ1 ⟨z1, rfl, h⟩
  obtain ⟨r2, h⟩ := h
  exact V_zreturn (stk := []) rfl dX12_isPage_9 r2 h

set_option maxRecDepth 100000 in
theorem BX12_add_0 {σ : Sg} {post : Po} {x1 : Int} {x2 : Int} {x3 : Int} {x4 : Int} {x5 : Int} 
  (h : Cl mX12_noHead [vr 94, vi x1] σ (pI fun z1 σ1 => (rng z1) ∧ ((¬ z1 = 0 → post (some (vi (-1001))) σ1) ∧ (z1 = 0 → Cl mX12_noSub [vr 94, vi x1, vi x2] σ1 (pI fun z2 σ2 => (rng z2) ∧ ((z2 = 0 → Cl mX12_isPage [vi x3] σ2 (pI fun z3 σ3 => (rng z3) ∧ ((z3 = 0 → post (some (vi (-1002))) σ3) ∧ (¬ z3 = 0 → Cl mX12_isPage [vi x4] σ3 (pI fun z4 σ4 => (rng z4) ∧ ((z4 = 0 → post (some (vi (-1002))) σ4) ∧ (¬ z4 = 0 → (rng x4) ∧ ((rng x3) ∧ ((x3 ≤ x4 → (rng (σ4 94 7)) ∧ ((¬ (σ4 94 7) = 60 → Cl mX12_lay [vr 94, vi x1, vi x2, vi x3, vi x4, vi x5] σ4 (pV fun σ5 => post (some (vi ((σ5 94 7) - 1))) σ5)) ∧ ((σ4 94 7) = 60 → post (some (vi (-1004))) σ4))) ∧ (¬ x3 ≤ x4 → post (some (vi (-1002))) σ4)))))))))) ∧ (¬ z2 = 0 → post (some (vi (-1001))) σ2))))))) :
  V mX12_add 0 [some (vr 94), some (vi x1), some (vi x2), some (vi x3), some (vi x4), some (vi x5)] [] σ post := by
  refine V_aload_n dX12_add_0 rfl rfl ?_
  refine V_iload_n dX12_add_1 rfl rfl ?_
  refine V_callV (av := [vi x1]) (stk := []) cvX12_293 rfl rfl rfl (by decide) (by simp [ctg]) dX12_add_2 h ?_
  rintro _ σ1 ⟨z1, rfl, h⟩
  obtain ⟨r1, h⟩ := h
  refine V_if_ne (tgt := 17) dX12_add_5 rfl r1 (fun q => ?_) (fun q => ?_)
  · replace h := h.1 q
    refine V_sipush dX12_add_17 (by decide) ?_
    exact V_ireturn (stk := []) rfl dX12_add_20 h
  · replace h := h.2 q
    refine V_aload_n dX12_add_8 rfl rfl ?_
    refine V_iload_n dX12_add_9 rfl rfl ?_
    refine V_iload_n dX12_add_10 rfl rfl ?_
    refine V_callV (av := [vi x1, vi x2]) (stk := []) cvX12_306 rfl rfl rfl (by decide) (by simp [ctg]) dX12_add_11 h ?_
    rintro _ σ2 ⟨z2, rfl, h⟩
    obtain ⟨r2, h⟩ := h
    refine V_if_eq (tgt := 21) dX12_add_14 rfl r2 (fun q => ?_) (fun q => ?_)
    · replace h := h.1 q
      refine V_iload_n dX12_add_21 rfl rfl ?_
      refine V_callS (av := [vi x3]) (stk := []) cvX12_311 rfl rfl (by decide) (by simp [ctg]) dX12_add_22 h ?_
      rintro _ σ3 ⟨z3, rfl, h⟩
      obtain ⟨r3, h⟩ := h
      refine V_if_eq (tgt := 42) dX12_add_25 rfl r3 (fun q => ?_) (fun q => ?_)
      · replace h := h.1 q
        refine V_sipush dX12_add_42 (by decide) ?_
        exact V_ireturn (stk := []) rfl dX12_add_45 h
      · replace h := h.2 q
        refine V_iload dX12_add_28 rfl ?_
        refine V_callS (av := [vi x4]) (stk := []) cvX12_311 rfl rfl (by decide) (by simp [ctg]) dX12_add_30 h ?_
        rintro _ σ4 ⟨z4, rfl, h⟩
        obtain ⟨r4, h⟩ := h
        refine V_if_eq (tgt := 42) dX12_add_33 rfl r4 (fun q => ?_) (fun q => ?_)
        · replace h := h.1 q
          refine V_sipush dX12_add_42 (by decide) ?_
          exact V_ireturn (stk := []) rfl dX12_add_45 h
        · replace h := h.2 q
          refine V_iload dX12_add_36 rfl ?_
          refine V_iload_n dX12_add_38 rfl rfl ?_
          obtain ⟨r5, h⟩ := h
          obtain ⟨r6, h⟩ := h
          refine V_icmp_ge (tgt := 46) dX12_add_39 rfl r5 r6 (fun q => ?_) (fun q => ?_)
          · replace h := h.1 q
            refine V_aload_n dX12_add_46 rfl rfl ?_
            refine V_getI (f := (σ4 94 7)) flX12_210 rfl (rfl) (by decide) dX12_add_47 ?_
            refine V_bipush dX12_add_50 (by decide) ?_
            obtain ⟨r7, h⟩ := h
            refine V_icmp_ne (tgt := 59) dX12_add_52 rfl r7 (by decide) (fun q => ?_) (fun q => ?_)
            · replace h := h.1 q
              refine V_aload_n dX12_add_59 rfl rfl ?_
              refine V_iload_n dX12_add_60 rfl rfl ?_
              refine V_iload_n dX12_add_61 rfl rfl ?_
              refine V_iload_n dX12_add_62 rfl rfl ?_
              refine V_iload dX12_add_63 rfl ?_
              refine V_iload dX12_add_65 rfl ?_
              refine V_callV (av := [vi x1, vi x2, vi x3, vi x4, vi x5]) (stk := []) cvX12_227 rfl rfl rfl (by decide) (by simp [ctg]) dX12_add_67 h ?_
              rintro _ σ5 ⟨rfl, h⟩
              refine V_aload_n dX12_add_70 rfl rfl ?_
              refine V_getI (f := (σ5 94 7)) flX12_210 rfl (rfl) (by decide) dX12_add_71 ?_
              refine V_iconst dX12_add_74 ?_
              refine V_isub dX12_add_75 ?_
              exact V_ireturn (stk := []) rfl dX12_add_76 h
            · replace h := h.2 q
              refine V_sipush dX12_add_55 (by decide) ?_
              exact V_ireturn (stk := []) rfl dX12_add_58 h
          · replace h := h.2 q
            refine V_sipush dX12_add_42 (by decide) ?_
            exact V_ireturn (stk := []) rfl dX12_add_45 h
    · replace h := h.2 q
      refine V_sipush dX12_add_17 (by decide) ?_
      exact V_ireturn (stk := []) rfl dX12_add_20 h

set_option maxRecDepth 100000 in
theorem BX12_takeAway_0 {σ : Sg} {post : Po} {x1 : Int} 
  (h : V mX12_takeAway 2 [some (vr 94), none, some (vi x1)] [] σ post) :
  V mX12_takeAway 0 [some (vr 94), some (vi x1), none] [] σ post := by
  refine V_iload_n dX12_takeAway_0 rfl rfl ?_
  refine V_istore_n (L' := [some (vr 94), some (vi x1), some (vi x1)]) dX12_takeAway_1 rfl (by decide) rfl ?_
  exact V.sub (SubL_s (SubL_n (SubL_s (SubL_0)))) h
set_option maxRecDepth 100000 in
theorem BX12_takeAway_2 {σ : Sg} {post : Po} {x2 : Int} 
  (h : (rng (x2 + 1)) ∧ ((rng (σ 94 7)) ∧ (((σ 94 7) ≤ (x2 + 1) → post none (up σ 94 7 ((σ 94 7) - 1))) ∧ (¬ (σ 94 7) ≤ (x2 + 1) → (0 ≤ (x2 + 1) ∧ (x2 + 1) < 60) ∧ ((0 ≤ x2 ∧ x2 < 60) ∧ (((σ 105 (x2 + 1)) = 0 ∨ (σ 105 (x2 + 1)) = 1) ∧ (V mX12_takeAway 2 [some (vr 94), none, some (vi (x2 + 1))] [] (up (up (up (up (up σ 101 x2 (σ 101 (x2 + 1))) 102 x2 (σ 102 (x2 + 1))) 103 x2 (σ 103 (x2 + 1))) 104 x2 (σ 104 (x2 + 1))) 105 x2 (σ 105 (x2 + 1))) post))))))) :
  V mX12_takeAway 2 [some (vr 94), none, some (vi x2)] [] σ post := by
  refine V_iload_n dX12_takeAway_2 rfl rfl ?_
  refine V_iconst dX12_takeAway_3 ?_
  refine V_iadd dX12_takeAway_4 ?_
  refine V_aload_n dX12_takeAway_5 rfl rfl ?_
  refine V_getI (f := (σ 94 7)) flX12_210 rfl (rfl) (by decide) dX12_takeAway_6 ?_
  obtain ⟨r1, h⟩ := h
  obtain ⟨r2, h⟩ := h
  refine V_icmp_ge (tgt := 88) dX12_takeAway_9 rfl r1 r2 (fun q => ?_) (fun q => ?_)
  · replace h := h.1 q
    refine V_aload_n dX12_takeAway_88 rfl rfl ?_
    refine V_dup dX12_takeAway_89 trivial ?_
    refine V_getI (f := (σ 94 7)) flX12_210 rfl (rfl) (by decide) dX12_takeAway_90 ?_
    refine V_iconst dX12_takeAway_93 ?_
    refine V_isub dX12_takeAway_94 ?_
    refine V_putI flX12_210 rfl (by decide) dX12_takeAway_95 ?_
    exact V_return (stk := []) rfl dX12_takeAway_98 h
  · replace h := h.2 q
    refine V_aload_n dX12_takeAway_12 rfl rfl ?_
    refine V_getR (k2 := 101) flX12_28 rfl rfl (by decide) dX12_takeAway_13 ?_
    refine V_iload_n dX12_takeAway_16 rfl rfl ?_
    refine V_aload_n dX12_takeAway_17 rfl rfl ?_
    refine V_getR (k2 := 101) flX12_28 rfl rfl (by decide) dX12_takeAway_18 ?_
    refine V_iload_n dX12_takeAway_21 rfl rfl ?_
    refine V_iconst dX12_takeAway_22 ?_
    refine V_iadd dX12_takeAway_23 ?_
    obtain ⟨r3, h⟩ := h
    refine V_iald (f := (σ 101 (x2 + 1))) (rfl : shp[101]? = some (1, 60, 0)) r3 (rfl) dX12_takeAway_24 ?_
    obtain ⟨r4, h⟩ := h
    refine V_iast (rfl : shp[101]? = some (1, 60, 0)) r4 dX12_takeAway_25 ?_
    refine V_aload_n dX12_takeAway_26 rfl rfl ?_
    refine V_getR (k2 := 102) flX12_31 rfl rfl (by decide) dX12_takeAway_27 ?_
    refine V_iload_n dX12_takeAway_30 rfl rfl ?_
    refine V_aload_n dX12_takeAway_31 rfl rfl ?_
    refine V_getR (k2 := 102) flX12_31 rfl rfl (by decide) dX12_takeAway_32 ?_
    refine V_iload_n dX12_takeAway_35 rfl rfl ?_
    refine V_iconst dX12_takeAway_36 ?_
    refine V_iadd dX12_takeAway_37 ?_
    refine V_iald (f := (σ 102 (x2 + 1))) (rfl : shp[102]? = some (1, 60, 0)) r3 (up_o (by omega)) dX12_takeAway_38 ?_
    refine V_iast (rfl : shp[102]? = some (1, 60, 0)) r4 dX12_takeAway_39 ?_
    refine V_aload_n dX12_takeAway_40 rfl rfl ?_
    refine V_getR (k2 := 103) flX12_34 rfl rfl (by decide) dX12_takeAway_41 ?_
    refine V_iload_n dX12_takeAway_44 rfl rfl ?_
    refine V_aload_n dX12_takeAway_45 rfl rfl ?_
    refine V_getR (k2 := 103) flX12_34 rfl rfl (by decide) dX12_takeAway_46 ?_
    refine V_iload_n dX12_takeAway_49 rfl rfl ?_
    refine V_iconst dX12_takeAway_50 ?_
    refine V_iadd dX12_takeAway_51 ?_
    refine V_iald (f := (σ 103 (x2 + 1))) (rfl : shp[103]? = some (1, 60, 0)) r3 ((up_o (by omega)).trans (up_o (by omega))) dX12_takeAway_52 ?_
    refine V_iast (rfl : shp[103]? = some (1, 60, 0)) r4 dX12_takeAway_53 ?_
    refine V_aload_n dX12_takeAway_54 rfl rfl ?_
    refine V_getR (k2 := 104) flX12_37 rfl rfl (by decide) dX12_takeAway_55 ?_
    refine V_iload_n dX12_takeAway_58 rfl rfl ?_
    refine V_aload_n dX12_takeAway_59 rfl rfl ?_
    refine V_getR (k2 := 104) flX12_37 rfl rfl (by decide) dX12_takeAway_60 ?_
    refine V_iload_n dX12_takeAway_63 rfl rfl ?_
    refine V_iconst dX12_takeAway_64 ?_
    refine V_iadd dX12_takeAway_65 ?_
    refine V_iald (f := (σ 104 (x2 + 1))) (rfl : shp[104]? = some (1, 60, 0)) r3 ((up_o (by omega)).trans ((up_o (by omega)).trans (up_o (by omega)))) dX12_takeAway_66 ?_
    refine V_iast (rfl : shp[104]? = some (1, 60, 0)) r4 dX12_takeAway_67 ?_
    refine V_aload_n dX12_takeAway_68 rfl rfl ?_
    refine V_getR (k2 := 105) flX12_40 rfl rfl (by decide) dX12_takeAway_69 ?_
    refine V_iload_n dX12_takeAway_72 rfl rfl ?_
    refine V_aload_n dX12_takeAway_73 rfl rfl ?_
    refine V_getR (k2 := 105) flX12_40 rfl rfl (by decide) dX12_takeAway_74 ?_
    refine V_iload_n dX12_takeAway_77 rfl rfl ?_
    refine V_iconst dX12_takeAway_78 ?_
    refine V_iadd dX12_takeAway_79 ?_
    refine V_zald (f := (σ 105 (x2 + 1))) (rfl : shp[105]? = some (3, 60, 0)) r3 ((up_o (by omega)).trans ((up_o (by omega)).trans ((up_o (by omega)).trans (up_o (by omega))))) dX12_takeAway_80 ?_
    obtain ⟨r5, h⟩ := h
    refine V_zast (rfl : shp[105]? = some (3, 60, 0)) r4 r5 dX12_takeAway_81 ?_
    refine V_iinc (L' := [some (vr 94), none, some (vi (x2 + 1))]) dX12_takeAway_82 rfl (by decide) rfl ?_
    refine V_goto (tgt := 2) dX12_takeAway_85 rfl ?_
    exact V.sub (SubL_s (SubL_n (SubL_s (SubL_0)))) h

set_option maxRecDepth 100000 in
theorem BX12_drop_0 {σ : Sg} {post : Po} {x1 : Int} 
  (h : (rng x1) ∧ ((rng ((σ 94 7) - 1)) ∧ (Cl mX12_in [vl x1, vl 0, vl ((σ 94 7) - 1)] σ (pI fun z1 σ1 => (rng z1) ∧ ((¬ z1 = 0 → Cl mX12_takeAway [vr 94, vi x1] σ1 (pV fun σ2 => post (some (vi (σ2 94 7))) σ2)) ∧ (z1 = 0 → post (some (vi (-1001))) σ1)))))) :
  V mX12_drop 0 [some (vr 94), some (vi x1)] [] σ post := by
  refine V_iload_n dX12_drop_0 rfl rfl ?_
  obtain ⟨r1, h⟩ := h
  refine V_i2l dX12_drop_1 r1 ?_
  refine V_lconst (z := 0) dX12_drop_2 rfl ?_
  refine V_aload_n dX12_drop_3 rfl rfl ?_
  refine V_getI (f := (σ 94 7)) flX12_210 rfl (rfl) (by decide) dX12_drop_4 ?_
  refine V_iconst dX12_drop_7 ?_
  refine V_isub dX12_drop_8 ?_
  obtain ⟨r2, h⟩ := h
  refine V_i2l dX12_drop_9 r2 ?_
  refine V_callS (av := [vl x1, vl 0, vl ((σ 94 7) - 1)]) (stk := []) cvX12_146 rfl rfl (by decide) (by simp [ctg]) dX12_drop_10 h ?_
  rintro _ σ1 ⟨z1, rfl, h⟩
  obtain ⟨r3, h⟩ := h
  refine V_if_ne (tgt := 20) dX12_drop_13 rfl r3 (fun q => ?_) (fun q => ?_)
  · replace h := h.1 q
    refine V_aload_n dX12_drop_20 rfl rfl ?_
    refine V_iload_n dX12_drop_21 rfl rfl ?_
    refine V_callV (av := [vi x1]) (stk := []) cvX12_314 rfl rfl rfl (by decide) (by simp [ctg]) dX12_drop_22 h ?_
    rintro _ σ2 ⟨rfl, h⟩
    refine V_aload_n dX12_drop_25 rfl rfl ?_
    refine V_getI (f := (σ2 94 7)) flX12_210 rfl (rfl) (by decide) dX12_drop_26 ?_
    exact V_ireturn (stk := []) rfl dX12_drop_29 h
  · replace h := h.2 q
    refine V_sipush dX12_drop_16 (by decide) ?_
    exact V_ireturn (stk := []) rfl dX12_drop_19 h

set_option maxRecDepth 100000 in
theorem BX12_asked_0 {σ : Sg} {post : Po} {x1 : Int} {x2 : Int} 
  (h : Cl mX12_noHead [vr 94, vi x1] σ (pI fun z1 σ1 => (rng z1) ∧ ((z1 = 0 → (rng x2) ∧ (Cl mX12_in [vl x2, vl 0, vl 99] σ1 (pI fun z2 σ2 => (rng z2) ∧ ((¬ z2 = 0 → (0 ≤ x1 ∧ x1 < 16) ∧ (post (some (vi (σ2 100 x1))) (up σ2 100 x1 x2))) ∧ (z2 = 0 → post (some (vi (-1002))) σ2))))) ∧ (¬ z1 = 0 → post (some (vi (-1001))) σ1)))) :
  V mX12_asked 0 [some (vr 94), some (vi x1), some (vi x2), none] [] σ post := by
  refine V_aload_n dX12_asked_0 rfl rfl ?_
  refine V_iload_n dX12_asked_1 rfl rfl ?_
  refine V_callV (av := [vi x1]) (stk := []) cvX12_293 rfl rfl rfl (by decide) (by simp [ctg]) dX12_asked_2 h ?_
  rintro _ σ1 ⟨z1, rfl, h⟩
  obtain ⟨r1, h⟩ := h
  refine V_if_eq (tgt := 12) dX12_asked_5 rfl r1 (fun q => ?_) (fun q => ?_)
  · replace h := h.1 q
    refine V_iload_n dX12_asked_12 rfl rfl ?_
    obtain ⟨r2, h⟩ := h
    refine V_i2l dX12_asked_13 r2 ?_
    refine V_lconst (z := 0) dX12_asked_14 rfl ?_
    refine V_ldc2 dX12_asked_15 klX12_309 ?_
    refine V_callS (av := [vl x2, vl 0, vl 99]) (stk := []) cvX12_146 rfl rfl (by decide) (by simp [ctg]) dX12_asked_18 h ?_
    rintro _ σ2 ⟨z2, rfl, h⟩
    obtain ⟨r3, h⟩ := h
    refine V_if_ne (tgt := 28) dX12_asked_21 rfl r3 (fun q => ?_) (fun q => ?_)
    · replace h := h.1 q
      refine V_aload_n dX12_asked_28 rfl rfl ?_
      refine V_getR (k2 := 100) flX12_25 rfl rfl (by decide) dX12_asked_29 ?_
      refine V_iload_n dX12_asked_32 rfl rfl ?_
      obtain ⟨r4, h⟩ := h
      refine V_iald (f := (σ2 100 x1)) (rfl : shp[100]? = some (1, 16, 0)) r4 (rfl) dX12_asked_33 ?_
      refine V_istore_n (L' := [some (vr 94), some (vi x1), some (vi x2), some (vi (σ2 100 x1))]) dX12_asked_34 rfl (by decide) rfl ?_
      refine V_aload_n dX12_asked_35 rfl rfl ?_
      refine V_getR (k2 := 100) flX12_25 rfl rfl (by decide) dX12_asked_36 ?_
      refine V_iload_n dX12_asked_39 rfl rfl ?_
      refine V_iload_n dX12_asked_40 rfl rfl ?_
      refine V_iast (rfl : shp[100]? = some (1, 16, 0)) r4 dX12_asked_41 ?_
      refine V_iload_n dX12_asked_42 rfl rfl ?_
      exact V_ireturn (stk := []) rfl dX12_asked_43 h
    · replace h := h.2 q
      refine V_sipush dX12_asked_24 (by decide) ?_
      exact V_ireturn (stk := []) rfl dX12_asked_27 h
  · replace h := h.2 q
    refine V_sipush dX12_asked_8 (by decide) ?_
    exact V_ireturn (stk := []) rfl dX12_asked_11 h

