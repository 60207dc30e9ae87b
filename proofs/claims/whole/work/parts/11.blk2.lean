/-! ===== blocks: X1 X2 X3 X9 (printed by wip/whole/gen/mkblk.py) ===== -/
set_option maxRecDepth 100000 in
theorem BX1_clear_0 {σ : Sg} {post : Po} {x1 : Int} 
  (h : V mX1_clear 2 [some (vr 85), some (vi x1), some (vi 0)] [] σ post) :
  V mX1_clear 0 [some (vr 85), some (vi x1), none] [] σ post := by
  refine V_iconst dX1_clear_0 ?_
  refine V_istore_n (L' := [some (vr 85), some (vi x1), some (vi 0)]) dX1_clear_1 rfl (by decide) rfl ?_
  exact V.sub (SubL_s (SubL_s (SubL_s (SubL_0)))) h
set_option maxRecDepth 100000 in
theorem BX1_clear_2 {σ : Sg} {post : Po} {x1 : Int} {x2 : Int} 
  (h : (rng x2) ∧ ((3 ≤ x2 → post none σ) ∧ (¬ 3 ≤ x2 → (0 ≤ ((x1 * 3) + x2) ∧ ((x1 * 3) + x2) < 48) ∧ (V mX1_clear 2 [some (vr 85), some (vi x1), some (vi (x2 + 1))] [] (up (up σ 87 ((x1 * 3) + x2) 0) 88 ((x1 * 3) + x2) 268435456) post)))) :
  V mX1_clear 2 [some (vr 85), some (vi x1), some (vi x2)] [] σ post := by
  refine V_iload_n dX1_clear_2 rfl rfl ?_
  refine V_iconst dX1_clear_3 ?_
  obtain ⟨r1, h⟩ := h
  refine V_icmp_ge (tgt := 36) dX1_clear_4 rfl r1 (by decide) (fun q => ?_) (fun q => ?_)
  · replace h := h.1 q
    exact V_return (stk := []) rfl dX1_clear_36 h
  · replace h := h.2 q
    refine V_aload_n dX1_clear_7 rfl rfl ?_
    refine V_getR (k2 := 87) flX1_19 rfl rfl (by decide) dX1_clear_8 ?_
    refine V_iload_n dX1_clear_11 rfl rfl ?_
    refine V_iconst dX1_clear_12 ?_
    refine V_imul dX1_clear_13 ?_
    refine V_iload_n dX1_clear_14 rfl rfl ?_
    refine V_iadd dX1_clear_15 ?_
    refine V_iconst dX1_clear_16 ?_
    obtain ⟨r2, h⟩ := h
    refine V_iast (rfl : shp[87]? = some (1, 48, 0)) r2 dX1_clear_17 ?_
    refine V_aload_n dX1_clear_18 rfl rfl ?_
    refine V_getR (k2 := 88) flX1_22 rfl rfl (by decide) dX1_clear_19 ?_
    refine V_iload_n dX1_clear_22 rfl rfl ?_
    refine V_iconst dX1_clear_23 ?_
    refine V_imul dX1_clear_24 ?_
    refine V_iload_n dX1_clear_25 rfl rfl ?_
    refine V_iadd dX1_clear_26 ?_
    refine V_ldc dX1_clear_27 kcX1_28 ?_
    refine V_iast (rfl : shp[88]? = some (1, 48, 0)) r2 dX1_clear_29 ?_
    refine V_iinc (L' := [some (vr 85), some (vi x1), some (vi (x2 + 1))]) dX1_clear_30 rfl (by decide) rfl ?_
    refine V_goto (tgt := 2) dX1_clear_33 rfl ?_
    exact V.sub (SubL_s (SubL_s (SubL_s (SubL_0)))) h

set_option maxRecDepth 100000 in
theorem BX1_offer_0 {σ : Sg} {post : Po} {x1 : Int} {x2 : Int} {x3 : Int} {x4 : Int} 
  (h : (0 ≤ ((x1 * 3) + x2) ∧ ((x1 * 3) + x2) < 48) ∧ (post none (up (up σ 87 ((x1 * 3) + x2) x3) 88 ((x1 * 3) + x2) x4))) :
  V mX1_offer 0 [some (vr 85), some (vi x1), some (vi x2), some (vi x3), some (vi x4)] [] σ post := by
  refine V_aload_n dX1_offer_0 rfl rfl ?_
  refine V_getR (k2 := 87) flX1_19 rfl rfl (by decide) dX1_offer_1 ?_
  refine V_iload_n dX1_offer_4 rfl rfl ?_
  refine V_iconst dX1_offer_5 ?_
  refine V_imul dX1_offer_6 ?_
  refine V_iload_n dX1_offer_7 rfl rfl ?_
  refine V_iadd dX1_offer_8 ?_
  refine V_iload_n dX1_offer_9 rfl rfl ?_
  obtain ⟨r1, h⟩ := h
  refine V_iast (rfl : shp[87]? = some (1, 48, 0)) r1 dX1_offer_10 ?_
  refine V_aload_n dX1_offer_11 rfl rfl ?_
  refine V_getR (k2 := 88) flX1_22 rfl rfl (by decide) dX1_offer_12 ?_
  refine V_iload_n dX1_offer_15 rfl rfl ?_
  refine V_iconst dX1_offer_16 ?_
  refine V_imul dX1_offer_17 ?_
  refine V_iload_n dX1_offer_18 rfl rfl ?_
  refine V_iadd dX1_offer_19 ?_
  refine V_iload dX1_offer_20 rfl ?_
  refine V_iast (rfl : shp[88]? = some (1, 48, 0)) r1 dX1_offer_22 ?_
  exact V_return (stk := []) rfl dX1_offer_23 h

set_option maxRecDepth 100000 in
theorem BX1_choose_0 {σ : Sg} {post : Po} {x1 : Int} {x2 : Int} 
  (h : Cl mX1_mostNeeded [vr 85, vi x1] σ (pI fun z1 σ1 => Cl mJ9_min_7cf53 [vi x2, vi z1] σ1 (pI fun z2 σ2 => V mX1_choose 13 [some (vr 85), some (vi x1), none, some (vi z2), some (vi 0), none] [] σ2 post))) :
  V mX1_choose 0 [some (vr 85), some (vi x1), some (vi x2), none, none, none] [] σ post := by
  refine V_iload_n dX1_choose_0 rfl rfl ?_
  refine V_aload_n dX1_choose_1 rfl rfl ?_
  refine V_iload_n dX1_choose_2 rfl rfl ?_
  refine V_callV (av := [vi x1]) (stk := [vi x2]) cvX1_29 rfl rfl rfl (by decide) (by simp [ctg]) dX1_choose_3 h ?_
  rintro _ σ1 ⟨z1, rfl, h⟩
  refine V_callS (av := [vi x2, vi z1]) (stk := []) cvX1_33 rfl rfl (by decide) (by simp [ctg]) dX1_choose_6 h ?_
  rintro _ σ2 ⟨z2, rfl, h⟩
  refine V_istore_n (L' := [some (vr 85), some (vi x1), some (vi x2), some (vi z2), none, none]) dX1_choose_9 rfl (by decide) rfl ?_
  refine V_iconst dX1_choose_10 ?_
  refine V_istore (L' := [some (vr 85), some (vi x1), some (vi x2), some (vi z2), some (vi 0), none]) dX1_choose_11 (by decide) rfl ?_
  exact V.sub (SubL_s (SubL_s (SubL_n (SubL_s (SubL_s (SubL_n (SubL_0))))))) h
set_option maxRecDepth 100000 in
theorem BX1_choose_13 {σ : Sg} {post : Po} {x1 : Int} {x3 : Int} {x4 : Int} 
  (h : (rng x4) ∧ ((rng x3) ∧ ((x3 < x4 → V mX1_choose 54 [some (vr 85), some (vi x1), none, some (vi x3), some (vi (x1 - 1)), none] [] σ post) ∧ (¬ x3 < x4 → (¬ x4 = 0 → (0 ≤ ((x1 * 201) + x4) ∧ ((x1 * 201) + x4) < 3417) ∧ (V mX1_choose 13 [some (vr 85), some (vi x1), none, some (vi x3), some (vi (x4 + 1)), none] [] (up σ 89 ((x1 * 201) + x4) 268435456) post)) ∧ (x4 = 0 → (0 ≤ ((x1 * 201) + x4) ∧ ((x1 * 201) + x4) < 3417) ∧ (V mX1_choose 13 [some (vr 85), some (vi x1), none, some (vi x3), some (vi (x4 + 1)), none] [] (up σ 89 ((x1 * 201) + x4) 0) post)))))) :
  V mX1_choose 13 [some (vr 85), some (vi x1), none, some (vi x3), some (vi x4), none] [] σ post := by
  refine V_iload dX1_choose_13 rfl ?_
  refine V_iload_n dX1_choose_15 rfl rfl ?_
  obtain ⟨r1, h⟩ := h
  obtain ⟨r2, h⟩ := h
  refine V_icmp_gt (tgt := 49) dX1_choose_16 rfl r1 r2 (fun q => ?_) (fun q => ?_)
  · replace h := h.1 q
    refine V_iload_n dX1_choose_49 rfl rfl ?_
    refine V_iconst dX1_choose_50 ?_
    refine V_isub dX1_choose_51 ?_
    refine V_istore (L' := [some (vr 85), some (vi x1), none, some (vi x3), some (vi (x1 - 1)), none]) dX1_choose_52 (by decide) rfl ?_
    exact V.sub (SubL_s (SubL_s (SubL_n (SubL_s (SubL_s (SubL_n (SubL_0))))))) h
  · replace h := h.2 q
    refine V_aload_n dX1_choose_19 rfl rfl ?_
    refine V_getR (k2 := 89) flX1_25 rfl rfl (by decide) dX1_choose_20 ?_
    refine V_iload_n dX1_choose_23 rfl rfl ?_
    refine V_sipush dX1_choose_24 (by decide) ?_
    refine V_imul dX1_choose_27 ?_
    refine V_iload dX1_choose_28 rfl ?_
    refine V_iadd dX1_choose_30 ?_
    refine V_iload dX1_choose_31 rfl ?_
    refine V_if_ne (tgt := 40) dX1_choose_33 rfl r1 (fun q => ?_) (fun q => ?_)
    · replace h := h.1 q
      refine V_ldc dX1_choose_40 kcX1_28 ?_
      obtain ⟨r3, h⟩ := h
      refine V_iast (rfl : shp[89]? = some (1, 3417, 0)) r3 dX1_choose_42 ?_
      refine V_iinc (L' := [some (vr 85), some (vi x1), none, some (vi x3), some (vi (x4 + 1)), none]) dX1_choose_43 rfl (by decide) rfl ?_
      refine V_goto (tgt := 13) dX1_choose_46 rfl ?_
      exact V.sub (SubL_s (SubL_s (SubL_n (SubL_s (SubL_s (SubL_n (SubL_0))))))) h
    · replace h := h.2 q
      refine V_iconst dX1_choose_36 ?_
      refine V_goto (tgt := 42) dX1_choose_37 rfl ?_
      obtain ⟨r4, h⟩ := h
      refine V_iast (rfl : shp[89]? = some (1, 3417, 0)) r4 dX1_choose_42 ?_
      refine V_iinc (L' := [some (vr 85), some (vi x1), none, some (vi x3), some (vi (x4 + 1)), none]) dX1_choose_43 rfl (by decide) rfl ?_
      refine V_goto (tgt := 13) dX1_choose_46 rfl ?_
      exact V.sub (SubL_s (SubL_s (SubL_n (SubL_s (SubL_s (SubL_n (SubL_0))))))) h
set_option maxRecDepth 100000 in
theorem BX1_choose_54 {σ : Sg} {post : Po} {x1 : Int} {x3 : Int} {x4 : Int} 
  (h : (rng x4) ∧ ((x4 < 0 → V mX1_choose 108 [some (vr 85), some (vi x1), none, some (vi x3), some (vi 0), some (vi 1)] [] σ post) ∧ (¬ x4 < 0 → V mX1_choose 62 [some (vr 85), some (vi x1), none, some (vi x3), some (vi x4), some (vi 0)] [] σ post))) :
  V mX1_choose 54 [some (vr 85), some (vi x1), none, some (vi x3), some (vi x4), none] [] σ post := by
  refine V_iload dX1_choose_54 rfl ?_
  obtain ⟨r1, h⟩ := h
  refine V_if_lt (tgt := 102) dX1_choose_56 rfl r1 (fun q => ?_) (fun q => ?_)
  · replace h := h.1 q
    refine V_iconst dX1_choose_102 ?_
    refine V_istore (L' := [some (vr 85), some (vi x1), none, some (vi x3), some (vi 0), none]) dX1_choose_103 (by decide) rfl ?_
    refine V_iconst dX1_choose_105 ?_
    refine V_istore (L' := [some (vr 85), some (vi x1), none, some (vi x3), some (vi 0), some (vi 1)]) dX1_choose_106 (by decide) rfl ?_
    exact V.sub (SubL_s (SubL_s (SubL_n (SubL_s (SubL_s (SubL_s (SubL_0))))))) h
  · replace h := h.2 q
    refine V_iconst dX1_choose_59 ?_
    refine V_istore (L' := [some (vr 85), some (vi x1), none, some (vi x3), some (vi x4), some (vi 0)]) dX1_choose_60 (by decide) rfl ?_
    exact V.sub (SubL_s (SubL_s (SubL_n (SubL_s (SubL_s (SubL_s (SubL_0))))))) h
set_option maxRecDepth 100000 in
theorem BX1_choose_108 {σ : Sg} {post : Po} {x1 : Int} {x3 : Int} {x4 : Int} {x5 : Int} 
  (h : (rng x5) ∧ ((rng x3) ∧ ((x3 < x5 → (0 ≤ x4 ∧ x4 < 3417) ∧ (Cl mX1_follow [vr 85, vi x1, vi x4] (up σ 85 0 (σ 89 x4)) (pV fun σ1 => post none σ1))) ∧ (¬ x3 < x5 → (0 ≤ x5 ∧ x5 < 3417) ∧ ((0 ≤ x4 ∧ x4 < 3417) ∧ ((rng (σ 89 x5)) ∧ ((rng (σ 89 x4)) ∧ (((σ 89 x4) ≤ (σ 89 x5) → V mX1_choose 108 [some (vr 85), some (vi x1), none, some (vi x3), some (vi x4), some (vi (x5 + 1))] [] σ post) ∧ (¬ (σ 89 x4) ≤ (σ 89 x5) → V mX1_choose 108 [some (vr 85), some (vi x1), none, some (vi x3), some (vi x5), some (vi (x5 + 1))] [] σ post))))))))) :
  V mX1_choose 108 [some (vr 85), some (vi x1), none, some (vi x3), some (vi x4), some (vi x5)] [] σ post := by
  refine V_iload dX1_choose_108 rfl ?_
  refine V_iload_n dX1_choose_110 rfl rfl ?_
  obtain ⟨r1, h⟩ := h
  obtain ⟨r2, h⟩ := h
  refine V_icmp_gt (tgt := 141) dX1_choose_111 rfl r1 r2 (fun q => ?_) (fun q => ?_)
  · replace h := h.1 q
    refine V_aload_n dX1_choose_141 rfl rfl ?_
    refine V_aload_n dX1_choose_142 rfl rfl ?_
    refine V_getR (k2 := 89) flX1_25 rfl rfl (by decide) dX1_choose_143 ?_
    refine V_iload dX1_choose_146 rfl ?_
    obtain ⟨r3, h⟩ := h
    refine V_iald (f := (σ 89 x4)) (rfl : shp[89]? = some (1, 3417, 0)) r3 (rfl) dX1_choose_148 ?_
    refine V_putI flX1_9 rfl (by decide) dX1_choose_149 ?_
    refine V_aload_n dX1_choose_152 rfl rfl ?_
    refine V_iload_n dX1_choose_153 rfl rfl ?_
    refine V_iload dX1_choose_154 rfl ?_
    refine V_callV (av := [vi x1, vi x4]) (stk := []) cvX1_42 rfl rfl rfl (by decide) (by simp [ctg]) dX1_choose_156 h ?_
    rintro _ σ1 ⟨rfl, h⟩
    exact V_return (stk := []) rfl dX1_choose_159 h
  · replace h := h.2 q
    refine V_aload_n dX1_choose_114 rfl rfl ?_
    refine V_getR (k2 := 89) flX1_25 rfl rfl (by decide) dX1_choose_115 ?_
    refine V_iload dX1_choose_118 rfl ?_
    obtain ⟨r4, h⟩ := h
    refine V_iald (f := (σ 89 x5)) (rfl : shp[89]? = some (1, 3417, 0)) r4 (rfl) dX1_choose_120 ?_
    refine V_aload_n dX1_choose_121 rfl rfl ?_
    refine V_getR (k2 := 89) flX1_25 rfl rfl (by decide) dX1_choose_122 ?_
    refine V_iload dX1_choose_125 rfl ?_
    obtain ⟨r5, h⟩ := h
    refine V_iald (f := (σ 89 x4)) (rfl : shp[89]? = some (1, 3417, 0)) r5 (rfl) dX1_choose_127 ?_
    obtain ⟨r6, h⟩ := h
    obtain ⟨r7, h⟩ := h
    refine V_icmp_ge (tgt := 135) dX1_choose_128 rfl r6 r7 (fun q => ?_) (fun q => ?_)
    · replace h := h.1 q
      refine V_iinc (L' := [some (vr 85), some (vi x1), none, some (vi x3), some (vi x4), some (vi (x5 + 1))]) dX1_choose_135 rfl (by decide) rfl ?_
      refine V_goto (tgt := 108) dX1_choose_138 rfl ?_
      exact V.sub (SubL_s (SubL_s (SubL_n (SubL_s (SubL_s (SubL_s (SubL_0))))))) h
    · replace h := h.2 q
      refine V_iload dX1_choose_131 rfl ?_
      refine V_istore (L' := [some (vr 85), some (vi x1), none, some (vi x3), some (vi x5), some (vi x5)]) dX1_choose_133 (by decide) rfl ?_
      refine V_iinc (L' := [some (vr 85), some (vi x1), none, some (vi x3), some (vi x5), some (vi (x5 + 1))]) dX1_choose_135 rfl (by decide) rfl ?_
      refine V_goto (tgt := 108) dX1_choose_138 rfl ?_
      exact V.sub (SubL_s (SubL_s (SubL_n (SubL_s (SubL_s (SubL_s (SubL_0))))))) h
set_option maxRecDepth 100000 in
theorem BX1_choose_62 {σ : Sg} {post : Po} {x1 : Int} {x3 : Int} {x4 : Int} {x5 : Int} 
  (h : (rng x5) ∧ ((rng x3) ∧ ((x3 < x5 → V mX1_choose 54 [some (vr 85), some (vi x1), none, some (vi x3), some (vi (x4 + (-1))), none] [] σ post) ∧ (¬ x3 < x5 → Cl mX1_leastFrom [vr 85, vi x4, vi x5] σ (pI fun z1 σ1 => (0 ≤ ((x4 * 201) + x5) ∧ ((x4 * 201) + x5) < 3417) ∧ (V mX1_choose 62 [some (vr 85), some (vi x1), none, some (vi x3), some (vi x4), some (vi (x5 + 1))] [] (up σ1 89 ((x4 * 201) + x5) z1) post)))))) :
  V mX1_choose 62 [some (vr 85), some (vi x1), none, some (vi x3), some (vi x4), some (vi x5)] [] σ post := by
  refine V_iload dX1_choose_62 rfl ?_
  refine V_iload_n dX1_choose_64 rfl rfl ?_
  obtain ⟨r1, h⟩ := h
  obtain ⟨r2, h⟩ := h
  refine V_icmp_gt (tgt := 96) dX1_choose_65 rfl r1 r2 (fun q => ?_) (fun q => ?_)
  · replace h := h.1 q
    refine V_iinc (L' := [some (vr 85), some (vi x1), none, some (vi x3), some (vi (x4 + (-1))), some (vi x5)]) dX1_choose_96 rfl (by decide) rfl ?_
    refine V_goto (tgt := 54) dX1_choose_99 rfl ?_
    exact V.sub (SubL_s (SubL_s (SubL_n (SubL_s (SubL_s (SubL_n (SubL_0))))))) h
  · replace h := h.2 q
    refine V_aload_n dX1_choose_68 rfl rfl ?_
    refine V_getR (k2 := 89) flX1_25 rfl rfl (by decide) dX1_choose_69 ?_
    refine V_iload dX1_choose_72 rfl ?_
    refine V_sipush dX1_choose_74 (by decide) ?_
    refine V_imul dX1_choose_77 ?_
    refine V_iload dX1_choose_78 rfl ?_
    refine V_iadd dX1_choose_80 ?_
    refine V_aload_n dX1_choose_81 rfl rfl ?_
    refine V_iload dX1_choose_82 rfl ?_
    refine V_iload dX1_choose_84 rfl ?_
    refine V_callV (av := [vi x4, vi x5]) (stk := [vi ((x4 * 201) + x5), vr 89]) cvX1_39 rfl rfl rfl (by decide) (by simp [ctg]) dX1_choose_86 h ?_
    rintro _ σ1 ⟨z1, rfl, h⟩
    obtain ⟨r3, h⟩ := h
    refine V_iast (rfl : shp[89]? = some (1, 3417, 0)) r3 dX1_choose_89 ?_
    refine V_iinc (L' := [some (vr 85), some (vi x1), none, some (vi x3), some (vi x4), some (vi (x5 + 1))]) dX1_choose_90 rfl (by decide) rfl ?_
    refine V_goto (tgt := 62) dX1_choose_93 rfl ?_
    exact V.sub (SubL_s (SubL_s (SubL_n (SubL_s (SubL_s (SubL_s (SubL_0))))))) h

set_option maxRecDepth 100000 in
theorem BX1_mostNeeded_0 {σ : Sg} {post : Po} {x1 : Int} 
  (h : V mX1_mostNeeded 4 [some (vr 85), some (vi x1), some (vi 0), some (vi 0)] [] σ post) :
  V mX1_mostNeeded 0 [some (vr 85), some (vi x1), none, none] [] σ post := by
  refine V_iconst dX1_mostNeeded_0 ?_
  refine V_istore_n (L' := [some (vr 85), some (vi x1), some (vi 0), none]) dX1_mostNeeded_1 rfl (by decide) rfl ?_
  refine V_iconst dX1_mostNeeded_2 ?_
  refine V_istore_n (L' := [some (vr 85), some (vi x1), some (vi 0), some (vi 0)]) dX1_mostNeeded_3 rfl (by decide) rfl ?_
  exact V.sub (SubL_s (SubL_s (SubL_s (SubL_s (SubL_0))))) h
set_option maxRecDepth 100000 in
theorem BX1_mostNeeded_4 {σ : Sg} {post : Po} {x1 : Int} {x2 : Int} {x3 : Int} 
  (h : (rng x3) ∧ ((rng x1) ∧ ((x1 ≤ x3 → post (some (vi x2)) σ) ∧ (¬ x1 ≤ x3 → (0 ≤ (x3 * 3) ∧ (x3 * 3) < 48) ∧ ((0 ≤ ((x3 * 3) + 1) ∧ ((x3 * 3) + 1) < 48) ∧ (Cl mJ9_max_7cf53 [vi (σ 87 (x3 * 3)), vi (σ 87 ((x3 * 3) + 1))] σ (pI fun z1 σ1 => V mX1_mostNeeded 4 [some (vr 85), some (vi x1), some (vi (x2 + z1)), some (vi (x3 + 1))] [] σ1 post))))))) :
  V mX1_mostNeeded 4 [some (vr 85), some (vi x1), some (vi x2), some (vi x3)] [] σ post := by
  refine V_iload_n dX1_mostNeeded_4 rfl rfl ?_
  refine V_iload_n dX1_mostNeeded_5 rfl rfl ?_
  obtain ⟨r1, h⟩ := h
  obtain ⟨r2, h⟩ := h
  refine V_icmp_ge (tgt := 39) dX1_mostNeeded_6 rfl r1 r2 (fun q => ?_) (fun q => ?_)
  · replace h := h.1 q
    refine V_iload_n dX1_mostNeeded_39 rfl rfl ?_
    exact V_ireturn (stk := []) rfl dX1_mostNeeded_40 h
  · replace h := h.2 q
    refine V_iload_n dX1_mostNeeded_9 rfl rfl ?_
    refine V_aload_n dX1_mostNeeded_10 rfl rfl ?_
    refine V_getR (k2 := 87) flX1_19 rfl rfl (by decide) dX1_mostNeeded_11 ?_
    refine V_iload_n dX1_mostNeeded_14 rfl rfl ?_
    refine V_iconst dX1_mostNeeded_15 ?_
    refine V_imul dX1_mostNeeded_16 ?_
    obtain ⟨r3, h⟩ := h
    refine V_iald (f := (σ 87 (x3 * 3))) (rfl : shp[87]? = some (1, 48, 0)) r3 (rfl) dX1_mostNeeded_17 ?_
    refine V_aload_n dX1_mostNeeded_18 rfl rfl ?_
    refine V_getR (k2 := 87) flX1_19 rfl rfl (by decide) dX1_mostNeeded_19 ?_
    refine V_iload_n dX1_mostNeeded_22 rfl rfl ?_
    refine V_iconst dX1_mostNeeded_23 ?_
    refine V_imul dX1_mostNeeded_24 ?_
    refine V_iconst dX1_mostNeeded_25 ?_
    refine V_iadd dX1_mostNeeded_26 ?_
    obtain ⟨r4, h⟩ := h
    refine V_iald (f := (σ 87 ((x3 * 3) + 1))) (rfl : shp[87]? = some (1, 48, 0)) r4 (rfl) dX1_mostNeeded_27 ?_
    refine V_callS (av := [vi (σ 87 (x3 * 3)), vi (σ 87 ((x3 * 3) + 1))]) (stk := [vi x2]) cvX1_46 rfl rfl (by decide) (by simp [ctg]) dX1_mostNeeded_28 h ?_
    rintro _ σ1 ⟨z1, rfl, h⟩
    refine V_iadd dX1_mostNeeded_31 ?_
    refine V_istore_n (L' := [some (vr 85), some (vi x1), some (vi (x2 + z1)), some (vi x3)]) dX1_mostNeeded_32 rfl (by decide) rfl ?_
    refine V_iinc (L' := [some (vr 85), some (vi x1), some (vi (x2 + z1)), some (vi (x3 + 1))]) dX1_mostNeeded_33 rfl (by decide) rfl ?_
    refine V_goto (tgt := 4) dX1_mostNeeded_36 rfl ?_
    exact V.sub (SubL_s (SubL_s (SubL_s (SubL_s (SubL_0))))) h

set_option maxRecDepth 100000 in
theorem BX1_leastFrom_0 {σ : Sg} {post : Po} {x1 : Int} {x2 : Int} 
  (h : V mX1_leastFrom 6 [some (vr 85), some (vi x1), some (vi x2), some (vi 268435456), some (vi 0)] [] σ post) :
  V mX1_leastFrom 0 [some (vr 85), some (vi x1), some (vi x2), none, none] [] σ post := by
  refine V_ldc dX1_leastFrom_0 kcX1_28 ?_
  refine V_istore_n (L' := [some (vr 85), some (vi x1), some (vi x2), some (vi 268435456), none]) dX1_leastFrom_2 rfl (by decide) rfl ?_
  refine V_iconst dX1_leastFrom_3 ?_
  refine V_istore (L' := [some (vr 85), some (vi x1), some (vi x2), some (vi 268435456), some (vi 0)]) dX1_leastFrom_4 (by decide) rfl ?_
  exact V.sub (SubL_s (SubL_s (SubL_s (SubL_s (SubL_s (SubL_0)))))) h
set_option maxRecDepth 100000 in
theorem BX1_leastFrom_6 {σ : Sg} {post : Po} {x1 : Int} {x2 : Int} {x3 : Int} {x4 : Int} 
  (h : (rng x4) ∧ ((3 ≤ x4 → post (some (vi x3)) σ) ∧ (¬ 3 ≤ x4 → Cl mX1_lossBy [vr 85, vi x1, vi x4, vi x2] σ (pI fun z1 σ1 => Cl mJ9_min_7cf53 [vi x3, vi z1] σ1 (pI fun z2 σ2 => V mX1_leastFrom 6 [some (vr 85), some (vi x1), some (vi x2), some (vi z2), some (vi (x4 + 1))] [] σ2 post))))) :
  V mX1_leastFrom 6 [some (vr 85), some (vi x1), some (vi x2), some (vi x3), some (vi x4)] [] σ post := by
  refine V_iload dX1_leastFrom_6 rfl ?_
  refine V_iconst dX1_leastFrom_8 ?_
  obtain ⟨r1, h⟩ := h
  refine V_icmp_ge (tgt := 31) dX1_leastFrom_9 rfl r1 (by decide) (fun q => ?_) (fun q => ?_)
  · replace h := h.1 q
    refine V_iload_n dX1_leastFrom_31 rfl rfl ?_
    exact V_ireturn (stk := []) rfl dX1_leastFrom_32 h
  · replace h := h.2 q
    refine V_iload_n dX1_leastFrom_12 rfl rfl ?_
    refine V_aload_n dX1_leastFrom_13 rfl rfl ?_
    refine V_iload_n dX1_leastFrom_14 rfl rfl ?_
    refine V_iload dX1_leastFrom_15 rfl ?_
    refine V_iload_n dX1_leastFrom_17 rfl rfl ?_
    refine V_callV (av := [vi x1, vi x4, vi x2]) (stk := [vi x3]) cvX1_49 rfl rfl rfl (by decide) (by simp [ctg]) dX1_leastFrom_18 h ?_
    rintro _ σ1 ⟨z1, rfl, h⟩
    refine V_callS (av := [vi x3, vi z1]) (stk := []) cvX1_33 rfl rfl (by decide) (by simp [ctg]) dX1_leastFrom_21 h ?_
    rintro _ σ2 ⟨z2, rfl, h⟩
    refine V_istore_n (L' := [some (vr 85), some (vi x1), some (vi x2), some (vi z2), some (vi x4)]) dX1_leastFrom_24 rfl (by decide) rfl ?_
    refine V_iinc (L' := [some (vr 85), some (vi x1), some (vi x2), some (vi z2), some (vi (x4 + 1))]) dX1_leastFrom_25 rfl (by decide) rfl ?_
    refine V_goto (tgt := 6) dX1_leastFrom_28 rfl ?_
    exact V.sub (SubL_s (SubL_s (SubL_s (SubL_s (SubL_s (SubL_0)))))) h

set_option maxRecDepth 100000 in
theorem BX1_lossBy_0 {σ : Sg} {post : Po} {x1 : Int} {x2 : Int} {x3 : Int} 
  (h : (0 ≤ ((x1 * 3) + x2) ∧ ((x1 * 3) + x2) < 48) ∧ ((rng (x3 - (σ 87 ((x1 * 3) + x2)))) ∧ (((x3 - (σ 87 ((x1 * 3) + x2))) < 0 → post (some (vi 268435456)) σ) ∧ (¬ (x3 - (σ 87 ((x1 * 3) + x2))) < 0 → (rng (σ 88 ((x1 * 3) + x2))) ∧ ((¬ (σ 88 ((x1 * 3) + x2)) = 268435456 → (0 ≤ (((x1 + 1) * 201) + (x3 - (σ 87 ((x1 * 3) + x2)))) ∧ (((x1 + 1) * 201) + (x3 - (σ 87 ((x1 * 3) + x2)))) < 3417) ∧ (Cl mJ9_min_7cf53 [vi 268435456, vi ((σ 88 ((x1 * 3) + x2)) + (σ 89 (((x1 + 1) * 201) + (x3 - (σ 87 ((x1 * 3) + x2))))))] σ (pI fun z1 σ1 => post (some (vi z1)) σ1))) ∧ ((σ 88 ((x1 * 3) + x2)) = 268435456 → post (some (vi 268435456)) σ)))))) :
  V mX1_lossBy 0 [some (vr 85), some (vi x1), some (vi x2), some (vi x3), none, none] [] σ post := by
  refine V_iload_n dX1_lossBy_0 rfl rfl ?_
  refine V_aload_n dX1_lossBy_1 rfl rfl ?_
  refine V_getR (k2 := 87) flX1_19 rfl rfl (by decide) dX1_lossBy_2 ?_
  refine V_iload_n dX1_lossBy_5 rfl rfl ?_
  refine V_iconst dX1_lossBy_6 ?_
  refine V_imul dX1_lossBy_7 ?_
  refine V_iload_n dX1_lossBy_8 rfl rfl ?_
  refine V_iadd dX1_lossBy_9 ?_
  obtain ⟨r1, h⟩ := h
  refine V_iald (f := (σ 87 ((x1 * 3) + x2))) (rfl : shp[87]? = some (1, 48, 0)) r1 (rfl) dX1_lossBy_10 ?_
  refine V_isub dX1_lossBy_11 ?_
  refine V_istore (L' := [some (vr 85), some (vi x1), some (vi x2), some (vi x3), some (vi (x3 - (σ 87 ((x1 * 3) + x2)))), none]) dX1_lossBy_12 (by decide) rfl ?_
  refine V_aload_n dX1_lossBy_14 rfl rfl ?_
  refine V_getR (k2 := 88) flX1_22 rfl rfl (by decide) dX1_lossBy_15 ?_
  refine V_iload_n dX1_lossBy_18 rfl rfl ?_
  refine V_iconst dX1_lossBy_19 ?_
  refine V_imul dX1_lossBy_20 ?_
  refine V_iload_n dX1_lossBy_21 rfl rfl ?_
  refine V_iadd dX1_lossBy_22 ?_
  refine V_iald (f := (σ 88 ((x1 * 3) + x2))) (rfl : shp[88]? = some (1, 48, 0)) r1 (rfl) dX1_lossBy_23 ?_
  refine V_istore (L' := [some (vr 85), some (vi x1), some (vi x2), some (vi x3), some (vi (x3 - (σ 87 ((x1 * 3) + x2)))), some (vi (σ 88 ((x1 * 3) + x2)))]) dX1_lossBy_24 (by decide) rfl ?_
  refine V_iload dX1_lossBy_26 rfl ?_
  obtain ⟨r2, h⟩ := h
  refine V_if_lt (tgt := 38) dX1_lossBy_28 rfl r2 (fun q => ?_) (fun q => ?_)
  · replace h := h.1 q
    refine V_ldc dX1_lossBy_38 kcX1_28 ?_
    exact V_ireturn (stk := []) rfl dX1_lossBy_40 h
  · replace h := h.2 q
    refine V_iload dX1_lossBy_31 rfl ?_
    refine V_ldc dX1_lossBy_33 kcX1_28 ?_
    obtain ⟨r3, h⟩ := h
    refine V_icmp_ne (tgt := 41) dX1_lossBy_35 rfl r3 (by decide) (fun q => ?_) (fun q => ?_)
    · replace h := h.1 q
      refine V_ldc dX1_lossBy_41 kcX1_28 ?_
      refine V_iload dX1_lossBy_43 rfl ?_
      refine V_aload_n dX1_lossBy_45 rfl rfl ?_
      refine V_getR (k2 := 89) flX1_25 rfl rfl (by decide) dX1_lossBy_46 ?_
      refine V_iload_n dX1_lossBy_49 rfl rfl ?_
      refine V_iconst dX1_lossBy_50 ?_
      refine V_iadd dX1_lossBy_51 ?_
      refine V_sipush dX1_lossBy_52 (by decide) ?_
      refine V_imul dX1_lossBy_55 ?_
      refine V_iload dX1_lossBy_56 rfl ?_
      refine V_iadd dX1_lossBy_58 ?_
      obtain ⟨r4, h⟩ := h
      refine V_iald (f := (σ 89 (((x1 + 1) * 201) + (x3 - (σ 87 ((x1 * 3) + x2)))))) (rfl : shp[89]? = some (1, 3417, 0)) r4 (rfl) dX1_lossBy_59 ?_
      refine V_iadd dX1_lossBy_60 ?_
      refine V_callS (av := [vi 268435456, vi ((σ 88 ((x1 * 3) + x2)) + (σ 89 (((x1 + 1) * 201) + (x3 - (σ 87 ((x1 * 3) + x2))))))]) (stk := []) cvX1_33 rfl rfl (by decide) (by simp [ctg]) dX1_lossBy_61 h ?_
      rintro _ σ1 ⟨z1, rfl, h⟩
      exact V_ireturn (stk := []) rfl dX1_lossBy_64 h
    · replace h := h.2 q
      refine V_ldc dX1_lossBy_38 kcX1_28 ?_
      exact V_ireturn (stk := []) rfl dX1_lossBy_40 h

set_option maxRecDepth 100000 in
theorem BX1_follow_0 {σ : Sg} {post : Po} {x1 : Int} {x2 : Int} 
  (h : V mX1_follow 5 [some (vr 85), some (vi x1), none, some (vi x2), some (vi 0), none] [] σ post) :
  V mX1_follow 0 [some (vr 85), some (vi x1), some (vi x2), none, none, none] [] σ post := by
  refine V_iload_n dX1_follow_0 rfl rfl ?_
  refine V_istore_n (L' := [some (vr 85), some (vi x1), some (vi x2), some (vi x2), none, none]) dX1_follow_1 rfl (by decide) rfl ?_
  refine V_iconst dX1_follow_2 ?_
  refine V_istore (L' := [some (vr 85), some (vi x1), some (vi x2), some (vi x2), some (vi 0), none]) dX1_follow_3 (by decide) rfl ?_
  exact V.sub (SubL_s (SubL_s (SubL_n (SubL_s (SubL_s (SubL_n (SubL_0))))))) h
set_option maxRecDepth 100000 in
theorem BX1_follow_5 {σ : Sg} {post : Po} {x1 : Int} {x3 : Int} {x4 : Int} 
  (h : (rng x4) ∧ ((rng x1) ∧ ((x1 ≤ x4 → post none σ) ∧ (¬ x1 ≤ x4 → V mX1_follow 14 [some (vr 85), some (vi x1), none, some (vi x3), some (vi x4), some (vi 0)] [] σ post)))) :
  V mX1_follow 5 [some (vr 85), some (vi x1), none, some (vi x3), some (vi x4), none] [] σ post := by
  refine V_iload dX1_follow_5 rfl ?_
  refine V_iload_n dX1_follow_7 rfl rfl ?_
  obtain ⟨r1, h⟩ := h
  obtain ⟨r2, h⟩ := h
  refine V_icmp_ge (tgt := 85) dX1_follow_8 rfl r1 r2 (fun q => ?_) (fun q => ?_)
  · replace h := h.1 q
    exact V_return (stk := []) rfl dX1_follow_85 h
  · replace h := h.2 q
    refine V_iconst dX1_follow_11 ?_
    refine V_istore (L' := [some (vr 85), some (vi x1), none, some (vi x3), some (vi x4), some (vi 0)]) dX1_follow_12 (by decide) rfl ?_
    exact V.sub (SubL_s (SubL_s (SubL_n (SubL_s (SubL_s (SubL_s (SubL_0))))))) h
set_option maxRecDepth 100000 in
theorem BX1_follow_14 {σ : Sg} {post : Po} {x1 : Int} {x3 : Int} {x4 : Int} {x5 : Int} 
  (h : (rng x5) ∧ ((2 ≤ x5 → (0 ≤ x4 ∧ x4 < 16) ∧ ((0 ≤ ((x4 * 3) + x5) ∧ ((x4 * 3) + x5) < 48) ∧ (Cl mJ9_max_7cf53 [vi 0, vi (x3 - (σ 87 ((x4 * 3) + x5)))] (up σ 86 x4 x5) (pI fun z1 σ1 => V mX1_follow 5 [some (vr 85), some (vi x1), none, some (vi z1), some (vi (x4 + 1)), none] [] σ1 post)))) ∧ (¬ 2 ≤ x5 → Cl mX1_lossBy [vr 85, vi x4, vi x5, vi x3] σ (pI fun z2 σ2 => (0 ≤ ((x4 * 201) + x3) ∧ ((x4 * 201) + x3) < 3417) ∧ ((rng z2) ∧ ((rng (σ2 89 ((x4 * 201) + x3))) ∧ ((z2 = (σ2 89 ((x4 * 201) + x3)) → (0 ≤ x4 ∧ x4 < 16) ∧ ((0 ≤ ((x4 * 3) + x5) ∧ ((x4 * 3) + x5) < 48) ∧ (Cl mJ9_max_7cf53 [vi 0, vi (x3 - (σ2 87 ((x4 * 3) + x5)))] (up σ2 86 x4 x5) (pI fun z3 σ3 => V mX1_follow 5 [some (vr 85), some (vi x1), none, some (vi z3), some (vi (x4 + 1)), none] [] σ3 post)))) ∧ (¬ z2 = (σ2 89 ((x4 * 201) + x3)) → V mX1_follow 14 [some (vr 85), some (vi x1), none, some (vi x3), some (vi x4), some (vi (x5 + 1))] [] σ2 post)))))))) :
  V mX1_follow 14 [some (vr 85), some (vi x1), none, some (vi x3), some (vi x4), some (vi x5)] [] σ post := by
  refine V_iload dX1_follow_14 rfl ?_
  refine V_iconst dX1_follow_16 ?_
  obtain ⟨r1, h⟩ := h
  refine V_icmp_ge (tgt := 51) dX1_follow_17 rfl r1 (by decide) (fun q => ?_) (fun q => ?_)
  · replace h := h.1 q
    refine V_aload_n dX1_follow_51 rfl rfl ?_
    refine V_getR (k2 := 86) flX1_15 rfl rfl (by decide) dX1_follow_52 ?_
    refine V_iload dX1_follow_55 rfl ?_
    refine V_iload dX1_follow_57 rfl ?_
    obtain ⟨r2, h⟩ := h
    refine V_iast (rfl : shp[86]? = some (1, 16, 0)) r2 dX1_follow_59 ?_
    refine V_iconst dX1_follow_60 ?_
    refine V_iload_n dX1_follow_61 rfl rfl ?_
    refine V_aload_n dX1_follow_62 rfl rfl ?_
    refine V_getR (k2 := 87) flX1_19 rfl rfl (by decide) dX1_follow_63 ?_
    refine V_iload dX1_follow_66 rfl ?_
    refine V_iconst dX1_follow_68 ?_
    refine V_imul dX1_follow_69 ?_
    refine V_iload dX1_follow_70 rfl ?_
    refine V_iadd dX1_follow_72 ?_
    obtain ⟨r3, h⟩ := h
    refine V_iald (f := (σ 87 ((x4 * 3) + x5))) (rfl : shp[87]? = some (1, 48, 0)) r3 (up_o (by omega)) dX1_follow_73 ?_
    refine V_isub dX1_follow_74 ?_
    refine V_callS (av := [vi 0, vi (x3 - (σ 87 ((x4 * 3) + x5)))]) (stk := []) cvX1_46 rfl rfl (by decide) (by simp [ctg]) dX1_follow_75 h ?_
    rintro _ σ1 ⟨z1, rfl, h⟩
    refine V_istore_n (L' := [some (vr 85), some (vi x1), none, some (vi z1), some (vi x4), some (vi x5)]) dX1_follow_78 rfl (by decide) rfl ?_
    refine V_iinc (L' := [some (vr 85), some (vi x1), none, some (vi z1), some (vi (x4 + 1)), some (vi x5)]) dX1_follow_79 rfl (by decide) rfl ?_
    refine V_goto (tgt := 5) dX1_follow_82 rfl ?_
    exact V.sub (SubL_s (SubL_s (SubL_n (SubL_s (SubL_s (SubL_n (SubL_0))))))) h
  · replace h := h.2 q
    refine V_aload_n dX1_follow_20 rfl rfl ?_
    refine V_iload dX1_follow_21 rfl ?_
    refine V_iload dX1_follow_23 rfl ?_
    refine V_iload_n dX1_follow_25 rfl rfl ?_
    refine V_callV (av := [vi x4, vi x5, vi x3]) (stk := []) cvX1_49 rfl rfl rfl (by decide) (by simp [ctg]) dX1_follow_26 h ?_
    rintro _ σ2 ⟨z2, rfl, h⟩
    refine V_aload_n dX1_follow_29 rfl rfl ?_
    refine V_getR (k2 := 89) flX1_25 rfl rfl (by decide) dX1_follow_30 ?_
    refine V_iload dX1_follow_33 rfl ?_
    refine V_sipush dX1_follow_35 (by decide) ?_
    refine V_imul dX1_follow_38 ?_
    refine V_iload_n dX1_follow_39 rfl rfl ?_
    refine V_iadd dX1_follow_40 ?_
    obtain ⟨r4, h⟩ := h
    refine V_iald (f := (σ2 89 ((x4 * 201) + x3))) (rfl : shp[89]? = some (1, 3417, 0)) r4 (rfl) dX1_follow_41 ?_
    obtain ⟨r5, h⟩ := h
    obtain ⟨r6, h⟩ := h
    refine V_icmp_eq (tgt := 51) dX1_follow_42 rfl r5 r6 (fun q => ?_) (fun q => ?_)
    · replace h := h.1 q
      refine V_aload_n dX1_follow_51 rfl rfl ?_
      refine V_getR (k2 := 86) flX1_15 rfl rfl (by decide) dX1_follow_52 ?_
      refine V_iload dX1_follow_55 rfl ?_
      refine V_iload dX1_follow_57 rfl ?_
      obtain ⟨r7, h⟩ := h
      refine V_iast (rfl : shp[86]? = some (1, 16, 0)) r7 dX1_follow_59 ?_
      refine V_iconst dX1_follow_60 ?_
      refine V_iload_n dX1_follow_61 rfl rfl ?_
      refine V_aload_n dX1_follow_62 rfl rfl ?_
      refine V_getR (k2 := 87) flX1_19 rfl rfl (by decide) dX1_follow_63 ?_
      refine V_iload dX1_follow_66 rfl ?_
      refine V_iconst dX1_follow_68 ?_
      refine V_imul dX1_follow_69 ?_
      refine V_iload dX1_follow_70 rfl ?_
      refine V_iadd dX1_follow_72 ?_
      obtain ⟨r8, h⟩ := h
      refine V_iald (f := (σ2 87 ((x4 * 3) + x5))) (rfl : shp[87]? = some (1, 48, 0)) r8 (up_o (by omega)) dX1_follow_73 ?_
      refine V_isub dX1_follow_74 ?_
      refine V_callS (av := [vi 0, vi (x3 - (σ2 87 ((x4 * 3) + x5)))]) (stk := []) cvX1_46 rfl rfl (by decide) (by simp [ctg]) dX1_follow_75 h ?_
      rintro _ σ3 ⟨z3, rfl, h⟩
      refine V_istore_n (L' := [some (vr 85), some (vi x1), none, some (vi z3), some (vi x4), some (vi x5)]) dX1_follow_78 rfl (by decide) rfl ?_
      refine V_iinc (L' := [some (vr 85), some (vi x1), none, some (vi z3), some (vi (x4 + 1)), some (vi x5)]) dX1_follow_79 rfl (by decide) rfl ?_
      refine V_goto (tgt := 5) dX1_follow_82 rfl ?_
      exact V.sub (SubL_s (SubL_s (SubL_n (SubL_s (SubL_s (SubL_n (SubL_0))))))) h
    · replace h := h.2 q
      refine V_iinc (L' := [some (vr 85), some (vi x1), none, some (vi x3), some (vi x4), some (vi (x5 + 1))]) dX1_follow_45 rfl (by decide) rfl ?_
      refine V_goto (tgt := 14) dX1_follow_48 rfl ?_
      exact V.sub (SubL_s (SubL_s (SubL_n (SubL_s (SubL_s (SubL_s (SubL_0))))))) h

set_option maxRecDepth 100000 in
theorem BX2_gather_0 {σ : Sg} {post : Po} {k1 : Nat} (hk1 : shp[k1]? = some (0, 0, 14))
  (h : V mX2_gather 2 [some (vr 78), some (vr k1), some (vi 0), none, none] [] σ post) :
  V mX2_gather 0 [some (vr 78), some (vr k1), none, none, none] [] σ post := by
  refine V_iconst dX2_gather_0 ?_
  refine V_istore_n (L' := [some (vr 78), some (vr k1), some (vi 0), none, none]) dX2_gather_1 rfl (by decide) rfl ?_
  exact V.sub (SubL_s (SubL_s (SubL_s (SubL_n (SubL_n (SubL_0)))))) h
set_option maxRecDepth 100000 in
theorem BX2_gather_2 {σ : Sg} {post : Po} {k1 : Nat} {x2 : Int} (hk1 : shp[k1]? = some (0, 0, 14))
  (h : (rng x2) ∧ ((16 ≤ x2 → V mX2_gather 30 [some (vr 78), some (vr k1), some (vi 0), none, none] [] σ post) ∧ (¬ 16 ≤ x2 → (0 ≤ x2 ∧ x2 < 16) ∧ (V mX2_gather 2 [some (vr 78), some (vr k1), some (vi (x2 + 1)), none, none] [] (up (up σ 79 x2 0) 80 x2 0) post)))) :
  V mX2_gather 2 [some (vr 78), some (vr k1), some (vi x2), none, none] [] σ post := by
  refine V_iload_n dX2_gather_2 rfl rfl ?_
  refine V_bipush dX2_gather_3 (by decide) ?_
  obtain ⟨r1, h⟩ := h
  refine V_icmp_ge (tgt := 28) dX2_gather_5 rfl r1 (by decide) (fun q => ?_) (fun q => ?_)
  · replace h := h.1 q
    refine V_iconst dX2_gather_28 ?_
    refine V_istore_n (L' := [some (vr 78), some (vr k1), some (vi 0), none, none]) dX2_gather_29 rfl (by decide) rfl ?_
    exact V.sub (SubL_s (SubL_s (SubL_s (SubL_n (SubL_n (SubL_0)))))) h
  · replace h := h.2 q
    refine V_aload_n dX2_gather_8 rfl rfl ?_
    refine V_getR (k2 := 79) flX2_9 rfl rfl (by decide) dX2_gather_9 ?_
    refine V_iload_n dX2_gather_12 rfl rfl ?_
    refine V_lconst (z := 0) dX2_gather_13 rfl ?_
    obtain ⟨r2, h⟩ := h
    refine V_last (rfl : shp[79]? = some (4, 16, 0)) r2 dX2_gather_14 ?_
    refine V_aload_n dX2_gather_15 rfl rfl ?_
    refine V_getR (k2 := 80) flX2_15 rfl rfl (by decide) dX2_gather_16 ?_
    refine V_iload_n dX2_gather_19 rfl rfl ?_
    refine V_lconst (z := 0) dX2_gather_20 rfl ?_
    refine V_last (rfl : shp[80]? = some (4, 16, 0)) r2 dX2_gather_21 ?_
    refine V_iinc (L' := [some (vr 78), some (vr k1), some (vi (x2 + 1)), none, none]) dX2_gather_22 rfl (by decide) rfl ?_
    refine V_goto (tgt := 2) dX2_gather_25 rfl ?_
    exact V.sub (SubL_s (SubL_s (SubL_s (SubL_n (SubL_n (SubL_0)))))) h
set_option maxRecDepth 100000 in
theorem BX2_gather_30 {σ : Sg} {post : Po} {k1 : Nat} {x2 : Int} (hk1 : shp[k1]? = some (0, 0, 14))
  (h : (rng x2) ∧ ((rng (σ k1 7)) ∧ (((σ k1 7) ≤ x2 → post none σ) ∧ (¬ (σ k1 7) ≤ x2 → (0 ≤ x2 ∧ x2 < 60) ∧ ((0 ≤ (σ (k1 + 7) x2) ∧ (σ (k1 + 7) x2) < 16) ∧ (Cl mX2_below [vi ((σ (k1 + 10) x2) + 1)] σ (pL fun z1 σ1 => Cl mX2_below [vi (σ (k1 + 9) x2)] σ1 (pL fun z2 σ2 => (0 ≤ ((up σ2 79 (σ (k1 + 7) x2) (lOr (σ 79 (σ (k1 + 7) x2)) (lAnd z1 (lXor z2 (-1))))) (k1 + 7) x2) ∧ ((up σ2 79 (σ (k1 + 7) x2) (lOr (σ 79 (σ (k1 + 7) x2)) (lAnd z1 (lXor z2 (-1))))) (k1 + 7) x2) < 16) ∧ (Cl mX2_below [vi (((σ (k1 + 10) x2) + 1) - 64)] (up σ2 79 (σ (k1 + 7) x2) (lOr (σ 79 (σ (k1 + 7) x2)) (lAnd z1 (lXor z2 (-1))))) (pL fun z3 σ3 => Cl mX2_below [vi ((σ (k1 + 9) x2) - 64)] σ3 (pL fun z4 σ4 => V mX2_gather 30 [some (vr 78), some (vr k1), some (vi (x2 + 1)), none, none] [] (up σ4 80 ((up σ2 79 (σ (k1 + 7) x2) (lOr (σ 79 (σ (k1 + 7) x2)) (lAnd z1 (lXor z2 (-1))))) (k1 + 7) x2) (lOr (σ2 80 ((up σ2 79 (σ (k1 + 7) x2) (lOr (σ 79 (σ (k1 + 7) x2)) (lAnd z1 (lXor z2 (-1))))) (k1 + 7) x2)) (lAnd z3 (lXor z4 (-1))))) post))))))))))) :
  V mX2_gather 30 [some (vr 78), some (vr k1), some (vi x2), none, none] [] σ post := by
  refine V_iload_n dX2_gather_30 rfl rfl ?_
  refine V_aload_n dX2_gather_31 rfl rfl ?_
  refine V_getI (f := (σ k1 7)) flX2_18 hk1 (rfl) (by decide) dX2_gather_32 ?_
  obtain ⟨r1, h⟩ := h
  obtain ⟨r2, h⟩ := h
  refine V_icmp_ge (tgt := 125) dX2_gather_35 rfl r1 r2 (fun q => ?_) (fun q => ?_)
  · replace h := h.1 q
    exact V_return (stk := []) rfl dX2_gather_125 h
  · replace h := h.2 q
    refine V_aload_n dX2_gather_38 rfl rfl ?_
    refine V_getR (k2 := (k1 + 9)) flX2_24 hk1 rfl (by decide) dX2_gather_39 ?_
    refine V_iload_n dX2_gather_42 rfl rfl ?_
    obtain ⟨r3, h⟩ := h
    refine V_iald (f := (σ (k1 + 9) x2)) (sh0_9 hk1) r3 (rfl) dX2_gather_43 ?_
    refine V_istore_n (L' := [some (vr 78), some (vr k1), some (vi x2), some (vi (σ (k1 + 9) x2)), none]) dX2_gather_44 rfl (by decide) rfl ?_
    refine V_aload_n dX2_gather_45 rfl rfl ?_
    refine V_getR (k2 := (k1 + 10)) flX2_28 hk1 rfl (by decide) dX2_gather_46 ?_
    refine V_iload_n dX2_gather_49 rfl rfl ?_
    refine V_iald (f := (σ (k1 + 10) x2)) (sh0_10 hk1) r3 (rfl) dX2_gather_50 ?_
    refine V_istore (L' := [some (vr 78), some (vr k1), some (vi x2), some (vi (σ (k1 + 9) x2)), some (vi (σ (k1 + 10) x2))]) dX2_gather_51 (by decide) rfl ?_
    refine V_aload_n dX2_gather_53 rfl rfl ?_
    refine V_getR (k2 := 79) flX2_9 rfl rfl (by decide) dX2_gather_54 ?_
    refine V_aload_n dX2_gather_57 rfl rfl ?_
    refine V_getR (k2 := (k1 + 7)) flX2_31 hk1 rfl (by decide) dX2_gather_58 ?_
    refine V_iload_n dX2_gather_61 rfl rfl ?_
    refine V_iald (f := (σ (k1 + 7) x2)) (sh0_7 hk1) r3 (rfl) dX2_gather_62 ?_
    refine V_dup2 dX2_gather_63 trivial trivial ?_
    obtain ⟨r4, h⟩ := h
    refine V_lald (f := (σ 79 (σ (k1 + 7) x2))) (rfl : shp[79]? = some (4, 16, 0)) r4 (rfl) dX2_gather_64 ?_
    refine V_iload dX2_gather_65 rfl ?_
    refine V_iconst dX2_gather_67 ?_
    refine V_iadd dX2_gather_68 ?_
    refine V_callS (av := [vi ((σ (k1 + 10) x2) + 1)]) (stk := [vl (σ 79 (σ (k1 + 7) x2)), vi (σ (k1 + 7) x2), vr 79]) cvX2_34 rfl rfl (by decide) (by simp [ctg]) dX2_gather_69 h ?_
    rintro _ σ1 ⟨z1, rfl, h⟩
    refine V_iload_n dX2_gather_72 rfl rfl ?_
    refine V_callS (av := [vi (σ (k1 + 9) x2)]) (stk := [vl z1, vl (σ 79 (σ (k1 + 7) x2)), vi (σ (k1 + 7) x2), vr 79]) cvX2_34 rfl rfl (by decide) (by simp [ctg]) dX2_gather_73 h ?_
    rintro _ σ2 ⟨z2, rfl, h⟩
    refine V_ldc2 dX2_gather_76 klX2_38 ?_
    refine V_lxor dX2_gather_79 ?_
    refine V_land dX2_gather_80 ?_
    refine V_lor dX2_gather_81 ?_
    refine V_last (rfl : shp[79]? = some (4, 16, 0)) r4 dX2_gather_82 ?_
    refine V_aload_n dX2_gather_83 rfl rfl ?_
    refine V_getR (k2 := 80) flX2_15 rfl rfl (by decide) dX2_gather_84 ?_
    refine V_aload_n dX2_gather_87 rfl rfl ?_
    refine V_getR (k2 := (k1 + 7)) flX2_31 hk1 rfl (by decide) dX2_gather_88 ?_
    refine V_iload_n dX2_gather_91 rfl rfl ?_
    refine V_iald (f := ((up σ2 79 (σ (k1 + 7) x2) (lOr (σ 79 (σ (k1 + 7) x2)) (lAnd z1 (lXor z2 (-1))))) (k1 + 7) x2)) (sh0_7 hk1) r3 (rfl) dX2_gather_92 ?_
    refine V_dup2 dX2_gather_93 trivial trivial ?_
    obtain ⟨r5, h⟩ := h
    refine V_lald (f := (σ2 80 ((up σ2 79 (σ (k1 + 7) x2) (lOr (σ 79 (σ (k1 + 7) x2)) (lAnd z1 (lXor z2 (-1))))) (k1 + 7) x2))) (rfl : shp[80]? = some (4, 16, 0)) r5 (up_o (by omega)) dX2_gather_94 ?_
    refine V_iload dX2_gather_95 rfl ?_
    refine V_iconst dX2_gather_97 ?_
    refine V_iadd dX2_gather_98 ?_
    refine V_bipush dX2_gather_99 (by decide) ?_
    refine V_isub dX2_gather_101 ?_
    refine V_callS (av := [vi (((σ (k1 + 10) x2) + 1) - 64)]) (stk := [vl (σ2 80 ((up σ2 79 (σ (k1 + 7) x2) (lOr (σ 79 (σ (k1 + 7) x2)) (lAnd z1 (lXor z2 (-1))))) (k1 + 7) x2)), vi ((up σ2 79 (σ (k1 + 7) x2) (lOr (σ 79 (σ (k1 + 7) x2)) (lAnd z1 (lXor z2 (-1))))) (k1 + 7) x2), vr 80]) cvX2_34 rfl rfl (by decide) (by simp [ctg]) dX2_gather_102 h ?_
    rintro _ σ3 ⟨z3, rfl, h⟩
    refine V_iload_n dX2_gather_105 rfl rfl ?_
    refine V_bipush dX2_gather_106 (by decide) ?_
    refine V_isub dX2_gather_108 ?_
    refine V_callS (av := [vi ((σ (k1 + 9) x2) - 64)]) (stk := [vl z3, vl (σ2 80 ((up σ2 79 (σ (k1 + 7) x2) (lOr (σ 79 (σ (k1 + 7) x2)) (lAnd z1 (lXor z2 (-1))))) (k1 + 7) x2)), vi ((up σ2 79 (σ (k1 + 7) x2) (lOr (σ 79 (σ (k1 + 7) x2)) (lAnd z1 (lXor z2 (-1))))) (k1 + 7) x2), vr 80]) cvX2_34 rfl rfl (by decide) (by simp [ctg]) dX2_gather_109 h ?_
    rintro _ σ4 ⟨z4, rfl, h⟩
    refine V_ldc2 dX2_gather_112 klX2_38 ?_
    refine V_lxor dX2_gather_115 ?_
    refine V_land dX2_gather_116 ?_
    refine V_lor dX2_gather_117 ?_
    refine V_last (rfl : shp[80]? = some (4, 16, 0)) r5 dX2_gather_118 ?_
    refine V_iinc (L' := [some (vr 78), some (vr k1), some (vi (x2 + 1)), some (vi (σ (k1 + 9) x2)), some (vi (σ (k1 + 10) x2))]) dX2_gather_119 rfl (by decide) rfl ?_
    refine V_goto (tgt := 30) dX2_gather_122 rfl ?_
    exact V.sub (SubL_s (SubL_s (SubL_s (SubL_n (SubL_n (SubL_0)))))) h

set_option maxRecDepth 100000 in
theorem BX2_below_0 {σ : Sg} {post : Po} {x0 : Int} 
  (h : (rng x0) ∧ ((0 < x0 → (x0 < 64 → post (some (vl ((lShl 1 x0) - 1))) σ) ∧ (¬ x0 < 64 → post (some (vl (-1))) σ)) ∧ (¬ 0 < x0 → post (some (vl 0)) σ))) :
  V mX2_below 0 [some (vi x0)] [] σ post := by
  refine V_iload_n dX2_below_0 rfl rfl ?_
  obtain ⟨r1, h⟩ := h
  refine V_if_gt (tgt := 6) dX2_below_1 rfl r1 (fun q => ?_) (fun q => ?_)
  · replace h := h.1 q
    refine V_iload_n dX2_below_6 rfl rfl ?_
    refine V_bipush dX2_below_7 (by decide) ?_
    refine V_icmp_lt (tgt := 18) dX2_below_9 rfl r1 (by decide) (fun q => ?_) (fun q => ?_)
    · replace h := h.1 q
      refine V_lconst (z := 1) dX2_below_18 rfl ?_
      refine V_iload_n dX2_below_19 rfl rfl ?_
      refine V_lshl dX2_below_20 ?_
      refine V_lconst (z := 1) dX2_below_21 rfl ?_
      refine V_lsub dX2_below_22 ?_
      exact V_lreturn (stk := []) rfl dX2_below_23 h
    · replace h := h.2 q
      refine V_ldc2 dX2_below_12 klX2_38 ?_
      refine V_goto (tgt := 23) dX2_below_15 rfl ?_
      exact V_lreturn (stk := []) rfl dX2_below_23 h
  · replace h := h.2 q
    refine V_lconst (z := 0) dX2_below_4 rfl ?_
    exact V_lreturn (stk := []) rfl dX2_below_5 h

set_option maxRecDepth 100000 in
theorem BX2_sizeOf_0 {σ : Sg} {post : Po} {x1 : Int} 
  (h : V mX2_sizeOf 8 [some (vr 78), some (vi x1), some (vl 0), none, some (vl 0), none, some (vi 0)] [] σ post) :
  V mX2_sizeOf 0 [some (vr 78), some (vi x1), none, none, none, none, none] [] σ post := by
  refine V_lconst (z := 0) dX2_sizeOf_0 rfl ?_
  refine V_lstore_n (L' := [some (vr 78), some (vi x1), some (vl 0), none, none, none, none]) dX2_sizeOf_1 rfl (by decide) rfl ?_
  refine V_lconst (z := 0) dX2_sizeOf_2 rfl ?_
  refine V_lstore (L' := [some (vr 78), some (vi x1), some (vl 0), none, some (vl 0), none, none]) dX2_sizeOf_3 (by decide) rfl ?_
  refine V_iconst dX2_sizeOf_5 ?_
  refine V_istore (L' := [some (vr 78), some (vi x1), some (vl 0), none, some (vl 0), none, some (vi 0)]) dX2_sizeOf_6 (by decide) rfl ?_
  exact V.sub (SubL_s (SubL_s (SubL_s (SubL_n (SubL_s (SubL_n (SubL_s (SubL_0)))))))) h
set_option maxRecDepth 100000 in
theorem BX2_sizeOf_8 {σ : Sg} {post : Po} {x1 : Int} {x2 : Int} {x4 : Int} {x6 : Int} 
  (h : (rng x6) ∧ ((16 ≤ x6 → Cl mJ13_bitCount_95d88 [vl x2] σ (pI fun z1 σ1 => Cl mJ13_bitCount_95d88 [vl x4] σ1 (pI fun z2 σ2 => post (some (vi (z1 + z2))) σ2))) ∧ (¬ 16 ≤ x6 → Cl mX11_isIn [vi x1, vi x6] σ (pI fun z3 σ3 => (rng z3) ∧ ((z3 = 0 → V mX2_sizeOf 8 [some (vr 78), some (vi x1), some (vl x2), none, some (vl x4), none, some (vi (x6 + 1))] [] σ3 post) ∧ (¬ z3 = 0 → (0 ≤ x6 ∧ x6 < 16) ∧ (V mX2_sizeOf 8 [some (vr 78), some (vi x1), some (vl (lOr x2 (σ3 79 x6))), none, some (vl (lOr x4 (σ3 80 x6))), none, some (vi (x6 + 1))] [] σ3 post))))))) :
  V mX2_sizeOf 8 [some (vr 78), some (vi x1), some (vl x2), none, some (vl x4), none, some (vi x6)] [] σ post := by
  refine V_iload dX2_sizeOf_8 rfl ?_
  refine V_bipush dX2_sizeOf_10 (by decide) ?_
  obtain ⟨r1, h⟩ := h
  refine V_icmp_ge (tgt := 52) dX2_sizeOf_12 rfl r1 (by decide) (fun q => ?_) (fun q => ?_)
  · replace h := h.1 q
    refine V_lload_n dX2_sizeOf_52 rfl rfl ?_
    refine V_callS (av := [vl x2]) (stk := []) cvX2_44 rfl rfl (by decide) (by simp [ctg]) dX2_sizeOf_53 h ?_
    rintro _ σ1 ⟨z1, rfl, h⟩
    refine V_lload dX2_sizeOf_56 rfl ?_
    refine V_callS (av := [vl x4]) (stk := [vi z1]) cvX2_44 rfl rfl (by decide) (by simp [ctg]) dX2_sizeOf_58 h ?_
    rintro _ σ2 ⟨z2, rfl, h⟩
    refine V_iadd dX2_sizeOf_61 ?_
    exact V_ireturn (stk := []) rfl dX2_sizeOf_62 h
  · replace h := h.2 q
    refine V_iload_n dX2_sizeOf_15 rfl rfl ?_
    refine V_iload dX2_sizeOf_16 rfl ?_
    refine V_callN (av := [vi x1, vi x6]) (stk := []) cvX2_40 rfl rfl (by decide) (by simp [ctg]) dX2_sizeOf_18 h ?_
    rintro _ σ3 ⟨z3, rfl, h⟩
    obtain ⟨r2, h⟩ := h
    refine V_if_eq (tgt := 46) dX2_sizeOf_21 rfl r2 (fun q => ?_) (fun q => ?_)
    · replace h := h.1 q
      refine V_iinc (L' := [some (vr 78), some (vi x1), some (vl x2), none, some (vl x4), none, some (vi (x6 + 1))]) dX2_sizeOf_46 rfl (by decide) rfl ?_
      refine V_goto (tgt := 8) dX2_sizeOf_49 rfl ?_
      exact V.sub (SubL_s (SubL_s (SubL_s (SubL_n (SubL_s (SubL_n (SubL_s (SubL_0)))))))) h
    · replace h := h.2 q
      refine V_lload_n dX2_sizeOf_24 rfl rfl ?_
      refine V_aload_n dX2_sizeOf_25 rfl rfl ?_
      refine V_getR (k2 := 79) flX2_9 rfl rfl (by decide) dX2_sizeOf_26 ?_
      refine V_iload dX2_sizeOf_29 rfl ?_
      obtain ⟨r3, h⟩ := h
      refine V_lald (f := (σ3 79 x6)) (rfl : shp[79]? = some (4, 16, 0)) r3 (rfl) dX2_sizeOf_31 ?_
      refine V_lor dX2_sizeOf_32 ?_
      refine V_lstore_n (L' := [some (vr 78), some (vi x1), some (vl (lOr x2 (σ3 79 x6))), none, some (vl x4), none, some (vi x6)]) dX2_sizeOf_33 rfl (by decide) rfl ?_
      refine V_lload dX2_sizeOf_34 rfl ?_
      refine V_aload_n dX2_sizeOf_36 rfl rfl ?_
      refine V_getR (k2 := 80) flX2_15 rfl rfl (by decide) dX2_sizeOf_37 ?_
      refine V_iload dX2_sizeOf_40 rfl ?_
      refine V_lald (f := (σ3 80 x6)) (rfl : shp[80]? = some (4, 16, 0)) r3 (rfl) dX2_sizeOf_42 ?_
      refine V_lor dX2_sizeOf_43 ?_
      refine V_lstore (L' := [some (vr 78), some (vi x1), some (vl (lOr x2 (σ3 79 x6))), none, some (vl (lOr x4 (σ3 80 x6))), none, some (vi x6)]) dX2_sizeOf_44 (by decide) rfl ?_
      refine V_iinc (L' := [some (vr 78), some (vi x1), some (vl (lOr x2 (σ3 79 x6))), none, some (vl (lOr x4 (σ3 80 x6))), none, some (vi (x6 + 1))]) dX2_sizeOf_46 rfl (by decide) rfl ?_
      refine V_goto (tgt := 8) dX2_sizeOf_49 rfl ?_
      exact V.sub (SubL_s (SubL_s (SubL_s (SubL_n (SubL_s (SubL_n (SubL_s (SubL_0)))))))) h

set_option maxRecDepth 100000 in
theorem BX2_hasTwin_0 {σ : Sg} {post : Po} {x1 : Int} {x2 : Int} 
  (h : V mX2_hasTwin 2 [some (vr 78), some (vi x1), some (vi x2), some (vi 0)] [] σ post) :
  V mX2_hasTwin 0 [some (vr 78), some (vi x1), some (vi x2), none] [] σ post := by
  refine V_iconst dX2_hasTwin_0 ?_
  refine V_istore_n (L' := [some (vr 78), some (vi x1), some (vi x2), some (vi 0)]) dX2_hasTwin_1 rfl (by decide) rfl ?_
  exact V.sub (SubL_s (SubL_s (SubL_s (SubL_s (SubL_0))))) h
set_option maxRecDepth 100000 in
theorem BX2_hasTwin_2 {σ : Sg} {post : Po} {x1 : Int} {x2 : Int} {x3 : Int} 
  (h : (rng x3) ∧ ((rng x2) ∧ ((x2 ≤ x3 → post (some (vi 0)) σ) ∧ (¬ x2 ≤ x3 → (rng x1) ∧ ((x3 = x1 → V mX2_hasTwin 2 [some (vr 78), some (vi x1), some (vi x2), some (vi (x3 + 1))] [] σ post) ∧ (¬ x3 = x1 → (0 ≤ x3 ∧ x3 < 16) ∧ ((0 ≤ x1 ∧ x1 < 16) ∧ ((rngL (σ 79 x3)) ∧ ((rngL (σ 79 x1)) ∧ ((¬ (σ 79 x3) = (σ 79 x1) → V mX2_hasTwin 2 [some (vr 78), some (vi x1), some (vi x2), some (vi (x3 + 1))] [] σ post) ∧ ((σ 79 x3) = (σ 79 x1) → (rngL (σ 80 x3)) ∧ ((rngL (σ 80 x1)) ∧ ((¬ (σ 80 x3) = (σ 80 x1) → V mX2_hasTwin 2 [some (vr 78), some (vi x1), some (vi x2), some (vi (x3 + 1))] [] σ post) ∧ ((σ 80 x3) = (σ 80 x1) → post (some (vi 1)) σ)))))))))))))) :
  V mX2_hasTwin 2 [some (vr 78), some (vi x1), some (vi x2), some (vi x3)] [] σ post := by
  refine V_iload_n dX2_hasTwin_2 rfl rfl ?_
  refine V_iload_n dX2_hasTwin_3 rfl rfl ?_
  obtain ⟨r1, h⟩ := h
  obtain ⟨r2, h⟩ := h
  refine V_icmp_ge (tgt := 52) dX2_hasTwin_4 rfl r1 r2 (fun q => ?_) (fun q => ?_)
  · replace h := h.1 q
    refine V_iconst dX2_hasTwin_52 ?_
    exact V_zreturn (stk := []) rfl dX2_hasTwin_53 (by decide) h
  · replace h := h.2 q
    refine V_iload_n dX2_hasTwin_7 rfl rfl ?_
    refine V_iload_n dX2_hasTwin_8 rfl rfl ?_
    obtain ⟨r3, h⟩ := h
    refine V_icmp_eq (tgt := 46) dX2_hasTwin_9 rfl r1 r3 (fun q => ?_) (fun q => ?_)
    · replace h := h.1 q
      refine V_iinc (L' := [some (vr 78), some (vi x1), some (vi x2), some (vi (x3 + 1))]) dX2_hasTwin_46 rfl (by decide) rfl ?_
      refine V_goto (tgt := 2) dX2_hasTwin_49 rfl ?_
      exact V.sub (SubL_s (SubL_s (SubL_s (SubL_s (SubL_0))))) h
    · replace h := h.2 q
      refine V_aload_n dX2_hasTwin_12 rfl rfl ?_
      refine V_getR (k2 := 79) flX2_9 rfl rfl (by decide) dX2_hasTwin_13 ?_
      refine V_iload_n dX2_hasTwin_16 rfl rfl ?_
      obtain ⟨r4, h⟩ := h
      refine V_lald (f := (σ 79 x3)) (rfl : shp[79]? = some (4, 16, 0)) r4 (rfl) dX2_hasTwin_17 ?_
      refine V_aload_n dX2_hasTwin_18 rfl rfl ?_
      refine V_getR (k2 := 79) flX2_9 rfl rfl (by decide) dX2_hasTwin_19 ?_
      refine V_iload_n dX2_hasTwin_22 rfl rfl ?_
      obtain ⟨r5, h⟩ := h
      refine V_lald (f := (σ 79 x1)) (rfl : shp[79]? = some (4, 16, 0)) r5 (rfl) dX2_hasTwin_23 ?_
      obtain ⟨r6, h⟩ := h
      obtain ⟨r7, h⟩ := h
      refine V_lif_ne (tgt := 46) dX2_hasTwin_24 dX2_hasTwin_25 rfl r6 r7 (fun q => ?_) (fun q => ?_)
      · replace h := h.1 q
        refine V_iinc (L' := [some (vr 78), some (vi x1), some (vi x2), some (vi (x3 + 1))]) dX2_hasTwin_46 rfl (by decide) rfl ?_
        refine V_goto (tgt := 2) dX2_hasTwin_49 rfl ?_
        exact V.sub (SubL_s (SubL_s (SubL_s (SubL_s (SubL_0))))) h
      · replace h := h.2 q
        refine V_aload_n dX2_hasTwin_28 rfl rfl ?_
        refine V_getR (k2 := 80) flX2_15 rfl rfl (by decide) dX2_hasTwin_29 ?_
        refine V_iload_n dX2_hasTwin_32 rfl rfl ?_
        refine V_lald (f := (σ 80 x3)) (rfl : shp[80]? = some (4, 16, 0)) r4 (rfl) dX2_hasTwin_33 ?_
        refine V_aload_n dX2_hasTwin_34 rfl rfl ?_
        refine V_getR (k2 := 80) flX2_15 rfl rfl (by decide) dX2_hasTwin_35 ?_
        refine V_iload_n dX2_hasTwin_38 rfl rfl ?_
        refine V_lald (f := (σ 80 x1)) (rfl : shp[80]? = some (4, 16, 0)) r5 (rfl) dX2_hasTwin_39 ?_
        obtain ⟨r8, h⟩ := h
        obtain ⟨r9, h⟩ := h
        refine V_lif_ne (tgt := 46) dX2_hasTwin_40 dX2_hasTwin_41 rfl r8 r9 (fun q => ?_) (fun q => ?_)
        · replace h := h.1 q
          refine V_iinc (L' := [some (vr 78), some (vi x1), some (vi x2), some (vi (x3 + 1))]) dX2_hasTwin_46 rfl (by decide) rfl ?_
          refine V_goto (tgt := 2) dX2_hasTwin_49 rfl ?_
          exact V.sub (SubL_s (SubL_s (SubL_s (SubL_s (SubL_0))))) h
        · replace h := h.2 q
          refine V_iconst dX2_hasTwin_44 ?_
          exact V_zreturn (stk := []) rfl dX2_hasTwin_45 (by decide) h

set_option maxRecDepth 100000 in
theorem BX3_postable_0 {σ : Sg} {post : Po} {k1 : Nat} (hk1 : shp[k1]? = some (0, 0, 14))
  (h : Cl mX0_filledHeads [vr k1] σ (pI fun z1 σ1 => V mX3_postable 10 [none, some (vr k1), some (vi z1), some (vi 0), some (vi 0)] [] σ1 post)) :
  V mX3_postable 0 [some (vr 81), some (vr k1), none, none, none] [] σ post := by
  refine V_aload_n dX3_postable_0 rfl rfl ?_
  refine V_callV (av := []) (stk := []) cvX3_34 hk1 rfl rfl (by decide) (by simp [ctg]) dX3_postable_1 h ?_
  rintro _ σ1 ⟨z1, rfl, h⟩
  refine V_istore_n (L' := [some (vr 81), some (vr k1), some (vi z1), none, none]) dX3_postable_4 rfl (by decide) rfl ?_
  refine V_iconst dX3_postable_5 ?_
  refine V_istore_n (L' := [some (vr 81), some (vr k1), some (vi z1), some (vi 0), none]) dX3_postable_6 rfl (by decide) rfl ?_
  refine V_iconst dX3_postable_7 ?_
  refine V_istore (L' := [some (vr 81), some (vr k1), some (vi z1), some (vi 0), some (vi 0)]) dX3_postable_8 (by decide) rfl ?_
  exact V.sub (SubL_n (SubL_s (SubL_s (SubL_s (SubL_s (SubL_0)))))) h
set_option maxRecDepth 100000 in
theorem BX3_postable_10 {σ : Sg} {post : Po} {k1 : Nat} {x2 : Int} {x3 : Int} {x4 : Int} (hk1 : shp[k1]? = some (0, 0, 14))
  (h : (rng x4) ∧ ((rng (σ k1 0)) ∧ (((σ k1 0) ≤ x4 → post (some (vi x3)) σ) ∧ (¬ (σ k1 0) ≤ x4 → Cl mX0_stepsToFilled [vr k1, vi x4, vi x2] σ (pI fun z1 σ1 => (rng z1) ∧ ((z1 ≤ 0 → V mX3_postable 10 [none, some (vr k1), some (vi x2), some (vi x3), some (vi (x4 + 1))] [] σ1 post) ∧ (¬ z1 ≤ 0 → V mX3_postable 10 [none, some (vr k1), some (vi x2), some (vi (iOr x3 (iShl 1 x4))), some (vi (x4 + 1))] [] σ1 post))))))) :
  V mX3_postable 10 [none, some (vr k1), some (vi x2), some (vi x3), some (vi x4)] [] σ post := by
  refine V_iload dX3_postable_10 rfl ?_
  refine V_aload_n dX3_postable_12 rfl rfl ?_
  refine V_getI (f := (σ k1 0)) flX3_40 hk1 (rfl) (by decide) dX3_postable_13 ?_
  obtain ⟨r1, h⟩ := h
  obtain ⟨r2, h⟩ := h
  refine V_icmp_ge (tgt := 42) dX3_postable_16 rfl r1 r2 (fun q => ?_) (fun q => ?_)
  · replace h := h.1 q
    refine V_iload_n dX3_postable_42 rfl rfl ?_
    exact V_ireturn (stk := []) rfl dX3_postable_43 h
  · replace h := h.2 q
    refine V_aload_n dX3_postable_19 rfl rfl ?_
    refine V_iload dX3_postable_20 rfl ?_
    refine V_iload_n dX3_postable_22 rfl rfl ?_
    refine V_callV (av := [vi x4, vi x2]) (stk := []) cvX3_43 hk1 rfl rfl (by decide) (by simp [ctg]) dX3_postable_23 h ?_
    rintro _ σ1 ⟨z1, rfl, h⟩
    obtain ⟨r3, h⟩ := h
    refine V_if_le (tgt := 36) dX3_postable_26 rfl r3 (fun q => ?_) (fun q => ?_)
    · replace h := h.1 q
      refine V_iinc (L' := [none, some (vr k1), some (vi x2), some (vi x3), some (vi (x4 + 1))]) dX3_postable_36 rfl (by decide) rfl ?_
      refine V_goto (tgt := 10) dX3_postable_39 rfl ?_
      exact V.sub (SubL_n (SubL_s (SubL_s (SubL_s (SubL_s (SubL_0)))))) h
    · replace h := h.2 q
      refine V_iload_n dX3_postable_29 rfl rfl ?_
      refine V_iconst dX3_postable_30 ?_
      refine V_iload dX3_postable_31 rfl ?_
      refine V_ishl dX3_postable_33 ?_
      refine V_ior dX3_postable_34 ?_
      refine V_istore_n (L' := [none, some (vr k1), some (vi x2), some (vi (iOr x3 (iShl 1 x4))), some (vi x4)]) dX3_postable_35 rfl (by decide) rfl ?_
      refine V_iinc (L' := [none, some (vr k1), some (vi x2), some (vi (iOr x3 (iShl 1 x4))), some (vi (x4 + 1))]) dX3_postable_36 rfl (by decide) rfl ?_
      refine V_goto (tgt := 10) dX3_postable_39 rfl ?_
      exact V.sub (SubL_n (SubL_s (SubL_s (SubL_s (SubL_s (SubL_0)))))) h

set_option maxRecDepth 100000 in
theorem BX3_clear_0 {σ : Sg} {post : Po}  
  (h : post none (up σ 81 3 0)) :
  V mX3_clear 0 [some (vr 81)] [] σ post := by
  refine V_aload_n dX3_clear_0 rfl rfl ?_
  refine V_iconst dX3_clear_1 ?_
  refine V_putI flX3_21 rfl (by decide) dX3_clear_2 ?_
  exact V_return (stk := []) rfl dX3_clear_5 h

set_option maxRecDepth 100000 in
theorem BX3_offer_0 {σ : Sg} {post : Po} {x1 : Int} {x2 : Int} {x3 : Int} 
  (h : (rng (σ 81 3)) ∧ ((10 ≤ (σ 81 3) → post none σ) ∧ (¬ 10 ≤ (σ 81 3) → (0 ≤ (σ 81 3) ∧ (σ 81 3) < 10) ∧ (post none (up (up (up (up σ 82 (σ 81 3) x1) 83 (σ 81 3) x2) 84 (σ 81 3) x3) 81 3 ((σ 81 3) + 1)))))) :
  V mX3_offer 0 [some (vr 81), some (vi x1), some (vi x2), some (vi x3)] [] σ post := by
  refine V_aload_n dX3_offer_0 rfl rfl ?_
  refine V_getI (f := (σ 81 3)) flX3_21 rfl (rfl) (by decide) dX3_offer_1 ?_
  refine V_bipush dX3_offer_4 (by decide) ?_
  obtain ⟨r1, h⟩ := h
  refine V_icmp_ge (tgt := 49) dX3_offer_6 rfl r1 (by decide) (fun q => ?_) (fun q => ?_)
  · replace h := h.1 q
    exact V_return (stk := []) rfl dX3_offer_49 h
  · replace h := h.2 q
    refine V_aload_n dX3_offer_9 rfl rfl ?_
    refine V_getR (k2 := 82) flX3_24 rfl rfl (by decide) dX3_offer_10 ?_
    refine V_aload_n dX3_offer_13 rfl rfl ?_
    refine V_getI (f := (σ 81 3)) flX3_21 rfl (rfl) (by decide) dX3_offer_14 ?_
    refine V_iload_n dX3_offer_17 rfl rfl ?_
    obtain ⟨r2, h⟩ := h
    refine V_iast (rfl : shp[82]? = some (1, 10, 0)) r2 dX3_offer_18 ?_
    refine V_aload_n dX3_offer_19 rfl rfl ?_
    refine V_getR (k2 := 83) flX3_28 rfl rfl (by decide) dX3_offer_20 ?_
    refine V_aload_n dX3_offer_23 rfl rfl ?_
    refine V_getI (f := (σ 81 3)) flX3_21 rfl (up_o (by omega)) (by decide) dX3_offer_24 ?_
    refine V_iload_n dX3_offer_27 rfl rfl ?_
    refine V_iast (rfl : shp[83]? = some (1, 10, 0)) r2 dX3_offer_28 ?_
    refine V_aload_n dX3_offer_29 rfl rfl ?_
    refine V_getR (k2 := 84) flX3_31 rfl rfl (by decide) dX3_offer_30 ?_
    refine V_aload_n dX3_offer_33 rfl rfl ?_
    refine V_getI (f := (σ 81 3)) flX3_21 rfl ((up_o (by omega)).trans (up_o (by omega))) (by decide) dX3_offer_34 ?_
    refine V_iload_n dX3_offer_37 rfl rfl ?_
    refine V_iast (rfl : shp[84]? = some (1, 10, 0)) r2 dX3_offer_38 ?_
    refine V_aload_n dX3_offer_39 rfl rfl ?_
    refine V_dup dX3_offer_40 trivial ?_
    refine V_getI (f := (σ 81 3)) flX3_21 rfl ((up_o (by omega)).trans ((up_o (by omega)).trans (up_o (by omega)))) (by decide) dX3_offer_41 ?_
    refine V_iconst dX3_offer_44 ?_
    refine V_iadd dX3_offer_45 ?_
    refine V_putI flX3_21 rfl (by decide) dX3_offer_46 ?_
    exact V_return (stk := []) rfl dX3_offer_49 h

set_option maxRecDepth 100000 in
theorem BX3_choose_0 {σ : Sg} {post : Po} {x1 : Int} {x2 : Int} 
  (h : V mX3_choose 26 [some (vr 81), none, some (vi x2), some (vi 0), some (vi 0), some (vi x1), some (vi 1), none] [] (up (up (up σ 81 0 0) 81 1 0) 81 2 x1) post) :
  V mX3_choose 0 [some (vr 81), some (vi x1), some (vi x2), none, none, none, none, none] [] σ post := by
  refine V_iconst dX3_choose_0 ?_
  refine V_istore_n (L' := [some (vr 81), some (vi x1), some (vi x2), some (vi 0), none, none, none, none]) dX3_choose_1 rfl (by decide) rfl ?_
  refine V_iconst dX3_choose_2 ?_
  refine V_istore (L' := [some (vr 81), some (vi x1), some (vi x2), some (vi 0), some (vi 0), none, none, none]) dX3_choose_3 (by decide) rfl ?_
  refine V_iload_n dX3_choose_5 rfl rfl ?_
  refine V_istore (L' := [some (vr 81), some (vi x1), some (vi x2), some (vi 0), some (vi 0), some (vi x1), none, none]) dX3_choose_6 (by decide) rfl ?_
  refine V_aload_n dX3_choose_8 rfl rfl ?_
  refine V_iconst dX3_choose_9 ?_
  refine V_putI flX3_9 rfl (by decide) dX3_choose_10 ?_
  refine V_aload_n dX3_choose_13 rfl rfl ?_
  refine V_iconst dX3_choose_14 ?_
  refine V_putI flX3_15 rfl (by decide) dX3_choose_15 ?_
  refine V_aload_n dX3_choose_18 rfl rfl ?_
  refine V_iload_n dX3_choose_19 rfl rfl ?_
  refine V_putI flX3_18 rfl (by decide) dX3_choose_20 ?_
  refine V_iconst dX3_choose_23 ?_
  refine V_istore (L' := [some (vr 81), some (vi x1), some (vi x2), some (vi 0), some (vi 0), some (vi x1), some (vi 1), none]) dX3_choose_24 (by decide) rfl ?_
  exact V.sub (SubL_s (SubL_n (SubL_s (SubL_s (SubL_s (SubL_s (SubL_s (SubL_n (SubL_0))))))))) h
set_option maxRecDepth 100000 in
theorem BX3_choose_26 {σ : Sg} {post : Po} {x2 : Int} {x3 : Int} {x4 : Int} {x5 : Int} {x6 : Int} 
  (h : (rng x6) ∧ (((iShl 1 (σ 81 3)) ≤ x6 → post none σ) ∧ (¬ (iShl 1 (σ 81 3)) ≤ x6 → V mX3_choose 40 [some (vr 81), none, some (vi x2), some (vi x3), some (vi x4), some (vi x5), some (vi x6), some (vi 0)] [] σ post))) :
  V mX3_choose 26 [some (vr 81), none, some (vi x2), some (vi x3), some (vi x4), some (vi x5), some (vi x6), none] [] σ post := by
  refine V_iload dX3_choose_26 rfl ?_
  refine V_iconst dX3_choose_28 ?_
  refine V_aload_n dX3_choose_29 rfl rfl ?_
  refine V_getI (f := (σ 81 3)) flX3_21 rfl (rfl) (by decide) dX3_choose_30 ?_
  refine V_ishl dX3_choose_33 ?_
  obtain ⟨r1, h⟩ := h
  refine V_icmp_ge (tgt := 191) dX3_choose_34 rfl r1 (rng_of _) (fun q => ?_) (fun q => ?_)
  · replace h := h.1 q
    exact V_return (stk := []) rfl dX3_choose_191 h
  · replace h := h.2 q
    refine V_iconst dX3_choose_37 ?_
    refine V_istore (L' := [some (vr 81), none, some (vi x2), some (vi x3), some (vi x4), some (vi x5), some (vi x6), some (vi 0)]) dX3_choose_38 (by decide) rfl ?_
    exact V.sub (SubL_s (SubL_n (SubL_s (SubL_s (SubL_s (SubL_s (SubL_s (SubL_s (SubL_0))))))))) h
set_option maxRecDepth 100000 in
theorem BX3_choose_40 {σ : Sg} {post : Po} {x2 : Int} {x3 : Int} {x4 : Int} {x5 : Int} {x6 : Int} {x7 : Int} 
  (h : (rng x7) ∧ ((rng ((σ 81 3) - 1)) ∧ ((((σ 81 3) - 1) ≤ x7 → (0 ≤ x7 ∧ x7 < 10) ∧ ((rng (x5 + (σ 84 x7))) ∧ ((rng x2) ∧ ((x2 < (x5 + (σ 84 x7)) → V mX3_choose 26 [some (vr 81), none, some (vi x2), some (vi (x3 + (σ 82 x7))), some (vi (x4 + (σ 83 x7))), some (vi (x5 + (σ 84 x7))), some (vi (x6 + 1)), none] [] σ post) ∧ (¬ x2 < (x5 + (σ 84 x7)) → (rng (x4 + (σ 83 x7))) ∧ ((rng (σ 81 1)) ∧ (((σ 81 1) < (x4 + (σ 83 x7)) → V mX3_choose 26 [some (vr 81), none, some (vi x2), some (vi (x3 + (σ 82 x7))), some (vi (x4 + (σ 83 x7))), some (vi (x5 + (σ 84 x7))), some (vi (x6 + 1)), none] [] (up (up (up σ 81 0 (x3 + (σ 82 x7))) 81 1 (x4 + (σ 83 x7))) 81 2 (x5 + (σ 84 x7))) post) ∧ (¬ (σ 81 1) < (x4 + (σ 83 x7)) → (¬ (x4 + (σ 83 x7)) = (σ 81 1) → V mX3_choose 26 [some (vr 81), none, some (vi x2), some (vi (x3 + (σ 82 x7))), some (vi (x4 + (σ 83 x7))), some (vi (x5 + (σ 84 x7))), some (vi (x6 + 1)), none] [] σ post) ∧ ((x4 + (σ 83 x7)) = (σ 81 1) → (rng (σ 81 2)) ∧ (((σ 81 2) ≤ (x5 + (σ 84 x7)) → V mX3_choose 26 [some (vr 81), none, some (vi x2), some (vi (x3 + (σ 82 x7))), some (vi (x4 + (σ 83 x7))), some (vi (x5 + (σ 84 x7))), some (vi (x6 + 1)), none] [] σ post) ∧ (¬ (σ 81 2) ≤ (x5 + (σ 84 x7)) → V mX3_choose 26 [some (vr 81), none, some (vi x2), some (vi (x3 + (σ 82 x7))), some (vi (x4 + (σ 83 x7))), some (vi (x5 + (σ 84 x7))), some (vi (x6 + 1)), none] [] (up (up (up σ 81 0 (x3 + (σ 82 x7))) 81 1 (x4 + (σ 83 x7))) 81 2 (x5 + (σ 84 x7))) post))))))))))) ∧ (¬ ((σ 81 3) - 1) ≤ x7 → Cl mX11_isIn [vi x6, vi x7] σ (pI fun z1 σ1 => (rng z1) ∧ ((¬ z1 = 0 → (0 ≤ x7 ∧ x7 < 10) ∧ ((rng (x5 + (σ1 84 x7))) ∧ ((rng x2) ∧ ((x2 < (x5 + (σ1 84 x7)) → V mX3_choose 26 [some (vr 81), none, some (vi x2), some (vi (x3 + (σ1 82 x7))), some (vi (x4 + (σ1 83 x7))), some (vi (x5 + (σ1 84 x7))), some (vi (x6 + 1)), none] [] σ1 post) ∧ (¬ x2 < (x5 + (σ1 84 x7)) → (rng (x4 + (σ1 83 x7))) ∧ ((rng (σ1 81 1)) ∧ (((σ1 81 1) < (x4 + (σ1 83 x7)) → V mX3_choose 26 [some (vr 81), none, some (vi x2), some (vi (x3 + (σ1 82 x7))), some (vi (x4 + (σ1 83 x7))), some (vi (x5 + (σ1 84 x7))), some (vi (x6 + 1)), none] [] (up (up (up σ1 81 0 (x3 + (σ1 82 x7))) 81 1 (x4 + (σ1 83 x7))) 81 2 (x5 + (σ1 84 x7))) post) ∧ (¬ (σ1 81 1) < (x4 + (σ1 83 x7)) → (¬ (x4 + (σ1 83 x7)) = (σ1 81 1) → V mX3_choose 26 [some (vr 81), none, some (vi x2), some (vi (x3 + (σ1 82 x7))), some (vi (x4 + (σ1 83 x7))), some (vi (x5 + (σ1 84 x7))), some (vi (x6 + 1)), none] [] σ1 post) ∧ ((x4 + (σ1 83 x7)) = (σ1 81 1) → (rng (σ1 81 2)) ∧ (((σ1 81 2) ≤ (x5 + (σ1 84 x7)) → V mX3_choose 26 [some (vr 81), none, some (vi x2), some (vi (x3 + (σ1 82 x7))), some (vi (x4 + (σ1 83 x7))), some (vi (x5 + (σ1 84 x7))), some (vi (x6 + 1)), none] [] σ1 post) ∧ (¬ (σ1 81 2) ≤ (x5 + (σ1 84 x7)) → V mX3_choose 26 [some (vr 81), none, some (vi x2), some (vi (x3 + (σ1 82 x7))), some (vi (x4 + (σ1 83 x7))), some (vi (x5 + (σ1 84 x7))), some (vi (x6 + 1)), none] [] (up (up (up σ1 81 0 (x3 + (σ1 82 x7))) 81 1 (x4 + (σ1 83 x7))) 81 2 (x5 + (σ1 84 x7))) post))))))))))) ∧ (z1 = 0 → (0 ≤ x7 ∧ x7 < 10) ∧ (V mX3_choose 40 [some (vr 81), none, some (vi x2), some (vi (x3 - (σ1 82 x7))), some (vi (x4 - (σ1 83 x7))), some (vi (x5 - (σ1 84 x7))), some (vi x6), some (vi (x7 + 1))] [] σ1 post)))))))) :
  V mX3_choose 40 [some (vr 81), none, some (vi x2), some (vi x3), some (vi x4), some (vi x5), some (vi x6), some (vi x7)] [] σ post := by
  refine V_iload dX3_choose_40 rfl ?_
  refine V_aload_n dX3_choose_42 rfl rfl ?_
  refine V_getI (f := (σ 81 3)) flX3_21 rfl (rfl) (by decide) dX3_choose_43 ?_
  refine V_iconst dX3_choose_46 ?_
  refine V_isub dX3_choose_47 ?_
  obtain ⟨r1, h⟩ := h
  obtain ⟨r2, h⟩ := h
  refine V_icmp_ge (tgt := 101) dX3_choose_48 rfl r1 r2 (fun q => ?_) (fun q => ?_)
  · replace h := h.1 q
    refine V_iload_n dX3_choose_101 rfl rfl ?_
    refine V_aload_n dX3_choose_102 rfl rfl ?_
    refine V_getR (k2 := 82) flX3_24 rfl rfl (by decide) dX3_choose_103 ?_
    refine V_iload dX3_choose_106 rfl ?_
    obtain ⟨r3, h⟩ := h
    refine V_iald (f := (σ 82 x7)) (rfl : shp[82]? = some (1, 10, 0)) r3 (rfl) dX3_choose_108 ?_
    refine V_iadd dX3_choose_109 ?_
    refine V_istore_n (L' := [some (vr 81), none, some (vi x2), some (vi (x3 + (σ 82 x7))), some (vi x4), some (vi x5), some (vi x6), some (vi x7)]) dX3_choose_110 rfl (by decide) rfl ?_
    refine V_iload dX3_choose_111 rfl ?_
    refine V_aload_n dX3_choose_113 rfl rfl ?_
    refine V_getR (k2 := 83) flX3_28 rfl rfl (by decide) dX3_choose_114 ?_
    refine V_iload dX3_choose_117 rfl ?_
    refine V_iald (f := (σ 83 x7)) (rfl : shp[83]? = some (1, 10, 0)) r3 (rfl) dX3_choose_119 ?_
    refine V_iadd dX3_choose_120 ?_
    refine V_istore (L' := [some (vr 81), none, some (vi x2), some (vi (x3 + (σ 82 x7))), some (vi (x4 + (σ 83 x7))), some (vi x5), some (vi x6), some (vi x7)]) dX3_choose_121 (by decide) rfl ?_
    refine V_iload dX3_choose_123 rfl ?_
    refine V_aload_n dX3_choose_125 rfl rfl ?_
    refine V_getR (k2 := 84) flX3_31 rfl rfl (by decide) dX3_choose_126 ?_
    refine V_iload dX3_choose_129 rfl ?_
    refine V_iald (f := (σ 84 x7)) (rfl : shp[84]? = some (1, 10, 0)) r3 (rfl) dX3_choose_131 ?_
    refine V_iadd dX3_choose_132 ?_
    refine V_istore (L' := [some (vr 81), none, some (vi x2), some (vi (x3 + (σ 82 x7))), some (vi (x4 + (σ 83 x7))), some (vi (x5 + (σ 84 x7))), some (vi x6), some (vi x7)]) dX3_choose_133 (by decide) rfl ?_
    refine V_iload dX3_choose_135 rfl ?_
    refine V_iload_n dX3_choose_137 rfl rfl ?_
    obtain ⟨r4, h⟩ := h
    obtain ⟨r5, h⟩ := h
    refine V_icmp_gt (tgt := 185) dX3_choose_138 rfl r4 r5 (fun q => ?_) (fun q => ?_)
    · replace h := h.1 q
      refine V_iinc (L' := [some (vr 81), none, some (vi x2), some (vi (x3 + (σ 82 x7))), some (vi (x4 + (σ 83 x7))), some (vi (x5 + (σ 84 x7))), some (vi (x6 + 1)), some (vi x7)]) dX3_choose_185 rfl (by decide) rfl ?_
      refine V_goto (tgt := 26) dX3_choose_188 rfl ?_
      exact V.sub (SubL_s (SubL_n (SubL_s (SubL_s (SubL_s (SubL_s (SubL_s (SubL_n (SubL_0))))))))) h
    · replace h := h.2 q
      refine V_iload dX3_choose_141 rfl ?_
      refine V_aload_n dX3_choose_143 rfl rfl ?_
      refine V_getI (f := (σ 81 1)) flX3_15 rfl (rfl) (by decide) dX3_choose_144 ?_
      obtain ⟨r6, h⟩ := h
      obtain ⟨r7, h⟩ := h
      refine V_icmp_gt (tgt := 168) dX3_choose_147 rfl r6 r7 (fun q => ?_) (fun q => ?_)
      · replace h := h.1 q
        refine V_aload_n dX3_choose_168 rfl rfl ?_
        refine V_iload_n dX3_choose_169 rfl rfl ?_
        refine V_putI flX3_9 rfl (by decide) dX3_choose_170 ?_
        refine V_aload_n dX3_choose_173 rfl rfl ?_
        refine V_iload dX3_choose_174 rfl ?_
        refine V_putI flX3_15 rfl (by decide) dX3_choose_176 ?_
        refine V_aload_n dX3_choose_179 rfl rfl ?_
        refine V_iload dX3_choose_180 rfl ?_
        refine V_putI flX3_18 rfl (by decide) dX3_choose_182 ?_
        refine V_iinc (L' := [some (vr 81), none, some (vi x2), some (vi (x3 + (σ 82 x7))), some (vi (x4 + (σ 83 x7))), some (vi (x5 + (σ 84 x7))), some (vi (x6 + 1)), some (vi x7)]) dX3_choose_185 rfl (by decide) rfl ?_
        refine V_goto (tgt := 26) dX3_choose_188 rfl ?_
        exact V.sub (SubL_s (SubL_n (SubL_s (SubL_s (SubL_s (SubL_s (SubL_s (SubL_n (SubL_0))))))))) h
      · replace h := h.2 q
        refine V_iload dX3_choose_150 rfl ?_
        refine V_aload_n dX3_choose_152 rfl rfl ?_
        refine V_getI (f := (σ 81 1)) flX3_15 rfl (rfl) (by decide) dX3_choose_153 ?_
        refine V_icmp_ne (tgt := 185) dX3_choose_156 rfl r6 r7 (fun q => ?_) (fun q => ?_)
        · replace h := h.1 q
          refine V_iinc (L' := [some (vr 81), none, some (vi x2), some (vi (x3 + (σ 82 x7))), some (vi (x4 + (σ 83 x7))), some (vi (x5 + (σ 84 x7))), some (vi (x6 + 1)), some (vi x7)]) dX3_choose_185 rfl (by decide) rfl ?_
          refine V_goto (tgt := 26) dX3_choose_188 rfl ?_
          exact V.sub (SubL_s (SubL_n (SubL_s (SubL_s (SubL_s (SubL_s (SubL_s (SubL_n (SubL_0))))))))) h
        · replace h := h.2 q
          refine V_iload dX3_choose_159 rfl ?_
          refine V_aload_n dX3_choose_161 rfl rfl ?_
          refine V_getI (f := (σ 81 2)) flX3_18 rfl (rfl) (by decide) dX3_choose_162 ?_
          obtain ⟨r8, h⟩ := h
          refine V_icmp_ge (tgt := 185) dX3_choose_165 rfl r4 r8 (fun q => ?_) (fun q => ?_)
          · replace h := h.1 q
            refine V_iinc (L' := [some (vr 81), none, some (vi x2), some (vi (x3 + (σ 82 x7))), some (vi (x4 + (σ 83 x7))), some (vi (x5 + (σ 84 x7))), some (vi (x6 + 1)), some (vi x7)]) dX3_choose_185 rfl (by decide) rfl ?_
            refine V_goto (tgt := 26) dX3_choose_188 rfl ?_
            exact V.sub (SubL_s (SubL_n (SubL_s (SubL_s (SubL_s (SubL_s (SubL_s (SubL_n (SubL_0))))))))) h
          · replace h := h.2 q
            refine V_aload_n dX3_choose_168 rfl rfl ?_
            refine V_iload_n dX3_choose_169 rfl rfl ?_
            refine V_putI flX3_9 rfl (by decide) dX3_choose_170 ?_
            refine V_aload_n dX3_choose_173 rfl rfl ?_
            refine V_iload dX3_choose_174 rfl ?_
            refine V_putI flX3_15 rfl (by decide) dX3_choose_176 ?_
            refine V_aload_n dX3_choose_179 rfl rfl ?_
            refine V_iload dX3_choose_180 rfl ?_
            refine V_putI flX3_18 rfl (by decide) dX3_choose_182 ?_
            refine V_iinc (L' := [some (vr 81), none, some (vi x2), some (vi (x3 + (σ 82 x7))), some (vi (x4 + (σ 83 x7))), some (vi (x5 + (σ 84 x7))), some (vi (x6 + 1)), some (vi x7)]) dX3_choose_185 rfl (by decide) rfl ?_
            refine V_goto (tgt := 26) dX3_choose_188 rfl ?_
            exact V.sub (SubL_s (SubL_n (SubL_s (SubL_s (SubL_s (SubL_s (SubL_s (SubL_n (SubL_0))))))))) h
  · replace h := h.2 q
    refine V_iload dX3_choose_51 rfl ?_
    refine V_iload dX3_choose_53 rfl ?_
    refine V_callN (av := [vi x6, vi x7]) (stk := []) cvX3_47 rfl rfl (by decide) (by simp [ctg]) dX3_choose_55 h ?_
    rintro _ σ1 ⟨z1, rfl, h⟩
    obtain ⟨r9, h⟩ := h
    refine V_if_ne (tgt := 101) dX3_choose_58 rfl r9 (fun q => ?_) (fun q => ?_)
    · replace h := h.1 q
      refine V_iload_n dX3_choose_101 rfl rfl ?_
      refine V_aload_n dX3_choose_102 rfl rfl ?_
      refine V_getR (k2 := 82) flX3_24 rfl rfl (by decide) dX3_choose_103 ?_
      refine V_iload dX3_choose_106 rfl ?_
      obtain ⟨r10, h⟩ := h
      refine V_iald (f := (σ1 82 x7)) (rfl : shp[82]? = some (1, 10, 0)) r10 (rfl) dX3_choose_108 ?_
      refine V_iadd dX3_choose_109 ?_
      refine V_istore_n (L' := [some (vr 81), none, some (vi x2), some (vi (x3 + (σ1 82 x7))), some (vi x4), some (vi x5), some (vi x6), some (vi x7)]) dX3_choose_110 rfl (by decide) rfl ?_
      refine V_iload dX3_choose_111 rfl ?_
      refine V_aload_n dX3_choose_113 rfl rfl ?_
      refine V_getR (k2 := 83) flX3_28 rfl rfl (by decide) dX3_choose_114 ?_
      refine V_iload dX3_choose_117 rfl ?_
      refine V_iald (f := (σ1 83 x7)) (rfl : shp[83]? = some (1, 10, 0)) r10 (rfl) dX3_choose_119 ?_
      refine V_iadd dX3_choose_120 ?_
      refine V_istore (L' := [some (vr 81), none, some (vi x2), some (vi (x3 + (σ1 82 x7))), some (vi (x4 + (σ1 83 x7))), some (vi x5), some (vi x6), some (vi x7)]) dX3_choose_121 (by decide) rfl ?_
      refine V_iload dX3_choose_123 rfl ?_
      refine V_aload_n dX3_choose_125 rfl rfl ?_
      refine V_getR (k2 := 84) flX3_31 rfl rfl (by decide) dX3_choose_126 ?_
      refine V_iload dX3_choose_129 rfl ?_
      refine V_iald (f := (σ1 84 x7)) (rfl : shp[84]? = some (1, 10, 0)) r10 (rfl) dX3_choose_131 ?_
      refine V_iadd dX3_choose_132 ?_
      refine V_istore (L' := [some (vr 81), none, some (vi x2), some (vi (x3 + (σ1 82 x7))), some (vi (x4 + (σ1 83 x7))), some (vi (x5 + (σ1 84 x7))), some (vi x6), some (vi x7)]) dX3_choose_133 (by decide) rfl ?_
      refine V_iload dX3_choose_135 rfl ?_
      refine V_iload_n dX3_choose_137 rfl rfl ?_
      obtain ⟨r11, h⟩ := h
      obtain ⟨r12, h⟩ := h
      refine V_icmp_gt (tgt := 185) dX3_choose_138 rfl r11 r12 (fun q => ?_) (fun q => ?_)
      · replace h := h.1 q
        refine V_iinc (L' := [some (vr 81), none, some (vi x2), some (vi (x3 + (σ1 82 x7))), some (vi (x4 + (σ1 83 x7))), some (vi (x5 + (σ1 84 x7))), some (vi (x6 + 1)), some (vi x7)]) dX3_choose_185 rfl (by decide) rfl ?_
        refine V_goto (tgt := 26) dX3_choose_188 rfl ?_
        exact V.sub (SubL_s (SubL_n (SubL_s (SubL_s (SubL_s (SubL_s (SubL_s (SubL_n (SubL_0))))))))) h
      · replace h := h.2 q
        refine V_iload dX3_choose_141 rfl ?_
        refine V_aload_n dX3_choose_143 rfl rfl ?_
        refine V_getI (f := (σ1 81 1)) flX3_15 rfl (rfl) (by decide) dX3_choose_144 ?_
        obtain ⟨r13, h⟩ := h
        obtain ⟨r14, h⟩ := h
        refine V_icmp_gt (tgt := 168) dX3_choose_147 rfl r13 r14 (fun q => ?_) (fun q => ?_)
        · replace h := h.1 q
          refine V_aload_n dX3_choose_168 rfl rfl ?_
          refine V_iload_n dX3_choose_169 rfl rfl ?_
          refine V_putI flX3_9 rfl (by decide) dX3_choose_170 ?_
          refine V_aload_n dX3_choose_173 rfl rfl ?_
          refine V_iload dX3_choose_174 rfl ?_
          refine V_putI flX3_15 rfl (by decide) dX3_choose_176 ?_
          refine V_aload_n dX3_choose_179 rfl rfl ?_
          refine V_iload dX3_choose_180 rfl ?_
          refine V_putI flX3_18 rfl (by decide) dX3_choose_182 ?_
          refine V_iinc (L' := [some (vr 81), none, some (vi x2), some (vi (x3 + (σ1 82 x7))), some (vi (x4 + (σ1 83 x7))), some (vi (x5 + (σ1 84 x7))), some (vi (x6 + 1)), some (vi x7)]) dX3_choose_185 rfl (by decide) rfl ?_
          refine V_goto (tgt := 26) dX3_choose_188 rfl ?_
          exact V.sub (SubL_s (SubL_n (SubL_s (SubL_s (SubL_s (SubL_s (SubL_s (SubL_n (SubL_0))))))))) h
        · replace h := h.2 q
          refine V_iload dX3_choose_150 rfl ?_
          refine V_aload_n dX3_choose_152 rfl rfl ?_
          refine V_getI (f := (σ1 81 1)) flX3_15 rfl (rfl) (by decide) dX3_choose_153 ?_
          refine V_icmp_ne (tgt := 185) dX3_choose_156 rfl r13 r14 (fun q => ?_) (fun q => ?_)
          · replace h := h.1 q
            refine V_iinc (L' := [some (vr 81), none, some (vi x2), some (vi (x3 + (σ1 82 x7))), some (vi (x4 + (σ1 83 x7))), some (vi (x5 + (σ1 84 x7))), some (vi (x6 + 1)), some (vi x7)]) dX3_choose_185 rfl (by decide) rfl ?_
            refine V_goto (tgt := 26) dX3_choose_188 rfl ?_
            exact V.sub (SubL_s (SubL_n (SubL_s (SubL_s (SubL_s (SubL_s (SubL_s (SubL_n (SubL_0))))))))) h
          · replace h := h.2 q
            refine V_iload dX3_choose_159 rfl ?_
            refine V_aload_n dX3_choose_161 rfl rfl ?_
            refine V_getI (f := (σ1 81 2)) flX3_18 rfl (rfl) (by decide) dX3_choose_162 ?_
            obtain ⟨r15, h⟩ := h
            refine V_icmp_ge (tgt := 185) dX3_choose_165 rfl r11 r15 (fun q => ?_) (fun q => ?_)
            · replace h := h.1 q
              refine V_iinc (L' := [some (vr 81), none, some (vi x2), some (vi (x3 + (σ1 82 x7))), some (vi (x4 + (σ1 83 x7))), some (vi (x5 + (σ1 84 x7))), some (vi (x6 + 1)), some (vi x7)]) dX3_choose_185 rfl (by decide) rfl ?_
              refine V_goto (tgt := 26) dX3_choose_188 rfl ?_
              exact V.sub (SubL_s (SubL_n (SubL_s (SubL_s (SubL_s (SubL_s (SubL_s (SubL_n (SubL_0))))))))) h
            · replace h := h.2 q
              refine V_aload_n dX3_choose_168 rfl rfl ?_
              refine V_iload_n dX3_choose_169 rfl rfl ?_
              refine V_putI flX3_9 rfl (by decide) dX3_choose_170 ?_
              refine V_aload_n dX3_choose_173 rfl rfl ?_
              refine V_iload dX3_choose_174 rfl ?_
              refine V_putI flX3_15 rfl (by decide) dX3_choose_176 ?_
              refine V_aload_n dX3_choose_179 rfl rfl ?_
              refine V_iload dX3_choose_180 rfl ?_
              refine V_putI flX3_18 rfl (by decide) dX3_choose_182 ?_
              refine V_iinc (L' := [some (vr 81), none, some (vi x2), some (vi (x3 + (σ1 82 x7))), some (vi (x4 + (σ1 83 x7))), some (vi (x5 + (σ1 84 x7))), some (vi (x6 + 1)), some (vi x7)]) dX3_choose_185 rfl (by decide) rfl ?_
              refine V_goto (tgt := 26) dX3_choose_188 rfl ?_
              exact V.sub (SubL_s (SubL_n (SubL_s (SubL_s (SubL_s (SubL_s (SubL_s (SubL_n (SubL_0))))))))) h
    · replace h := h.2 q
      refine V_iload_n dX3_choose_61 rfl rfl ?_
      refine V_aload_n dX3_choose_62 rfl rfl ?_
      refine V_getR (k2 := 82) flX3_24 rfl rfl (by decide) dX3_choose_63 ?_
      refine V_iload dX3_choose_66 rfl ?_
      obtain ⟨r16, h⟩ := h
      refine V_iald (f := (σ1 82 x7)) (rfl : shp[82]? = some (1, 10, 0)) r16 (rfl) dX3_choose_68 ?_
      refine V_isub dX3_choose_69 ?_
      refine V_istore_n (L' := [some (vr 81), none, some (vi x2), some (vi (x3 - (σ1 82 x7))), some (vi x4), some (vi x5), some (vi x6), some (vi x7)]) dX3_choose_70 rfl (by decide) rfl ?_
      refine V_iload dX3_choose_71 rfl ?_
      refine V_aload_n dX3_choose_73 rfl rfl ?_
      refine V_getR (k2 := 83) flX3_28 rfl rfl (by decide) dX3_choose_74 ?_
      refine V_iload dX3_choose_77 rfl ?_
      refine V_iald (f := (σ1 83 x7)) (rfl : shp[83]? = some (1, 10, 0)) r16 (rfl) dX3_choose_79 ?_
      refine V_isub dX3_choose_80 ?_
      refine V_istore (L' := [some (vr 81), none, some (vi x2), some (vi (x3 - (σ1 82 x7))), some (vi (x4 - (σ1 83 x7))), some (vi x5), some (vi x6), some (vi x7)]) dX3_choose_81 (by decide) rfl ?_
      refine V_iload dX3_choose_83 rfl ?_
      refine V_aload_n dX3_choose_85 rfl rfl ?_
      refine V_getR (k2 := 84) flX3_31 rfl rfl (by decide) dX3_choose_86 ?_
      refine V_iload dX3_choose_89 rfl ?_
      refine V_iald (f := (σ1 84 x7)) (rfl : shp[84]? = some (1, 10, 0)) r16 (rfl) dX3_choose_91 ?_
      refine V_isub dX3_choose_92 ?_
      refine V_istore (L' := [some (vr 81), none, some (vi x2), some (vi (x3 - (σ1 82 x7))), some (vi (x4 - (σ1 83 x7))), some (vi (x5 - (σ1 84 x7))), some (vi x6), some (vi x7)]) dX3_choose_93 (by decide) rfl ?_
      refine V_iinc (L' := [some (vr 81), none, some (vi x2), some (vi (x3 - (σ1 82 x7))), some (vi (x4 - (σ1 83 x7))), some (vi (x5 - (σ1 84 x7))), some (vi x6), some (vi (x7 + 1))]) dX3_choose_95 rfl (by decide) rfl ?_
      refine V_goto (tgt := 40) dX3_choose_98 rfl ?_
      exact V.sub (SubL_s (SubL_n (SubL_s (SubL_s (SubL_s (SubL_s (SubL_s (SubL_s (SubL_0))))))))) h

set_option maxRecDepth 100000 in
theorem BX9_lastTold_0 {σ : Sg} {post : Po}  
  (h : (rng (σ 90 0)) ∧ ((¬ (σ 90 0) = 0 → (0 ≤ ((σ 90 0) - 1) ∧ ((σ 90 0) - 1) < 20) ∧ (post (some (vi (σ 91 ((σ 90 0) - 1)))) σ)) ∧ ((σ 90 0) = 0 → post (some (vi 0)) σ))) :
  V mX9_lastTold 0 [some (vr 90)] [] σ post := by
  refine V_aload_n dX9_lastTold_0 rfl rfl ?_
  refine V_getI (f := (σ 90 0)) flX9_11 rfl (rfl) (by decide) dX9_lastTold_1 ?_
  obtain ⟨r1, h⟩ := h
  refine V_if_ne (tgt := 11) dX9_lastTold_4 rfl r1 (fun q => ?_) (fun q => ?_)
  · replace h := h.1 q
    refine V_aload_n dX9_lastTold_11 rfl rfl ?_
    refine V_getR (k2 := 91) flX9_15 rfl rfl (by decide) dX9_lastTold_12 ?_
    refine V_aload_n dX9_lastTold_15 rfl rfl ?_
    refine V_getI (f := (σ 90 0)) flX9_11 rfl (rfl) (by decide) dX9_lastTold_16 ?_
    refine V_iconst dX9_lastTold_19 ?_
    refine V_isub dX9_lastTold_20 ?_
    obtain ⟨r2, h⟩ := h
    refine V_iald (f := (σ 91 ((σ 90 0) - 1))) (rfl : shp[91]? = some (1, 20, 0)) r2 (rfl) dX9_lastTold_21 ?_
    exact V_ireturn (stk := []) rfl dX9_lastTold_22 h
  · replace h := h.2 q
    refine V_iconst dX9_lastTold_7 ?_
    refine V_goto (tgt := 22) dX9_lastTold_8 rfl ?_
    exact V_ireturn (stk := []) rfl dX9_lastTold_22 h

set_option maxRecDepth 100000 in
theorem BX9_put_0 {σ : Sg} {post : Po} {x1 : Int} {x2 : Int} 
  (h : (rng (σ 90 0)) ∧ ((20 ≤ (σ 90 0) → post (some (vi (σ 90 0))) σ) ∧ (¬ 20 ≤ (σ 90 0) → (0 ≤ (σ 90 0) ∧ (σ 90 0) < 20) ∧ (post (some (vi ((σ 90 0) + 1))) (up (up (up σ 91 (σ 90 0) x1) 92 (σ 90 0) (x2 - x1)) 90 0 ((σ 90 0) + 1)))))) :
  V mX9_put 0 [some (vr 90), some (vi x1), some (vi x2)] [] σ post := by
  refine V_aload_n dX9_put_0 rfl rfl ?_
  refine V_getI (f := (σ 90 0)) flX9_11 rfl (rfl) (by decide) dX9_put_1 ?_
  refine V_bipush dX9_put_4 (by decide) ?_
  obtain ⟨r1, h⟩ := h
  refine V_icmp_ge (tgt := 41) dX9_put_6 rfl r1 (by decide) (fun q => ?_) (fun q => ?_)
  · replace h := h.1 q
    refine V_aload_n dX9_put_41 rfl rfl ?_
    refine V_getI (f := (σ 90 0)) flX9_11 rfl (rfl) (by decide) dX9_put_42 ?_
    exact V_ireturn (stk := []) rfl dX9_put_45 h
  · replace h := h.2 q
    refine V_aload_n dX9_put_9 rfl rfl ?_
    refine V_getR (k2 := 91) flX9_15 rfl rfl (by decide) dX9_put_10 ?_
    refine V_aload_n dX9_put_13 rfl rfl ?_
    refine V_getI (f := (σ 90 0)) flX9_11 rfl (rfl) (by decide) dX9_put_14 ?_
    refine V_iload_n dX9_put_17 rfl rfl ?_
    obtain ⟨r2, h⟩ := h
    refine V_iast (rfl : shp[91]? = some (1, 20, 0)) r2 dX9_put_18 ?_
    refine V_aload_n dX9_put_19 rfl rfl ?_
    refine V_getR (k2 := 92) flX9_19 rfl rfl (by decide) dX9_put_20 ?_
    refine V_aload_n dX9_put_23 rfl rfl ?_
    refine V_getI (f := (σ 90 0)) flX9_11 rfl (up_o (by omega)) (by decide) dX9_put_24 ?_
    refine V_iload_n dX9_put_27 rfl rfl ?_
    refine V_iload_n dX9_put_28 rfl rfl ?_
    refine V_isub dX9_put_29 ?_
    refine V_iast (rfl : shp[92]? = some (1, 20, 0)) r2 dX9_put_30 ?_
    refine V_aload_n dX9_put_31 rfl rfl ?_
    refine V_dup dX9_put_32 trivial ?_
    refine V_getI (f := (σ 90 0)) flX9_11 rfl ((up_o (by omega)).trans (up_o (by omega))) (by decide) dX9_put_33 ?_
    refine V_iconst dX9_put_36 ?_
    refine V_iadd dX9_put_37 ?_
    refine V_putI flX9_11 rfl (by decide) dX9_put_38 ?_
    refine V_aload_n dX9_put_41 rfl rfl ?_
    refine V_getI (f := ((σ 90 0) + 1)) flX9_11 rfl (up_s) (by decide) dX9_put_42 ?_
    exact V_ireturn (stk := []) rfl dX9_put_45 h

set_option maxRecDepth 100000 in
theorem BX9_weigh_0 {σ : Sg} {post : Po} {x1 : Int} 
  (h : V mX9_weigh 2 [some (vr 90), some (vi x1), some (vi (-1)), none] [] σ post) :
  V mX9_weigh 0 [some (vr 90), some (vi x1), none, none] [] σ post := by
  refine V_iconst dX9_weigh_0 ?_
  refine V_istore_n (L' := [some (vr 90), some (vi x1), some (vi (-1)), none]) dX9_weigh_1 rfl (by decide) rfl ?_
  exact V.sub (SubL_s (SubL_s (SubL_s (SubL_n (SubL_0))))) h
set_option maxRecDepth 100000 in
theorem BX9_weigh_2 {σ : Sg} {post : Po} {x1 : Int} {x2 : Int} 
  (h : (rng x2) ∧ ((rng (σ 90 0)) ∧ (((σ 90 0) ≤ x2 → V mX9_weigh 40 [some (vr 90), some (vi x1), some (vi ((σ 90 0) - 1)), none] [] σ post) ∧ (¬ (σ 90 0) ≤ x2 → (0 ≤ ((((σ 90 0) * 21) + x2) + 1) ∧ ((((σ 90 0) * 21) + x2) + 1) < 441) ∧ (V mX9_weigh 2 [some (vr 90), some (vi x1), some (vi (x2 + 1)), none] [] (up σ 93 ((((σ 90 0) * 21) + x2) + 1) 0) post))))) :
  V mX9_weigh 2 [some (vr 90), some (vi x1), some (vi x2), none] [] σ post := by
  refine V_iload_n dX9_weigh_2 rfl rfl ?_
  refine V_aload_n dX9_weigh_3 rfl rfl ?_
  refine V_getI (f := (σ 90 0)) flX9_11 rfl (rfl) (by decide) dX9_weigh_4 ?_
  obtain ⟨r1, h⟩ := h
  obtain ⟨r2, h⟩ := h
  refine V_icmp_ge (tgt := 33) dX9_weigh_7 rfl r1 r2 (fun q => ?_) (fun q => ?_)
  · replace h := h.1 q
    refine V_aload_n dX9_weigh_33 rfl rfl ?_
    refine V_getI (f := (σ 90 0)) flX9_11 rfl (rfl) (by decide) dX9_weigh_34 ?_
    refine V_iconst dX9_weigh_37 ?_
    refine V_isub dX9_weigh_38 ?_
    refine V_istore_n (L' := [some (vr 90), some (vi x1), some (vi ((σ 90 0) - 1)), none]) dX9_weigh_39 rfl (by decide) rfl ?_
    exact V.sub (SubL_s (SubL_s (SubL_s (SubL_n (SubL_0))))) h
  · replace h := h.2 q
    refine V_aload_n dX9_weigh_10 rfl rfl ?_
    refine V_getR (k2 := 93) flX9_22 rfl rfl (by decide) dX9_weigh_11 ?_
    refine V_aload_n dX9_weigh_14 rfl rfl ?_
    refine V_getI (f := (σ 90 0)) flX9_11 rfl (rfl) (by decide) dX9_weigh_15 ?_
    refine V_bipush dX9_weigh_18 (by decide) ?_
    refine V_imul dX9_weigh_20 ?_
    refine V_iload_n dX9_weigh_21 rfl rfl ?_
    refine V_iadd dX9_weigh_22 ?_
    refine V_iconst dX9_weigh_23 ?_
    refine V_iadd dX9_weigh_24 ?_
    refine V_iconst dX9_weigh_25 ?_
    obtain ⟨r3, h⟩ := h
    refine V_iast (rfl : shp[93]? = some (1, 441, 0)) r3 dX9_weigh_26 ?_
    refine V_iinc (L' := [some (vr 90), some (vi x1), some (vi (x2 + 1)), none]) dX9_weigh_27 rfl (by decide) rfl ?_
    refine V_goto (tgt := 2) dX9_weigh_30 rfl ?_
    exact V.sub (SubL_s (SubL_s (SubL_s (SubL_n (SubL_0))))) h
set_option maxRecDepth 100000 in
theorem BX9_weigh_40 {σ : Sg} {post : Po} {x1 : Int} {x2 : Int} 
  (h : (rng x2) ∧ ((x2 < 0 → post none σ) ∧ (¬ x2 < 0 → V mX9_weigh 46 [some (vr 90), some (vi x1), some (vi x2), some (vi (-1))] [] σ post))) :
  V mX9_weigh 40 [some (vr 90), some (vi x1), some (vi x2), none] [] σ post := by
  refine V_iload_n dX9_weigh_40 rfl rfl ?_
  obtain ⟨r1, h⟩ := h
  refine V_if_lt (tgt := 92) dX9_weigh_41 rfl r1 (fun q => ?_) (fun q => ?_)
  · replace h := h.1 q
    exact V_return (stk := []) rfl dX9_weigh_92 h
  · replace h := h.2 q
    refine V_iconst dX9_weigh_44 ?_
    refine V_istore_n (L' := [some (vr 90), some (vi x1), some (vi x2), some (vi (-1))]) dX9_weigh_45 rfl (by decide) rfl ?_
    exact V.sub (SubL_s (SubL_s (SubL_s (SubL_s (SubL_0))))) h
set_option maxRecDepth 100000 in
theorem BX9_weigh_46 {σ : Sg} {post : Po} {x1 : Int} {x2 : Int} {x3 : Int} 
  (h : (rng x3) ∧ ((rng x2) ∧ ((x2 ≤ x3 → V mX9_weigh 40 [some (vr 90), some (vi x1), some (vi (x2 + (-1))), none] [] σ post) ∧ (¬ x2 ≤ x3 → Cl mX9_ifStands [vr 90, vi x2, vi x3, vi x1] σ (pI fun z1 σ1 => Cl mX9_ifLeftOut [vr 90, vi x2, vi x3] σ1 (pI fun z2 σ2 => Cl mJ9_min_7cf53 [vi z1, vi z2] σ2 (pI fun z3 σ3 => (0 ≤ (((x2 * 21) + x3) + 1) ∧ (((x2 * 21) + x3) + 1) < 441) ∧ (V mX9_weigh 46 [some (vr 90), some (vi x1), some (vi x2), some (vi (x3 + 1))] [] (up σ3 93 (((x2 * 21) + x3) + 1) z3) post)))))))) :
  V mX9_weigh 46 [some (vr 90), some (vi x1), some (vi x2), some (vi x3)] [] σ post := by
  refine V_iload_n dX9_weigh_46 rfl rfl ?_
  refine V_iload_n dX9_weigh_47 rfl rfl ?_
  obtain ⟨r1, h⟩ := h
  obtain ⟨r2, h⟩ := h
  refine V_icmp_ge (tgt := 86) dX9_weigh_48 rfl r1 r2 (fun q => ?_) (fun q => ?_)
  · replace h := h.1 q
    refine V_iinc (L' := [some (vr 90), some (vi x1), some (vi (x2 + (-1))), some (vi x3)]) dX9_weigh_86 rfl (by decide) rfl ?_
    refine V_goto (tgt := 40) dX9_weigh_89 rfl ?_
    exact V.sub (SubL_s (SubL_s (SubL_s (SubL_n (SubL_0))))) h
  · replace h := h.2 q
    refine V_aload_n dX9_weigh_51 rfl rfl ?_
    refine V_getR (k2 := 93) flX9_22 rfl rfl (by decide) dX9_weigh_52 ?_
    refine V_iload_n dX9_weigh_55 rfl rfl ?_
    refine V_bipush dX9_weigh_56 (by decide) ?_
    refine V_imul dX9_weigh_58 ?_
    refine V_iload_n dX9_weigh_59 rfl rfl ?_
    refine V_iadd dX9_weigh_60 ?_
    refine V_iconst dX9_weigh_61 ?_
    refine V_iadd dX9_weigh_62 ?_
    refine V_aload_n dX9_weigh_63 rfl rfl ?_
    refine V_iload_n dX9_weigh_64 rfl rfl ?_
    refine V_iload_n dX9_weigh_65 rfl rfl ?_
    refine V_iload_n dX9_weigh_66 rfl rfl ?_
    refine V_callV (av := [vi x2, vi x3, vi x1]) (stk := [vi (((x2 * 21) + x3) + 1), vr 93]) cvX9_25 rfl rfl rfl (by decide) (by simp [ctg]) dX9_weigh_67 h ?_
    rintro _ σ1 ⟨z1, rfl, h⟩
    refine V_aload_n dX9_weigh_70 rfl rfl ?_
    refine V_iload_n dX9_weigh_71 rfl rfl ?_
    refine V_iload_n dX9_weigh_72 rfl rfl ?_
    refine V_callV (av := [vi x2, vi x3]) (stk := [vi z1, vi (((x2 * 21) + x3) + 1), vr 93]) cvX9_29 rfl rfl rfl (by decide) (by simp [ctg]) dX9_weigh_73 h ?_
    rintro _ σ2 ⟨z2, rfl, h⟩
    refine V_callS (av := [vi z1, vi z2]) (stk := [vi (((x2 * 21) + x3) + 1), vr 93]) cvX9_33 rfl rfl (by decide) (by simp [ctg]) dX9_weigh_76 h ?_
    rintro _ σ3 ⟨z3, rfl, h⟩
    obtain ⟨r3, h⟩ := h
    refine V_iast (rfl : shp[93]? = some (1, 441, 0)) r3 dX9_weigh_79 ?_
    refine V_iinc (L' := [some (vr 90), some (vi x1), some (vi x2), some (vi (x3 + 1))]) dX9_weigh_80 rfl (by decide) rfl ?_
    refine V_goto (tgt := 46) dX9_weigh_83 rfl ?_
    exact V.sub (SubL_s (SubL_s (SubL_s (SubL_s (SubL_0))))) h

set_option maxRecDepth 100000 in
theorem BX9_ifStands_0 {σ : Sg} {post : Po} {x1 : Int} {x2 : Int} {x3 : Int} 
  (h : (rng x2) ∧ ((x2 = (-1) → (0 ≤ ((((x1 + 1) * 21) + x1) + 1) ∧ ((((x1 + 1) * 21) + x1) + 1) < 441) ∧ (post (some (vi ((σ 93 ((((x1 + 1) * 21) + x1) + 1)) + 0))) σ)) ∧ (¬ x2 = (-1) → (0 ≤ x2 ∧ x2 < 20) ∧ ((0 ≤ x1 ∧ x1 < 20) ∧ ((rng (σ 92 x2)) ∧ ((rng (σ 92 x1)) ∧ (((σ 92 x2) = (σ 92 x1) → (0 ≤ ((((x1 + 1) * 21) + x1) + 1) ∧ ((((x1 + 1) * 21) + x1) + 1) < 441) ∧ (post (some (vi ((σ 93 ((((x1 + 1) * 21) + x1) + 1)) + 0))) σ)) ∧ (¬ (σ 92 x2) = (σ 92 x1) → (0 ≤ ((((x1 + 1) * 21) + x1) + 1) ∧ ((((x1 + 1) * 21) + x1) + 1) < 441) ∧ (post (some (vi ((σ 93 ((((x1 + 1) * 21) + x1) + 1)) + (x3 * 32)))) σ))))))))) :
  V mX9_ifStands 0 [some (vr 90), some (vi x1), some (vi x2), some (vi x3), none] [] σ post := by
  refine V_iload_n dX9_ifStands_0 rfl rfl ?_
  refine V_iconst dX9_ifStands_1 ?_
  obtain ⟨r1, h⟩ := h
  refine V_icmp_eq (tgt := 24) dX9_ifStands_2 rfl r1 (by decide) (fun q => ?_) (fun q => ?_)
  · replace h := h.1 q
    refine V_iconst dX9_ifStands_24 ?_
    refine V_istore (L' := [some (vr 90), some (vi x1), some (vi x2), some (vi x3), some (vi 0)]) dX9_ifStands_25 (by decide) rfl ?_
    refine V_aload_n dX9_ifStands_27 rfl rfl ?_
    refine V_getR (k2 := 93) flX9_22 rfl rfl (by decide) dX9_ifStands_28 ?_
    refine V_iload_n dX9_ifStands_31 rfl rfl ?_
    refine V_iconst dX9_ifStands_32 ?_
    refine V_iadd dX9_ifStands_33 ?_
    refine V_bipush dX9_ifStands_34 (by decide) ?_
    refine V_imul dX9_ifStands_36 ?_
    refine V_iload_n dX9_ifStands_37 rfl rfl ?_
    refine V_iadd dX9_ifStands_38 ?_
    refine V_iconst dX9_ifStands_39 ?_
    refine V_iadd dX9_ifStands_40 ?_
    obtain ⟨r2, h⟩ := h
    refine V_iald (f := (σ 93 ((((x1 + 1) * 21) + x1) + 1))) (rfl : shp[93]? = some (1, 441, 0)) r2 (rfl) dX9_ifStands_41 ?_
    refine V_iload dX9_ifStands_42 rfl ?_
    refine V_if_eq (tgt := 54) dX9_ifStands_44 rfl (by decide) (fun q => ?_) (fun q => absurd q (by decide))
    refine V_iconst dX9_ifStands_54 ?_
    refine V_iadd dX9_ifStands_55 ?_
    exact V_ireturn (stk := []) rfl dX9_ifStands_56 h
  · replace h := h.2 q
    refine V_aload_n dX9_ifStands_5 rfl rfl ?_
    refine V_getR (k2 := 92) flX9_19 rfl rfl (by decide) dX9_ifStands_6 ?_
    refine V_iload_n dX9_ifStands_9 rfl rfl ?_
    obtain ⟨r3, h⟩ := h
    refine V_iald (f := (σ 92 x2)) (rfl : shp[92]? = some (1, 20, 0)) r3 (rfl) dX9_ifStands_10 ?_
    refine V_aload_n dX9_ifStands_11 rfl rfl ?_
    refine V_getR (k2 := 92) flX9_19 rfl rfl (by decide) dX9_ifStands_12 ?_
    refine V_iload_n dX9_ifStands_15 rfl rfl ?_
    obtain ⟨r4, h⟩ := h
    refine V_iald (f := (σ 92 x1)) (rfl : shp[92]? = some (1, 20, 0)) r4 (rfl) dX9_ifStands_16 ?_
    obtain ⟨r5, h⟩ := h
    obtain ⟨r6, h⟩ := h
    refine V_icmp_eq (tgt := 24) dX9_ifStands_17 rfl r5 r6 (fun q => ?_) (fun q => ?_)
    · replace h := h.1 q
      refine V_iconst dX9_ifStands_24 ?_
      refine V_istore (L' := [some (vr 90), some (vi x1), some (vi x2), some (vi x3), some (vi 0)]) dX9_ifStands_25 (by decide) rfl ?_
      refine V_aload_n dX9_ifStands_27 rfl rfl ?_
      refine V_getR (k2 := 93) flX9_22 rfl rfl (by decide) dX9_ifStands_28 ?_
      refine V_iload_n dX9_ifStands_31 rfl rfl ?_
      refine V_iconst dX9_ifStands_32 ?_
      refine V_iadd dX9_ifStands_33 ?_
      refine V_bipush dX9_ifStands_34 (by decide) ?_
      refine V_imul dX9_ifStands_36 ?_
      refine V_iload_n dX9_ifStands_37 rfl rfl ?_
      refine V_iadd dX9_ifStands_38 ?_
      refine V_iconst dX9_ifStands_39 ?_
      refine V_iadd dX9_ifStands_40 ?_
      obtain ⟨r7, h⟩ := h
      refine V_iald (f := (σ 93 ((((x1 + 1) * 21) + x1) + 1))) (rfl : shp[93]? = some (1, 441, 0)) r7 (rfl) dX9_ifStands_41 ?_
      refine V_iload dX9_ifStands_42 rfl ?_
      refine V_if_eq (tgt := 54) dX9_ifStands_44 rfl (by decide) (fun q => ?_) (fun q => absurd q (by decide))
      refine V_iconst dX9_ifStands_54 ?_
      refine V_iadd dX9_ifStands_55 ?_
      exact V_ireturn (stk := []) rfl dX9_ifStands_56 h
    · replace h := h.2 q
      refine V_iconst dX9_ifStands_20 ?_
      refine V_goto (tgt := 25) dX9_ifStands_21 rfl ?_
      refine V_istore (L' := [some (vr 90), some (vi x1), some (vi x2), some (vi x3), some (vi 1)]) dX9_ifStands_25 (by decide) rfl ?_
      refine V_aload_n dX9_ifStands_27 rfl rfl ?_
      refine V_getR (k2 := 93) flX9_22 rfl rfl (by decide) dX9_ifStands_28 ?_
      refine V_iload_n dX9_ifStands_31 rfl rfl ?_
      refine V_iconst dX9_ifStands_32 ?_
      refine V_iadd dX9_ifStands_33 ?_
      refine V_bipush dX9_ifStands_34 (by decide) ?_
      refine V_imul dX9_ifStands_36 ?_
      refine V_iload_n dX9_ifStands_37 rfl rfl ?_
      refine V_iadd dX9_ifStands_38 ?_
      refine V_iconst dX9_ifStands_39 ?_
      refine V_iadd dX9_ifStands_40 ?_
      obtain ⟨r8, h⟩ := h
      refine V_iald (f := (σ 93 ((((x1 + 1) * 21) + x1) + 1))) (rfl : shp[93]? = some (1, 441, 0)) r8 (rfl) dX9_ifStands_41 ?_
      refine V_iload dX9_ifStands_42 rfl ?_
      refine V_if_eq (tgt := 54) dX9_ifStands_44 rfl (by decide) (fun q => absurd q (by decide)) (fun q => ?_)
      refine V_iload_n dX9_ifStands_47 rfl rfl ?_
      refine V_bipush dX9_ifStands_48 (by decide) ?_
      refine V_imul dX9_ifStands_50 ?_
      refine V_goto (tgt := 55) dX9_ifStands_51 rfl ?_
      refine V_iadd dX9_ifStands_55 ?_
      exact V_ireturn (stk := []) rfl dX9_ifStands_56 h

set_option maxRecDepth 100000 in
theorem BX9_ifLeftOut_0 {σ : Sg} {post : Po} {x1 : Int} {x2 : Int} 
  (h : (0 ≤ ((((x1 + 1) * 21) + x2) + 1) ∧ ((((x1 + 1) * 21) + x2) + 1) < 441) ∧ (post (some (vi ((σ 93 ((((x1 + 1) * 21) + x2) + 1)) + 33))) σ)) :
  V mX9_ifLeftOut 0 [some (vr 90), some (vi x1), some (vi x2)] [] σ post := by
  refine V_aload_n dX9_ifLeftOut_0 rfl rfl ?_
  refine V_getR (k2 := 93) flX9_22 rfl rfl (by decide) dX9_ifLeftOut_1 ?_
  refine V_iload_n dX9_ifLeftOut_4 rfl rfl ?_
  refine V_iconst dX9_ifLeftOut_5 ?_
  refine V_iadd dX9_ifLeftOut_6 ?_
  refine V_bipush dX9_ifLeftOut_7 (by decide) ?_
  refine V_imul dX9_ifLeftOut_9 ?_
  refine V_iload_n dX9_ifLeftOut_10 rfl rfl ?_
  refine V_iadd dX9_ifLeftOut_11 ?_
  refine V_iconst dX9_ifLeftOut_12 ?_
  refine V_iadd dX9_ifLeftOut_13 ?_
  obtain ⟨r1, h⟩ := h
  refine V_iald (f := (σ 93 ((((x1 + 1) * 21) + x2) + 1))) (rfl : shp[93]? = some (1, 441, 0)) r1 (rfl) dX9_ifLeftOut_14 ?_
  refine V_bipush dX9_ifLeftOut_15 (by decide) ?_
  refine V_iadd dX9_ifLeftOut_17 ?_
  exact V_ireturn (stk := []) rfl dX9_ifLeftOut_18 h

set_option maxRecDepth 100000 in
theorem BX9_leastCost_0 {σ : Sg} {post : Po}  
  (h : post (some (vi (iDiv (σ 93 0) 32))) σ) :
  V mX9_leastCost 0 [some (vr 90)] [] σ post := by
  refine V_aload_n dX9_leastCost_0 rfl rfl ?_
  refine V_getR (k2 := 93) flX9_22 rfl rfl (by decide) dX9_leastCost_1 ?_
  refine V_iconst dX9_leastCost_4 ?_
  refine V_iald (f := (σ 93 0)) (rfl : shp[93]? = some (1, 441, 0)) (by decide) (rfl) dX9_leastCost_5 ?_
  refine V_bipush dX9_leastCost_6 (by decide) ?_
  refine V_idiv dX9_leastCost_8 (by decide) ?_
  exact V_ireturn (stk := []) rfl dX9_leastCost_9 h

set_option maxRecDepth 100000 in
theorem BX9_standsAt_0 {σ : Sg} {post : Po} {x1 : Int} {x2 : Int} 
  (h : V mX9_standsAt 5 [some (vr 90), some (vi x1), some (vi x2), some (vi (-1)), some (vi 0)] [] σ post) :
  V mX9_standsAt 0 [some (vr 90), some (vi x1), some (vi x2), none, none] [] σ post := by
  refine V_iconst dX9_standsAt_0 ?_
  refine V_istore_n (L' := [some (vr 90), some (vi x1), some (vi x2), some (vi (-1)), none]) dX9_standsAt_1 rfl (by decide) rfl ?_
  refine V_iconst dX9_standsAt_2 ?_
  refine V_istore (L' := [some (vr 90), some (vi x1), some (vi x2), some (vi (-1)), some (vi 0)]) dX9_standsAt_3 (by decide) rfl ?_
  exact V.sub (SubL_s (SubL_s (SubL_s (SubL_s (SubL_s (SubL_0)))))) h
set_option maxRecDepth 100000 in
theorem BX9_standsAt_5 {σ : Sg} {post : Po} {x1 : Int} {x2 : Int} {x3 : Int} {x4 : Int} 
  (h : (rng x4) ∧ ((rng x1) ∧ ((x1 < x4 → (rng x3) ∧ ((¬ x3 = x1 → post (some (vi 0)) σ) ∧ (x3 = x1 → post (some (vi 1)) σ))) ∧ (¬ x1 < x4 → (rng (σ 90 0)) ∧ (((σ 90 0) ≤ x4 → (rng x3) ∧ ((¬ x3 = x1 → post (some (vi 0)) σ) ∧ (x3 = x1 → post (some (vi 1)) σ))) ∧ (¬ (σ 90 0) ≤ x4 → Cl mX9_ifStands [vr 90, vi x4, vi x3, vi x2] σ (pI fun z1 σ1 => Cl mX9_ifLeftOut [vr 90, vi x4, vi x3] σ1 (pI fun z2 σ2 => (rng z1) ∧ ((rng z2) ∧ ((z2 < z1 → V mX9_standsAt 5 [some (vr 90), some (vi x1), some (vi x2), some (vi x3), some (vi (x4 + 1))] [] σ2 post) ∧ (¬ z2 < z1 → V mX9_standsAt 5 [some (vr 90), some (vi x1), some (vi x2), some (vi x4), some (vi (x4 + 1))] [] σ2 post))))))))))) :
  V mX9_standsAt 5 [some (vr 90), some (vi x1), some (vi x2), some (vi x3), some (vi x4)] [] σ post := by
  refine V_iload dX9_standsAt_5 rfl ?_
  refine V_iload_n dX9_standsAt_7 rfl rfl ?_
  obtain ⟨r1, h⟩ := h
  obtain ⟨r2, h⟩ := h
  refine V_icmp_gt (tgt := 47) dX9_standsAt_8 rfl r1 r2 (fun q => ?_) (fun q => ?_)
  · replace h := h.1 q
    refine V_iload_n dX9_standsAt_47 rfl rfl ?_
    refine V_iload_n dX9_standsAt_48 rfl rfl ?_
    obtain ⟨r3, h⟩ := h
    refine V_icmp_ne (tgt := 56) dX9_standsAt_49 rfl r3 r2 (fun q => ?_) (fun q => ?_)
    · replace h := h.1 q
      refine V_iconst dX9_standsAt_56 ?_
      exact V_zreturn (stk := []) rfl dX9_standsAt_57 (by decide) h
    · replace h := h.2 q
      refine V_iconst dX9_standsAt_52 ?_
      refine V_goto (tgt := 57) dX9_standsAt_53 rfl ?_
      exact V_zreturn (stk := []) rfl dX9_standsAt_57 (by decide) h
  · replace h := h.2 q
    refine V_iload dX9_standsAt_11 rfl ?_
    refine V_aload_n dX9_standsAt_13 rfl rfl ?_
    refine V_getI (f := (σ 90 0)) flX9_11 rfl (rfl) (by decide) dX9_standsAt_14 ?_
    obtain ⟨r4, h⟩ := h
    refine V_icmp_ge (tgt := 47) dX9_standsAt_17 rfl r1 r4 (fun q => ?_) (fun q => ?_)
    · replace h := h.1 q
      refine V_iload_n dX9_standsAt_47 rfl rfl ?_
      refine V_iload_n dX9_standsAt_48 rfl rfl ?_
      obtain ⟨r5, h⟩ := h
      refine V_icmp_ne (tgt := 56) dX9_standsAt_49 rfl r5 r2 (fun q => ?_) (fun q => ?_)
      · replace h := h.1 q
        refine V_iconst dX9_standsAt_56 ?_
        exact V_zreturn (stk := []) rfl dX9_standsAt_57 (by decide) h
      · replace h := h.2 q
        refine V_iconst dX9_standsAt_52 ?_
        refine V_goto (tgt := 57) dX9_standsAt_53 rfl ?_
        exact V_zreturn (stk := []) rfl dX9_standsAt_57 (by decide) h
    · replace h := h.2 q
      refine V_aload_n dX9_standsAt_20 rfl rfl ?_
      refine V_iload dX9_standsAt_21 rfl ?_
      refine V_iload_n dX9_standsAt_23 rfl rfl ?_
      refine V_iload_n dX9_standsAt_24 rfl rfl ?_
      refine V_callV (av := [vi x4, vi x3, vi x2]) (stk := []) cvX9_25 rfl rfl rfl (by decide) (by simp [ctg]) dX9_standsAt_25 h ?_
      rintro _ σ1 ⟨z1, rfl, h⟩
      refine V_aload_n dX9_standsAt_28 rfl rfl ?_
      refine V_iload dX9_standsAt_29 rfl ?_
      refine V_iload_n dX9_standsAt_31 rfl rfl ?_
      refine V_callV (av := [vi x4, vi x3]) (stk := [vi z1]) cvX9_29 rfl rfl rfl (by decide) (by simp [ctg]) dX9_standsAt_32 h ?_
      rintro _ σ2 ⟨z2, rfl, h⟩
      obtain ⟨r6, h⟩ := h
      obtain ⟨r7, h⟩ := h
      refine V_icmp_gt (tgt := 41) dX9_standsAt_35 rfl r6 r7 (fun q => ?_) (fun q => ?_)
      · replace h := h.1 q
        refine V_iinc (L' := [some (vr 90), some (vi x1), some (vi x2), some (vi x3), some (vi (x4 + 1))]) dX9_standsAt_41 rfl (by decide) rfl ?_
        refine V_goto (tgt := 5) dX9_standsAt_44 rfl ?_
        exact V.sub (SubL_s (SubL_s (SubL_s (SubL_s (SubL_s (SubL_0)))))) h
      · replace h := h.2 q
        refine V_iload dX9_standsAt_38 rfl ?_
        refine V_istore_n (L' := [some (vr 90), some (vi x1), some (vi x2), some (vi x4), some (vi x4)]) dX9_standsAt_40 rfl (by decide) rfl ?_
        refine V_iinc (L' := [some (vr 90), some (vi x1), some (vi x2), some (vi x4), some (vi (x4 + 1))]) dX9_standsAt_41 rfl (by decide) rfl ?_
        refine V_goto (tgt := 5) dX9_standsAt_44 rfl ?_
        exact V.sub (SubL_s (SubL_s (SubL_s (SubL_s (SubL_s (SubL_0)))))) h

