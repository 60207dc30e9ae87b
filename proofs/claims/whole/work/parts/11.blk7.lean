/-! ===== blocks: X12b (printed by wip/whole/gen/mkblk.py) ===== -/
set_option maxRecDepth 100000 in
theorem BX12_tick_0 {σ : Sg} {post : Po} {x1 : Int} {x2 : Int} 
  (h : V mX12_tick 2 [some (vr 94), some (vi x1), some (vi x2), some (vi 0), none] [] σ post) :
  V mX12_tick 0 [some (vr 94), some (vi x1), some (vi x2), none, none] [] σ post := by
  refine V_iconst dX12_tick_0 ?_
  refine V_istore_n (L' := [some (vr 94), some (vi x1), some (vi x2), some (vi 0), none]) dX12_tick_1 rfl (by decide) rfl ?_
  exact V.sub (SubL_s (SubL_s (SubL_s (SubL_s (SubL_n (SubL_0)))))) h
set_option maxRecDepth 100000 in
theorem BX12_tick_2 {σ : Sg} {post : Po} {x1 : Int} {x2 : Int} {x3 : Int} 
  (h : (rng x3) ∧ ((102 ≤ x3 → V mX12_tick 23 [some (vr 94), some (vi x1), some (vi x2), some (vi 0), none] [] σ post) ∧ (¬ 102 ≤ x3 → (0 ≤ x3 ∧ x3 < 102) ∧ (V mX12_tick 2 [some (vr 94), some (vi x1), some (vi x2), some (vi (x3 + 1)), none] [] (up σ 107 x3 0) post)))) :
  V mX12_tick 2 [some (vr 94), some (vi x1), some (vi x2), some (vi x3), none] [] σ post := by
  refine V_iload_n dX12_tick_2 rfl rfl ?_
  refine V_bipush dX12_tick_3 (by decide) ?_
  obtain ⟨r1, h⟩ := h
  refine V_icmp_ge (tgt := 21) dX12_tick_5 rfl r1 (by decide) (fun q => ?_) (fun q => ?_)
  · replace h := h.1 q
    refine V_iconst dX12_tick_21 ?_
    refine V_istore_n (L' := [some (vr 94), some (vi x1), some (vi x2), some (vi 0), none]) dX12_tick_22 rfl (by decide) rfl ?_
    exact V.sub (SubL_s (SubL_s (SubL_s (SubL_s (SubL_n (SubL_0)))))) h
  · replace h := h.2 q
    refine V_aload_n dX12_tick_8 rfl rfl ?_
    refine V_getR (k2 := 107) flX12_51 rfl rfl (by decide) dX12_tick_9 ?_
    refine V_iload_n dX12_tick_12 rfl rfl ?_
    refine V_iconst dX12_tick_13 ?_
    obtain ⟨r2, h⟩ := h
    refine V_iast (rfl : shp[107]? = some (1, 102, 0)) r2 dX12_tick_14 ?_
    refine V_iinc (L' := [some (vr 94), some (vi x1), some (vi x2), some (vi (x3 + 1)), none]) dX12_tick_15 rfl (by decide) rfl ?_
    refine V_goto (tgt := 2) dX12_tick_18 rfl ?_
    exact V.sub (SubL_s (SubL_s (SubL_s (SubL_s (SubL_n (SubL_0)))))) h
set_option maxRecDepth 100000 in
theorem BX12_tick_23 {σ : Sg} {post : Po} {x1 : Int} {x2 : Int} {x3 : Int} 
  (h : (rng x3) ∧ ((rng (σ 94 7)) ∧ (((σ 94 7) ≤ x3 → post none σ) ∧ (¬ (σ 94 7) ≤ x3 → (0 ≤ x3 ∧ x3 < 60) ∧ (V mX12_tick 39 [some (vr 94), some (vi x1), some (vi x2), some (vi x3), some (vi (σ 103 x3))] [] σ post))))) :
  V mX12_tick 23 [some (vr 94), some (vi x1), some (vi x2), some (vi x3), none] [] σ post := by
  refine V_iload_n dX12_tick_23 rfl rfl ?_
  refine V_aload_n dX12_tick_24 rfl rfl ?_
  refine V_getI (f := (σ 94 7)) flX12_210 rfl (rfl) (by decide) dX12_tick_25 ?_
  obtain ⟨r1, h⟩ := h
  obtain ⟨r2, h⟩ := h
  refine V_icmp_ge (tgt := 96) dX12_tick_28 rfl r1 r2 (fun q => ?_) (fun q => ?_)
  · replace h := h.1 q
    exact V_return (stk := []) rfl dX12_tick_96 h
  · replace h := h.2 q
    refine V_aload_n dX12_tick_31 rfl rfl ?_
    refine V_getR (k2 := 103) flX12_34 rfl rfl (by decide) dX12_tick_32 ?_
    refine V_iload_n dX12_tick_35 rfl rfl ?_
    obtain ⟨r3, h⟩ := h
    refine V_iald (f := (σ 103 x3)) (rfl : shp[103]? = some (1, 60, 0)) r3 (rfl) dX12_tick_36 ?_
    refine V_istore (L' := [some (vr 94), some (vi x1), some (vi x2), some (vi x3), some (vi (σ 103 x3))]) dX12_tick_37 (by decide) rfl ?_
    exact V.sub (SubL_s (SubL_s (SubL_s (SubL_s (SubL_s (SubL_0)))))) h
set_option maxRecDepth 100000 in
theorem BX12_tick_39 {σ : Sg} {post : Po} {x1 : Int} {x2 : Int} {x3 : Int} {x4 : Int} 
  (h : (0 ≤ x3 ∧ x3 < 60) ∧ ((rng x4) ∧ ((rng (σ 104 x3)) ∧ (((σ 104 x3) < x4 → V mX12_tick 23 [some (vr 94), some (vi x1), some (vi x2), some (vi (x3 + 1)), none] [] σ post) ∧ (¬ (σ 104 x3) < x4 → Cl mX12_isOf [vr 94, vi x3, vi x1, vi x2] σ (pI fun z1 σ1 => (rng z1) ∧ ((z1 = 0 → V mX12_tick 23 [some (vr 94), some (vi x1), some (vi x2), some (vi (x3 + 1)), none] [] σ1 post) ∧ (¬ z1 = 0 → (0 ≤ x4 ∧ x4 < 102) ∧ ((rng (σ1 105 x3)) ∧ (((σ1 105 x3) = 0 → V mX12_tick 39 [some (vr 94), some (vi x1), some (vi x2), some (vi x3), some (vi (x4 + 1))] [] (up σ1 107 x4 (iOr (σ1 107 x4) 1)) post) ∧ (¬ (σ1 105 x3) = 0 → V mX12_tick 39 [some (vr 94), some (vi x1), some (vi x2), some (vi x3), some (vi (x4 + 1))] [] (up σ1 107 x4 (iOr (σ1 107 x4) 3)) post))))))))))) :
  V mX12_tick 39 [some (vr 94), some (vi x1), some (vi x2), some (vi x3), some (vi x4)] [] σ post := by
  refine V_iload dX12_tick_39 rfl ?_
  refine V_aload_n dX12_tick_41 rfl rfl ?_
  refine V_getR (k2 := 104) flX12_37 rfl rfl (by decide) dX12_tick_42 ?_
  refine V_iload_n dX12_tick_45 rfl rfl ?_
  obtain ⟨r1, h⟩ := h
  refine V_iald (f := (σ 104 x3)) (rfl : shp[104]? = some (1, 60, 0)) r1 (rfl) dX12_tick_46 ?_
  obtain ⟨r2, h⟩ := h
  obtain ⟨r3, h⟩ := h
  refine V_icmp_gt (tgt := 90) dX12_tick_47 rfl r2 r3 (fun q => ?_) (fun q => ?_)
  · replace h := h.1 q
    refine V_iinc (L' := [some (vr 94), some (vi x1), some (vi x2), some (vi (x3 + 1)), some (vi x4)]) dX12_tick_90 rfl (by decide) rfl ?_
    refine V_goto (tgt := 23) dX12_tick_93 rfl ?_
    exact V.sub (SubL_s (SubL_s (SubL_s (SubL_s (SubL_n (SubL_0)))))) h
  · replace h := h.2 q
    refine V_aload_n dX12_tick_50 rfl rfl ?_
    refine V_iload_n dX12_tick_51 rfl rfl ?_
    refine V_iload_n dX12_tick_52 rfl rfl ?_
    refine V_iload_n dX12_tick_53 rfl rfl ?_
    refine V_callV (av := [vi x3, vi x1, vi x2]) (stk := []) cvX12_267 rfl rfl rfl (by decide) (by simp [ctg]) dX12_tick_54 h ?_
    rintro _ σ1 ⟨z1, rfl, h⟩
    obtain ⟨r4, h⟩ := h
    refine V_if_eq (tgt := 90) dX12_tick_57 rfl r4 (fun q => ?_) (fun q => ?_)
    · replace h := h.1 q
      refine V_iinc (L' := [some (vr 94), some (vi x1), some (vi x2), some (vi (x3 + 1)), some (vi x4)]) dX12_tick_90 rfl (by decide) rfl ?_
      refine V_goto (tgt := 23) dX12_tick_93 rfl ?_
      exact V.sub (SubL_s (SubL_s (SubL_s (SubL_s (SubL_n (SubL_0)))))) h
    · replace h := h.2 q
      refine V_aload_n dX12_tick_60 rfl rfl ?_
      refine V_getR (k2 := 107) flX12_51 rfl rfl (by decide) dX12_tick_61 ?_
      refine V_iload dX12_tick_64 rfl ?_
      refine V_dup2 dX12_tick_66 trivial trivial ?_
      obtain ⟨r5, h⟩ := h
      refine V_iald (f := (σ1 107 x4)) (rfl : shp[107]? = some (1, 102, 0)) r5 (rfl) dX12_tick_67 ?_
      refine V_aload_n dX12_tick_68 rfl rfl ?_
      refine V_getR (k2 := 105) flX12_40 rfl rfl (by decide) dX12_tick_69 ?_
      refine V_iload_n dX12_tick_72 rfl rfl ?_
      refine V_zald (f := (σ1 105 x3)) (rfl : shp[105]? = some (3, 60, 0)) r1 (rfl) dX12_tick_73 ?_
      obtain ⟨r6, h⟩ := h
      refine V_if_eq (tgt := 81) dX12_tick_74 rfl r6 (fun q => ?_) (fun q => ?_)
      · replace h := h.1 q
        refine V_iconst dX12_tick_81 ?_
        refine V_ior dX12_tick_82 ?_
        refine V_iast (rfl : shp[107]? = some (1, 102, 0)) r5 dX12_tick_83 ?_
        refine V_iinc (L' := [some (vr 94), some (vi x1), some (vi x2), some (vi x3), some (vi (x4 + 1))]) dX12_tick_84 rfl (by decide) rfl ?_
        refine V_goto (tgt := 39) dX12_tick_87 rfl ?_
        exact V.sub (SubL_s (SubL_s (SubL_s (SubL_s (SubL_s (SubL_0)))))) h
      · replace h := h.2 q
        refine V_iconst dX12_tick_77 ?_
        refine V_goto (tgt := 82) dX12_tick_78 rfl ?_
        refine V_ior dX12_tick_82 ?_
        refine V_iast (rfl : shp[107]? = some (1, 102, 0)) r5 dX12_tick_83 ?_
        refine V_iinc (L' := [some (vr 94), some (vi x1), some (vi x2), some (vi x3), some (vi (x4 + 1))]) dX12_tick_84 rfl (by decide) rfl ?_
        refine V_goto (tgt := 39) dX12_tick_87 rfl ?_
        exact V.sub (SubL_s (SubL_s (SubL_s (SubL_s (SubL_s (SubL_0)))))) h

set_option maxRecDepth 100000 in
theorem BX12_nextRun_0 {σ : Sg} {post : Po} {x1 : Int} 
  (h : V mX12_nextRun 5 [some (vr 94), none] [] (up σ 94 24 x1) post) :
  V mX12_nextRun 0 [some (vr 94), some (vi x1)] [] σ post := by
  refine V_aload_n dX12_nextRun_0 rfl rfl ?_
  refine V_iload_n dX12_nextRun_1 rfl rfl ?_
  refine V_putI flX12_317 rfl (by decide) dX12_nextRun_2 ?_
  exact V.sub (SubL_s (SubL_n (SubL_0))) h
set_option maxRecDepth 100000 in
theorem BX12_nextRun_5 {σ : Sg} {post : Po}  
  (h : (rng (σ 94 24)) ∧ ((99 < (σ 94 24) → V mX12_nextRun 52 [some (vr 94), none] [] (up (up σ 94 25 (σ 94 24)) 94 26 0) post) ∧ (¬ 99 < (σ 94 24) → (0 ≤ (σ 94 24) ∧ (σ 94 24) < 102) ∧ ((rng (σ 107 (σ 94 24))) ∧ ((¬ (σ 107 (σ 94 24)) = 0 → V mX12_nextRun 52 [some (vr 94), none] [] (up (up σ 94 25 (σ 94 24)) 94 26 0) post) ∧ ((σ 107 (σ 94 24)) = 0 → V mX12_nextRun 5 [some (vr 94), none] [] (up σ 94 24 ((σ 94 24) + 1)) post)))))) :
  V mX12_nextRun 5 [some (vr 94), none] [] σ post := by
  refine V_aload_n dX12_nextRun_5 rfl rfl ?_
  refine V_getI (f := (σ 94 24)) flX12_317 rfl (rfl) (by decide) dX12_nextRun_6 ?_
  refine V_bipush dX12_nextRun_9 (by decide) ?_
  obtain ⟨r1, h⟩ := h
  refine V_icmp_gt (tgt := 39) dX12_nextRun_11 rfl r1 (by decide) (fun q => ?_) (fun q => ?_)
  · replace h := h.1 q
    refine V_aload_n dX12_nextRun_39 rfl rfl ?_
    refine V_aload_n dX12_nextRun_40 rfl rfl ?_
    refine V_getI (f := (σ 94 24)) flX12_317 rfl (rfl) (by decide) dX12_nextRun_41 ?_
    refine V_putI flX12_320 rfl (by decide) dX12_nextRun_44 ?_
    refine V_aload_n dX12_nextRun_47 rfl rfl ?_
    refine V_iconst dX12_nextRun_48 ?_
    refine V_putZ flX12_323 rfl (by decide) (by decide) dX12_nextRun_49 ?_
    exact V.sub (SubL_s (SubL_n (SubL_0))) h
  · replace h := h.2 q
    refine V_aload_n dX12_nextRun_14 rfl rfl ?_
    refine V_getR (k2 := 107) flX12_51 rfl rfl (by decide) dX12_nextRun_15 ?_
    refine V_aload_n dX12_nextRun_18 rfl rfl ?_
    refine V_getI (f := (σ 94 24)) flX12_317 rfl (rfl) (by decide) dX12_nextRun_19 ?_
    obtain ⟨r2, h⟩ := h
    refine V_iald (f := (σ 107 (σ 94 24))) (rfl : shp[107]? = some (1, 102, 0)) r2 (rfl) dX12_nextRun_22 ?_
    obtain ⟨r3, h⟩ := h
    refine V_if_ne (tgt := 39) dX12_nextRun_23 rfl r3 (fun q => ?_) (fun q => ?_)
    · replace h := h.1 q
      refine V_aload_n dX12_nextRun_39 rfl rfl ?_
      refine V_aload_n dX12_nextRun_40 rfl rfl ?_
      refine V_getI (f := (σ 94 24)) flX12_317 rfl (rfl) (by decide) dX12_nextRun_41 ?_
      refine V_putI flX12_320 rfl (by decide) dX12_nextRun_44 ?_
      refine V_aload_n dX12_nextRun_47 rfl rfl ?_
      refine V_iconst dX12_nextRun_48 ?_
      refine V_putZ flX12_323 rfl (by decide) (by decide) dX12_nextRun_49 ?_
      exact V.sub (SubL_s (SubL_n (SubL_0))) h
    · replace h := h.2 q
      refine V_aload_n dX12_nextRun_26 rfl rfl ?_
      refine V_dup dX12_nextRun_27 trivial ?_
      refine V_getI (f := (σ 94 24)) flX12_317 rfl (rfl) (by decide) dX12_nextRun_28 ?_
      refine V_iconst dX12_nextRun_31 ?_
      refine V_iadd dX12_nextRun_32 ?_
      refine V_putI flX12_317 rfl (by decide) dX12_nextRun_33 ?_
      refine V_goto (tgt := 5) dX12_nextRun_36 rfl ?_
      exact V.sub (SubL_s (SubL_n (SubL_0))) h
set_option maxRecDepth 100000 in
theorem BX12_nextRun_52 {σ : Sg} {post : Po}  
  (h : (rng (σ 94 25)) ∧ ((99 < (σ 94 25) → (rng (σ 94 24)) ∧ ((99 < (σ 94 24) → post (some (vi 0)) (up σ 94 25 ((σ 94 25) - 1))) ∧ (¬ 99 < (σ 94 24) → post (some (vi 1)) (up σ 94 25 ((σ 94 25) - 1))))) ∧ (¬ 99 < (σ 94 25) → (0 ≤ (σ 94 25) ∧ (σ 94 25) < 102) ∧ ((rng (σ 107 (σ 94 25))) ∧ (((σ 107 (σ 94 25)) ≤ 0 → (rng (σ 94 24)) ∧ ((99 < (σ 94 24) → post (some (vi 0)) (up σ 94 25 ((σ 94 25) - 1))) ∧ (¬ 99 < (σ 94 24) → post (some (vi 1)) (up σ 94 25 ((σ 94 25) - 1))))) ∧ (¬ (σ 107 (σ 94 25)) ≤ 0 → (rng (σ 94 26)) ∧ ((¬ (σ 94 26) = 0 → V mX12_nextRun 52 [some (vr 94), none] [] (up (up σ 94 26 1) 94 25 ((σ 94 25) + 1)) post) ∧ ((σ 94 26) = 0 → (¬ (σ 107 (σ 94 25)) = 3 → V mX12_nextRun 52 [some (vr 94), none] [] (up (up σ 94 26 0) 94 25 ((σ 94 25) + 1)) post) ∧ ((σ 107 (σ 94 25)) = 3 → V mX12_nextRun 52 [some (vr 94), none] [] (up (up σ 94 26 1) 94 25 ((σ 94 25) + 1)) post))))))))) :
  V mX12_nextRun 52 [some (vr 94), none] [] σ post := by
  refine V_aload_n dX12_nextRun_52 rfl rfl ?_
  refine V_getI (f := (σ 94 25)) flX12_320 rfl (rfl) (by decide) dX12_nextRun_53 ?_
  refine V_bipush dX12_nextRun_56 (by decide) ?_
  obtain ⟨r1, h⟩ := h
  refine V_icmp_gt (tgt := 115) dX12_nextRun_58 rfl r1 (by decide) (fun q => ?_) (fun q => ?_)
  · replace h := h.1 q
    refine V_aload_n dX12_nextRun_115 rfl rfl ?_
    refine V_dup dX12_nextRun_116 trivial ?_
    refine V_getI (f := (σ 94 25)) flX12_320 rfl (rfl) (by decide) dX12_nextRun_117 ?_
    refine V_iconst dX12_nextRun_120 ?_
    refine V_isub dX12_nextRun_121 ?_
    refine V_putI flX12_320 rfl (by decide) dX12_nextRun_122 ?_
    refine V_aload_n dX12_nextRun_125 rfl rfl ?_
    refine V_getI (f := (σ 94 24)) flX12_317 rfl (up_f (by omega)) (by decide) dX12_nextRun_126 ?_
    refine V_bipush dX12_nextRun_129 (by decide) ?_
    obtain ⟨r2, h⟩ := h
    refine V_icmp_gt (tgt := 138) dX12_nextRun_131 rfl r2 (by decide) (fun q => ?_) (fun q => ?_)
    · replace h := h.1 q
      refine V_iconst dX12_nextRun_138 ?_
      exact V_zreturn (stk := []) rfl dX12_nextRun_139 (by decide) h
    · replace h := h.2 q
      refine V_iconst dX12_nextRun_134 ?_
      refine V_goto (tgt := 139) dX12_nextRun_135 rfl ?_
      exact V_zreturn (stk := []) rfl dX12_nextRun_139 (by decide) h
  · replace h := h.2 q
    refine V_aload_n dX12_nextRun_61 rfl rfl ?_
    refine V_getR (k2 := 107) flX12_51 rfl rfl (by decide) dX12_nextRun_62 ?_
    refine V_aload_n dX12_nextRun_65 rfl rfl ?_
    refine V_getI (f := (σ 94 25)) flX12_320 rfl (rfl) (by decide) dX12_nextRun_66 ?_
    obtain ⟨r3, h⟩ := h
    refine V_iald (f := (σ 107 (σ 94 25))) (rfl : shp[107]? = some (1, 102, 0)) r3 (rfl) dX12_nextRun_69 ?_
    obtain ⟨r4, h⟩ := h
    refine V_if_le (tgt := 115) dX12_nextRun_70 rfl r4 (fun q => ?_) (fun q => ?_)
    · replace h := h.1 q
      refine V_aload_n dX12_nextRun_115 rfl rfl ?_
      refine V_dup dX12_nextRun_116 trivial ?_
      refine V_getI (f := (σ 94 25)) flX12_320 rfl (rfl) (by decide) dX12_nextRun_117 ?_
      refine V_iconst dX12_nextRun_120 ?_
      refine V_isub dX12_nextRun_121 ?_
      refine V_putI flX12_320 rfl (by decide) dX12_nextRun_122 ?_
      refine V_aload_n dX12_nextRun_125 rfl rfl ?_
      refine V_getI (f := (σ 94 24)) flX12_317 rfl (up_f (by omega)) (by decide) dX12_nextRun_126 ?_
      refine V_bipush dX12_nextRun_129 (by decide) ?_
      obtain ⟨r5, h⟩ := h
      refine V_icmp_gt (tgt := 138) dX12_nextRun_131 rfl r5 (by decide) (fun q => ?_) (fun q => ?_)
      · replace h := h.1 q
        refine V_iconst dX12_nextRun_138 ?_
        exact V_zreturn (stk := []) rfl dX12_nextRun_139 (by decide) h
      · replace h := h.2 q
        refine V_iconst dX12_nextRun_134 ?_
        refine V_goto (tgt := 139) dX12_nextRun_135 rfl ?_
        exact V_zreturn (stk := []) rfl dX12_nextRun_139 (by decide) h
    · replace h := h.2 q
      refine V_aload_n dX12_nextRun_73 rfl rfl ?_
      refine V_aload_n dX12_nextRun_74 rfl rfl ?_
      refine V_getI (f := (σ 94 26)) flX12_323 rfl (rfl) (by decide) dX12_nextRun_75 ?_
      obtain ⟨r6, h⟩ := h
      refine V_if_ne (tgt := 94) dX12_nextRun_78 rfl r6 (fun q => ?_) (fun q => ?_)
      · replace h := h.1 q
        refine V_iconst dX12_nextRun_94 ?_
        refine V_goto (tgt := 99) dX12_nextRun_95 rfl ?_
        refine V_putZ flX12_323 rfl (by decide) (by decide) dX12_nextRun_99 ?_
        refine V_aload_n dX12_nextRun_102 rfl rfl ?_
        refine V_dup dX12_nextRun_103 trivial ?_
        refine V_getI (f := (σ 94 25)) flX12_320 rfl (up_f (by omega)) (by decide) dX12_nextRun_104 ?_
        refine V_iconst dX12_nextRun_107 ?_
        refine V_iadd dX12_nextRun_108 ?_
        refine V_putI flX12_320 rfl (by decide) dX12_nextRun_109 ?_
        refine V_goto (tgt := 52) dX12_nextRun_112 rfl ?_
        exact V.sub (SubL_s (SubL_n (SubL_0))) h
      · replace h := h.2 q
        refine V_aload_n dX12_nextRun_81 rfl rfl ?_
        refine V_getR (k2 := 107) flX12_51 rfl rfl (by decide) dX12_nextRun_82 ?_
        refine V_aload_n dX12_nextRun_85 rfl rfl ?_
        refine V_getI (f := (σ 94 25)) flX12_320 rfl (rfl) (by decide) dX12_nextRun_86 ?_
        refine V_iald (f := (σ 107 (σ 94 25))) (rfl : shp[107]? = some (1, 102, 0)) r3 (rfl) dX12_nextRun_89 ?_
        refine V_iconst dX12_nextRun_90 ?_
        refine V_icmp_ne (tgt := 98) dX12_nextRun_91 rfl r4 (by decide) (fun q => ?_) (fun q => ?_)
        · replace h := h.1 q
          refine V_iconst dX12_nextRun_98 ?_
          refine V_putZ flX12_323 rfl (by decide) (by decide) dX12_nextRun_99 ?_
          refine V_aload_n dX12_nextRun_102 rfl rfl ?_
          refine V_dup dX12_nextRun_103 trivial ?_
          refine V_getI (f := (σ 94 25)) flX12_320 rfl (up_f (by omega)) (by decide) dX12_nextRun_104 ?_
          refine V_iconst dX12_nextRun_107 ?_
          refine V_iadd dX12_nextRun_108 ?_
          refine V_putI flX12_320 rfl (by decide) dX12_nextRun_109 ?_
          refine V_goto (tgt := 52) dX12_nextRun_112 rfl ?_
          exact V.sub (SubL_s (SubL_n (SubL_0))) h
        · replace h := h.2 q
          refine V_iconst dX12_nextRun_94 ?_
          refine V_goto (tgt := 99) dX12_nextRun_95 rfl ?_
          refine V_putZ flX12_323 rfl (by decide) (by decide) dX12_nextRun_99 ?_
          refine V_aload_n dX12_nextRun_102 rfl rfl ?_
          refine V_dup dX12_nextRun_103 trivial ?_
          refine V_getI (f := (σ 94 25)) flX12_320 rfl (up_f (by omega)) (by decide) dX12_nextRun_104 ?_
          refine V_iconst dX12_nextRun_107 ?_
          refine V_iadd dX12_nextRun_108 ?_
          refine V_putI flX12_320 rfl (by decide) dX12_nextRun_109 ?_
          refine V_goto (tgt := 52) dX12_nextRun_112 rfl ?_
          exact V.sub (SubL_s (SubL_n (SubL_0))) h

set_option maxRecDepth 100000 in
theorem BX12_runsTicked_0 {σ : Sg} {post : Po}  
  (h : V mX12_runsTicked 4 [some (vr 94), some (vi 0), some (vi 1)] [] σ post) :
  V mX12_runsTicked 0 [some (vr 94), none, none] [] σ post := by
  refine V_iconst dX12_runsTicked_0 ?_
  refine V_istore_n (L' := [some (vr 94), some (vi 0), none]) dX12_runsTicked_1 rfl (by decide) rfl ?_
  refine V_iconst dX12_runsTicked_2 ?_
  refine V_istore_n (L' := [some (vr 94), some (vi 0), some (vi 1)]) dX12_runsTicked_3 rfl (by decide) rfl ?_
  exact V.sub (SubL_s (SubL_s (SubL_s (SubL_0)))) h
set_option maxRecDepth 100000 in
theorem BX12_runsTicked_4 {σ : Sg} {post : Po} {x1 : Int} {x2 : Int} 
  (h : Cl mX12_nextRun [vr 94, vi x2] σ (pI fun z1 σ1 => (rng z1) ∧ ((z1 = 0 → post (some (vi x1)) σ1) ∧ (¬ z1 = 0 → V mX12_runsTicked 4 [some (vr 94), some (vi (x1 + 1)), some (vi ((σ1 94 25) + 1))] [] σ1 post)))) :
  V mX12_runsTicked 4 [some (vr 94), some (vi x1), some (vi x2)] [] σ post := by
  refine V_aload_n dX12_runsTicked_4 rfl rfl ?_
  refine V_iload_n dX12_runsTicked_5 rfl rfl ?_
  refine V_callV (av := [vi x2]) (stk := []) cvX12_327 rfl rfl rfl (by decide) (by simp [ctg]) dX12_runsTicked_6 h ?_
  rintro _ σ1 ⟨z1, rfl, h⟩
  obtain ⟨r1, h⟩ := h
  refine V_if_eq (tgt := 25) dX12_runsTicked_9 rfl r1 (fun q => ?_) (fun q => ?_)
  · replace h := h.1 q
    refine V_iload_n dX12_runsTicked_25 rfl rfl ?_
    exact V_ireturn (stk := []) rfl dX12_runsTicked_26 h
  · replace h := h.2 q
    refine V_iinc (L' := [some (vr 94), some (vi (x1 + 1)), some (vi x2)]) dX12_runsTicked_12 rfl (by decide) rfl ?_
    refine V_aload_n dX12_runsTicked_15 rfl rfl ?_
    refine V_getI (f := (σ1 94 25)) flX12_320 rfl (rfl) (by decide) dX12_runsTicked_16 ?_
    refine V_iconst dX12_runsTicked_19 ?_
    refine V_iadd dX12_runsTicked_20 ?_
    refine V_istore_n (L' := [some (vr 94), some (vi (x1 + 1)), some (vi ((σ1 94 25) + 1))]) dX12_runsTicked_21 rfl (by decide) rfl ?_
    refine V_goto (tgt := 4) dX12_runsTicked_22 rfl ?_
    exact V.sub (SubL_s (SubL_s (SubL_s (SubL_0)))) h

set_option maxRecDepth 100000 in
theorem BX12_run_0 {σ : Sg} {post : Po} {x1 : Int} {x2 : Int} {x3 : Int} {x4 : Int} 
  (h : Cl mX12_noHead [vr 94, vi x1] σ (pI fun z1 σ1 => (rng z1) ∧ ((¬ z1 = 0 → post (some (vi (-1001))) σ1) ∧ (z1 = 0 → Cl mX12_noSub [vr 94, vi x1, vi x2] σ1 (pI fun z2 σ2 => (rng z2) ∧ ((z2 = 0 → (rng x4) ∧ (Cl mX12_in [vl x4, vl 0, vl 2] σ2 (pI fun z3 σ3 => (rng z3) ∧ ((¬ z3 = 0 → Cl mX12_tick [vr 94, vi x1, vi x2] σ3 (pV fun σ4 => (rng x3) ∧ ((¬ x3 = (-1) → V mX12_run 60 [some (vr 94), none, none, some (vi x3), some (vi x4), some (vi 0), some (vi 1)] [] σ4 post) ∧ (x3 = (-1) → Cl mX12_runsTicked [vr 94] σ4 (pI fun z5 σ5 => post (some (vi z5)) σ5))))) ∧ (z3 = 0 → post (some (vi (-1002))) σ3))))) ∧ (¬ z2 = 0 → post (some (vi (-1001))) σ2))))))) :
  V mX12_run 0 [some (vr 94), some (vi x1), some (vi x2), some (vi x3), some (vi x4), none, none] [] σ post := by
  refine V_aload_n dX12_run_0 rfl rfl ?_
  refine V_iload_n dX12_run_1 rfl rfl ?_
  refine V_callV (av := [vi x1]) (stk := []) cvX12_293 rfl rfl rfl (by decide) (by simp [ctg]) dX12_run_2 h ?_
  rintro _ σ1 ⟨z1, rfl, h⟩
  obtain ⟨r1, h⟩ := h
  refine V_if_ne (tgt := 17) dX12_run_5 rfl r1 (fun q => ?_) (fun q => ?_)
  · replace h := h.1 q
    refine V_sipush dX12_run_17 (by decide) ?_
    exact V_ireturn (stk := []) rfl dX12_run_20 h
  · replace h := h.2 q
    refine V_aload_n dX12_run_8 rfl rfl ?_
    refine V_iload_n dX12_run_9 rfl rfl ?_
    refine V_iload_n dX12_run_10 rfl rfl ?_
    refine V_callV (av := [vi x1, vi x2]) (stk := []) cvX12_306 rfl rfl rfl (by decide) (by simp [ctg]) dX12_run_11 h ?_
    rintro _ σ2 ⟨z2, rfl, h⟩
    obtain ⟨r2, h⟩ := h
    refine V_if_eq (tgt := 21) dX12_run_14 rfl r2 (fun q => ?_) (fun q => ?_)
    · replace h := h.1 q
      refine V_iload dX12_run_21 rfl ?_
      obtain ⟨r3, h⟩ := h
      refine V_i2l dX12_run_23 r3 ?_
      refine V_lconst (z := 0) dX12_run_24 rfl ?_
      refine V_ldc2 dX12_run_25 klX12_330 ?_
      refine V_callS (av := [vl x4, vl 0, vl 2]) (stk := []) cvX12_146 rfl rfl (by decide) (by simp [ctg]) dX12_run_28 h ?_
      rintro _ σ3 ⟨z3, rfl, h⟩
      obtain ⟨r4, h⟩ := h
      refine V_if_ne (tgt := 38) dX12_run_31 rfl r4 (fun q => ?_) (fun q => ?_)
      · replace h := h.1 q
        refine V_aload_n dX12_run_38 rfl rfl ?_
        refine V_iload_n dX12_run_39 rfl rfl ?_
        refine V_iload_n dX12_run_40 rfl rfl ?_
        refine V_callV (av := [vi x1, vi x2]) (stk := []) cvX12_296 rfl rfl rfl (by decide) (by simp [ctg]) dX12_run_41 h ?_
        rintro _ σ4 ⟨rfl, h⟩
        refine V_iload_n dX12_run_44 rfl rfl ?_
        refine V_iconst dX12_run_45 ?_
        obtain ⟨r5, h⟩ := h
        refine V_icmp_ne (tgt := 54) dX12_run_46 rfl r5 (by decide) (fun q => ?_) (fun q => ?_)
        · replace h := h.1 q
          refine V_iconst dX12_run_54 ?_
          refine V_istore (L' := [some (vr 94), some (vi x1), some (vi x2), some (vi x3), some (vi x4), some (vi 0), none]) dX12_run_55 (by decide) rfl ?_
          refine V_iconst dX12_run_57 ?_
          refine V_istore (L' := [some (vr 94), some (vi x1), some (vi x2), some (vi x3), some (vi x4), some (vi 0), some (vi 1)]) dX12_run_58 (by decide) rfl ?_
          exact V.sub (SubL_s (SubL_n (SubL_n (SubL_s (SubL_s (SubL_s (SubL_s (SubL_0)))))))) h
        · replace h := h.2 q
          refine V_aload_n dX12_run_49 rfl rfl ?_
          refine V_callV (av := []) (stk := []) cvX12_300 rfl rfl rfl (by decide) (by simp [ctg]) dX12_run_50 h ?_
          rintro _ σ5 ⟨z5, rfl, h⟩
          exact V_ireturn (stk := []) rfl dX12_run_53 h
      · replace h := h.2 q
        refine V_sipush dX12_run_34 (by decide) ?_
        exact V_ireturn (stk := []) rfl dX12_run_37 h
    · replace h := h.2 q
      refine V_sipush dX12_run_17 (by decide) ?_
      exact V_ireturn (stk := []) rfl dX12_run_20 h
set_option maxRecDepth 100000 in
theorem BX12_run_60 {σ : Sg} {post : Po} {x3 : Int} {x4 : Int} {x5 : Int} {x6 : Int} 
  (h : Cl mX12_nextRun [vr 94, vi x6] σ (pI fun z1 σ1 => (rng z1) ∧ ((z1 = 0 → post (some (vi (-1))) σ1) ∧ (¬ z1 = 0 → (rng x5) ∧ ((rng x3) ∧ ((¬ x5 = x3 → V mX12_run 60 [some (vr 94), none, none, some (vi x3), some (vi x4), some (vi (x5 + 1)), some (vi ((σ1 94 25) + 1))] [] σ1 post) ∧ (x5 = x3 → (rng x4) ∧ ((¬ x4 = 0 → (¬ x4 = 1 → Cl mX12_one [vi (σ1 94 26)] σ1 (pI fun z2 σ2 => post (some (vi z2)) σ2)) ∧ (x4 = 1 → post (some (vi (σ1 94 25))) σ1)) ∧ (x4 = 0 → post (some (vi (σ1 94 24))) σ1))))))))) :
  V mX12_run 60 [some (vr 94), none, none, some (vi x3), some (vi x4), some (vi x5), some (vi x6)] [] σ post := by
  refine V_aload_n dX12_run_60 rfl rfl ?_
  refine V_iload dX12_run_61 rfl ?_
  refine V_callV (av := [vi x6]) (stk := []) cvX12_327 rfl rfl rfl (by decide) (by simp [ctg]) dX12_run_63 h ?_
  rintro _ σ1 ⟨z1, rfl, h⟩
  obtain ⟨r1, h⟩ := h
  refine V_if_eq (tgt := 122) dX12_run_66 rfl r1 (fun q => ?_) (fun q => ?_)
  · replace h := h.1 q
    refine V_iconst dX12_run_122 ?_
    exact V_ireturn (stk := []) rfl dX12_run_123 h
  · replace h := h.2 q
    refine V_iload dX12_run_69 rfl ?_
    refine V_iload_n dX12_run_71 rfl rfl ?_
    obtain ⟨r2, h⟩ := h
    obtain ⟨r3, h⟩ := h
    refine V_icmp_ne (tgt := 108) dX12_run_72 rfl r2 r3 (fun q => ?_) (fun q => ?_)
    · replace h := h.1 q
      refine V_iinc (L' := [some (vr 94), none, none, some (vi x3), some (vi x4), some (vi (x5 + 1)), some (vi x6)]) dX12_run_108 rfl (by decide) rfl ?_
      refine V_aload_n dX12_run_111 rfl rfl ?_
      refine V_getI (f := (σ1 94 25)) flX12_320 rfl (rfl) (by decide) dX12_run_112 ?_
      refine V_iconst dX12_run_115 ?_
      refine V_iadd dX12_run_116 ?_
      refine V_istore (L' := [some (vr 94), none, none, some (vi x3), some (vi x4), some (vi (x5 + 1)), some (vi ((σ1 94 25) + 1))]) dX12_run_117 (by decide) rfl ?_
      refine V_goto (tgt := 60) dX12_run_119 rfl ?_
      exact V.sub (SubL_s (SubL_n (SubL_n (SubL_s (SubL_s (SubL_s (SubL_s (SubL_0)))))))) h
    · replace h := h.2 q
      refine V_iload dX12_run_75 rfl ?_
      obtain ⟨r4, h⟩ := h
      refine V_if_ne (tgt := 87) dX12_run_77 rfl r4 (fun q => ?_) (fun q => ?_)
      · replace h := h.1 q
        refine V_iload dX12_run_87 rfl ?_
        refine V_iconst dX12_run_89 ?_
        refine V_icmp_ne (tgt := 100) dX12_run_90 rfl r4 (by decide) (fun q => ?_) (fun q => ?_)
        · replace h := h.1 q
          refine V_aload_n dX12_run_100 rfl rfl ?_
          refine V_getI (f := (σ1 94 26)) flX12_323 rfl (rfl) (by decide) dX12_run_101 ?_
          refine V_callS (av := [vi (σ1 94 26)]) (stk := []) cvX12_271 rfl rfl (by decide) (by simp [ctg]) dX12_run_104 h ?_
          rintro _ σ2 ⟨z2, rfl, h⟩
          exact V_ireturn (stk := []) rfl dX12_run_107 h
        · replace h := h.2 q
          refine V_aload_n dX12_run_93 rfl rfl ?_
          refine V_getI (f := (σ1 94 25)) flX12_320 rfl (rfl) (by decide) dX12_run_94 ?_
          refine V_goto (tgt := 107) dX12_run_97 rfl ?_
          exact V_ireturn (stk := []) rfl dX12_run_107 h
      · replace h := h.2 q
        refine V_aload_n dX12_run_80 rfl rfl ?_
        refine V_getI (f := (σ1 94 24)) flX12_317 rfl (rfl) (by decide) dX12_run_81 ?_
        refine V_goto (tgt := 107) dX12_run_84 rfl ?_
        exact V_ireturn (stk := []) rfl dX12_run_107 h

set_option maxRecDepth 100000 in
theorem BX12_signAt_0 {σ : Sg} {post : Po} {x1 : Int} {x2 : Int} 
  (h : V mX12_signAt 5 [some (vr 94), some (vi x1), some (vi x2), some (vi 0), some (vi 0), none, none] [] σ post) :
  V mX12_signAt 0 [some (vr 94), some (vi x1), some (vi x2), none, none, none, none] [] σ post := by
  refine V_iconst dX12_signAt_0 ?_
  refine V_istore_n (L' := [some (vr 94), some (vi x1), some (vi x2), some (vi 0), none, none, none]) dX12_signAt_1 rfl (by decide) rfl ?_
  refine V_iconst dX12_signAt_2 ?_
  refine V_istore (L' := [some (vr 94), some (vi x1), some (vi x2), some (vi 0), some (vi 0), none, none]) dX12_signAt_3 (by decide) rfl ?_
  exact V.sub (SubL_s (SubL_s (SubL_s (SubL_s (SubL_s (SubL_n (SubL_n (SubL_0)))))))) h
set_option maxRecDepth 100000 in
theorem BX12_signAt_5 {σ : Sg} {post : Po} {x1 : Int} {x2 : Int} {x3 : Int} {x4 : Int} 
  (h : (0 ≤ x1 ∧ x1 < 112) ∧ ((rng x4) ∧ ((rng (σ 96 x1)) ∧ (((σ 96 x1) ≤ x4 → post (some (vi 0)) σ) ∧ (¬ (σ 96 x1) ≤ x4 → (0 ≤ ((12 * x1) + x4) ∧ ((12 * x1) + x4) < 1344) ∧ ((rng (σ 94 27)) ∧ (((σ 94 27) = 1 → (rng x3) ∧ ((rng x2) ∧ ((¬ x3 = x2 → Cl mX12_one [vi 1] σ (pI fun z1 σ1 => V mX12_signAt 5 [some (vr 94), some (vi x1), some (vi x2), some (vi (x3 + z1)), some (vi (x4 + 1)), none, none] [] σ1 post)) ∧ (x3 = x2 → post (some (vi (σ 97 ((12 * x1) + x4)))) σ)))) ∧ (¬ (σ 94 27) = 1 → (rng (σ 97 ((12 * x1) + x4))) ∧ (((σ 97 ((12 * x1) + x4)) = 95 → Cl mX12_one [vi 0] σ (pI fun z2 σ2 => V mX12_signAt 5 [some (vr 94), some (vi x1), some (vi x2), some (vi (x3 + z2)), some (vi (x4 + 1)), none, none] [] σ2 post)) ∧ (¬ (σ 97 ((12 * x1) + x4)) = 95 → (rng x3) ∧ ((rng x2) ∧ ((¬ x3 = x2 → Cl mX12_one [vi 1] σ (pI fun z3 σ3 => V mX12_signAt 5 [some (vr 94), some (vi x1), some (vi x2), some (vi (x3 + z3)), some (vi (x4 + 1)), none, none] [] σ3 post)) ∧ (x3 = x2 → post (some (vi (σ 97 ((12 * x1) + x4)))) σ))))))))))))) :
  V mX12_signAt 5 [some (vr 94), some (vi x1), some (vi x2), some (vi x3), some (vi x4), none, none] [] σ post := by
  refine V_iload dX12_signAt_5 rfl ?_
  refine V_aload_n dX12_signAt_7 rfl rfl ?_
  refine V_getR (k2 := 96) flX12_13 rfl rfl (by decide) dX12_signAt_8 ?_
  refine V_iload_n dX12_signAt_11 rfl rfl ?_
  obtain ⟨r1, h⟩ := h
  refine V_iald (f := (σ 96 x1)) (rfl : shp[96]? = some (1, 112, 0)) r1 (rfl) dX12_signAt_12 ?_
  obtain ⟨r2, h⟩ := h
  obtain ⟨r3, h⟩ := h
  refine V_icmp_ge (tgt := 79) dX12_signAt_13 rfl r2 r3 (fun q => ?_) (fun q => ?_)
  · replace h := h.1 q
    refine V_iconst dX12_signAt_79 ?_
    exact V_ireturn (stk := []) rfl dX12_signAt_80 h
  · replace h := h.2 q
    refine V_aload_n dX12_signAt_16 rfl rfl ?_
    refine V_getR (k2 := 97) flX12_16 rfl rfl (by decide) dX12_signAt_17 ?_
    refine V_bipush dX12_signAt_20 (by decide) ?_
    refine V_iload_n dX12_signAt_22 rfl rfl ?_
    refine V_imul dX12_signAt_23 ?_
    refine V_iload dX12_signAt_24 rfl ?_
    refine V_iadd dX12_signAt_26 ?_
    obtain ⟨r4, h⟩ := h
    refine V_iald (f := (σ 97 ((12 * x1) + x4))) (rfl : shp[97]? = some (1, 1344, 0)) r4 (rfl) dX12_signAt_27 ?_
    refine V_istore (L' := [some (vr 94), some (vi x1), some (vi x2), some (vi x3), some (vi x4), some (vi (σ 97 ((12 * x1) + x4))), none]) dX12_signAt_28 (by decide) rfl ?_
    refine V_aload_n dX12_signAt_30 rfl rfl ?_
    refine V_getI (f := (σ 94 27)) flX12_332 rfl (rfl) (by decide) dX12_signAt_31 ?_
    refine V_iconst dX12_signAt_34 ?_
    obtain ⟨r5, h⟩ := h
    refine V_icmp_eq (tgt := 45) dX12_signAt_35 rfl r5 (by decide) (fun q => ?_) (fun q => ?_)
    · replace h := h.1 q
      refine V_iconst dX12_signAt_45 ?_
      refine V_goto (tgt := 50) dX12_signAt_46 rfl ?_
      refine V_istore (L' := [some (vr 94), some (vi x1), some (vi x2), some (vi x3), some (vi x4), some (vi (σ 97 ((12 * x1) + x4))), some (vi 1)]) dX12_signAt_50 (by decide) rfl ?_
      refine V_iload dX12_signAt_52 rfl ?_
      refine V_if_eq (tgt := 65) dX12_signAt_54 rfl (by decide) (fun q => absurd q (by decide)) (fun q => ?_)
      refine V_iload_n dX12_signAt_57 rfl rfl ?_
      refine V_iload_n dX12_signAt_58 rfl rfl ?_
      obtain ⟨r6, h⟩ := h
      obtain ⟨r7, h⟩ := h
      refine V_icmp_ne (tgt := 65) dX12_signAt_59 rfl r6 r7 (fun q => ?_) (fun q => ?_)
      · replace h := h.1 q
        refine V_iload_n dX12_signAt_65 rfl rfl ?_
        refine V_iload dX12_signAt_66 rfl ?_
        refine V_callS (av := [vi 1]) (stk := [vi x3]) cvX12_271 rfl rfl (by decide) (by simp [ctg]) dX12_signAt_68 h ?_
        rintro _ σ1 ⟨z1, rfl, h⟩
        refine V_iadd dX12_signAt_71 ?_
        refine V_istore_n (L' := [some (vr 94), some (vi x1), some (vi x2), some (vi (x3 + z1)), some (vi x4), some (vi (σ 97 ((12 * x1) + x4))), some (vi 1)]) dX12_signAt_72 rfl (by decide) rfl ?_
        refine V_iinc (L' := [some (vr 94), some (vi x1), some (vi x2), some (vi (x3 + z1)), some (vi (x4 + 1)), some (vi (σ 97 ((12 * x1) + x4))), some (vi 1)]) dX12_signAt_73 rfl (by decide) rfl ?_
        refine V_goto (tgt := 5) dX12_signAt_76 rfl ?_
        exact V.sub (SubL_s (SubL_s (SubL_s (SubL_s (SubL_s (SubL_n (SubL_n (SubL_0)))))))) h
      · replace h := h.2 q
        refine V_iload dX12_signAt_62 rfl ?_
        exact V_ireturn (stk := []) rfl dX12_signAt_64 h
    · replace h := h.2 q
      refine V_iload dX12_signAt_38 rfl ?_
      refine V_bipush dX12_signAt_40 (by decide) ?_
      obtain ⟨r8, h⟩ := h
      refine V_icmp_eq (tgt := 49) dX12_signAt_42 rfl r8 (by decide) (fun q => ?_) (fun q => ?_)
      · replace h := h.1 q
        refine V_iconst dX12_signAt_49 ?_
        refine V_istore (L' := [some (vr 94), some (vi x1), some (vi x2), some (vi x3), some (vi x4), some (vi (σ 97 ((12 * x1) + x4))), some (vi 0)]) dX12_signAt_50 (by decide) rfl ?_
        refine V_iload dX12_signAt_52 rfl ?_
        refine V_if_eq (tgt := 65) dX12_signAt_54 rfl (by decide) (fun q => ?_) (fun q => absurd q (by decide))
        refine V_iload_n dX12_signAt_65 rfl rfl ?_
        refine V_iload dX12_signAt_66 rfl ?_
        refine V_callS (av := [vi 0]) (stk := [vi x3]) cvX12_271 rfl rfl (by decide) (by simp [ctg]) dX12_signAt_68 h ?_
        rintro _ σ2 ⟨z2, rfl, h⟩
        refine V_iadd dX12_signAt_71 ?_
        refine V_istore_n (L' := [some (vr 94), some (vi x1), some (vi x2), some (vi (x3 + z2)), some (vi x4), some (vi (σ 97 ((12 * x1) + x4))), some (vi 0)]) dX12_signAt_72 rfl (by decide) rfl ?_
        refine V_iinc (L' := [some (vr 94), some (vi x1), some (vi x2), some (vi (x3 + z2)), some (vi (x4 + 1)), some (vi (σ 97 ((12 * x1) + x4))), some (vi 0)]) dX12_signAt_73 rfl (by decide) rfl ?_
        refine V_goto (tgt := 5) dX12_signAt_76 rfl ?_
        exact V.sub (SubL_s (SubL_s (SubL_s (SubL_s (SubL_s (SubL_n (SubL_n (SubL_0)))))))) h
      · replace h := h.2 q
        refine V_iconst dX12_signAt_45 ?_
        refine V_goto (tgt := 50) dX12_signAt_46 rfl ?_
        refine V_istore (L' := [some (vr 94), some (vi x1), some (vi x2), some (vi x3), some (vi x4), some (vi (σ 97 ((12 * x1) + x4))), some (vi 1)]) dX12_signAt_50 (by decide) rfl ?_
        refine V_iload dX12_signAt_52 rfl ?_
        refine V_if_eq (tgt := 65) dX12_signAt_54 rfl (by decide) (fun q => absurd q (by decide)) (fun q => ?_)
        refine V_iload_n dX12_signAt_57 rfl rfl ?_
        refine V_iload_n dX12_signAt_58 rfl rfl ?_
        obtain ⟨r9, h⟩ := h
        obtain ⟨r10, h⟩ := h
        refine V_icmp_ne (tgt := 65) dX12_signAt_59 rfl r9 r10 (fun q => ?_) (fun q => ?_)
        · replace h := h.1 q
          refine V_iload_n dX12_signAt_65 rfl rfl ?_
          refine V_iload dX12_signAt_66 rfl ?_
          refine V_callS (av := [vi 1]) (stk := [vi x3]) cvX12_271 rfl rfl (by decide) (by simp [ctg]) dX12_signAt_68 h ?_
          rintro _ σ3 ⟨z3, rfl, h⟩
          refine V_iadd dX12_signAt_71 ?_
          refine V_istore_n (L' := [some (vr 94), some (vi x1), some (vi x2), some (vi (x3 + z3)), some (vi x4), some (vi (σ 97 ((12 * x1) + x4))), some (vi 1)]) dX12_signAt_72 rfl (by decide) rfl ?_
          refine V_iinc (L' := [some (vr 94), some (vi x1), some (vi x2), some (vi (x3 + z3)), some (vi (x4 + 1)), some (vi (σ 97 ((12 * x1) + x4))), some (vi 1)]) dX12_signAt_73 rfl (by decide) rfl ?_
          refine V_goto (tgt := 5) dX12_signAt_76 rfl ?_
          exact V.sub (SubL_s (SubL_s (SubL_s (SubL_s (SubL_s (SubL_n (SubL_n (SubL_0)))))))) h
        · replace h := h.2 q
          refine V_iload dX12_signAt_62 rfl ?_
          exact V_ireturn (stk := []) rfl dX12_signAt_64 h

set_option maxRecDepth 100000 in
theorem BX12_isLess_0 {σ : Sg} {post : Po} {x1 : Int} {x2 : Int} 
  (h : V mX12_isLess 2 [some (vr 94), some (vi x1), some (vi x2), some (vi 0), none, none] [] σ post) :
  V mX12_isLess 0 [some (vr 94), some (vi x1), some (vi x2), none, none, none] [] σ post := by
  refine V_iconst dX12_isLess_0 ?_
  refine V_istore_n (L' := [some (vr 94), some (vi x1), some (vi x2), some (vi 0), none, none]) dX12_isLess_1 rfl (by decide) rfl ?_
  exact V.sub (SubL_s (SubL_s (SubL_s (SubL_s (SubL_n (SubL_n (SubL_0))))))) h
set_option maxRecDepth 100000 in
theorem BX12_isLess_2 {σ : Sg} {post : Po} {x1 : Int} {x2 : Int} {x3 : Int} 
  (h : (rng x3) ∧ ((12 < x3 → post (some (vi 0)) σ) ∧ (¬ 12 < x3 → Cl mX12_signAt [vr 94, vi x1, vi x3] σ (pI fun z1 σ1 => Cl mX12_signAt [vr 94, vi x2, vi x3] σ1 (pI fun z2 σ2 => (rng z1) ∧ ((rng z2) ∧ ((z1 = z2 → V mX12_isLess 2 [some (vr 94), some (vi x1), some (vi x2), some (vi (x3 + 1)), none, none] [] σ2 post) ∧ (¬ z1 = z2 → (z2 ≤ z1 → post (some (vi 0)) σ2) ∧ (¬ z2 ≤ z1 → post (some (vi 1)) σ2))))))))) :
  V mX12_isLess 2 [some (vr 94), some (vi x1), some (vi x2), some (vi x3), none, none] [] σ post := by
  refine V_iload_n dX12_isLess_2 rfl rfl ?_
  refine V_bipush dX12_isLess_3 (by decide) ?_
  obtain ⟨r1, h⟩ := h
  refine V_icmp_gt (tgt := 50) dX12_isLess_5 rfl r1 (by decide) (fun q => ?_) (fun q => ?_)
  · replace h := h.1 q
    refine V_iconst dX12_isLess_50 ?_
    exact V_zreturn (stk := []) rfl dX12_isLess_51 (by decide) h
  · replace h := h.2 q
    refine V_aload_n dX12_isLess_8 rfl rfl ?_
    refine V_iload_n dX12_isLess_9 rfl rfl ?_
    refine V_iload_n dX12_isLess_10 rfl rfl ?_
    refine V_callV (av := [vi x1, vi x3]) (stk := []) cvX12_335 rfl rfl rfl (by decide) (by simp [ctg]) dX12_isLess_11 h ?_
    rintro _ σ1 ⟨z1, rfl, h⟩
    refine V_istore (L' := [some (vr 94), some (vi x1), some (vi x2), some (vi x3), some (vi z1), none]) dX12_isLess_14 (by decide) rfl ?_
    refine V_aload_n dX12_isLess_16 rfl rfl ?_
    refine V_iload_n dX12_isLess_17 rfl rfl ?_
    refine V_iload_n dX12_isLess_18 rfl rfl ?_
    refine V_callV (av := [vi x2, vi x3]) (stk := []) cvX12_335 rfl rfl rfl (by decide) (by simp [ctg]) dX12_isLess_19 h ?_
    rintro _ σ2 ⟨z2, rfl, h⟩
    refine V_istore (L' := [some (vr 94), some (vi x1), some (vi x2), some (vi x3), some (vi z1), some (vi z2)]) dX12_isLess_22 (by decide) rfl ?_
    refine V_iload dX12_isLess_24 rfl ?_
    refine V_iload dX12_isLess_26 rfl ?_
    obtain ⟨r2, h⟩ := h
    obtain ⟨r3, h⟩ := h
    refine V_icmp_eq (tgt := 44) dX12_isLess_28 rfl r2 r3 (fun q => ?_) (fun q => ?_)
    · replace h := h.1 q
      refine V_iinc (L' := [some (vr 94), some (vi x1), some (vi x2), some (vi (x3 + 1)), some (vi z1), some (vi z2)]) dX12_isLess_44 rfl (by decide) rfl ?_
      refine V_goto (tgt := 2) dX12_isLess_47 rfl ?_
      exact V.sub (SubL_s (SubL_s (SubL_s (SubL_s (SubL_n (SubL_n (SubL_0))))))) h
    · replace h := h.2 q
      refine V_iload dX12_isLess_31 rfl ?_
      refine V_iload dX12_isLess_33 rfl ?_
      refine V_icmp_ge (tgt := 42) dX12_isLess_35 rfl r2 r3 (fun q => ?_) (fun q => ?_)
      · replace h := h.1 q
        refine V_iconst dX12_isLess_42 ?_
        exact V_zreturn (stk := []) rfl dX12_isLess_43 (by decide) h
      · replace h := h.2 q
        refine V_iconst dX12_isLess_38 ?_
        refine V_goto (tgt := 43) dX12_isLess_39 rfl ?_
        exact V_zreturn (stk := []) rfl dX12_isLess_43 (by decide) h

set_option maxRecDepth 100000 in
theorem BX12_placeOf_0 {σ : Sg} {post : Po} {x1 : Int} {x2 : Int} {x3 : Int} {x4 : Int} 
  (h : V mX12_placeOf 6 [some (vr 94), some (vi x1), some (vi x2), some (vi x3), some (vi x4), some (vi 0), some (vi 0), none] [] σ post) :
  V mX12_placeOf 0 [some (vr 94), some (vi x1), some (vi x2), some (vi x3), some (vi x4), none, none, none] [] σ post := by
  refine V_iconst dX12_placeOf_0 ?_
  refine V_istore (L' := [some (vr 94), some (vi x1), some (vi x2), some (vi x3), some (vi x4), some (vi 0), none, none]) dX12_placeOf_1 (by decide) rfl ?_
  refine V_iconst dX12_placeOf_3 ?_
  refine V_istore (L' := [some (vr 94), some (vi x1), some (vi x2), some (vi x3), some (vi x4), some (vi 0), some (vi 0), none]) dX12_placeOf_4 (by decide) rfl ?_
  exact V.sub (SubL_s (SubL_s (SubL_s (SubL_s (SubL_s (SubL_s (SubL_s (SubL_n (SubL_0))))))))) h
set_option maxRecDepth 100000 in
theorem BX12_placeOf_6 {σ : Sg} {post : Po} {x1 : Int} {x2 : Int} {x3 : Int} {x4 : Int} {x5 : Int} {x6 : Int} 
  (h : (rng x6) ∧ ((rng x3) ∧ ((x3 ≤ x6 → post (some (vi x5)) σ) ∧ (¬ x3 ≤ x6 → Cl mX12_isLess [vr 94, vi (x1 + (x2 * x6)), vi (x1 + (x2 * x4))] σ (pI fun z1 σ1 => (rng z1) ∧ ((¬ z1 = 0 → (rng x4) ∧ ((x6 = x4 → Cl mX12_one [vi 0] σ1 (pI fun z2 σ2 => V mX12_placeOf 6 [some (vr 94), some (vi x1), some (vi x2), some (vi x3), some (vi x4), some (vi (x5 + z2)), some (vi (x6 + 1)), none] [] σ2 post)) ∧ (¬ x6 = x4 → Cl mX12_one [vi 1] σ1 (pI fun z3 σ3 => V mX12_placeOf 6 [some (vr 94), some (vi x1), some (vi x2), some (vi x3), some (vi x4), some (vi (x5 + z3)), some (vi (x6 + 1)), none] [] σ3 post)))) ∧ (z1 = 0 → (rng x4) ∧ ((x4 ≤ x6 → (x6 = x4 → Cl mX12_one [vi 0] σ1 (pI fun z4 σ4 => V mX12_placeOf 6 [some (vr 94), some (vi x1), some (vi x2), some (vi x3), some (vi x4), some (vi (x5 + z4)), some (vi (x6 + 1)), none] [] σ4 post)) ∧ (¬ x6 = x4 → Cl mX12_one [vi 0] σ1 (pI fun z5 σ5 => V mX12_placeOf 6 [some (vr 94), some (vi x1), some (vi x2), some (vi x3), some (vi x4), some (vi (x5 + z5)), some (vi (x6 + 1)), none] [] σ5 post))) ∧ (¬ x4 ≤ x6 → Cl mX12_isLess [vr 94, vi (x1 + (x2 * x4)), vi (x1 + (x2 * x6))] σ1 (pI fun z6 σ6 => (rng z6) ∧ ((¬ z6 = 0 → (x6 = x4 → Cl mX12_one [vi 0] σ6 (pI fun z7 σ7 => V mX12_placeOf 6 [some (vr 94), some (vi x1), some (vi x2), some (vi x3), some (vi x4), some (vi (x5 + z7)), some (vi (x6 + 1)), none] [] σ7 post)) ∧ (¬ x6 = x4 → Cl mX12_one [vi 0] σ6 (pI fun z8 σ8 => V mX12_placeOf 6 [some (vr 94), some (vi x1), some (vi x2), some (vi x3), some (vi x4), some (vi (x5 + z8)), some (vi (x6 + 1)), none] [] σ8 post))) ∧ (z6 = 0 → (x6 = x4 → Cl mX12_one [vi 0] σ6 (pI fun z9 σ9 => V mX12_placeOf 6 [some (vr 94), some (vi x1), some (vi x2), some (vi x3), some (vi x4), some (vi (x5 + z9)), some (vi (x6 + 1)), none] [] σ9 post)) ∧ (¬ x6 = x4 → Cl mX12_one [vi 1] σ6 (pI fun z10 σ10 => V mX12_placeOf 6 [some (vr 94), some (vi x1), some (vi x2), some (vi x3), some (vi x4), some (vi (x5 + z10)), some (vi (x6 + 1)), none] [] σ10 post)))))))))))))) :
  V mX12_placeOf 6 [some (vr 94), some (vi x1), some (vi x2), some (vi x3), some (vi x4), some (vi x5), some (vi x6), none] [] σ post := by
  refine V_iload dX12_placeOf_6 rfl ?_
  refine V_iload_n dX12_placeOf_8 rfl rfl ?_
  obtain ⟨r1, h⟩ := h
  obtain ⟨r2, h⟩ := h
  refine V_icmp_ge (tgt := 95) dX12_placeOf_9 rfl r1 r2 (fun q => ?_) (fun q => ?_)
  · replace h := h.1 q
    refine V_iload dX12_placeOf_95 rfl ?_
    exact V_ireturn (stk := []) rfl dX12_placeOf_97 h
  · replace h := h.2 q
    refine V_aload_n dX12_placeOf_12 rfl rfl ?_
    refine V_iload_n dX12_placeOf_13 rfl rfl ?_
    refine V_iload_n dX12_placeOf_14 rfl rfl ?_
    refine V_iload dX12_placeOf_15 rfl ?_
    refine V_imul dX12_placeOf_17 ?_
    refine V_iadd dX12_placeOf_18 ?_
    refine V_iload_n dX12_placeOf_19 rfl rfl ?_
    refine V_iload_n dX12_placeOf_20 rfl rfl ?_
    refine V_iload dX12_placeOf_21 rfl ?_
    refine V_imul dX12_placeOf_23 ?_
    refine V_iadd dX12_placeOf_24 ?_
    refine V_callV (av := [vi (x1 + (x2 * x6)), vi (x1 + (x2 * x4))]) (stk := []) cvX12_338 rfl rfl rfl (by decide) (by simp [ctg]) dX12_placeOf_25 h ?_
    rintro _ σ1 ⟨z1, rfl, h⟩
    obtain ⟨r3, h⟩ := h
    refine V_if_ne (tgt := 57) dX12_placeOf_28 rfl r3 (fun q => ?_) (fun q => ?_)
    · replace h := h.1 q
      refine V_iconst dX12_placeOf_57 ?_
      refine V_goto (tgt := 62) dX12_placeOf_58 rfl ?_
      refine V_istore (L' := [some (vr 94), some (vi x1), some (vi x2), some (vi x3), some (vi x4), some (vi x5), some (vi x6), some (vi 1)]) dX12_placeOf_62 (by decide) rfl ?_
      refine V_iload dX12_placeOf_64 rfl ?_
      refine V_iload dX12_placeOf_66 rfl ?_
      refine V_iload dX12_placeOf_68 rfl ?_
      obtain ⟨r4, h⟩ := h
      refine V_icmp_eq (tgt := 82) dX12_placeOf_70 rfl r1 r4 (fun q => ?_) (fun q => ?_)
      · replace h := h.1 q
        refine V_iconst dX12_placeOf_82 ?_
        refine V_callS (av := [vi 0]) (stk := [vi x5]) cvX12_271 rfl rfl (by decide) (by simp [ctg]) dX12_placeOf_83 h ?_
        rintro _ σ2 ⟨z2, rfl, h⟩
        refine V_iadd dX12_placeOf_86 ?_
        refine V_istore (L' := [some (vr 94), some (vi x1), some (vi x2), some (vi x3), some (vi x4), some (vi (x5 + z2)), some (vi x6), some (vi 1)]) dX12_placeOf_87 (by decide) rfl ?_
        refine V_iinc (L' := [some (vr 94), some (vi x1), some (vi x2), some (vi x3), some (vi x4), some (vi (x5 + z2)), some (vi (x6 + 1)), some (vi 1)]) dX12_placeOf_89 rfl (by decide) rfl ?_
        refine V_goto (tgt := 6) dX12_placeOf_92 rfl ?_
        exact V.sub (SubL_s (SubL_s (SubL_s (SubL_s (SubL_s (SubL_s (SubL_s (SubL_n (SubL_0))))))))) h
      · replace h := h.2 q
        refine V_iload dX12_placeOf_73 rfl ?_
        refine V_if_eq (tgt := 82) dX12_placeOf_75 rfl (by decide) (fun q => absurd q (by decide)) (fun q => ?_)
        refine V_iconst dX12_placeOf_78 ?_
        refine V_goto (tgt := 83) dX12_placeOf_79 rfl ?_
        refine V_callS (av := [vi 1]) (stk := [vi x5]) cvX12_271 rfl rfl (by decide) (by simp [ctg]) dX12_placeOf_83 h ?_
        rintro _ σ3 ⟨z3, rfl, h⟩
        refine V_iadd dX12_placeOf_86 ?_
        refine V_istore (L' := [some (vr 94), some (vi x1), some (vi x2), some (vi x3), some (vi x4), some (vi (x5 + z3)), some (vi x6), some (vi 1)]) dX12_placeOf_87 (by decide) rfl ?_
        refine V_iinc (L' := [some (vr 94), some (vi x1), some (vi x2), some (vi x3), some (vi x4), some (vi (x5 + z3)), some (vi (x6 + 1)), some (vi 1)]) dX12_placeOf_89 rfl (by decide) rfl ?_
        refine V_goto (tgt := 6) dX12_placeOf_92 rfl ?_
        exact V.sub (SubL_s (SubL_s (SubL_s (SubL_s (SubL_s (SubL_s (SubL_s (SubL_n (SubL_0))))))))) h
    · replace h := h.2 q
      refine V_iload dX12_placeOf_31 rfl ?_
      refine V_iload dX12_placeOf_33 rfl ?_
      obtain ⟨r5, h⟩ := h
      refine V_icmp_ge (tgt := 61) dX12_placeOf_35 rfl r1 r5 (fun q => ?_) (fun q => ?_)
      · replace h := h.1 q
        refine V_iconst dX12_placeOf_61 ?_
        refine V_istore (L' := [some (vr 94), some (vi x1), some (vi x2), some (vi x3), some (vi x4), some (vi x5), some (vi x6), some (vi 0)]) dX12_placeOf_62 (by decide) rfl ?_
        refine V_iload dX12_placeOf_64 rfl ?_
        refine V_iload dX12_placeOf_66 rfl ?_
        refine V_iload dX12_placeOf_68 rfl ?_
        refine V_icmp_eq (tgt := 82) dX12_placeOf_70 rfl r1 r5 (fun q => ?_) (fun q => ?_)
        · replace h := h.1 q
          refine V_iconst dX12_placeOf_82 ?_
          refine V_callS (av := [vi 0]) (stk := [vi x5]) cvX12_271 rfl rfl (by decide) (by simp [ctg]) dX12_placeOf_83 h ?_
          rintro _ σ4 ⟨z4, rfl, h⟩
          refine V_iadd dX12_placeOf_86 ?_
          refine V_istore (L' := [some (vr 94), some (vi x1), some (vi x2), some (vi x3), some (vi x4), some (vi (x5 + z4)), some (vi x6), some (vi 0)]) dX12_placeOf_87 (by decide) rfl ?_
          refine V_iinc (L' := [some (vr 94), some (vi x1), some (vi x2), some (vi x3), some (vi x4), some (vi (x5 + z4)), some (vi (x6 + 1)), some (vi 0)]) dX12_placeOf_89 rfl (by decide) rfl ?_
          refine V_goto (tgt := 6) dX12_placeOf_92 rfl ?_
          exact V.sub (SubL_s (SubL_s (SubL_s (SubL_s (SubL_s (SubL_s (SubL_s (SubL_n (SubL_0))))))))) h
        · replace h := h.2 q
          refine V_iload dX12_placeOf_73 rfl ?_
          refine V_if_eq (tgt := 82) dX12_placeOf_75 rfl (by decide) (fun q => ?_) (fun q => absurd q (by decide))
          refine V_iconst dX12_placeOf_82 ?_
          refine V_callS (av := [vi 0]) (stk := [vi x5]) cvX12_271 rfl rfl (by decide) (by simp [ctg]) dX12_placeOf_83 h ?_
          rintro _ σ5 ⟨z5, rfl, h⟩
          refine V_iadd dX12_placeOf_86 ?_
          refine V_istore (L' := [some (vr 94), some (vi x1), some (vi x2), some (vi x3), some (vi x4), some (vi (x5 + z5)), some (vi x6), some (vi 0)]) dX12_placeOf_87 (by decide) rfl ?_
          refine V_iinc (L' := [some (vr 94), some (vi x1), some (vi x2), some (vi x3), some (vi x4), some (vi (x5 + z5)), some (vi (x6 + 1)), some (vi 0)]) dX12_placeOf_89 rfl (by decide) rfl ?_
          refine V_goto (tgt := 6) dX12_placeOf_92 rfl ?_
          exact V.sub (SubL_s (SubL_s (SubL_s (SubL_s (SubL_s (SubL_s (SubL_s (SubL_n (SubL_0))))))))) h
      · replace h := h.2 q
        refine V_aload_n dX12_placeOf_38 rfl rfl ?_
        refine V_iload_n dX12_placeOf_39 rfl rfl ?_
        refine V_iload_n dX12_placeOf_40 rfl rfl ?_
        refine V_iload dX12_placeOf_41 rfl ?_
        refine V_imul dX12_placeOf_43 ?_
        refine V_iadd dX12_placeOf_44 ?_
        refine V_iload_n dX12_placeOf_45 rfl rfl ?_
        refine V_iload_n dX12_placeOf_46 rfl rfl ?_
        refine V_iload dX12_placeOf_47 rfl ?_
        refine V_imul dX12_placeOf_49 ?_
        refine V_iadd dX12_placeOf_50 ?_
        refine V_callV (av := [vi (x1 + (x2 * x4)), vi (x1 + (x2 * x6))]) (stk := []) cvX12_338 rfl rfl rfl (by decide) (by simp [ctg]) dX12_placeOf_51 h ?_
        rintro _ σ6 ⟨z6, rfl, h⟩
        obtain ⟨r6, h⟩ := h
        refine V_if_ne (tgt := 61) dX12_placeOf_54 rfl r6 (fun q => ?_) (fun q => ?_)
        · replace h := h.1 q
          refine V_iconst dX12_placeOf_61 ?_
          refine V_istore (L' := [some (vr 94), some (vi x1), some (vi x2), some (vi x3), some (vi x4), some (vi x5), some (vi x6), some (vi 0)]) dX12_placeOf_62 (by decide) rfl ?_
          refine V_iload dX12_placeOf_64 rfl ?_
          refine V_iload dX12_placeOf_66 rfl ?_
          refine V_iload dX12_placeOf_68 rfl ?_
          refine V_icmp_eq (tgt := 82) dX12_placeOf_70 rfl r1 r5 (fun q => ?_) (fun q => ?_)
          · replace h := h.1 q
            refine V_iconst dX12_placeOf_82 ?_
            refine V_callS (av := [vi 0]) (stk := [vi x5]) cvX12_271 rfl rfl (by decide) (by simp [ctg]) dX12_placeOf_83 h ?_
            rintro _ σ7 ⟨z7, rfl, h⟩
            refine V_iadd dX12_placeOf_86 ?_
            refine V_istore (L' := [some (vr 94), some (vi x1), some (vi x2), some (vi x3), some (vi x4), some (vi (x5 + z7)), some (vi x6), some (vi 0)]) dX12_placeOf_87 (by decide) rfl ?_
            refine V_iinc (L' := [some (vr 94), some (vi x1), some (vi x2), some (vi x3), some (vi x4), some (vi (x5 + z7)), some (vi (x6 + 1)), some (vi 0)]) dX12_placeOf_89 rfl (by decide) rfl ?_
            refine V_goto (tgt := 6) dX12_placeOf_92 rfl ?_
            exact V.sub (SubL_s (SubL_s (SubL_s (SubL_s (SubL_s (SubL_s (SubL_s (SubL_n (SubL_0))))))))) h
          · replace h := h.2 q
            refine V_iload dX12_placeOf_73 rfl ?_
            refine V_if_eq (tgt := 82) dX12_placeOf_75 rfl (by decide) (fun q => ?_) (fun q => absurd q (by decide))
            refine V_iconst dX12_placeOf_82 ?_
            refine V_callS (av := [vi 0]) (stk := [vi x5]) cvX12_271 rfl rfl (by decide) (by simp [ctg]) dX12_placeOf_83 h ?_
            rintro _ σ8 ⟨z8, rfl, h⟩
            refine V_iadd dX12_placeOf_86 ?_
            refine V_istore (L' := [some (vr 94), some (vi x1), some (vi x2), some (vi x3), some (vi x4), some (vi (x5 + z8)), some (vi x6), some (vi 0)]) dX12_placeOf_87 (by decide) rfl ?_
            refine V_iinc (L' := [some (vr 94), some (vi x1), some (vi x2), some (vi x3), some (vi x4), some (vi (x5 + z8)), some (vi (x6 + 1)), some (vi 0)]) dX12_placeOf_89 rfl (by decide) rfl ?_
            refine V_goto (tgt := 6) dX12_placeOf_92 rfl ?_
            exact V.sub (SubL_s (SubL_s (SubL_s (SubL_s (SubL_s (SubL_s (SubL_s (SubL_n (SubL_0))))))))) h
        · replace h := h.2 q
          refine V_iconst dX12_placeOf_57 ?_
          refine V_goto (tgt := 62) dX12_placeOf_58 rfl ?_
          refine V_istore (L' := [some (vr 94), some (vi x1), some (vi x2), some (vi x3), some (vi x4), some (vi x5), some (vi x6), some (vi 1)]) dX12_placeOf_62 (by decide) rfl ?_
          refine V_iload dX12_placeOf_64 rfl ?_
          refine V_iload dX12_placeOf_66 rfl ?_
          refine V_iload dX12_placeOf_68 rfl ?_
          refine V_icmp_eq (tgt := 82) dX12_placeOf_70 rfl r1 r5 (fun q => ?_) (fun q => ?_)
          · replace h := h.1 q
            refine V_iconst dX12_placeOf_82 ?_
            refine V_callS (av := [vi 0]) (stk := [vi x5]) cvX12_271 rfl rfl (by decide) (by simp [ctg]) dX12_placeOf_83 h ?_
            rintro _ σ9 ⟨z9, rfl, h⟩
            refine V_iadd dX12_placeOf_86 ?_
            refine V_istore (L' := [some (vr 94), some (vi x1), some (vi x2), some (vi x3), some (vi x4), some (vi (x5 + z9)), some (vi x6), some (vi 1)]) dX12_placeOf_87 (by decide) rfl ?_
            refine V_iinc (L' := [some (vr 94), some (vi x1), some (vi x2), some (vi x3), some (vi x4), some (vi (x5 + z9)), some (vi (x6 + 1)), some (vi 1)]) dX12_placeOf_89 rfl (by decide) rfl ?_
            refine V_goto (tgt := 6) dX12_placeOf_92 rfl ?_
            exact V.sub (SubL_s (SubL_s (SubL_s (SubL_s (SubL_s (SubL_s (SubL_s (SubL_n (SubL_0))))))))) h
          · replace h := h.2 q
            refine V_iload dX12_placeOf_73 rfl ?_
            refine V_if_eq (tgt := 82) dX12_placeOf_75 rfl (by decide) (fun q => absurd q (by decide)) (fun q => ?_)
            refine V_iconst dX12_placeOf_78 ?_
            refine V_goto (tgt := 83) dX12_placeOf_79 rfl ?_
            refine V_callS (av := [vi 1]) (stk := [vi x5]) cvX12_271 rfl rfl (by decide) (by simp [ctg]) dX12_placeOf_83 h ?_
            rintro _ σ10 ⟨z10, rfl, h⟩
            refine V_iadd dX12_placeOf_86 ?_
            refine V_istore (L' := [some (vr 94), some (vi x1), some (vi x2), some (vi x3), some (vi x4), some (vi (x5 + z10)), some (vi x6), some (vi 1)]) dX12_placeOf_87 (by decide) rfl ?_
            refine V_iinc (L' := [some (vr 94), some (vi x1), some (vi x2), some (vi x3), some (vi x4), some (vi (x5 + z10)), some (vi (x6 + 1)), some (vi 1)]) dX12_placeOf_89 rfl (by decide) rfl ?_
            refine V_goto (tgt := 6) dX12_placeOf_92 rfl ?_
            exact V.sub (SubL_s (SubL_s (SubL_s (SubL_s (SubL_s (SubL_s (SubL_s (SubL_n (SubL_0))))))))) h

set_option maxRecDepth 100000 in
theorem BX12_findOrder_0 {σ : Sg} {post : Po}  
  (h : V mX12_findOrder 2 [some (vr 94), some (vi 0)] [] σ post) :
  V mX12_findOrder 0 [some (vr 94), none] [] σ post := by
  refine V_iconst dX12_findOrder_0 ?_
  refine V_istore_n (L' := [some (vr 94), some (vi 0)]) dX12_findOrder_1 rfl (by decide) rfl ?_
  exact V.sub (SubL_s (SubL_s (SubL_0))) h
set_option maxRecDepth 100000 in
theorem BX12_findOrder_2 {σ : Sg} {post : Po} {x1 : Int} 
  (h : (rng x1) ∧ ((rng (σ 94 0)) ∧ (((σ 94 0) ≤ x1 → post none σ) ∧ (¬ (σ 94 0) ≤ x1 → Cl mX12_placeOf [vr 94, vi 0, vi 7, vi (σ 94 0), vi x1] σ (pI fun z1 σ1 => (0 ≤ z1 ∧ z1 < 16) ∧ (V mX12_findOrder 2 [some (vr 94), some (vi (x1 + 1))] [] (up σ1 108 z1 x1) post)))))) :
  V mX12_findOrder 2 [some (vr 94), some (vi x1)] [] σ post := by
  refine V_iload_n dX12_findOrder_2 rfl rfl ?_
  refine V_aload_n dX12_findOrder_3 rfl rfl ?_
  refine V_getI (f := (σ 94 0)) flX12_192 rfl (rfl) (by decide) dX12_findOrder_4 ?_
  obtain ⟨r1, h⟩ := h
  obtain ⟨r2, h⟩ := h
  refine V_icmp_ge (tgt := 34) dX12_findOrder_7 rfl r1 r2 (fun q => ?_) (fun q => ?_)
  · replace h := h.1 q
    exact V_return (stk := []) rfl dX12_findOrder_34 h
  · replace h := h.2 q
    refine V_aload_n dX12_findOrder_10 rfl rfl ?_
    refine V_getR (k2 := 108) flX12_57 rfl rfl (by decide) dX12_findOrder_11 ?_
    refine V_aload_n dX12_findOrder_14 rfl rfl ?_
    refine V_iconst dX12_findOrder_15 ?_
    refine V_bipush dX12_findOrder_16 (by decide) ?_
    refine V_aload_n dX12_findOrder_18 rfl rfl ?_
    refine V_getI (f := (σ 94 0)) flX12_192 rfl (rfl) (by decide) dX12_findOrder_19 ?_
    refine V_iload_n dX12_findOrder_22 rfl rfl ?_
    refine V_callV (av := [vi 0, vi 7, vi (σ 94 0), vi x1]) (stk := [vr 108]) cvX12_341 rfl rfl rfl (by decide) (by simp [ctg]) dX12_findOrder_23 h ?_
    rintro _ σ1 ⟨z1, rfl, h⟩
    refine V_iload_n dX12_findOrder_26 rfl rfl ?_
    obtain ⟨r3, h⟩ := h
    refine V_iast (rfl : shp[108]? = some (1, 16, 0)) r3 dX12_findOrder_27 ?_
    refine V_iinc (L' := [some (vr 94), some (vi (x1 + 1))]) dX12_findOrder_28 rfl (by decide) rfl ?_
    refine V_goto (tgt := 2) dX12_findOrder_31 rfl ?_
    exact V.sub (SubL_s (SubL_s (SubL_0))) h

set_option maxRecDepth 100000 in
theorem BX12_subOf_0 {σ : Sg} {post : Po} {x1 : Int} {x2 : Int} 
  (h : V mX12_subOf 2 [some (vr 94), some (vi x1), some (vi x2), some (vi 0)] [] σ post) :
  V mX12_subOf 0 [some (vr 94), some (vi x1), some (vi x2), none] [] σ post := by
  refine V_iconst dX12_subOf_0 ?_
  refine V_istore_n (L' := [some (vr 94), some (vi x1), some (vi x2), some (vi 0)]) dX12_subOf_1 rfl (by decide) rfl ?_
  exact V.sub (SubL_s (SubL_s (SubL_s (SubL_s (SubL_0))))) h
set_option maxRecDepth 100000 in
theorem BX12_subOf_2 {σ : Sg} {post : Po} {x1 : Int} {x2 : Int} {x3 : Int} 
  (h : (0 ≤ x1 ∧ x1 < 16) ∧ ((rng x3) ∧ ((rng (σ 95 x1)) ∧ (((σ 95 x1) ≤ x3 → post (some (vi (-1))) σ) ∧ (¬ (σ 95 x1) ≤ x3 → Cl mX12_slot [vi x1, vi 0] σ (pI fun z1 σ1 => Cl mX12_placeOf [vr 94, vi z1, vi 1, vi (σ1 95 x1), vi x3] σ1 (pI fun z2 σ2 => (rng z2) ∧ ((rng x2) ∧ ((¬ z2 = x2 → V mX12_subOf 2 [some (vr 94), some (vi x1), some (vi x2), some (vi (x3 + 1))] [] σ2 post) ∧ (z2 = x2 → post (some (vi x3)) σ2)))))))))) :
  V mX12_subOf 2 [some (vr 94), some (vi x1), some (vi x2), some (vi x3)] [] σ post := by
  refine V_iload_n dX12_subOf_2 rfl rfl ?_
  refine V_aload_n dX12_subOf_3 rfl rfl ?_
  refine V_getR (k2 := 95) flX12_7 rfl rfl (by decide) dX12_subOf_4 ?_
  refine V_iload_n dX12_subOf_7 rfl rfl ?_
  obtain ⟨r1, h⟩ := h
  refine V_iald (f := (σ 95 x1)) (rfl : shp[95]? = some (1, 16, 0)) r1 (rfl) dX12_subOf_8 ?_
  obtain ⟨r2, h⟩ := h
  obtain ⟨r3, h⟩ := h
  refine V_icmp_ge (tgt := 41) dX12_subOf_9 rfl r2 r3 (fun q => ?_) (fun q => ?_)
  · replace h := h.1 q
    refine V_iconst dX12_subOf_41 ?_
    exact V_ireturn (stk := []) rfl dX12_subOf_42 h
  · replace h := h.2 q
    refine V_aload_n dX12_subOf_12 rfl rfl ?_
    refine V_iload_n dX12_subOf_13 rfl rfl ?_
    refine V_iconst dX12_subOf_14 ?_
    refine V_callS (av := [vi x1, vi 0]) (stk := [vr 94]) cvX12_195 rfl rfl (by decide) (by simp [ctg]) dX12_subOf_15 h ?_
    rintro _ σ1 ⟨z1, rfl, h⟩
    refine V_iconst dX12_subOf_18 ?_
    refine V_aload_n dX12_subOf_19 rfl rfl ?_
    refine V_getR (k2 := 95) flX12_7 rfl rfl (by decide) dX12_subOf_20 ?_
    refine V_iload_n dX12_subOf_23 rfl rfl ?_
    refine V_iald (f := (σ1 95 x1)) (rfl : shp[95]? = some (1, 16, 0)) r1 (rfl) dX12_subOf_24 ?_
    refine V_iload_n dX12_subOf_25 rfl rfl ?_
    refine V_callV (av := [vi z1, vi 1, vi (σ1 95 x1), vi x3]) (stk := []) cvX12_341 rfl rfl rfl (by decide) (by simp [ctg]) dX12_subOf_26 h ?_
    rintro _ σ2 ⟨z2, rfl, h⟩
    refine V_iload_n dX12_subOf_29 rfl rfl ?_
    obtain ⟨r4, h⟩ := h
    obtain ⟨r5, h⟩ := h
    refine V_icmp_ne (tgt := 35) dX12_subOf_30 rfl r4 r5 (fun q => ?_) (fun q => ?_)
    · replace h := h.1 q
      refine V_iinc (L' := [some (vr 94), some (vi x1), some (vi x2), some (vi (x3 + 1))]) dX12_subOf_35 rfl (by decide) rfl ?_
      refine V_goto (tgt := 2) dX12_subOf_38 rfl ?_
      exact V.sub (SubL_s (SubL_s (SubL_s (SubL_s (SubL_0))))) h
    · replace h := h.2 q
      refine V_iload_n dX12_subOf_33 rfl rfl ?_
      exact V_ireturn (stk := []) rfl dX12_subOf_34 h

set_option maxRecDepth 100000 in
theorem BX12_order_0 {σ : Sg} {post : Po} {x1 : Int} 
  (h : (rng x1) ∧ (Cl mX12_in [vl x1, vl 0, vl 1] σ (pI fun z1 σ1 => (rng z1) ∧ ((¬ z1 = 0 → post (some (vi (σ1 94 27))) (up σ1 94 27 x1)) ∧ (z1 = 0 → post (some (vi (-1002))) σ1))))) :
  V mX12_order 0 [some (vr 94), some (vi x1), none] [] σ post := by
  refine V_iload_n dX12_order_0 rfl rfl ?_
  obtain ⟨r1, h⟩ := h
  refine V_i2l dX12_order_1 r1 ?_
  refine V_lconst (z := 0) dX12_order_2 rfl ?_
  refine V_lconst (z := 1) dX12_order_3 rfl ?_
  refine V_callS (av := [vl x1, vl 0, vl 1]) (stk := []) cvX12_146 rfl rfl (by decide) (by simp [ctg]) dX12_order_4 h ?_
  rintro _ σ1 ⟨z1, rfl, h⟩
  obtain ⟨r2, h⟩ := h
  refine V_if_ne (tgt := 14) dX12_order_7 rfl r2 (fun q => ?_) (fun q => ?_)
  · replace h := h.1 q
    refine V_aload_n dX12_order_14 rfl rfl ?_
    refine V_getI (f := (σ1 94 27)) flX12_332 rfl (rfl) (by decide) dX12_order_15 ?_
    refine V_istore_n (L' := [some (vr 94), some (vi x1), some (vi (σ1 94 27))]) dX12_order_18 rfl (by decide) rfl ?_
    refine V_aload_n dX12_order_19 rfl rfl ?_
    refine V_iload_n dX12_order_20 rfl rfl ?_
    refine V_putI flX12_332 rfl (by decide) dX12_order_21 ?_
    refine V_iload_n dX12_order_24 rfl rfl ?_
    exact V_ireturn (stk := []) rfl dX12_order_25 h
  · replace h := h.2 q
    refine V_sipush dX12_order_10 (by decide) ?_
    exact V_ireturn (stk := []) rfl dX12_order_13 h

set_option maxRecDepth 100000 in
theorem BX12_at_0 {σ : Sg} {post : Po} {x1 : Int} 
  (h : Cl mX12_findOrder [vr 94] σ (pV fun σ1 => (rng x1) ∧ ((rng ((σ1 94 0) - 1)) ∧ (Cl mX12_in [vl x1, vl 0, vl ((σ1 94 0) - 1)] σ1 (pI fun z2 σ2 => (rng z2) ∧ ((z2 = 0 → post (some (vi (-1))) σ2) ∧ (¬ z2 = 0 → (0 ≤ x1 ∧ x1 < 16) ∧ (post (some (vi (σ2 108 x1))) σ2)))))))) :
  V mX12_at 0 [some (vr 94), some (vi x1)] [] σ post := by
  refine V_aload_n dX12_at_0 rfl rfl ?_
  refine V_callV (av := []) (stk := []) cvX12_345 rfl rfl rfl (by decide) (by simp [ctg]) dX12_at_1 h ?_
  rintro _ σ1 ⟨rfl, h⟩
  refine V_iload_n dX12_at_4 rfl rfl ?_
  obtain ⟨r1, h⟩ := h
  refine V_i2l dX12_at_5 r1 ?_
  refine V_lconst (z := 0) dX12_at_6 rfl ?_
  refine V_aload_n dX12_at_7 rfl rfl ?_
  refine V_getI (f := (σ1 94 0)) flX12_192 rfl (rfl) (by decide) dX12_at_8 ?_
  refine V_iconst dX12_at_11 ?_
  refine V_isub dX12_at_12 ?_
  obtain ⟨r2, h⟩ := h
  refine V_i2l dX12_at_13 r2 ?_
  refine V_callS (av := [vl x1, vl 0, vl ((σ1 94 0) - 1)]) (stk := []) cvX12_146 rfl rfl (by decide) (by simp [ctg]) dX12_at_14 h ?_
  rintro _ σ2 ⟨z2, rfl, h⟩
  obtain ⟨r3, h⟩ := h
  refine V_if_eq (tgt := 29) dX12_at_17 rfl r3 (fun q => ?_) (fun q => ?_)
  · replace h := h.1 q
    refine V_iconst dX12_at_29 ?_
    exact V_ireturn (stk := []) rfl dX12_at_30 h
  · replace h := h.2 q
    refine V_aload_n dX12_at_20 rfl rfl ?_
    refine V_getR (k2 := 108) flX12_57 rfl rfl (by decide) dX12_at_21 ?_
    refine V_iload_n dX12_at_24 rfl rfl ?_
    obtain ⟨r4, h⟩ := h
    refine V_iald (f := (σ2 108 x1)) (rfl : shp[108]? = some (1, 16, 0)) r4 (rfl) dX12_at_25 ?_
    refine V_goto (tgt := 30) dX12_at_26 rfl ?_
    exact V_ireturn (stk := []) rfl dX12_at_30 h

set_option maxRecDepth 100000 in
theorem BX12_subAt_0 {σ : Sg} {post : Po} {x1 : Int} {x2 : Int} 
  (h : Cl mX12_noHead [vr 94, vi x1] σ (pI fun z1 σ1 => (rng z1) ∧ ((z1 = 0 → Cl mX12_subOf [vr 94, vi x1, vi x2] σ1 (pI fun z2 σ2 => post (some (vi z2)) σ2)) ∧ (¬ z1 = 0 → post (some (vi (-1001))) σ1)))) :
  V mX12_subAt 0 [some (vr 94), some (vi x1), some (vi x2)] [] σ post := by
  refine V_aload_n dX12_subAt_0 rfl rfl ?_
  refine V_iload_n dX12_subAt_1 rfl rfl ?_
  refine V_callV (av := [vi x1]) (stk := []) cvX12_293 rfl rfl rfl (by decide) (by simp [ctg]) dX12_subAt_2 h ?_
  rintro _ σ1 ⟨z1, rfl, h⟩
  obtain ⟨r1, h⟩ := h
  refine V_if_eq (tgt := 14) dX12_subAt_5 rfl r1 (fun q => ?_) (fun q => ?_)
  · replace h := h.1 q
    refine V_aload_n dX12_subAt_14 rfl rfl ?_
    refine V_iload_n dX12_subAt_15 rfl rfl ?_
    refine V_iload_n dX12_subAt_16 rfl rfl ?_
    refine V_callV (av := [vi x1, vi x2]) (stk := []) cvX12_348 rfl rfl rfl (by decide) (by simp [ctg]) dX12_subAt_17 h ?_
    rintro _ σ2 ⟨z2, rfl, h⟩
    exact V_ireturn (stk := []) rfl dX12_subAt_20 h
  · replace h := h.2 q
    refine V_sipush dX12_subAt_8 (by decide) ?_
    refine V_goto (tgt := 20) dX12_subAt_11 rfl ?_
    exact V_ireturn (stk := []) rfl dX12_subAt_20 h

set_option maxRecDepth 100000 in
theorem BX12_width_0 {σ : Sg} {post : Po} {x1 : Int} 
  (h : (rng x1) ∧ (Cl mX12_in [vl x1, vl 20, vl 80] σ (pI fun z1 σ1 => (rng z1) ∧ ((¬ z1 = 0 → post (some (vi (σ1 94 28))) (up σ1 94 28 x1)) ∧ (z1 = 0 → post (some (vi (-1002))) σ1))))) :
  V mX12_width 0 [some (vr 94), some (vi x1), none] [] σ post := by
  refine V_iload_n dX12_width_0 rfl rfl ?_
  obtain ⟨r1, h⟩ := h
  refine V_i2l dX12_width_1 r1 ?_
  refine V_ldc2 dX12_width_2 klX12_351 ?_
  refine V_ldc2 dX12_width_5 klX12_353 ?_
  refine V_callS (av := [vl x1, vl 20, vl 80]) (stk := []) cvX12_146 rfl rfl (by decide) (by simp [ctg]) dX12_width_8 h ?_
  rintro _ σ1 ⟨z1, rfl, h⟩
  obtain ⟨r2, h⟩ := h
  refine V_if_ne (tgt := 18) dX12_width_11 rfl r2 (fun q => ?_) (fun q => ?_)
  · replace h := h.1 q
    refine V_aload_n dX12_width_18 rfl rfl ?_
    refine V_getI (f := (σ1 94 28)) flX12_54 rfl (rfl) (by decide) dX12_width_19 ?_
    refine V_istore_n (L' := [some (vr 94), some (vi x1), some (vi (σ1 94 28))]) dX12_width_22 rfl (by decide) rfl ?_
    refine V_aload_n dX12_width_23 rfl rfl ?_
    refine V_iload_n dX12_width_24 rfl rfl ?_
    refine V_putI flX12_54 rfl (by decide) dX12_width_25 ?_
    refine V_iload_n dX12_width_28 rfl rfl ?_
    exact V_ireturn (stk := []) rfl dX12_width_29 h
  · replace h := h.2 q
    refine V_sipush dX12_width_14 (by decide) ?_
    exact V_ireturn (stk := []) rfl dX12_width_17 h

set_option maxRecDepth 100000 in
theorem BX12_put_0 {σ : Sg} {post : Po} {x1 : Int} 
  (h : (0 ≤ (σ 94 31) ∧ (σ 94 31) < 20000) ∧ (post none (up (up (up σ 109 (σ 94 31) x1) 94 31 ((σ 94 31) + 1)) 94 32 ((σ 94 32) + 1)))) :
  V mX12_put 0 [some (vr 94), some (vi x1)] [] σ post := by
  refine V_aload_n dX12_put_0 rfl rfl ?_
  refine V_getR (k2 := 109) flX12_60 rfl rfl (by decide) dX12_put_1 ?_
  refine V_aload_n dX12_put_4 rfl rfl ?_
  refine V_getI (f := (σ 94 31)) flX12_355 rfl (rfl) (by decide) dX12_put_5 ?_
  refine V_iload_n dX12_put_8 rfl rfl ?_
  obtain ⟨r1, h⟩ := h
  refine V_iast (rfl : shp[109]? = some (1, 20000, 0)) r1 dX12_put_9 ?_
  refine V_aload_n dX12_put_10 rfl rfl ?_
  refine V_dup dX12_put_11 trivial ?_
  refine V_getI (f := (σ 94 31)) flX12_355 rfl (up_o (by omega)) (by decide) dX12_put_12 ?_
  refine V_iconst dX12_put_15 ?_
  refine V_iadd dX12_put_16 ?_
  refine V_putI flX12_355 rfl (by decide) dX12_put_17 ?_
  refine V_aload_n dX12_put_20 rfl rfl ?_
  refine V_dup dX12_put_21 trivial ?_
  refine V_getI (f := (σ 94 32)) flX12_358 rfl ((up_f (by omega)).trans (up_o (by omega))) (by decide) dX12_put_22 ?_
  refine V_iconst dX12_put_25 ?_
  refine V_iadd dX12_put_26 ?_
  refine V_putI flX12_358 rfl (by decide) dX12_put_27 ?_
  exact V_return (stk := []) rfl dX12_put_30 h

set_option maxRecDepth 100000 in
theorem BX12_endLine_0 {σ : Sg} {post : Po}  
  (h : (0 ≤ (σ 94 31) ∧ (σ 94 31) < 20000) ∧ (post none (up (up (up σ 109 (σ 94 31) 10) 94 31 ((σ 94 31) + 1)) 94 32 0))) :
  V mX12_endLine 0 [some (vr 94)] [] σ post := by
  refine V_aload_n dX12_endLine_0 rfl rfl ?_
  refine V_getR (k2 := 109) flX12_60 rfl rfl (by decide) dX12_endLine_1 ?_
  refine V_aload_n dX12_endLine_4 rfl rfl ?_
  refine V_getI (f := (σ 94 31)) flX12_355 rfl (rfl) (by decide) dX12_endLine_5 ?_
  refine V_bipush dX12_endLine_8 (by decide) ?_
  obtain ⟨r1, h⟩ := h
  refine V_iast (rfl : shp[109]? = some (1, 20000, 0)) r1 dX12_endLine_10 ?_
  refine V_aload_n dX12_endLine_11 rfl rfl ?_
  refine V_dup dX12_endLine_12 trivial ?_
  refine V_getI (f := (σ 94 31)) flX12_355 rfl (up_o (by omega)) (by decide) dX12_endLine_13 ?_
  refine V_iconst dX12_endLine_16 ?_
  refine V_iadd dX12_endLine_17 ?_
  refine V_putI flX12_355 rfl (by decide) dX12_endLine_18 ?_
  refine V_aload_n dX12_endLine_21 rfl rfl ?_
  refine V_iconst dX12_endLine_22 ?_
  refine V_putI flX12_358 rfl (by decide) dX12_endLine_23 ?_
  exact V_return (stk := []) rfl dX12_endLine_26 h

set_option maxRecDepth 100000 in
theorem BX12_beginUnit_0 {σ : Sg} {post : Po} {x1 : Int} 
  (h : V mX12_beginUnit 7 [some (vr 94), some (vi x1), some (vi 0)] [] (up σ 94 35 0) post) :
  V mX12_beginUnit 0 [some (vr 94), some (vi x1), none] [] σ post := by
  refine V_aload_n dX12_beginUnit_0 rfl rfl ?_
  refine V_iconst dX12_beginUnit_1 ?_
  refine V_putI flX12_361 rfl (by decide) dX12_beginUnit_2 ?_
  refine V_iconst dX12_beginUnit_5 ?_
  refine V_istore_n (L' := [some (vr 94), some (vi x1), some (vi 0)]) dX12_beginUnit_6 rfl (by decide) rfl ?_
  exact V.sub (SubL_s (SubL_s (SubL_s (SubL_0)))) h
set_option maxRecDepth 100000 in
theorem BX12_beginUnit_7 {σ : Sg} {post : Po} {x1 : Int} {x2 : Int} 
  (h : (rng x2) ∧ ((rng x1) ∧ ((x1 ≤ x2 → post none σ) ∧ (¬ x1 ≤ x2 → Cl mX12_sign [vr 94, vi 32] σ (pV fun σ1 => V mX12_beginUnit 7 [some (vr 94), some (vi x1), some (vi (x2 + 1))] [] σ1 post))))) :
  V mX12_beginUnit 7 [some (vr 94), some (vi x1), some (vi x2)] [] σ post := by
  refine V_iload_n dX12_beginUnit_7 rfl rfl ?_
  refine V_iload_n dX12_beginUnit_8 rfl rfl ?_
  obtain ⟨r1, h⟩ := h
  obtain ⟨r2, h⟩ := h
  refine V_icmp_ge (tgt := 24) dX12_beginUnit_9 rfl r1 r2 (fun q => ?_) (fun q => ?_)
  · replace h := h.1 q
    exact V_return (stk := []) rfl dX12_beginUnit_24 h
  · replace h := h.2 q
    refine V_aload_n dX12_beginUnit_12 rfl rfl ?_
    refine V_bipush dX12_beginUnit_13 (by decide) ?_
    refine V_callV (av := [vi 32]) (stk := []) cvX12_364 rfl rfl rfl (by decide) (by simp [ctg]) dX12_beginUnit_15 h ?_
    rintro _ σ1 ⟨rfl, h⟩
    refine V_iinc (L' := [some (vr 94), some (vi x1), some (vi (x2 + 1))]) dX12_beginUnit_18 rfl (by decide) rfl ?_
    refine V_goto (tgt := 7) dX12_beginUnit_21 rfl ?_
    exact V.sub (SubL_s (SubL_s (SubL_s (SubL_0)))) h

set_option maxRecDepth 100000 in
theorem BX12_sign_0 {σ : Sg} {post : Po} {x1 : Int} 
  (h : (0 ≤ (σ 94 35) ∧ (σ 94 35) < 48) ∧ (post none (up (up σ 110 (σ 94 35) x1) 94 35 ((σ 94 35) + 1)))) :
  V mX12_sign 0 [some (vr 94), some (vi x1)] [] σ post := by
  refine V_aload_n dX12_sign_0 rfl rfl ?_
  refine V_getR (k2 := 110) flX12_63 rfl rfl (by decide) dX12_sign_1 ?_
  refine V_aload_n dX12_sign_4 rfl rfl ?_
  refine V_getI (f := (σ 94 35)) flX12_361 rfl (rfl) (by decide) dX12_sign_5 ?_
  refine V_iload_n dX12_sign_8 rfl rfl ?_
  obtain ⟨r1, h⟩ := h
  refine V_iast (rfl : shp[110]? = some (1, 48, 0)) r1 dX12_sign_9 ?_
  refine V_aload_n dX12_sign_10 rfl rfl ?_
  refine V_dup dX12_sign_11 trivial ?_
  refine V_getI (f := (σ 94 35)) flX12_361 rfl (up_o (by omega)) (by decide) dX12_sign_12 ?_
  refine V_iconst dX12_sign_15 ?_
  refine V_iadd dX12_sign_16 ?_
  refine V_putI flX12_361 rfl (by decide) dX12_sign_17 ?_
  exact V_return (stk := []) rfl dX12_sign_20 h

set_option maxRecDepth 100000 in
theorem BX12_signWord_0 {σ : Sg} {post : Po} {x1 : Int} 
  (h : V mX12_signWord 2 [some (vr 94), some (vi x1), some (vi 0)] [] σ post) :
  V mX12_signWord 0 [some (vr 94), some (vi x1), none] [] σ post := by
  refine V_iconst dX12_signWord_0 ?_
  refine V_istore_n (L' := [some (vr 94), some (vi x1), some (vi 0)]) dX12_signWord_1 rfl (by decide) rfl ?_
  exact V.sub (SubL_s (SubL_s (SubL_s (SubL_0)))) h
set_option maxRecDepth 100000 in
theorem BX12_signWord_2 {σ : Sg} {post : Po} {x1 : Int} {x2 : Int} 
  (h : (0 ≤ x1 ∧ x1 < 112) ∧ ((rng x2) ∧ ((rng (σ 96 x1)) ∧ (((σ 96 x1) ≤ x2 → post none σ) ∧ (¬ (σ 96 x1) ≤ x2 → (0 ≤ ((12 * x1) + x2) ∧ ((12 * x1) + x2) < 1344) ∧ (Cl mX12_sign [vr 94, vi (σ 97 ((12 * x1) + x2))] σ (pV fun σ1 => V mX12_signWord 2 [some (vr 94), some (vi x1), some (vi (x2 + 1))] [] σ1 post))))))) :
  V mX12_signWord 2 [some (vr 94), some (vi x1), some (vi x2)] [] σ post := by
  refine V_iload_n dX12_signWord_2 rfl rfl ?_
  refine V_aload_n dX12_signWord_3 rfl rfl ?_
  refine V_getR (k2 := 96) flX12_13 rfl rfl (by decide) dX12_signWord_4 ?_
  refine V_iload_n dX12_signWord_7 rfl rfl ?_
  obtain ⟨r1, h⟩ := h
  refine V_iald (f := (σ 96 x1)) (rfl : shp[96]? = some (1, 112, 0)) r1 (rfl) dX12_signWord_8 ?_
  obtain ⟨r2, h⟩ := h
  obtain ⟨r3, h⟩ := h
  refine V_icmp_ge (tgt := 33) dX12_signWord_9 rfl r2 r3 (fun q => ?_) (fun q => ?_)
  · replace h := h.1 q
    exact V_return (stk := []) rfl dX12_signWord_33 h
  · replace h := h.2 q
    refine V_aload_n dX12_signWord_12 rfl rfl ?_
    refine V_aload_n dX12_signWord_13 rfl rfl ?_
    refine V_getR (k2 := 97) flX12_16 rfl rfl (by decide) dX12_signWord_14 ?_
    refine V_bipush dX12_signWord_17 (by decide) ?_
    refine V_iload_n dX12_signWord_19 rfl rfl ?_
    refine V_imul dX12_signWord_20 ?_
    refine V_iload_n dX12_signWord_21 rfl rfl ?_
    refine V_iadd dX12_signWord_22 ?_
    obtain ⟨r4, h⟩ := h
    refine V_iald (f := (σ 97 ((12 * x1) + x2))) (rfl : shp[97]? = some (1, 1344, 0)) r4 (rfl) dX12_signWord_23 ?_
    refine V_callV (av := [vi (σ 97 ((12 * x1) + x2))]) (stk := []) cvX12_364 rfl rfl rfl (by decide) (by simp [ctg]) dX12_signWord_24 h ?_
    rintro _ σ1 ⟨rfl, h⟩
    refine V_iinc (L' := [some (vr 94), some (vi x1), some (vi (x2 + 1))]) dX12_signWord_27 rfl (by decide) rfl ?_
    refine V_goto (tgt := 2) dX12_signWord_30 rfl ?_
    exact V.sub (SubL_s (SubL_s (SubL_s (SubL_0)))) h

set_option maxRecDepth 100000 in
theorem BX12_signSee_0 {σ : Sg} {post : Po}  
  (h : Cl mX12_sign [vr 94, vi 115] σ (pV fun σ1 => Cl mX12_sign [vr 94, vi 101] σ1 (pV fun σ2 => Cl mX12_sign [vr 94, vi 101] σ2 (pV fun σ3 => Cl mX12_sign [vr 94, vi 32] σ3 (pV fun σ4 => post none σ4))))) :
  V mX12_signSee 0 [some (vr 94)] [] σ post := by
  refine V_aload_n dX12_signSee_0 rfl rfl ?_
  refine V_bipush dX12_signSee_1 (by decide) ?_
  refine V_callV (av := [vi 115]) (stk := []) cvX12_364 rfl rfl rfl (by decide) (by simp [ctg]) dX12_signSee_3 h ?_
  rintro _ σ1 ⟨rfl, h⟩
  refine V_aload_n dX12_signSee_6 rfl rfl ?_
  refine V_bipush dX12_signSee_7 (by decide) ?_
  refine V_callV (av := [vi 101]) (stk := []) cvX12_364 rfl rfl rfl (by decide) (by simp [ctg]) dX12_signSee_9 h ?_
  rintro _ σ2 ⟨rfl, h⟩
  refine V_aload_n dX12_signSee_12 rfl rfl ?_
  refine V_bipush dX12_signSee_13 (by decide) ?_
  refine V_callV (av := [vi 101]) (stk := []) cvX12_364 rfl rfl rfl (by decide) (by simp [ctg]) dX12_signSee_15 h ?_
  rintro _ σ3 ⟨rfl, h⟩
  refine V_aload_n dX12_signSee_18 rfl rfl ?_
  refine V_bipush dX12_signSee_19 (by decide) ?_
  refine V_callV (av := [vi 32]) (stk := []) cvX12_364 rfl rfl rfl (by decide) (by simp [ctg]) dX12_signSee_21 h ?_
  rintro _ σ4 ⟨rfl, h⟩
  exact V_return (stk := []) rfl dX12_signSee_24 h

set_option maxRecDepth 100000 in
theorem BX12_signNumber_0 {σ : Sg} {post : Po} {x1 : Int} 
  (h : (rng x1) ∧ ((x1 ≤ 9 → Cl mX12_sign [vr 94, vi (48 + (x1 - iDiv x1 10 * 10))] σ (pV fun σ1 => post none σ1)) ∧ (¬ x1 ≤ 9 → Cl mX12_sign [vr 94, vi (48 + (iDiv x1 10))] σ (pV fun σ2 => Cl mX12_sign [vr 94, vi (48 + (x1 - iDiv x1 10 * 10))] σ2 (pV fun σ3 => post none σ3))))) :
  V mX12_signNumber 0 [some (vr 94), some (vi x1)] [] σ post := by
  refine V_iload_n dX12_signNumber_0 rfl rfl ?_
  refine V_bipush dX12_signNumber_1 (by decide) ?_
  obtain ⟨r1, h⟩ := h
  refine V_icmp_le (tgt := 17) dX12_signNumber_3 rfl r1 (by decide) (fun q => ?_) (fun q => ?_)
  · replace h := h.1 q
    refine V_aload_n dX12_signNumber_17 rfl rfl ?_
    refine V_bipush dX12_signNumber_18 (by decide) ?_
    refine V_iload_n dX12_signNumber_20 rfl rfl ?_
    refine V_bipush dX12_signNumber_21 (by decide) ?_
    refine V_irem dX12_signNumber_23 (by decide) ?_
    refine V_iadd dX12_signNumber_24 ?_
    refine V_callV (av := [vi (48 + (x1 - iDiv x1 10 * 10))]) (stk := []) cvX12_364 rfl rfl rfl (by decide) (by simp [ctg]) dX12_signNumber_25 h ?_
    rintro _ σ1 ⟨rfl, h⟩
    exact V_return (stk := []) rfl dX12_signNumber_28 h
  · replace h := h.2 q
    refine V_aload_n dX12_signNumber_6 rfl rfl ?_
    refine V_bipush dX12_signNumber_7 (by decide) ?_
    refine V_iload_n dX12_signNumber_9 rfl rfl ?_
    refine V_bipush dX12_signNumber_10 (by decide) ?_
    refine V_idiv dX12_signNumber_12 (by decide) ?_
    refine V_iadd dX12_signNumber_13 ?_
    refine V_callV (av := [vi (48 + (iDiv x1 10))]) (stk := []) cvX12_364 rfl rfl rfl (by decide) (by simp [ctg]) dX12_signNumber_14 h ?_
    rintro _ σ2 ⟨rfl, h⟩
    refine V_aload_n dX12_signNumber_17 rfl rfl ?_
    refine V_bipush dX12_signNumber_18 (by decide) ?_
    refine V_iload_n dX12_signNumber_20 rfl rfl ?_
    refine V_bipush dX12_signNumber_21 (by decide) ?_
    refine V_irem dX12_signNumber_23 (by decide) ?_
    refine V_iadd dX12_signNumber_24 ?_
    refine V_callV (av := [vi (48 + (x1 - iDiv x1 10 * 10))]) (stk := []) cvX12_364 rfl rfl rfl (by decide) (by simp [ctg]) dX12_signNumber_25 h ?_
    rintro _ σ3 ⟨rfl, h⟩
    exact V_return (stk := []) rfl dX12_signNumber_28 h

set_option maxRecDepth 100000 in
theorem BX12_beginRow_0 {σ : Sg} {post : Po}  
  (h : post none (up (up σ 94 33 1) 94 32 0)) :
  V mX12_beginRow 0 [some (vr 94)] [] σ post := by
  refine V_aload_n dX12_beginRow_0 rfl rfl ?_
  refine V_iconst dX12_beginRow_1 ?_
  refine V_putZ flX12_367 rfl (by decide) (by decide) dX12_beginRow_2 ?_
  refine V_aload_n dX12_beginRow_5 rfl rfl ?_
  refine V_iconst dX12_beginRow_6 ?_
  refine V_putI flX12_358 rfl (by decide) dX12_beginRow_7 ?_
  exact V_return (stk := []) rfl dX12_beginRow_10 h

set_option maxRecDepth 100000 in
theorem BX12_putUnit_0 {σ : Sg} {post : Po}  
  (h : (rng (σ 94 33)) ∧ ((¬ (σ 94 33) = 0 → V mX12_putUnit 40 [some (vr 94), none] [] σ post) ∧ ((σ 94 33) = 0 → (rng (((σ 94 32) + 2) + (σ 94 35))) ∧ ((rng (σ 94 28)) ∧ (((σ 94 28) < (((σ 94 32) + 2) + (σ 94 35)) → V mX12_putUnit 40 [some (vr 94), none] [] σ post) ∧ (¬ (σ 94 28) < (((σ 94 32) + 2) + (σ 94 35)) → Cl mX12_put [vr 94, vi 44] σ (pV fun σ1 => Cl mX12_put [vr 94, vi 32] σ1 (pV fun σ2 => V mX12_putUnit 76 [some (vr 94), none] [] σ2 post)))))))) :
  V mX12_putUnit 0 [some (vr 94), none] [] σ post := by
  refine V_aload_n dX12_putUnit_0 rfl rfl ?_
  refine V_getI (f := (σ 94 33)) flX12_367 rfl (rfl) (by decide) dX12_putUnit_1 ?_
  obtain ⟨r1, h⟩ := h
  refine V_if_ne (tgt := 40) dX12_putUnit_4 rfl r1 (fun q => ?_) (fun q => ?_)
  · replace h := h.1 q
    exact V.sub (SubL_s (SubL_n (SubL_0))) h
  · replace h := h.2 q
    refine V_aload_n dX12_putUnit_7 rfl rfl ?_
    refine V_getI (f := (σ 94 32)) flX12_358 rfl (rfl) (by decide) dX12_putUnit_8 ?_
    refine V_iconst dX12_putUnit_11 ?_
    refine V_iadd dX12_putUnit_12 ?_
    refine V_aload_n dX12_putUnit_13 rfl rfl ?_
    refine V_getI (f := (σ 94 35)) flX12_361 rfl (rfl) (by decide) dX12_putUnit_14 ?_
    refine V_iadd dX12_putUnit_17 ?_
    refine V_aload_n dX12_putUnit_18 rfl rfl ?_
    refine V_getI (f := (σ 94 28)) flX12_54 rfl (rfl) (by decide) dX12_putUnit_19 ?_
    obtain ⟨r2, h⟩ := h
    obtain ⟨r3, h⟩ := h
    refine V_icmp_gt (tgt := 40) dX12_putUnit_22 rfl r2 r3 (fun q => ?_) (fun q => ?_)
    · replace h := h.1 q
      exact V.sub (SubL_s (SubL_n (SubL_0))) h
    · replace h := h.2 q
      refine V_aload_n dX12_putUnit_25 rfl rfl ?_
      refine V_bipush dX12_putUnit_26 (by decide) ?_
      refine V_callV (av := [vi 44]) (stk := []) cvX12_370 rfl rfl rfl (by decide) (by simp [ctg]) dX12_putUnit_28 h ?_
      rintro _ σ1 ⟨rfl, h⟩
      refine V_aload_n dX12_putUnit_31 rfl rfl ?_
      refine V_bipush dX12_putUnit_32 (by decide) ?_
      refine V_callV (av := [vi 32]) (stk := []) cvX12_370 rfl rfl rfl (by decide) (by simp [ctg]) dX12_putUnit_34 h ?_
      rintro _ σ2 ⟨rfl, h⟩
      refine V_goto (tgt := 76) dX12_putUnit_37 rfl ?_
      exact V.sub (SubL_s (SubL_n (SubL_0))) h
set_option maxRecDepth 100000 in
theorem BX12_putUnit_40 {σ : Sg} {post : Po}  
  (h : (rng (σ 94 33)) ∧ ((¬ (σ 94 33) = 0 → V mX12_putUnit 76 [some (vr 94), none] [] σ post) ∧ ((σ 94 33) = 0 → Cl mX12_put [vr 94, vi 44] σ (pV fun σ1 => Cl mX12_endLine [vr 94] σ1 (pV fun σ2 => V mX12_putUnit 59 [some (vr 94), some (vi 0)] [] σ2 post))))) :
  V mX12_putUnit 40 [some (vr 94), none] [] σ post := by
  refine V_aload_n dX12_putUnit_40 rfl rfl ?_
  refine V_getI (f := (σ 94 33)) flX12_367 rfl (rfl) (by decide) dX12_putUnit_41 ?_
  obtain ⟨r1, h⟩ := h
  refine V_if_ne (tgt := 76) dX12_putUnit_44 rfl r1 (fun q => ?_) (fun q => ?_)
  · replace h := h.1 q
    exact V.sub (SubL_s (SubL_n (SubL_0))) h
  · replace h := h.2 q
    refine V_aload_n dX12_putUnit_47 rfl rfl ?_
    refine V_bipush dX12_putUnit_48 (by decide) ?_
    refine V_callV (av := [vi 44]) (stk := []) cvX12_370 rfl rfl rfl (by decide) (by simp [ctg]) dX12_putUnit_50 h ?_
    rintro _ σ1 ⟨rfl, h⟩
    refine V_aload_n dX12_putUnit_53 rfl rfl ?_
    refine V_callV (av := []) (stk := []) cvX12_373 rfl rfl rfl (by decide) (by simp [ctg]) dX12_putUnit_54 h ?_
    rintro _ σ2 ⟨rfl, h⟩
    refine V_iconst dX12_putUnit_57 ?_
    refine V_istore_n (L' := [some (vr 94), some (vi 0)]) dX12_putUnit_58 rfl (by decide) rfl ?_
    exact V.sub (SubL_s (SubL_s (SubL_0))) h
set_option maxRecDepth 100000 in
theorem BX12_putUnit_76 {σ : Sg} {post : Po}  
  (h : V mX12_putUnit 78 [some (vr 94), some (vi 0)] [] σ post) :
  V mX12_putUnit 76 [some (vr 94), none] [] σ post := by
  refine V_iconst dX12_putUnit_76 ?_
  refine V_istore_n (L' := [some (vr 94), some (vi 0)]) dX12_putUnit_77 rfl (by decide) rfl ?_
  exact V.sub (SubL_s (SubL_s (SubL_0))) h
set_option maxRecDepth 100000 in
theorem BX12_putUnit_59 {σ : Sg} {post : Po} {x1 : Int} 
  (h : (rng x1) ∧ ((4 ≤ x1 → V mX12_putUnit 76 [some (vr 94), none] [] σ post) ∧ (¬ 4 ≤ x1 → Cl mX12_put [vr 94, vi 32] σ (pV fun σ1 => V mX12_putUnit 59 [some (vr 94), some (vi (x1 + 1))] [] σ1 post)))) :
  V mX12_putUnit 59 [some (vr 94), some (vi x1)] [] σ post := by
  refine V_iload_n dX12_putUnit_59 rfl rfl ?_
  refine V_iconst dX12_putUnit_60 ?_
  obtain ⟨r1, h⟩ := h
  refine V_icmp_ge (tgt := 76) dX12_putUnit_61 rfl r1 (by decide) (fun q => ?_) (fun q => ?_)
  · replace h := h.1 q
    exact V.sub (SubL_s (SubL_n (SubL_0))) h
  · replace h := h.2 q
    refine V_aload_n dX12_putUnit_64 rfl rfl ?_
    refine V_bipush dX12_putUnit_65 (by decide) ?_
    refine V_callV (av := [vi 32]) (stk := []) cvX12_370 rfl rfl rfl (by decide) (by simp [ctg]) dX12_putUnit_67 h ?_
    rintro _ σ1 ⟨rfl, h⟩
    refine V_iinc (L' := [some (vr 94), some (vi (x1 + 1))]) dX12_putUnit_70 rfl (by decide) rfl ?_
    refine V_goto (tgt := 59) dX12_putUnit_73 rfl ?_
    exact V.sub (SubL_s (SubL_s (SubL_0))) h
set_option maxRecDepth 100000 in
theorem BX12_putUnit_78 {σ : Sg} {post : Po} {x1 : Int} 
  (h : (rng x1) ∧ ((rng (σ 94 35)) ∧ (((σ 94 35) ≤ x1 → post none (up σ 94 33 0)) ∧ (¬ (σ 94 35) ≤ x1 → (0 ≤ x1 ∧ x1 < 48) ∧ (Cl mX12_put [vr 94, vi (σ 110 x1)] σ (pV fun σ1 => V mX12_putUnit 78 [some (vr 94), some (vi (x1 + 1))] [] σ1 post)))))) :
  V mX12_putUnit 78 [some (vr 94), some (vi x1)] [] σ post := by
  refine V_iload_n dX12_putUnit_78 rfl rfl ?_
  refine V_aload_n dX12_putUnit_79 rfl rfl ?_
  refine V_getI (f := (σ 94 35)) flX12_361 rfl (rfl) (by decide) dX12_putUnit_80 ?_
  obtain ⟨r1, h⟩ := h
  obtain ⟨r2, h⟩ := h
  refine V_icmp_ge (tgt := 102) dX12_putUnit_83 rfl r1 r2 (fun q => ?_) (fun q => ?_)
  · replace h := h.1 q
    refine V_aload_n dX12_putUnit_102 rfl rfl ?_
    refine V_iconst dX12_putUnit_103 ?_
    refine V_putZ flX12_367 rfl (by decide) (by decide) dX12_putUnit_104 ?_
    exact V_return (stk := []) rfl dX12_putUnit_107 h
  · replace h := h.2 q
    refine V_aload_n dX12_putUnit_86 rfl rfl ?_
    refine V_aload_n dX12_putUnit_87 rfl rfl ?_
    refine V_getR (k2 := 110) flX12_63 rfl rfl (by decide) dX12_putUnit_88 ?_
    refine V_iload_n dX12_putUnit_91 rfl rfl ?_
    obtain ⟨r3, h⟩ := h
    refine V_iald (f := (σ 110 x1)) (rfl : shp[110]? = some (1, 48, 0)) r3 (rfl) dX12_putUnit_92 ?_
    refine V_callV (av := [vi (σ 110 x1)]) (stk := []) cvX12_370 rfl rfl rfl (by decide) (by simp [ctg]) dX12_putUnit_93 h ?_
    rintro _ σ1 ⟨rfl, h⟩
    refine V_iinc (L' := [some (vr 94), some (vi (x1 + 1))]) dX12_putUnit_96 rfl (by decide) rfl ?_
    refine V_goto (tgt := 78) dX12_putUnit_99 rfl ?_
    exact V.sub (SubL_s (SubL_s (SubL_0))) h

set_option maxRecDepth 100000 in
theorem BX12_putRuns_0 {σ : Sg} {post : Po}  
  (h : V mX12_putRuns 2 [some (vr 94), some (vi 1)] [] σ post) :
  V mX12_putRuns 0 [some (vr 94), none] [] σ post := by
  refine V_iconst dX12_putRuns_0 ?_
  refine V_istore_n (L' := [some (vr 94), some (vi 1)]) dX12_putRuns_1 rfl (by decide) rfl ?_
  exact V.sub (SubL_s (SubL_s (SubL_0))) h
set_option maxRecDepth 100000 in
theorem BX12_putRuns_2 {σ : Sg} {post : Po} {x1 : Int} 
  (h : Cl mX12_nextRun [vr 94, vi x1] σ (pI fun z1 σ1 => (rng z1) ∧ ((z1 = 0 → post none σ1) ∧ (¬ z1 = 0 → Cl mX12_beginUnit [vr 94, vi 0] σ1 (pV fun σ2 => (rng (σ2 94 26)) ∧ (((σ2 94 26) = 0 → Cl mX12_signNumber [vr 94, vi (σ2 94 24)] σ2 (pV fun σ3 => (rng (σ3 94 25)) ∧ ((rng (σ3 94 24)) ∧ (((σ3 94 25) ≤ (σ3 94 24) → Cl mX12_putUnit [vr 94] σ3 (pV fun σ4 => V mX12_putRuns 2 [some (vr 94), some (vi ((σ4 94 25) + 1))] [] σ4 post)) ∧ (¬ (σ3 94 25) ≤ (σ3 94 24) → Cl mX12_sign [vr 94, vi 45] σ3 (pV fun σ5 => Cl mX12_signNumber [vr 94, vi (σ5 94 25)] σ5 (pV fun σ6 => Cl mX12_putUnit [vr 94] σ6 (pV fun σ7 => V mX12_putRuns 2 [some (vr 94), some (vi ((σ7 94 25) + 1))] [] σ7 post)))))))) ∧ (¬ (σ2 94 26) = 0 → Cl mX12_sign [vr 94, vi 42] σ2 (pV fun σ8 => Cl mX12_signNumber [vr 94, vi (σ8 94 24)] σ8 (pV fun σ9 => (rng (σ9 94 25)) ∧ ((rng (σ9 94 24)) ∧ (((σ9 94 25) ≤ (σ9 94 24) → Cl mX12_putUnit [vr 94] σ9 (pV fun σ10 => V mX12_putRuns 2 [some (vr 94), some (vi ((σ10 94 25) + 1))] [] σ10 post)) ∧ (¬ (σ9 94 25) ≤ (σ9 94 24) → Cl mX12_sign [vr 94, vi 45] σ9 (pV fun σ11 => Cl mX12_signNumber [vr 94, vi (σ11 94 25)] σ11 (pV fun σ12 => Cl mX12_putUnit [vr 94] σ12 (pV fun σ13 => V mX12_putRuns 2 [some (vr 94), some (vi ((σ13 94 25) + 1))] [] σ13 post))))))))))))))) :
  V mX12_putRuns 2 [some (vr 94), some (vi x1)] [] σ post := by
  refine V_aload_n dX12_putRuns_2 rfl rfl ?_
  refine V_iload_n dX12_putRuns_3 rfl rfl ?_
  refine V_callV (av := [vi x1]) (stk := []) cvX12_327 rfl rfl rfl (by decide) (by simp [ctg]) dX12_putRuns_4 h ?_
  rintro _ σ1 ⟨z1, rfl, h⟩
  obtain ⟨r1, h⟩ := h
  refine V_if_eq (tgt := 75) dX12_putRuns_7 rfl r1 (fun q => ?_) (fun q => ?_)
  · replace h := h.1 q
    exact V_return (stk := []) rfl dX12_putRuns_75 h
  · replace h := h.2 q
    refine V_aload_n dX12_putRuns_10 rfl rfl ?_
    refine V_iconst dX12_putRuns_11 ?_
    refine V_callV (av := [vi 0]) (stk := []) cvX12_376 rfl rfl rfl (by decide) (by simp [ctg]) dX12_putRuns_12 h ?_
    rintro _ σ2 ⟨rfl, h⟩
    refine V_aload_n dX12_putRuns_15 rfl rfl ?_
    refine V_getI (f := (σ2 94 26)) flX12_323 rfl (rfl) (by decide) dX12_putRuns_16 ?_
    obtain ⟨r2, h⟩ := h
    refine V_if_eq (tgt := 28) dX12_putRuns_19 rfl r2 (fun q => ?_) (fun q => ?_)
    · replace h := h.1 q
      refine V_aload_n dX12_putRuns_28 rfl rfl ?_
      refine V_aload_n dX12_putRuns_29 rfl rfl ?_
      refine V_getI (f := (σ2 94 24)) flX12_317 rfl (rfl) (by decide) dX12_putRuns_30 ?_
      refine V_callV (av := [vi (σ2 94 24)]) (stk := []) cvX12_379 rfl rfl rfl (by decide) (by simp [ctg]) dX12_putRuns_33 h ?_
      rintro _ σ3 ⟨rfl, h⟩
      refine V_aload_n dX12_putRuns_36 rfl rfl ?_
      refine V_getI (f := (σ3 94 25)) flX12_320 rfl (rfl) (by decide) dX12_putRuns_37 ?_
      refine V_aload_n dX12_putRuns_40 rfl rfl ?_
      refine V_getI (f := (σ3 94 24)) flX12_317 rfl (rfl) (by decide) dX12_putRuns_41 ?_
      obtain ⟨r3, h⟩ := h
      obtain ⟨r4, h⟩ := h
      refine V_icmp_le (tgt := 61) dX12_putRuns_44 rfl r3 r4 (fun q => ?_) (fun q => ?_)
      · replace h := h.1 q
        refine V_aload_n dX12_putRuns_61 rfl rfl ?_
        refine V_callV (av := []) (stk := []) cvX12_382 rfl rfl rfl (by decide) (by simp [ctg]) dX12_putRuns_62 h ?_
        rintro _ σ4 ⟨rfl, h⟩
        refine V_aload_n dX12_putRuns_65 rfl rfl ?_
        refine V_getI (f := (σ4 94 25)) flX12_320 rfl (rfl) (by decide) dX12_putRuns_66 ?_
        refine V_iconst dX12_putRuns_69 ?_
        refine V_iadd dX12_putRuns_70 ?_
        refine V_istore_n (L' := [some (vr 94), some (vi ((σ4 94 25) + 1))]) dX12_putRuns_71 rfl (by decide) rfl ?_
        refine V_goto (tgt := 2) dX12_putRuns_72 rfl ?_
        exact V.sub (SubL_s (SubL_s (SubL_0))) h
      · replace h := h.2 q
        refine V_aload_n dX12_putRuns_47 rfl rfl ?_
        refine V_bipush dX12_putRuns_48 (by decide) ?_
        refine V_callV (av := [vi 45]) (stk := []) cvX12_364 rfl rfl rfl (by decide) (by simp [ctg]) dX12_putRuns_50 h ?_
        rintro _ σ5 ⟨rfl, h⟩
        refine V_aload_n dX12_putRuns_53 rfl rfl ?_
        refine V_aload_n dX12_putRuns_54 rfl rfl ?_
        refine V_getI (f := (σ5 94 25)) flX12_320 rfl (rfl) (by decide) dX12_putRuns_55 ?_
        refine V_callV (av := [vi (σ5 94 25)]) (stk := []) cvX12_379 rfl rfl rfl (by decide) (by simp [ctg]) dX12_putRuns_58 h ?_
        rintro _ σ6 ⟨rfl, h⟩
        refine V_aload_n dX12_putRuns_61 rfl rfl ?_
        refine V_callV (av := []) (stk := []) cvX12_382 rfl rfl rfl (by decide) (by simp [ctg]) dX12_putRuns_62 h ?_
        rintro _ σ7 ⟨rfl, h⟩
        refine V_aload_n dX12_putRuns_65 rfl rfl ?_
        refine V_getI (f := (σ7 94 25)) flX12_320 rfl (rfl) (by decide) dX12_putRuns_66 ?_
        refine V_iconst dX12_putRuns_69 ?_
        refine V_iadd dX12_putRuns_70 ?_
        refine V_istore_n (L' := [some (vr 94), some (vi ((σ7 94 25) + 1))]) dX12_putRuns_71 rfl (by decide) rfl ?_
        refine V_goto (tgt := 2) dX12_putRuns_72 rfl ?_
        exact V.sub (SubL_s (SubL_s (SubL_0))) h
    · replace h := h.2 q
      refine V_aload_n dX12_putRuns_22 rfl rfl ?_
      refine V_bipush dX12_putRuns_23 (by decide) ?_
      refine V_callV (av := [vi 42]) (stk := []) cvX12_364 rfl rfl rfl (by decide) (by simp [ctg]) dX12_putRuns_25 h ?_
      rintro _ σ8 ⟨rfl, h⟩
      refine V_aload_n dX12_putRuns_28 rfl rfl ?_
      refine V_aload_n dX12_putRuns_29 rfl rfl ?_
      refine V_getI (f := (σ8 94 24)) flX12_317 rfl (rfl) (by decide) dX12_putRuns_30 ?_
      refine V_callV (av := [vi (σ8 94 24)]) (stk := []) cvX12_379 rfl rfl rfl (by decide) (by simp [ctg]) dX12_putRuns_33 h ?_
      rintro _ σ9 ⟨rfl, h⟩
      refine V_aload_n dX12_putRuns_36 rfl rfl ?_
      refine V_getI (f := (σ9 94 25)) flX12_320 rfl (rfl) (by decide) dX12_putRuns_37 ?_
      refine V_aload_n dX12_putRuns_40 rfl rfl ?_
      refine V_getI (f := (σ9 94 24)) flX12_317 rfl (rfl) (by decide) dX12_putRuns_41 ?_
      obtain ⟨r5, h⟩ := h
      obtain ⟨r6, h⟩ := h
      refine V_icmp_le (tgt := 61) dX12_putRuns_44 rfl r5 r6 (fun q => ?_) (fun q => ?_)
      · replace h := h.1 q
        refine V_aload_n dX12_putRuns_61 rfl rfl ?_
        refine V_callV (av := []) (stk := []) cvX12_382 rfl rfl rfl (by decide) (by simp [ctg]) dX12_putRuns_62 h ?_
        rintro _ σ10 ⟨rfl, h⟩
        refine V_aload_n dX12_putRuns_65 rfl rfl ?_
        refine V_getI (f := (σ10 94 25)) flX12_320 rfl (rfl) (by decide) dX12_putRuns_66 ?_
        refine V_iconst dX12_putRuns_69 ?_
        refine V_iadd dX12_putRuns_70 ?_
        refine V_istore_n (L' := [some (vr 94), some (vi ((σ10 94 25) + 1))]) dX12_putRuns_71 rfl (by decide) rfl ?_
        refine V_goto (tgt := 2) dX12_putRuns_72 rfl ?_
        exact V.sub (SubL_s (SubL_s (SubL_0))) h
      · replace h := h.2 q
        refine V_aload_n dX12_putRuns_47 rfl rfl ?_
        refine V_bipush dX12_putRuns_48 (by decide) ?_
        refine V_callV (av := [vi 45]) (stk := []) cvX12_364 rfl rfl rfl (by decide) (by simp [ctg]) dX12_putRuns_50 h ?_
        rintro _ σ11 ⟨rfl, h⟩
        refine V_aload_n dX12_putRuns_53 rfl rfl ?_
        refine V_aload_n dX12_putRuns_54 rfl rfl ?_
        refine V_getI (f := (σ11 94 25)) flX12_320 rfl (rfl) (by decide) dX12_putRuns_55 ?_
        refine V_callV (av := [vi (σ11 94 25)]) (stk := []) cvX12_379 rfl rfl rfl (by decide) (by simp [ctg]) dX12_putRuns_58 h ?_
        rintro _ σ12 ⟨rfl, h⟩
        refine V_aload_n dX12_putRuns_61 rfl rfl ?_
        refine V_callV (av := []) (stk := []) cvX12_382 rfl rfl rfl (by decide) (by simp [ctg]) dX12_putRuns_62 h ?_
        rintro _ σ13 ⟨rfl, h⟩
        refine V_aload_n dX12_putRuns_65 rfl rfl ?_
        refine V_getI (f := (σ13 94 25)) flX12_320 rfl (rfl) (by decide) dX12_putRuns_66 ?_
        refine V_iconst dX12_putRuns_69 ?_
        refine V_iadd dX12_putRuns_70 ?_
        refine V_istore_n (L' := [some (vr 94), some (vi ((σ13 94 25) + 1))]) dX12_putRuns_71 rfl (by decide) rfl ?_
        refine V_goto (tgt := 2) dX12_putRuns_72 rfl ?_
        exact V.sub (SubL_s (SubL_s (SubL_0))) h

set_option maxRecDepth 100000 in
theorem BX12_printSubs_0 {σ : Sg} {post : Po} {x1 : Int} 
  (h : V mX12_printSubs 2 [some (vr 94), some (vi x1), some (vi 0), none] [] σ post) :
  V mX12_printSubs 0 [some (vr 94), some (vi x1), none, none] [] σ post := by
  refine V_iconst dX12_printSubs_0 ?_
  refine V_istore_n (L' := [some (vr 94), some (vi x1), some (vi 0), none]) dX12_printSubs_1 rfl (by decide) rfl ?_
  exact V.sub (SubL_s (SubL_s (SubL_s (SubL_n (SubL_0))))) h
set_option maxRecDepth 100000 in
theorem BX12_printSubs_2 {σ : Sg} {post : Po} {x1 : Int} {x2 : Int} 
  (h : (0 ≤ x1 ∧ x1 < 16) ∧ ((rng x2) ∧ ((rng (σ 95 x1)) ∧ (((σ 95 x1) ≤ x2 → post none σ) ∧ (¬ (σ 95 x1) ≤ x2 → Cl mX12_subOf [vr 94, vi x1, vi x2] σ (pI fun z1 σ1 => Cl mX12_marksOf [vr 94, vi x1, vi z1] σ1 (pI fun z2 σ2 => (rng z2) ∧ ((z2 ≤ 0 → V mX12_printSubs 2 [some (vr 94), some (vi x1), some (vi (x2 + 1)), none] [] σ2 post) ∧ (¬ z2 ≤ 0 → Cl mX12_beginRow [vr 94] σ2 (pV fun σ3 => Cl mX12_beginUnit [vr 94, vi 2] σ3 (pV fun σ4 => Cl mX12_slot [vi x1, vi z1] σ4 (pI fun z5 σ5 => Cl mX12_signWord [vr 94, vi z5] σ5 (pV fun σ6 => Cl mX12_putUnit [vr 94] σ6 (pV fun σ7 => Cl mX12_tick [vr 94, vi x1, vi z1] σ7 (pV fun σ8 => Cl mX12_putRuns [vr 94] σ8 (pV fun σ9 => Cl mX12_endLine [vr 94] σ9 (pV fun σ10 => V mX12_printSubs 2 [some (vr 94), some (vi x1), some (vi (x2 + 1)), none] [] σ10 post))))))))))))))))) :
  V mX12_printSubs 2 [some (vr 94), some (vi x1), some (vi x2), none] [] σ post := by
  refine V_iload_n dX12_printSubs_2 rfl rfl ?_
  refine V_aload_n dX12_printSubs_3 rfl rfl ?_
  refine V_getR (k2 := 95) flX12_7 rfl rfl (by decide) dX12_printSubs_4 ?_
  refine V_iload_n dX12_printSubs_7 rfl rfl ?_
  obtain ⟨r1, h⟩ := h
  refine V_iald (f := (σ 95 x1)) (rfl : shp[95]? = some (1, 16, 0)) r1 (rfl) dX12_printSubs_8 ?_
  obtain ⟨r2, h⟩ := h
  obtain ⟨r3, h⟩ := h
  refine V_icmp_ge (tgt := 70) dX12_printSubs_9 rfl r2 r3 (fun q => ?_) (fun q => ?_)
  · replace h := h.1 q
    exact V_return (stk := []) rfl dX12_printSubs_70 h
  · replace h := h.2 q
    refine V_aload_n dX12_printSubs_12 rfl rfl ?_
    refine V_iload_n dX12_printSubs_13 rfl rfl ?_
    refine V_iload_n dX12_printSubs_14 rfl rfl ?_
    refine V_callV (av := [vi x1, vi x2]) (stk := []) cvX12_348 rfl rfl rfl (by decide) (by simp [ctg]) dX12_printSubs_15 h ?_
    rintro _ σ1 ⟨z1, rfl, h⟩
    refine V_istore_n (L' := [some (vr 94), some (vi x1), some (vi x2), some (vi z1)]) dX12_printSubs_18 rfl (by decide) rfl ?_
    refine V_aload_n dX12_printSubs_19 rfl rfl ?_
    refine V_iload_n dX12_printSubs_20 rfl rfl ?_
    refine V_iload_n dX12_printSubs_21 rfl rfl ?_
    refine V_callV (av := [vi x1, vi z1]) (stk := []) cvX12_275 rfl rfl rfl (by decide) (by simp [ctg]) dX12_printSubs_22 h ?_
    rintro _ σ2 ⟨z2, rfl, h⟩
    obtain ⟨r4, h⟩ := h
    refine V_if_le (tgt := 64) dX12_printSubs_25 rfl r4 (fun q => ?_) (fun q => ?_)
    · replace h := h.1 q
      refine V_iinc (L' := [some (vr 94), some (vi x1), some (vi (x2 + 1)), some (vi z1)]) dX12_printSubs_64 rfl (by decide) rfl ?_
      refine V_goto (tgt := 2) dX12_printSubs_67 rfl ?_
      exact V.sub (SubL_s (SubL_s (SubL_s (SubL_n (SubL_0))))) h
    · replace h := h.2 q
      refine V_aload_n dX12_printSubs_28 rfl rfl ?_
      refine V_callV (av := []) (stk := []) cvX12_385 rfl rfl rfl (by decide) (by simp [ctg]) dX12_printSubs_29 h ?_
      rintro _ σ3 ⟨rfl, h⟩
      refine V_aload_n dX12_printSubs_32 rfl rfl ?_
      refine V_iconst dX12_printSubs_33 ?_
      refine V_callV (av := [vi 2]) (stk := []) cvX12_376 rfl rfl rfl (by decide) (by simp [ctg]) dX12_printSubs_34 h ?_
      rintro _ σ4 ⟨rfl, h⟩
      refine V_aload_n dX12_printSubs_37 rfl rfl ?_
      refine V_iload_n dX12_printSubs_38 rfl rfl ?_
      refine V_iload_n dX12_printSubs_39 rfl rfl ?_
      refine V_callS (av := [vi x1, vi z1]) (stk := [vr 94]) cvX12_195 rfl rfl (by decide) (by simp [ctg]) dX12_printSubs_40 h ?_
      rintro _ σ5 ⟨z5, rfl, h⟩
      refine V_callV (av := [vi z5]) (stk := []) cvX12_388 rfl rfl rfl (by decide) (by simp [ctg]) dX12_printSubs_43 h ?_
      rintro _ σ6 ⟨rfl, h⟩
      refine V_aload_n dX12_printSubs_46 rfl rfl ?_
      refine V_callV (av := []) (stk := []) cvX12_382 rfl rfl rfl (by decide) (by simp [ctg]) dX12_printSubs_47 h ?_
      rintro _ σ7 ⟨rfl, h⟩
      refine V_aload_n dX12_printSubs_50 rfl rfl ?_
      refine V_iload_n dX12_printSubs_51 rfl rfl ?_
      refine V_iload_n dX12_printSubs_52 rfl rfl ?_
      refine V_callV (av := [vi x1, vi z1]) (stk := []) cvX12_296 rfl rfl rfl (by decide) (by simp [ctg]) dX12_printSubs_53 h ?_
      rintro _ σ8 ⟨rfl, h⟩
      refine V_aload_n dX12_printSubs_56 rfl rfl ?_
      refine V_callV (av := []) (stk := []) cvX12_391 rfl rfl rfl (by decide) (by simp [ctg]) dX12_printSubs_57 h ?_
      rintro _ σ9 ⟨rfl, h⟩
      refine V_aload_n dX12_printSubs_60 rfl rfl ?_
      refine V_callV (av := []) (stk := []) cvX12_373 rfl rfl rfl (by decide) (by simp [ctg]) dX12_printSubs_61 h ?_
      rintro _ σ10 ⟨rfl, h⟩
      refine V_iinc (L' := [some (vr 94), some (vi x1), some (vi (x2 + 1)), some (vi z1)]) dX12_printSubs_64 rfl (by decide) rfl ?_
      refine V_goto (tgt := 2) dX12_printSubs_67 rfl ?_
      exact V.sub (SubL_s (SubL_s (SubL_s (SubL_n (SubL_0))))) h

set_option maxRecDepth 100000 in
theorem BX12_printSee_0 {σ : Sg} {post : Po} {x1 : Int} 
  (h : Cl mX12_beginRow [vr 94] σ (pV fun σ1 => Cl mX12_beginUnit [vr 94, vi 0] σ1 (pV fun σ2 => Cl mX12_slot [vi x1, vi (-1)] σ2 (pI fun z3 σ3 => Cl mX12_signWord [vr 94, vi z3] σ3 (pV fun σ4 => Cl mX12_sign [vr 94, vi 44] σ4 (pV fun σ5 => Cl mX12_sign [vr 94, vi 32] σ5 (pV fun σ6 => Cl mX12_signSee [vr 94] σ6 (pV fun σ7 => (0 ≤ x1 ∧ x1 < 16) ∧ (Cl mX12_slot [vi (σ7 98 x1), vi (-1)] σ7 (pI fun z8 σ8 => Cl mX12_signWord [vr 94, vi z8] σ8 (pV fun σ9 => Cl mX12_putUnit [vr 94] σ9 (pV fun σ10 => Cl mX12_endLine [vr 94] σ10 (pV fun σ11 => post none σ11))))))))))))) :
  V mX12_printSee 0 [some (vr 94), some (vi x1)] [] σ post := by
  refine V_aload_n dX12_printSee_0 rfl rfl ?_
  refine V_callV (av := []) (stk := []) cvX12_385 rfl rfl rfl (by decide) (by simp [ctg]) dX12_printSee_1 h ?_
  rintro _ σ1 ⟨rfl, h⟩
  refine V_aload_n dX12_printSee_4 rfl rfl ?_
  refine V_iconst dX12_printSee_5 ?_
  refine V_callV (av := [vi 0]) (stk := []) cvX12_376 rfl rfl rfl (by decide) (by simp [ctg]) dX12_printSee_6 h ?_
  rintro _ σ2 ⟨rfl, h⟩
  refine V_aload_n dX12_printSee_9 rfl rfl ?_
  refine V_iload_n dX12_printSee_10 rfl rfl ?_
  refine V_iconst dX12_printSee_11 ?_
  refine V_callS (av := [vi x1, vi (-1)]) (stk := [vr 94]) cvX12_195 rfl rfl (by decide) (by simp [ctg]) dX12_printSee_12 h ?_
  rintro _ σ3 ⟨z3, rfl, h⟩
  refine V_callV (av := [vi z3]) (stk := []) cvX12_388 rfl rfl rfl (by decide) (by simp [ctg]) dX12_printSee_15 h ?_
  rintro _ σ4 ⟨rfl, h⟩
  refine V_aload_n dX12_printSee_18 rfl rfl ?_
  refine V_bipush dX12_printSee_19 (by decide) ?_
  refine V_callV (av := [vi 44]) (stk := []) cvX12_364 rfl rfl rfl (by decide) (by simp [ctg]) dX12_printSee_21 h ?_
  rintro _ σ5 ⟨rfl, h⟩
  refine V_aload_n dX12_printSee_24 rfl rfl ?_
  refine V_bipush dX12_printSee_25 (by decide) ?_
  refine V_callV (av := [vi 32]) (stk := []) cvX12_364 rfl rfl rfl (by decide) (by simp [ctg]) dX12_printSee_27 h ?_
  rintro _ σ6 ⟨rfl, h⟩
  refine V_aload_n dX12_printSee_30 rfl rfl ?_
  refine V_callV (av := []) (stk := []) cvX12_394 rfl rfl rfl (by decide) (by simp [ctg]) dX12_printSee_31 h ?_
  rintro _ σ7 ⟨rfl, h⟩
  refine V_aload_n dX12_printSee_34 rfl rfl ?_
  refine V_aload_n dX12_printSee_35 rfl rfl ?_
  refine V_getR (k2 := 98) flX12_19 rfl rfl (by decide) dX12_printSee_36 ?_
  refine V_iload_n dX12_printSee_39 rfl rfl ?_
  obtain ⟨r1, h⟩ := h
  refine V_iald (f := (σ7 98 x1)) (rfl : shp[98]? = some (1, 16, 0)) r1 (rfl) dX12_printSee_40 ?_
  refine V_iconst dX12_printSee_41 ?_
  refine V_callS (av := [vi (σ7 98 x1), vi (-1)]) (stk := [vr 94]) cvX12_195 rfl rfl (by decide) (by simp [ctg]) dX12_printSee_42 h ?_
  rintro _ σ8 ⟨z8, rfl, h⟩
  refine V_callV (av := [vi z8]) (stk := []) cvX12_388 rfl rfl rfl (by decide) (by simp [ctg]) dX12_printSee_45 h ?_
  rintro _ σ9 ⟨rfl, h⟩
  refine V_aload_n dX12_printSee_48 rfl rfl ?_
  refine V_callV (av := []) (stk := []) cvX12_382 rfl rfl rfl (by decide) (by simp [ctg]) dX12_printSee_49 h ?_
  rintro _ σ10 ⟨rfl, h⟩
  refine V_aload_n dX12_printSee_52 rfl rfl ?_
  refine V_callV (av := []) (stk := []) cvX12_373 rfl rfl rfl (by decide) (by simp [ctg]) dX12_printSee_53 h ?_
  rintro _ σ11 ⟨rfl, h⟩
  exact V_return (stk := []) rfl dX12_printSee_56 h

set_option maxRecDepth 100000 in
theorem BX12_printAlso_0 {σ : Sg} {post : Po} {x1 : Int} 
  (h : Cl mX12_beginRow [vr 94] σ (pV fun σ1 => V mX12_printAlso 6 [some (vr 94), some (vi x1), some (vi 0), none] [] σ1 post)) :
  V mX12_printAlso 0 [some (vr 94), some (vi x1), none, none] [] σ post := by
  refine V_aload_n dX12_printAlso_0 rfl rfl ?_
  refine V_callV (av := []) (stk := []) cvX12_385 rfl rfl rfl (by decide) (by simp [ctg]) dX12_printAlso_1 h ?_
  rintro _ σ1 ⟨rfl, h⟩
  refine V_iconst dX12_printAlso_4 ?_
  refine V_istore_n (L' := [some (vr 94), some (vi x1), some (vi 0), none]) dX12_printAlso_5 rfl (by decide) rfl ?_
  exact V.sub (SubL_s (SubL_s (SubL_s (SubL_n (SubL_0))))) h
set_option maxRecDepth 100000 in
theorem BX12_printAlso_6 {σ : Sg} {post : Po} {x1 : Int} {x2 : Int} 
  (h : (rng x2) ∧ ((rng (σ 94 0)) ∧ (((σ 94 0) ≤ x2 → Cl mX12_endLine [vr 94] σ (pV fun σ1 => post none σ1)) ∧ (¬ (σ 94 0) ≤ x2 → (0 ≤ x2 ∧ x2 < 16) ∧ ((0 ≤ x1 ∧ x1 < 16) ∧ (Cl mX12_has [vi (σ 99 x1), vi (σ 108 x2)] σ (pI fun z2 σ2 => (rng z2) ∧ ((z2 = 0 → V mX12_printAlso 104 [some (vr 94), some (vi x1), some (vi x2), none] [] σ2 post) ∧ (¬ z2 = 0 → (rng (σ2 94 33)) ∧ (((σ2 94 33) = 0 → Cl mX12_beginUnit [vr 94, vi 0] σ2 (pV fun σ3 => (rng (σ3 94 33)) ∧ (((σ3 94 33) = 0 → V mX12_printAlso 91 [some (vr 94), some (vi x1), some (vi x2), some (vi (σ 108 x2))] [] σ3 post) ∧ (¬ (σ3 94 33) = 0 → Cl mX12_signSee [vr 94] σ3 (pV fun σ4 => Cl mX12_sign [vr 94, vi 97] σ4 (pV fun σ5 => Cl mX12_sign [vr 94, vi 108] σ5 (pV fun σ6 => Cl mX12_sign [vr 94, vi 115] σ6 (pV fun σ7 => Cl mX12_sign [vr 94, vi 111] σ7 (pV fun σ8 => Cl mX12_sign [vr 94, vi 32] σ8 (pV fun σ9 => V mX12_printAlso 91 [some (vr 94), some (vi x1), some (vi x2), some (vi (σ 108 x2))] [] σ9 post)))))))))) ∧ (¬ (σ2 94 33) = 0 → Cl mX12_beginUnit [vr 94, vi 2] σ2 (pV fun σ10 => (rng (σ10 94 33)) ∧ (((σ10 94 33) = 0 → V mX12_printAlso 91 [some (vr 94), some (vi x1), some (vi x2), some (vi (σ 108 x2))] [] σ10 post) ∧ (¬ (σ10 94 33) = 0 → Cl mX12_signSee [vr 94] σ10 (pV fun σ11 => Cl mX12_sign [vr 94, vi 97] σ11 (pV fun σ12 => Cl mX12_sign [vr 94, vi 108] σ12 (pV fun σ13 => Cl mX12_sign [vr 94, vi 115] σ13 (pV fun σ14 => Cl mX12_sign [vr 94, vi 111] σ14 (pV fun σ15 => Cl mX12_sign [vr 94, vi 32] σ15 (pV fun σ16 => V mX12_printAlso 91 [some (vr 94), some (vi x1), some (vi x2), some (vi (σ 108 x2))] [] σ16 post)))))))))))))))))))) :
  V mX12_printAlso 6 [some (vr 94), some (vi x1), some (vi x2), none] [] σ post := by
  refine V_iload_n dX12_printAlso_6 rfl rfl ?_
  refine V_aload_n dX12_printAlso_7 rfl rfl ?_
  refine V_getI (f := (σ 94 0)) flX12_192 rfl (rfl) (by decide) dX12_printAlso_8 ?_
  obtain ⟨r1, h⟩ := h
  obtain ⟨r2, h⟩ := h
  refine V_icmp_ge (tgt := 110) dX12_printAlso_11 rfl r1 r2 (fun q => ?_) (fun q => ?_)
  · replace h := h.1 q
    refine V_aload_n dX12_printAlso_110 rfl rfl ?_
    refine V_callV (av := []) (stk := []) cvX12_373 rfl rfl rfl (by decide) (by simp [ctg]) dX12_printAlso_111 h ?_
    rintro _ σ1 ⟨rfl, h⟩
    exact V_return (stk := []) rfl dX12_printAlso_114 h
  · replace h := h.2 q
    refine V_aload_n dX12_printAlso_14 rfl rfl ?_
    refine V_getR (k2 := 108) flX12_57 rfl rfl (by decide) dX12_printAlso_15 ?_
    refine V_iload_n dX12_printAlso_18 rfl rfl ?_
    obtain ⟨r3, h⟩ := h
    refine V_iald (f := (σ 108 x2)) (rfl : shp[108]? = some (1, 16, 0)) r3 (rfl) dX12_printAlso_19 ?_
    refine V_istore_n (L' := [some (vr 94), some (vi x1), some (vi x2), some (vi (σ 108 x2))]) dX12_printAlso_20 rfl (by decide) rfl ?_
    refine V_aload_n dX12_printAlso_21 rfl rfl ?_
    refine V_getR (k2 := 99) flX12_22 rfl rfl (by decide) dX12_printAlso_22 ?_
    refine V_iload_n dX12_printAlso_25 rfl rfl ?_
    obtain ⟨r4, h⟩ := h
    refine V_iald (f := (σ 99 x1)) (rfl : shp[99]? = some (1, 16, 0)) r4 (rfl) dX12_printAlso_26 ?_
    refine V_iload_n dX12_printAlso_27 rfl rfl ?_
    refine V_callS (av := [vi (σ 99 x1), vi (σ 108 x2)]) (stk := []) cvX12_237 rfl rfl (by decide) (by simp [ctg]) dX12_printAlso_28 h ?_
    rintro _ σ2 ⟨z2, rfl, h⟩
    obtain ⟨r5, h⟩ := h
    refine V_if_eq (tgt := 104) dX12_printAlso_31 rfl r5 (fun q => ?_) (fun q => ?_)
    · replace h := h.1 q
      exact V.sub (SubL_s (SubL_s (SubL_s (SubL_n (SubL_0))))) h
    · replace h := h.2 q
      refine V_aload_n dX12_printAlso_34 rfl rfl ?_
      refine V_aload_n dX12_printAlso_35 rfl rfl ?_
      refine V_getI (f := (σ2 94 33)) flX12_367 rfl (rfl) (by decide) dX12_printAlso_36 ?_
      obtain ⟨r6, h⟩ := h
      refine V_if_eq (tgt := 46) dX12_printAlso_39 rfl r6 (fun q => ?_) (fun q => ?_)
      · replace h := h.1 q
        refine V_iconst dX12_printAlso_46 ?_
        refine V_callV (av := [vi 0]) (stk := []) cvX12_376 rfl rfl rfl (by decide) (by simp [ctg]) dX12_printAlso_47 h ?_
        rintro _ σ3 ⟨rfl, h⟩
        refine V_aload_n dX12_printAlso_50 rfl rfl ?_
        refine V_getI (f := (σ3 94 33)) flX12_367 rfl (rfl) (by decide) dX12_printAlso_51 ?_
        obtain ⟨r7, h⟩ := h
        refine V_if_eq (tgt := 91) dX12_printAlso_54 rfl r7 (fun q => ?_) (fun q => ?_)
        · replace h := h.1 q
          exact V.sub (SubL_s (SubL_s (SubL_s (SubL_s (SubL_0))))) h
        · replace h := h.2 q
          refine V_aload_n dX12_printAlso_57 rfl rfl ?_
          refine V_callV (av := []) (stk := []) cvX12_394 rfl rfl rfl (by decide) (by simp [ctg]) dX12_printAlso_58 h ?_
          rintro _ σ4 ⟨rfl, h⟩
          refine V_aload_n dX12_printAlso_61 rfl rfl ?_
          refine V_bipush dX12_printAlso_62 (by decide) ?_
          refine V_callV (av := [vi 97]) (stk := []) cvX12_364 rfl rfl rfl (by decide) (by simp [ctg]) dX12_printAlso_64 h ?_
          rintro _ σ5 ⟨rfl, h⟩
          refine V_aload_n dX12_printAlso_67 rfl rfl ?_
          refine V_bipush dX12_printAlso_68 (by decide) ?_
          refine V_callV (av := [vi 108]) (stk := []) cvX12_364 rfl rfl rfl (by decide) (by simp [ctg]) dX12_printAlso_70 h ?_
          rintro _ σ6 ⟨rfl, h⟩
          refine V_aload_n dX12_printAlso_73 rfl rfl ?_
          refine V_bipush dX12_printAlso_74 (by decide) ?_
          refine V_callV (av := [vi 115]) (stk := []) cvX12_364 rfl rfl rfl (by decide) (by simp [ctg]) dX12_printAlso_76 h ?_
          rintro _ σ7 ⟨rfl, h⟩
          refine V_aload_n dX12_printAlso_79 rfl rfl ?_
          refine V_bipush dX12_printAlso_80 (by decide) ?_
          refine V_callV (av := [vi 111]) (stk := []) cvX12_364 rfl rfl rfl (by decide) (by simp [ctg]) dX12_printAlso_82 h ?_
          rintro _ σ8 ⟨rfl, h⟩
          refine V_aload_n dX12_printAlso_85 rfl rfl ?_
          refine V_bipush dX12_printAlso_86 (by decide) ?_
          refine V_callV (av := [vi 32]) (stk := []) cvX12_364 rfl rfl rfl (by decide) (by simp [ctg]) dX12_printAlso_88 h ?_
          rintro _ σ9 ⟨rfl, h⟩
          exact V.sub (SubL_s (SubL_s (SubL_s (SubL_s (SubL_0))))) h
      · replace h := h.2 q
        refine V_iconst dX12_printAlso_42 ?_
        refine V_goto (tgt := 47) dX12_printAlso_43 rfl ?_
        refine V_callV (av := [vi 2]) (stk := []) cvX12_376 rfl rfl rfl (by decide) (by simp [ctg]) dX12_printAlso_47 h ?_
        rintro _ σ10 ⟨rfl, h⟩
        refine V_aload_n dX12_printAlso_50 rfl rfl ?_
        refine V_getI (f := (σ10 94 33)) flX12_367 rfl (rfl) (by decide) dX12_printAlso_51 ?_
        obtain ⟨r8, h⟩ := h
        refine V_if_eq (tgt := 91) dX12_printAlso_54 rfl r8 (fun q => ?_) (fun q => ?_)
        · replace h := h.1 q
          exact V.sub (SubL_s (SubL_s (SubL_s (SubL_s (SubL_0))))) h
        · replace h := h.2 q
          refine V_aload_n dX12_printAlso_57 rfl rfl ?_
          refine V_callV (av := []) (stk := []) cvX12_394 rfl rfl rfl (by decide) (by simp [ctg]) dX12_printAlso_58 h ?_
          rintro _ σ11 ⟨rfl, h⟩
          refine V_aload_n dX12_printAlso_61 rfl rfl ?_
          refine V_bipush dX12_printAlso_62 (by decide) ?_
          refine V_callV (av := [vi 97]) (stk := []) cvX12_364 rfl rfl rfl (by decide) (by simp [ctg]) dX12_printAlso_64 h ?_
          rintro _ σ12 ⟨rfl, h⟩
          refine V_aload_n dX12_printAlso_67 rfl rfl ?_
          refine V_bipush dX12_printAlso_68 (by decide) ?_
          refine V_callV (av := [vi 108]) (stk := []) cvX12_364 rfl rfl rfl (by decide) (by simp [ctg]) dX12_printAlso_70 h ?_
          rintro _ σ13 ⟨rfl, h⟩
          refine V_aload_n dX12_printAlso_73 rfl rfl ?_
          refine V_bipush dX12_printAlso_74 (by decide) ?_
          refine V_callV (av := [vi 115]) (stk := []) cvX12_364 rfl rfl rfl (by decide) (by simp [ctg]) dX12_printAlso_76 h ?_
          rintro _ σ14 ⟨rfl, h⟩
          refine V_aload_n dX12_printAlso_79 rfl rfl ?_
          refine V_bipush dX12_printAlso_80 (by decide) ?_
          refine V_callV (av := [vi 111]) (stk := []) cvX12_364 rfl rfl rfl (by decide) (by simp [ctg]) dX12_printAlso_82 h ?_
          rintro _ σ15 ⟨rfl, h⟩
          refine V_aload_n dX12_printAlso_85 rfl rfl ?_
          refine V_bipush dX12_printAlso_86 (by decide) ?_
          refine V_callV (av := [vi 32]) (stk := []) cvX12_364 rfl rfl rfl (by decide) (by simp [ctg]) dX12_printAlso_88 h ?_
          rintro _ σ16 ⟨rfl, h⟩
          exact V.sub (SubL_s (SubL_s (SubL_s (SubL_s (SubL_0))))) h
set_option maxRecDepth 100000 in
theorem BX12_printAlso_104 {σ : Sg} {post : Po} {x1 : Int} {x2 : Int} 
  (h : V mX12_printAlso 6 [some (vr 94), some (vi x1), some (vi (x2 + 1)), none] [] σ post) :
  V mX12_printAlso 104 [some (vr 94), some (vi x1), some (vi x2), none] [] σ post := by
  refine V_iinc (L' := [some (vr 94), some (vi x1), some (vi (x2 + 1)), none]) dX12_printAlso_104 rfl (by decide) rfl ?_
  refine V_goto (tgt := 6) dX12_printAlso_107 rfl ?_
  exact V.sub (SubL_s (SubL_s (SubL_s (SubL_n (SubL_0))))) h
set_option maxRecDepth 100000 in
theorem BX12_printAlso_91 {σ : Sg} {post : Po} {x1 : Int} {x2 : Int} {x3 : Int} 
  (h : Cl mX12_slot [vi x3, vi (-1)] σ (pI fun z1 σ1 => Cl mX12_signWord [vr 94, vi z1] σ1 (pV fun σ2 => Cl mX12_putUnit [vr 94] σ2 (pV fun σ3 => V mX12_printAlso 104 [some (vr 94), some (vi x1), some (vi x2), none] [] σ3 post)))) :
  V mX12_printAlso 91 [some (vr 94), some (vi x1), some (vi x2), some (vi x3)] [] σ post := by
  refine V_aload_n dX12_printAlso_91 rfl rfl ?_
  refine V_iload_n dX12_printAlso_92 rfl rfl ?_
  refine V_iconst dX12_printAlso_93 ?_
  refine V_callS (av := [vi x3, vi (-1)]) (stk := [vr 94]) cvX12_195 rfl rfl (by decide) (by simp [ctg]) dX12_printAlso_94 h ?_
  rintro _ σ1 ⟨z1, rfl, h⟩
  refine V_callV (av := [vi z1]) (stk := []) cvX12_388 rfl rfl rfl (by decide) (by simp [ctg]) dX12_printAlso_97 h ?_
  rintro _ σ2 ⟨rfl, h⟩
  refine V_aload_n dX12_printAlso_100 rfl rfl ?_
  refine V_callV (av := []) (stk := []) cvX12_382 rfl rfl rfl (by decide) (by simp [ctg]) dX12_printAlso_101 h ?_
  rintro _ σ3 ⟨rfl, h⟩
  exact V.sub (SubL_s (SubL_s (SubL_s (SubL_n (SubL_0))))) h

set_option maxRecDepth 100000 in
theorem BX12_isPrinted_0 {σ : Sg} {post : Po} {x1 : Int} 
  (h : Cl mX12_isFilled [vr 94, vi x1] σ (pI fun z1 σ1 => (rng z1) ∧ ((¬ z1 = 0 → post (some (vi 1)) σ1) ∧ (z1 = 0 → (0 ≤ x1 ∧ x1 < 16) ∧ ((rng (σ1 98 x1)) ∧ ((0 ≤ (σ1 98 x1) → post (some (vi 1)) σ1) ∧ (¬ 0 ≤ (σ1 98 x1) → (rng (σ1 99 x1)) ∧ (((σ1 99 x1) = 0 → post (some (vi 0)) σ1) ∧ (¬ (σ1 99 x1) = 0 → post (some (vi 1)) σ1))))))))) :
  V mX12_isPrinted 0 [some (vr 94), some (vi x1)] [] σ post := by
  refine V_aload_n dX12_isPrinted_0 rfl rfl ?_
  refine V_iload_n dX12_isPrinted_1 rfl rfl ?_
  refine V_callV (av := [vi x1]) (stk := []) cvX12_278 rfl rfl rfl (by decide) (by simp [ctg]) dX12_isPrinted_2 h ?_
  rintro _ σ1 ⟨z1, rfl, h⟩
  obtain ⟨r1, h⟩ := h
  refine V_if_ne (tgt := 26) dX12_isPrinted_5 rfl r1 (fun q => ?_) (fun q => ?_)
  · replace h := h.1 q
    refine V_iconst dX12_isPrinted_26 ?_
    refine V_goto (tgt := 31) dX12_isPrinted_27 rfl ?_
    exact V_zreturn (stk := []) rfl dX12_isPrinted_31 (by decide) h
  · replace h := h.2 q
    refine V_aload_n dX12_isPrinted_8 rfl rfl ?_
    refine V_getR (k2 := 98) flX12_19 rfl rfl (by decide) dX12_isPrinted_9 ?_
    refine V_iload_n dX12_isPrinted_12 rfl rfl ?_
    obtain ⟨r2, h⟩ := h
    refine V_iald (f := (σ1 98 x1)) (rfl : shp[98]? = some (1, 16, 0)) r2 (rfl) dX12_isPrinted_13 ?_
    obtain ⟨r3, h⟩ := h
    refine V_if_ge (tgt := 26) dX12_isPrinted_14 rfl r3 (fun q => ?_) (fun q => ?_)
    · replace h := h.1 q
      refine V_iconst dX12_isPrinted_26 ?_
      refine V_goto (tgt := 31) dX12_isPrinted_27 rfl ?_
      exact V_zreturn (stk := []) rfl dX12_isPrinted_31 (by decide) h
    · replace h := h.2 q
      refine V_aload_n dX12_isPrinted_17 rfl rfl ?_
      refine V_getR (k2 := 99) flX12_22 rfl rfl (by decide) dX12_isPrinted_18 ?_
      refine V_iload_n dX12_isPrinted_21 rfl rfl ?_
      refine V_iald (f := (σ1 99 x1)) (rfl : shp[99]? = some (1, 16, 0)) r2 (rfl) dX12_isPrinted_22 ?_
      obtain ⟨r4, h⟩ := h
      refine V_if_eq (tgt := 30) dX12_isPrinted_23 rfl r4 (fun q => ?_) (fun q => ?_)
      · replace h := h.1 q
        refine V_iconst dX12_isPrinted_30 ?_
        exact V_zreturn (stk := []) rfl dX12_isPrinted_31 (by decide) h
      · replace h := h.2 q
        refine V_iconst dX12_isPrinted_26 ?_
        refine V_goto (tgt := 31) dX12_isPrinted_27 rfl ?_
        exact V_zreturn (stk := []) rfl dX12_isPrinted_31 (by decide) h

set_option maxRecDepth 100000 in
theorem BX12_printHead_0 {σ : Sg} {post : Po} {x1 : Int} {x2 : Int} 
  (h : Cl mX12_isFilled [vr 94, vi x1] σ (pI fun z1 σ1 => (rng x2) ∧ ((¬ x2 = 0 → V mX12_printHead 31 [some (vr 94), some (vi x1), some (vi x2), some (vi z1), none] [] σ1 post) ∧ (x2 = 0 → (rng z1) ∧ ((¬ z1 = 0 → V mX12_printHead 31 [some (vr 94), some (vi x1), some (vi x2), some (vi z1), none] [] σ1 post) ∧ (z1 = 0 → (0 ≤ x1 ∧ x1 < 16) ∧ ((rng (σ1 98 x1)) ∧ (((σ1 98 x1) < 0 → V mX12_printHead 31 [some (vr 94), some (vi x1), some (vi x2), some (vi z1), none] [] σ1 post) ∧ (¬ (σ1 98 x1) < 0 → Cl mX12_printSee [vr 94, vi x1] σ1 (pV fun σ2 => V mX12_printHead 153 [some (vr 94), some (vi x1), none, none, none] [] σ2 post)))))))))) :
  V mX12_printHead 0 [some (vr 94), some (vi x1), some (vi x2), none, none] [] σ post := by
  refine V_aload_n dX12_printHead_0 rfl rfl ?_
  refine V_iload_n dX12_printHead_1 rfl rfl ?_
  refine V_callV (av := [vi x1]) (stk := []) cvX12_278 rfl rfl rfl (by decide) (by simp [ctg]) dX12_printHead_2 h ?_
  rintro _ σ1 ⟨z1, rfl, h⟩
  refine V_istore_n (L' := [some (vr 94), some (vi x1), some (vi x2), some (vi z1), none]) dX12_printHead_5 rfl (by decide) rfl ?_
  refine V_iload_n dX12_printHead_6 rfl rfl ?_
  obtain ⟨r1, h⟩ := h
  refine V_if_ne (tgt := 31) dX12_printHead_7 rfl r1 (fun q => ?_) (fun q => ?_)
  · replace h := h.1 q
    exact V.sub (SubL_s (SubL_s (SubL_s (SubL_s (SubL_n (SubL_0)))))) h
  · replace h := h.2 q
    refine V_iload_n dX12_printHead_10 rfl rfl ?_
    obtain ⟨r2, h⟩ := h
    refine V_if_ne (tgt := 31) dX12_printHead_11 rfl r2 (fun q => ?_) (fun q => ?_)
    · replace h := h.1 q
      exact V.sub (SubL_s (SubL_s (SubL_s (SubL_s (SubL_n (SubL_0)))))) h
    · replace h := h.2 q
      refine V_aload_n dX12_printHead_14 rfl rfl ?_
      refine V_getR (k2 := 98) flX12_19 rfl rfl (by decide) dX12_printHead_15 ?_
      refine V_iload_n dX12_printHead_18 rfl rfl ?_
      obtain ⟨r3, h⟩ := h
      refine V_iald (f := (σ1 98 x1)) (rfl : shp[98]? = some (1, 16, 0)) r3 (rfl) dX12_printHead_19 ?_
      obtain ⟨r4, h⟩ := h
      refine V_if_lt (tgt := 31) dX12_printHead_20 rfl r4 (fun q => ?_) (fun q => ?_)
      · replace h := h.1 q
        exact V.sub (SubL_s (SubL_s (SubL_s (SubL_s (SubL_n (SubL_0)))))) h
      · replace h := h.2 q
        refine V_aload_n dX12_printHead_23 rfl rfl ?_
        refine V_iload_n dX12_printHead_24 rfl rfl ?_
        refine V_callV (av := [vi x1]) (stk := []) cvX12_397 rfl rfl rfl (by decide) (by simp [ctg]) dX12_printHead_25 h ?_
        rintro _ σ2 ⟨rfl, h⟩
        refine V_goto (tgt := 153) dX12_printHead_28 rfl ?_
        exact V.sub (SubL_s (SubL_s (SubL_n (SubL_n (SubL_n (SubL_0)))))) h
set_option maxRecDepth 100000 in
theorem BX12_printHead_31 {σ : Sg} {post : Po} {x1 : Int} {x2 : Int} {x3 : Int} 
  (h : (rng x2) ∧ ((¬ x2 = 2 → Cl mX12_beginRow [vr 94] σ (pV fun σ1 => Cl mX12_beginUnit [vr 94, vi 0] σ1 (pV fun σ2 => Cl mX12_slot [vi x1, vi (-1)] σ2 (pI fun z3 σ3 => Cl mX12_signWord [vr 94, vi z3] σ3 (pV fun σ4 => Cl mX12_putUnit [vr 94] σ4 (pV fun σ5 => (¬ x2 = 1 → Cl mX12_tick [vr 94, vi x1, vi (-1)] σ5 (pV fun σ6 => Cl mX12_putRuns [vr 94] σ6 (pV fun σ7 => Cl mX12_endLine [vr 94] σ7 (pV fun σ8 => (x2 = 1 → V mX12_printHead 105 [some (vr 94), some (vi x1), none, some (vi x3), none] [] σ8 post) ∧ (¬ x2 = 1 → Cl mX12_printSubs [vr 94, vi x1] σ8 (pV fun σ9 => V mX12_printHead 105 [some (vr 94), some (vi x1), none, some (vi x3), none] [] σ9 post)))))) ∧ (x2 = 1 → Cl mX12_tick [vr 94, vi x1, vi (-2)] σ5 (pV fun σ10 => Cl mX12_putRuns [vr 94] σ10 (pV fun σ11 => Cl mX12_endLine [vr 94] σ11 (pV fun σ12 => (x2 = 1 → V mX12_printHead 105 [some (vr 94), some (vi x1), none, some (vi x3), none] [] σ12 post) ∧ (¬ x2 = 1 → Cl mX12_printSubs [vr 94, vi x1] σ12 (pV fun σ13 => V mX12_printHead 105 [some (vr 94), some (vi x1), none, some (vi x3), none] [] σ13 post)))))))))))) ∧ (x2 = 2 → Cl mX12_foundFrom [vr 94, vi x1] σ (pI fun z14 σ14 => Cl mX12_beginRow [vr 94] σ14 (pV fun σ15 => Cl mX12_beginUnit [vr 94, vi 0] σ15 (pV fun σ16 => Cl mX12_slot [vi x1, vi (-1)] σ16 (pI fun z17 σ17 => Cl mX12_signWord [vr 94, vi z17] σ17 (pV fun σ18 => Cl mX12_putUnit [vr 94] σ18 (pV fun σ19 => (¬ x2 = 1 → Cl mX12_tick [vr 94, vi z14, vi (-1)] σ19 (pV fun σ20 => Cl mX12_putRuns [vr 94] σ20 (pV fun σ21 => Cl mX12_endLine [vr 94] σ21 (pV fun σ22 => (x2 = 1 → V mX12_printHead 105 [some (vr 94), some (vi x1), none, some (vi x3), none] [] σ22 post) ∧ (¬ x2 = 1 → Cl mX12_printSubs [vr 94, vi z14] σ22 (pV fun σ23 => V mX12_printHead 105 [some (vr 94), some (vi x1), none, some (vi x3), none] [] σ23 post)))))) ∧ (x2 = 1 → Cl mX12_tick [vr 94, vi z14, vi (-2)] σ19 (pV fun σ24 => Cl mX12_putRuns [vr 94] σ24 (pV fun σ25 => Cl mX12_endLine [vr 94] σ25 (pV fun σ26 => (x2 = 1 → V mX12_printHead 105 [some (vr 94), some (vi x1), none, some (vi x3), none] [] σ26 post) ∧ (¬ x2 = 1 → Cl mX12_printSubs [vr 94, vi z14] σ26 (pV fun σ27 => V mX12_printHead 105 [some (vr 94), some (vi x1), none, some (vi x3), none] [] σ27 post))))))))))))))) :
  V mX12_printHead 31 [some (vr 94), some (vi x1), some (vi x2), some (vi x3), none] [] σ post := by
  refine V_iload_n dX12_printHead_31 rfl rfl ?_
  refine V_iconst dX12_printHead_32 ?_
  obtain ⟨r1, h⟩ := h
  refine V_icmp_ne (tgt := 44) dX12_printHead_33 rfl r1 (by decide) (fun q => ?_) (fun q => ?_)
  · replace h := h.1 q
    refine V_iload_n dX12_printHead_44 rfl rfl ?_
    refine V_istore (L' := [some (vr 94), some (vi x1), some (vi x2), some (vi x3), some (vi x1)]) dX12_printHead_45 (by decide) rfl ?_
    refine V_aload_n dX12_printHead_47 rfl rfl ?_
    refine V_callV (av := []) (stk := []) cvX12_385 rfl rfl rfl (by decide) (by simp [ctg]) dX12_printHead_48 h ?_
    rintro _ σ1 ⟨rfl, h⟩
    refine V_aload_n dX12_printHead_51 rfl rfl ?_
    refine V_iconst dX12_printHead_52 ?_
    refine V_callV (av := [vi 0]) (stk := []) cvX12_376 rfl rfl rfl (by decide) (by simp [ctg]) dX12_printHead_53 h ?_
    rintro _ σ2 ⟨rfl, h⟩
    refine V_aload_n dX12_printHead_56 rfl rfl ?_
    refine V_iload_n dX12_printHead_57 rfl rfl ?_
    refine V_iconst dX12_printHead_58 ?_
    refine V_callS (av := [vi x1, vi (-1)]) (stk := [vr 94]) cvX12_195 rfl rfl (by decide) (by simp [ctg]) dX12_printHead_59 h ?_
    rintro _ σ3 ⟨z3, rfl, h⟩
    refine V_callV (av := [vi z3]) (stk := []) cvX12_388 rfl rfl rfl (by decide) (by simp [ctg]) dX12_printHead_62 h ?_
    rintro _ σ4 ⟨rfl, h⟩
    refine V_aload_n dX12_printHead_65 rfl rfl ?_
    refine V_callV (av := []) (stk := []) cvX12_382 rfl rfl rfl (by decide) (by simp [ctg]) dX12_printHead_66 h ?_
    rintro _ σ5 ⟨rfl, h⟩
    refine V_aload_n dX12_printHead_69 rfl rfl ?_
    refine V_iload dX12_printHead_70 rfl ?_
    refine V_iload_n dX12_printHead_72 rfl rfl ?_
    refine V_iconst dX12_printHead_73 ?_
    refine V_icmp_ne (tgt := 82) dX12_printHead_74 rfl r1 (by decide) (fun q => ?_) (fun q => ?_)
    · replace h := h.1 q
      refine V_iconst dX12_printHead_82 ?_
      refine V_callV (av := [vi x1, vi (-1)]) (stk := []) cvX12_296 rfl rfl rfl (by decide) (by simp [ctg]) dX12_printHead_83 h ?_
      rintro _ σ6 ⟨rfl, h⟩
      refine V_aload_n dX12_printHead_86 rfl rfl ?_
      refine V_callV (av := []) (stk := []) cvX12_391 rfl rfl rfl (by decide) (by simp [ctg]) dX12_printHead_87 h ?_
      rintro _ σ7 ⟨rfl, h⟩
      refine V_aload_n dX12_printHead_90 rfl rfl ?_
      refine V_callV (av := []) (stk := []) cvX12_373 rfl rfl rfl (by decide) (by simp [ctg]) dX12_printHead_91 h ?_
      rintro _ σ8 ⟨rfl, h⟩
      refine V_iload_n dX12_printHead_94 rfl rfl ?_
      refine V_iconst dX12_printHead_95 ?_
      refine V_icmp_eq (tgt := 105) dX12_printHead_96 rfl r1 (by decide) (fun q => ?_) (fun q => ?_)
      · replace h := h.1 q
        exact V.sub (SubL_s (SubL_s (SubL_n (SubL_s (SubL_n (SubL_0)))))) h
      · replace h := h.2 q
        refine V_aload_n dX12_printHead_99 rfl rfl ?_
        refine V_iload dX12_printHead_100 rfl ?_
        refine V_callV (av := [vi x1]) (stk := []) cvX12_403 rfl rfl rfl (by decide) (by simp [ctg]) dX12_printHead_102 h ?_
        rintro _ σ9 ⟨rfl, h⟩
        exact V.sub (SubL_s (SubL_s (SubL_n (SubL_s (SubL_n (SubL_0)))))) h
    · replace h := h.2 q
      refine V_bipush dX12_printHead_77 (by decide) ?_
      refine V_goto (tgt := 83) dX12_printHead_79 rfl ?_
      refine V_callV (av := [vi x1, vi (-2)]) (stk := []) cvX12_296 rfl rfl rfl (by decide) (by simp [ctg]) dX12_printHead_83 h ?_
      rintro _ σ10 ⟨rfl, h⟩
      refine V_aload_n dX12_printHead_86 rfl rfl ?_
      refine V_callV (av := []) (stk := []) cvX12_391 rfl rfl rfl (by decide) (by simp [ctg]) dX12_printHead_87 h ?_
      rintro _ σ11 ⟨rfl, h⟩
      refine V_aload_n dX12_printHead_90 rfl rfl ?_
      refine V_callV (av := []) (stk := []) cvX12_373 rfl rfl rfl (by decide) (by simp [ctg]) dX12_printHead_91 h ?_
      rintro _ σ12 ⟨rfl, h⟩
      refine V_iload_n dX12_printHead_94 rfl rfl ?_
      refine V_iconst dX12_printHead_95 ?_
      refine V_icmp_eq (tgt := 105) dX12_printHead_96 rfl r1 (by decide) (fun q => ?_) (fun q => ?_)
      · replace h := h.1 q
        exact V.sub (SubL_s (SubL_s (SubL_n (SubL_s (SubL_n (SubL_0)))))) h
      · replace h := h.2 q
        refine V_aload_n dX12_printHead_99 rfl rfl ?_
        refine V_iload dX12_printHead_100 rfl ?_
        refine V_callV (av := [vi x1]) (stk := []) cvX12_403 rfl rfl rfl (by decide) (by simp [ctg]) dX12_printHead_102 h ?_
        rintro _ σ13 ⟨rfl, h⟩
        exact V.sub (SubL_s (SubL_s (SubL_n (SubL_s (SubL_n (SubL_0)))))) h
  · replace h := h.2 q
    refine V_aload_n dX12_printHead_36 rfl rfl ?_
    refine V_iload_n dX12_printHead_37 rfl rfl ?_
    refine V_callV (av := [vi x1]) (stk := []) cvX12_400 rfl rfl rfl (by decide) (by simp [ctg]) dX12_printHead_38 h ?_
    rintro _ σ14 ⟨z14, rfl, h⟩
    refine V_goto (tgt := 45) dX12_printHead_41 rfl ?_
    refine V_istore (L' := [some (vr 94), some (vi x1), some (vi x2), some (vi x3), some (vi z14)]) dX12_printHead_45 (by decide) rfl ?_
    refine V_aload_n dX12_printHead_47 rfl rfl ?_
    refine V_callV (av := []) (stk := []) cvX12_385 rfl rfl rfl (by decide) (by simp [ctg]) dX12_printHead_48 h ?_
    rintro _ σ15 ⟨rfl, h⟩
    refine V_aload_n dX12_printHead_51 rfl rfl ?_
    refine V_iconst dX12_printHead_52 ?_
    refine V_callV (av := [vi 0]) (stk := []) cvX12_376 rfl rfl rfl (by decide) (by simp [ctg]) dX12_printHead_53 h ?_
    rintro _ σ16 ⟨rfl, h⟩
    refine V_aload_n dX12_printHead_56 rfl rfl ?_
    refine V_iload_n dX12_printHead_57 rfl rfl ?_
    refine V_iconst dX12_printHead_58 ?_
    refine V_callS (av := [vi x1, vi (-1)]) (stk := [vr 94]) cvX12_195 rfl rfl (by decide) (by simp [ctg]) dX12_printHead_59 h ?_
    rintro _ σ17 ⟨z17, rfl, h⟩
    refine V_callV (av := [vi z17]) (stk := []) cvX12_388 rfl rfl rfl (by decide) (by simp [ctg]) dX12_printHead_62 h ?_
    rintro _ σ18 ⟨rfl, h⟩
    refine V_aload_n dX12_printHead_65 rfl rfl ?_
    refine V_callV (av := []) (stk := []) cvX12_382 rfl rfl rfl (by decide) (by simp [ctg]) dX12_printHead_66 h ?_
    rintro _ σ19 ⟨rfl, h⟩
    refine V_aload_n dX12_printHead_69 rfl rfl ?_
    refine V_iload dX12_printHead_70 rfl ?_
    refine V_iload_n dX12_printHead_72 rfl rfl ?_
    refine V_iconst dX12_printHead_73 ?_
    refine V_icmp_ne (tgt := 82) dX12_printHead_74 rfl r1 (by decide) (fun q => ?_) (fun q => ?_)
    · replace h := h.1 q
      refine V_iconst dX12_printHead_82 ?_
      refine V_callV (av := [vi z14, vi (-1)]) (stk := []) cvX12_296 rfl rfl rfl (by decide) (by simp [ctg]) dX12_printHead_83 h ?_
      rintro _ σ20 ⟨rfl, h⟩
      refine V_aload_n dX12_printHead_86 rfl rfl ?_
      refine V_callV (av := []) (stk := []) cvX12_391 rfl rfl rfl (by decide) (by simp [ctg]) dX12_printHead_87 h ?_
      rintro _ σ21 ⟨rfl, h⟩
      refine V_aload_n dX12_printHead_90 rfl rfl ?_
      refine V_callV (av := []) (stk := []) cvX12_373 rfl rfl rfl (by decide) (by simp [ctg]) dX12_printHead_91 h ?_
      rintro _ σ22 ⟨rfl, h⟩
      refine V_iload_n dX12_printHead_94 rfl rfl ?_
      refine V_iconst dX12_printHead_95 ?_
      refine V_icmp_eq (tgt := 105) dX12_printHead_96 rfl r1 (by decide) (fun q => ?_) (fun q => ?_)
      · replace h := h.1 q
        exact V.sub (SubL_s (SubL_s (SubL_n (SubL_s (SubL_n (SubL_0)))))) h
      · replace h := h.2 q
        refine V_aload_n dX12_printHead_99 rfl rfl ?_
        refine V_iload dX12_printHead_100 rfl ?_
        refine V_callV (av := [vi z14]) (stk := []) cvX12_403 rfl rfl rfl (by decide) (by simp [ctg]) dX12_printHead_102 h ?_
        rintro _ σ23 ⟨rfl, h⟩
        exact V.sub (SubL_s (SubL_s (SubL_n (SubL_s (SubL_n (SubL_0)))))) h
    · replace h := h.2 q
      refine V_bipush dX12_printHead_77 (by decide) ?_
      refine V_goto (tgt := 83) dX12_printHead_79 rfl ?_
      refine V_callV (av := [vi z14, vi (-2)]) (stk := []) cvX12_296 rfl rfl rfl (by decide) (by simp [ctg]) dX12_printHead_83 h ?_
      rintro _ σ24 ⟨rfl, h⟩
      refine V_aload_n dX12_printHead_86 rfl rfl ?_
      refine V_callV (av := []) (stk := []) cvX12_391 rfl rfl rfl (by decide) (by simp [ctg]) dX12_printHead_87 h ?_
      rintro _ σ25 ⟨rfl, h⟩
      refine V_aload_n dX12_printHead_90 rfl rfl ?_
      refine V_callV (av := []) (stk := []) cvX12_373 rfl rfl rfl (by decide) (by simp [ctg]) dX12_printHead_91 h ?_
      rintro _ σ26 ⟨rfl, h⟩
      refine V_iload_n dX12_printHead_94 rfl rfl ?_
      refine V_iconst dX12_printHead_95 ?_
      refine V_icmp_eq (tgt := 105) dX12_printHead_96 rfl r1 (by decide) (fun q => ?_) (fun q => ?_)
      · replace h := h.1 q
        exact V.sub (SubL_s (SubL_s (SubL_n (SubL_s (SubL_n (SubL_0)))))) h
      · replace h := h.2 q
        refine V_aload_n dX12_printHead_99 rfl rfl ?_
        refine V_iload dX12_printHead_100 rfl ?_
        refine V_callV (av := [vi z14]) (stk := []) cvX12_403 rfl rfl rfl (by decide) (by simp [ctg]) dX12_printHead_102 h ?_
        rintro _ σ27 ⟨rfl, h⟩
        exact V.sub (SubL_s (SubL_s (SubL_n (SubL_s (SubL_n (SubL_0)))))) h
set_option maxRecDepth 100000 in
theorem BX12_printHead_153 {σ : Sg} {post : Po} {x1 : Int} 
  (h : (0 ≤ x1 ∧ x1 < 16) ∧ ((rng (σ 99 x1)) ∧ (((σ 99 x1) = 0 → post none σ) ∧ (¬ (σ 99 x1) = 0 → Cl mX12_printAlso [vr 94, vi x1] σ (pV fun σ1 => post none σ1))))) :
  V mX12_printHead 153 [some (vr 94), some (vi x1), none, none, none] [] σ post := by
  refine V_aload_n dX12_printHead_153 rfl rfl ?_
  refine V_getR (k2 := 99) flX12_22 rfl rfl (by decide) dX12_printHead_154 ?_
  refine V_iload_n dX12_printHead_157 rfl rfl ?_
  obtain ⟨r1, h⟩ := h
  refine V_iald (f := (σ 99 x1)) (rfl : shp[99]? = some (1, 16, 0)) r1 (rfl) dX12_printHead_158 ?_
  obtain ⟨r2, h⟩ := h
  refine V_if_eq (tgt := 167) dX12_printHead_159 rfl r2 (fun q => ?_) (fun q => ?_)
  · replace h := h.1 q
    exact V_return (stk := []) rfl dX12_printHead_167 h
  · replace h := h.2 q
    refine V_aload_n dX12_printHead_162 rfl rfl ?_
    refine V_iload_n dX12_printHead_163 rfl rfl ?_
    refine V_callV (av := [vi x1]) (stk := []) cvX12_406 rfl rfl rfl (by decide) (by simp [ctg]) dX12_printHead_164 h ?_
    rintro _ σ1 ⟨rfl, h⟩
    exact V_return (stk := []) rfl dX12_printHead_167 h
set_option maxRecDepth 100000 in
theorem BX12_printHead_105 {σ : Sg} {post : Po} {x1 : Int} {x3 : Int} 
  (h : (rng x3) ∧ ((x3 = 0 → V mX12_printHead 153 [some (vr 94), some (vi x1), none, none, none] [] σ post) ∧ (¬ x3 = 0 → (0 ≤ x1 ∧ x1 < 16) ∧ ((rng (σ 98 x1)) ∧ (((σ 98 x1) < 0 → V mX12_printHead 153 [some (vr 94), some (vi x1), none, none, none] [] σ post) ∧ (¬ (σ 98 x1) < 0 → Cl mX12_beginRow [vr 94] σ (pV fun σ1 => Cl mX12_beginUnit [vr 94, vi 2] σ1 (pV fun σ2 => Cl mX12_signSee [vr 94] σ2 (pV fun σ3 => Cl mX12_slot [vi (σ3 98 x1), vi (-1)] σ3 (pI fun z4 σ4 => Cl mX12_signWord [vr 94, vi z4] σ4 (pV fun σ5 => Cl mX12_putUnit [vr 94] σ5 (pV fun σ6 => Cl mX12_endLine [vr 94] σ6 (pV fun σ7 => V mX12_printHead 153 [some (vr 94), some (vi x1), none, none, none] [] σ7 post))))))))))))) :
  V mX12_printHead 105 [some (vr 94), some (vi x1), none, some (vi x3), none] [] σ post := by
  refine V_iload_n dX12_printHead_105 rfl rfl ?_
  obtain ⟨r1, h⟩ := h
  refine V_if_eq (tgt := 153) dX12_printHead_106 rfl r1 (fun q => ?_) (fun q => ?_)
  · replace h := h.1 q
    exact V.sub (SubL_s (SubL_s (SubL_n (SubL_n (SubL_n (SubL_0)))))) h
  · replace h := h.2 q
    refine V_aload_n dX12_printHead_109 rfl rfl ?_
    refine V_getR (k2 := 98) flX12_19 rfl rfl (by decide) dX12_printHead_110 ?_
    refine V_iload_n dX12_printHead_113 rfl rfl ?_
    obtain ⟨r2, h⟩ := h
    refine V_iald (f := (σ 98 x1)) (rfl : shp[98]? = some (1, 16, 0)) r2 (rfl) dX12_printHead_114 ?_
    obtain ⟨r3, h⟩ := h
    refine V_if_lt (tgt := 153) dX12_printHead_115 rfl r3 (fun q => ?_) (fun q => ?_)
    · replace h := h.1 q
      exact V.sub (SubL_s (SubL_s (SubL_n (SubL_n (SubL_n (SubL_0)))))) h
    · replace h := h.2 q
      refine V_aload_n dX12_printHead_118 rfl rfl ?_
      refine V_callV (av := []) (stk := []) cvX12_385 rfl rfl rfl (by decide) (by simp [ctg]) dX12_printHead_119 h ?_
      rintro _ σ1 ⟨rfl, h⟩
      refine V_aload_n dX12_printHead_122 rfl rfl ?_
      refine V_iconst dX12_printHead_123 ?_
      refine V_callV (av := [vi 2]) (stk := []) cvX12_376 rfl rfl rfl (by decide) (by simp [ctg]) dX12_printHead_124 h ?_
      rintro _ σ2 ⟨rfl, h⟩
      refine V_aload_n dX12_printHead_127 rfl rfl ?_
      refine V_callV (av := []) (stk := []) cvX12_394 rfl rfl rfl (by decide) (by simp [ctg]) dX12_printHead_128 h ?_
      rintro _ σ3 ⟨rfl, h⟩
      refine V_aload_n dX12_printHead_131 rfl rfl ?_
      refine V_aload_n dX12_printHead_132 rfl rfl ?_
      refine V_getR (k2 := 98) flX12_19 rfl rfl (by decide) dX12_printHead_133 ?_
      refine V_iload_n dX12_printHead_136 rfl rfl ?_
      refine V_iald (f := (σ3 98 x1)) (rfl : shp[98]? = some (1, 16, 0)) r2 (rfl) dX12_printHead_137 ?_
      refine V_iconst dX12_printHead_138 ?_
      refine V_callS (av := [vi (σ3 98 x1), vi (-1)]) (stk := [vr 94]) cvX12_195 rfl rfl (by decide) (by simp [ctg]) dX12_printHead_139 h ?_
      rintro _ σ4 ⟨z4, rfl, h⟩
      refine V_callV (av := [vi z4]) (stk := []) cvX12_388 rfl rfl rfl (by decide) (by simp [ctg]) dX12_printHead_142 h ?_
      rintro _ σ5 ⟨rfl, h⟩
      refine V_aload_n dX12_printHead_145 rfl rfl ?_
      refine V_callV (av := []) (stk := []) cvX12_382 rfl rfl rfl (by decide) (by simp [ctg]) dX12_printHead_146 h ?_
      rintro _ σ6 ⟨rfl, h⟩
      refine V_aload_n dX12_printHead_149 rfl rfl ?_
      refine V_callV (av := []) (stk := []) cvX12_373 rfl rfl rfl (by decide) (by simp [ctg]) dX12_printHead_150 h ?_
      rintro _ σ7 ⟨rfl, h⟩
      exact V.sub (SubL_s (SubL_s (SubL_n (SubL_n (SubL_n (SubL_0)))))) h

set_option maxRecDepth 100000 in
theorem BX12_linesOf_0 {σ : Sg} {post : Po} {x1 : Int} {x2 : Int} 
  (h : Cl mX12_findOrder [vr 94] (up σ 94 31 0) (pV fun σ1 => Cl mX12_isPrinted [vr 94, vi x1] σ1 (pI fun z2 σ2 => (rng z2) ∧ ((z2 = 0 → V mX12_linesOf 28 [some (vr 94), none, none, some (vi 0), some (vi 0)] [] σ2 post) ∧ (¬ z2 = 0 → Cl mX12_printHead [vr 94, vi x1, vi x2] σ2 (pV fun σ3 => V mX12_linesOf 28 [some (vr 94), none, none, some (vi 0), some (vi 0)] [] σ3 post)))))) :
  V mX12_linesOf 0 [some (vr 94), some (vi x1), some (vi x2), none, none] [] σ post := by
  refine V_aload_n dX12_linesOf_0 rfl rfl ?_
  refine V_iconst dX12_linesOf_1 ?_
  refine V_putI flX12_355 rfl (by decide) dX12_linesOf_2 ?_
  refine V_aload_n dX12_linesOf_5 rfl rfl ?_
  refine V_callV (av := []) (stk := []) cvX12_345 rfl rfl rfl (by decide) (by simp [ctg]) dX12_linesOf_6 h ?_
  rintro _ σ1 ⟨rfl, h⟩
  refine V_aload_n dX12_linesOf_9 rfl rfl ?_
  refine V_iload_n dX12_linesOf_10 rfl rfl ?_
  refine V_callV (av := [vi x1]) (stk := []) cvX12_409 rfl rfl rfl (by decide) (by simp [ctg]) dX12_linesOf_11 h ?_
  rintro _ σ2 ⟨z2, rfl, h⟩
  obtain ⟨r1, h⟩ := h
  refine V_if_eq (tgt := 23) dX12_linesOf_14 rfl r1 (fun q => ?_) (fun q => ?_)
  · replace h := h.1 q
    refine V_iconst dX12_linesOf_23 ?_
    refine V_istore_n (L' := [some (vr 94), some (vi x1), some (vi x2), some (vi 0), none]) dX12_linesOf_24 rfl (by decide) rfl ?_
    refine V_iconst dX12_linesOf_25 ?_
    refine V_istore (L' := [some (vr 94), some (vi x1), some (vi x2), some (vi 0), some (vi 0)]) dX12_linesOf_26 (by decide) rfl ?_
    exact V.sub (SubL_s (SubL_n (SubL_n (SubL_s (SubL_s (SubL_0)))))) h
  · replace h := h.2 q
    refine V_aload_n dX12_linesOf_17 rfl rfl ?_
    refine V_iload_n dX12_linesOf_18 rfl rfl ?_
    refine V_iload_n dX12_linesOf_19 rfl rfl ?_
    refine V_callV (av := [vi x1, vi x2]) (stk := []) cvX12_412 rfl rfl rfl (by decide) (by simp [ctg]) dX12_linesOf_20 h ?_
    rintro _ σ3 ⟨rfl, h⟩
    refine V_iconst dX12_linesOf_23 ?_
    refine V_istore_n (L' := [some (vr 94), some (vi x1), some (vi x2), some (vi 0), none]) dX12_linesOf_24 rfl (by decide) rfl ?_
    refine V_iconst dX12_linesOf_25 ?_
    refine V_istore (L' := [some (vr 94), some (vi x1), some (vi x2), some (vi 0), some (vi 0)]) dX12_linesOf_26 (by decide) rfl ?_
    exact V.sub (SubL_s (SubL_n (SubL_n (SubL_s (SubL_s (SubL_0)))))) h
set_option maxRecDepth 100000 in
theorem BX12_linesOf_28 {σ : Sg} {post : Po} {x3 : Int} {x4 : Int} 
  (h : (rng x4) ∧ ((rng (σ 94 31)) ∧ (((σ 94 31) ≤ x4 → post (some (vi x3)) σ) ∧ (¬ (σ 94 31) ≤ x4 → (0 ≤ x4 ∧ x4 < 20000) ∧ ((rng (σ 109 x4)) ∧ ((¬ (σ 109 x4) = 10 → Cl mX12_one [vi 0] σ (pI fun z1 σ1 => V mX12_linesOf 28 [some (vr 94), none, none, some (vi (x3 + z1)), some (vi (x4 + 1))] [] σ1 post)) ∧ ((σ 109 x4) = 10 → Cl mX12_one [vi 1] σ (pI fun z2 σ2 => V mX12_linesOf 28 [some (vr 94), none, none, some (vi (x3 + z2)), some (vi (x4 + 1))] [] σ2 post)))))))) :
  V mX12_linesOf 28 [some (vr 94), none, none, some (vi x3), some (vi x4)] [] σ post := by
  refine V_iload dX12_linesOf_28 rfl ?_
  refine V_aload_n dX12_linesOf_30 rfl rfl ?_
  refine V_getI (f := (σ 94 31)) flX12_355 rfl (rfl) (by decide) dX12_linesOf_31 ?_
  obtain ⟨r1, h⟩ := h
  obtain ⟨r2, h⟩ := h
  refine V_icmp_ge (tgt := 66) dX12_linesOf_34 rfl r1 r2 (fun q => ?_) (fun q => ?_)
  · replace h := h.1 q
    refine V_iload_n dX12_linesOf_66 rfl rfl ?_
    exact V_ireturn (stk := []) rfl dX12_linesOf_67 h
  · replace h := h.2 q
    refine V_iload_n dX12_linesOf_37 rfl rfl ?_
    refine V_aload_n dX12_linesOf_38 rfl rfl ?_
    refine V_getR (k2 := 109) flX12_60 rfl rfl (by decide) dX12_linesOf_39 ?_
    refine V_iload dX12_linesOf_42 rfl ?_
    obtain ⟨r3, h⟩ := h
    refine V_iald (f := (σ 109 x4)) (rfl : shp[109]? = some (1, 20000, 0)) r3 (rfl) dX12_linesOf_44 ?_
    refine V_bipush dX12_linesOf_45 (by decide) ?_
    obtain ⟨r4, h⟩ := h
    refine V_icmp_ne (tgt := 54) dX12_linesOf_47 rfl r4 (by decide) (fun q => ?_) (fun q => ?_)
    · replace h := h.1 q
      refine V_iconst dX12_linesOf_54 ?_
      refine V_callS (av := [vi 0]) (stk := [vi x3]) cvX12_271 rfl rfl (by decide) (by simp [ctg]) dX12_linesOf_55 h ?_
      rintro _ σ1 ⟨z1, rfl, h⟩
      refine V_iadd dX12_linesOf_58 ?_
      refine V_istore_n (L' := [some (vr 94), none, none, some (vi (x3 + z1)), some (vi x4)]) dX12_linesOf_59 rfl (by decide) rfl ?_
      refine V_iinc (L' := [some (vr 94), none, none, some (vi (x3 + z1)), some (vi (x4 + 1))]) dX12_linesOf_60 rfl (by decide) rfl ?_
      refine V_goto (tgt := 28) dX12_linesOf_63 rfl ?_
      exact V.sub (SubL_s (SubL_n (SubL_n (SubL_s (SubL_s (SubL_0)))))) h
    · replace h := h.2 q
      refine V_iconst dX12_linesOf_50 ?_
      refine V_goto (tgt := 55) dX12_linesOf_51 rfl ?_
      refine V_callS (av := [vi 1]) (stk := [vi x3]) cvX12_271 rfl rfl (by decide) (by simp [ctg]) dX12_linesOf_55 h ?_
      rintro _ σ2 ⟨z2, rfl, h⟩
      refine V_iadd dX12_linesOf_58 ?_
      refine V_istore_n (L' := [some (vr 94), none, none, some (vi (x3 + z2)), some (vi x4)]) dX12_linesOf_59 rfl (by decide) rfl ?_
      refine V_iinc (L' := [some (vr 94), none, none, some (vi (x3 + z2)), some (vi (x4 + 1))]) dX12_linesOf_60 rfl (by decide) rfl ?_
      refine V_goto (tgt := 28) dX12_linesOf_63 rfl ?_
      exact V.sub (SubL_s (SubL_n (SubL_n (SubL_s (SubL_s (SubL_0)))))) h

set_option maxRecDepth 100000 in
theorem BX12_linesOfAll_0 {σ : Sg} {post : Po} {x1 : Int} 
  (h : V mX12_linesOfAll 4 [some (vr 94), some (vi x1), some (vi 0), some (vi 0)] [] σ post) :
  V mX12_linesOfAll 0 [some (vr 94), some (vi x1), none, none] [] σ post := by
  refine V_iconst dX12_linesOfAll_0 ?_
  refine V_istore_n (L' := [some (vr 94), some (vi x1), some (vi 0), none]) dX12_linesOfAll_1 rfl (by decide) rfl ?_
  refine V_iconst dX12_linesOfAll_2 ?_
  refine V_istore_n (L' := [some (vr 94), some (vi x1), some (vi 0), some (vi 0)]) dX12_linesOfAll_3 rfl (by decide) rfl ?_
  exact V.sub (SubL_s (SubL_s (SubL_s (SubL_s (SubL_0))))) h
set_option maxRecDepth 100000 in
theorem BX12_linesOfAll_4 {σ : Sg} {post : Po} {x1 : Int} {x2 : Int} {x3 : Int} 
  (h : (rng x3) ∧ ((rng (σ 94 0)) ∧ (((σ 94 0) ≤ x3 → post (some (vi x2)) σ) ∧ (¬ (σ 94 0) ≤ x3 → Cl mX12_has [vi x1, vi x3] σ (pI fun z1 σ1 => (rng z1) ∧ ((z1 = 0 → Cl mX12_linesOf [vr 94, vi x3, vi 0] σ1 (pI fun z2 σ2 => V mX12_linesOfAll 4 [some (vr 94), some (vi x1), some (vi (x2 + z2)), some (vi (x3 + 1))] [] σ2 post)) ∧ (¬ z1 = 0 → Cl mX12_linesOf [vr 94, vi x3, vi 2] σ1 (pI fun z3 σ3 => V mX12_linesOfAll 4 [some (vr 94), some (vi x1), some (vi (x2 + z3)), some (vi (x3 + 1))] [] σ3 post)))))))) :
  V mX12_linesOfAll 4 [some (vr 94), some (vi x1), some (vi x2), some (vi x3)] [] σ post := by
  refine V_iload_n dX12_linesOfAll_4 rfl rfl ?_
  refine V_aload_n dX12_linesOfAll_5 rfl rfl ?_
  refine V_getI (f := (σ 94 0)) flX12_192 rfl (rfl) (by decide) dX12_linesOfAll_6 ?_
  obtain ⟨r1, h⟩ := h
  obtain ⟨r2, h⟩ := h
  refine V_icmp_ge (tgt := 39) dX12_linesOfAll_9 rfl r1 r2 (fun q => ?_) (fun q => ?_)
  · replace h := h.1 q
    refine V_iload_n dX12_linesOfAll_39 rfl rfl ?_
    exact V_ireturn (stk := []) rfl dX12_linesOfAll_40 h
  · replace h := h.2 q
    refine V_iload_n dX12_linesOfAll_12 rfl rfl ?_
    refine V_aload_n dX12_linesOfAll_13 rfl rfl ?_
    refine V_iload_n dX12_linesOfAll_14 rfl rfl ?_
    refine V_iload_n dX12_linesOfAll_15 rfl rfl ?_
    refine V_iload_n dX12_linesOfAll_16 rfl rfl ?_
    refine V_callS (av := [vi x1, vi x3]) (stk := [vi x3, vr 94, vi x2]) cvX12_237 rfl rfl (by decide) (by simp [ctg]) dX12_linesOfAll_17 h ?_
    rintro _ σ1 ⟨z1, rfl, h⟩
    obtain ⟨r3, h⟩ := h
    refine V_if_eq (tgt := 27) dX12_linesOfAll_20 rfl r3 (fun q => ?_) (fun q => ?_)
    · replace h := h.1 q
      refine V_iconst dX12_linesOfAll_27 ?_
      refine V_callV (av := [vi x3, vi 0]) (stk := [vi x2]) cvX12_303 rfl rfl rfl (by decide) (by simp [ctg]) dX12_linesOfAll_28 h ?_
      rintro _ σ2 ⟨z2, rfl, h⟩
      refine V_iadd dX12_linesOfAll_31 ?_
      refine V_istore_n (L' := [some (vr 94), some (vi x1), some (vi (x2 + z2)), some (vi x3)]) dX12_linesOfAll_32 rfl (by decide) rfl ?_
      refine V_iinc (L' := [some (vr 94), some (vi x1), some (vi (x2 + z2)), some (vi (x3 + 1))]) dX12_linesOfAll_33 rfl (by decide) rfl ?_
      refine V_goto (tgt := 4) dX12_linesOfAll_36 rfl ?_
      exact V.sub (SubL_s (SubL_s (SubL_s (SubL_s (SubL_0))))) h
    · replace h := h.2 q
      refine V_iconst dX12_linesOfAll_23 ?_
      refine V_goto (tgt := 28) dX12_linesOfAll_24 rfl ?_
      refine V_callV (av := [vi x3, vi 2]) (stk := [vi x2]) cvX12_303 rfl rfl rfl (by decide) (by simp [ctg]) dX12_linesOfAll_28 h ?_
      rintro _ σ3 ⟨z3, rfl, h⟩
      refine V_iadd dX12_linesOfAll_31 ?_
      refine V_istore_n (L' := [some (vr 94), some (vi x1), some (vi (x2 + z3)), some (vi x3)]) dX12_linesOfAll_32 rfl (by decide) rfl ?_
      refine V_iinc (L' := [some (vr 94), some (vi x1), some (vi (x2 + z3)), some (vi (x3 + 1))]) dX12_linesOfAll_33 rfl (by decide) rfl ?_
      refine V_goto (tgt := 4) dX12_linesOfAll_36 rfl ?_
      exact V.sub (SubL_s (SubL_s (SubL_s (SubL_s (SubL_0))))) h

set_option maxRecDepth 100000 in
theorem BX12_bytesOfAll_0 {σ : Sg} {post : Po}  
  (h : Cl mX12_findOrder [vr 94] (up σ 94 31 0) (pV fun σ1 => V mX12_bytesOfAll 11 [some (vr 94), some (vi 0), none] [] σ1 post)) :
  V mX12_bytesOfAll 0 [some (vr 94), none, none] [] σ post := by
  refine V_aload_n dX12_bytesOfAll_0 rfl rfl ?_
  refine V_iconst dX12_bytesOfAll_1 ?_
  refine V_putI flX12_355 rfl (by decide) dX12_bytesOfAll_2 ?_
  refine V_aload_n dX12_bytesOfAll_5 rfl rfl ?_
  refine V_callV (av := []) (stk := []) cvX12_345 rfl rfl rfl (by decide) (by simp [ctg]) dX12_bytesOfAll_6 h ?_
  rintro _ σ1 ⟨rfl, h⟩
  refine V_iconst dX12_bytesOfAll_9 ?_
  refine V_istore_n (L' := [some (vr 94), some (vi 0), none]) dX12_bytesOfAll_10 rfl (by decide) rfl ?_
  exact V.sub (SubL_s (SubL_s (SubL_n (SubL_0)))) h
set_option maxRecDepth 100000 in
theorem BX12_bytesOfAll_11 {σ : Sg} {post : Po} {x1 : Int} 
  (h : (rng x1) ∧ ((rng (σ 94 0)) ∧ (((σ 94 0) ≤ x1 → post (some (vi (σ 94 31))) σ) ∧ (¬ (σ 94 0) ≤ x1 → (0 ≤ x1 ∧ x1 < 16) ∧ (Cl mX12_isPrinted [vr 94, vi (σ 108 x1)] σ (pI fun z1 σ1 => (rng z1) ∧ ((z1 = 0 → V mX12_bytesOfAll 11 [some (vr 94), some (vi (x1 + 1)), none] [] σ1 post) ∧ (¬ z1 = 0 → Cl mX12_printHead [vr 94, vi (σ 108 x1), vi 0] σ1 (pV fun σ2 => V mX12_bytesOfAll 11 [some (vr 94), some (vi (x1 + 1)), none] [] σ2 post))))))))) :
  V mX12_bytesOfAll 11 [some (vr 94), some (vi x1), none] [] σ post := by
  refine V_iload_n dX12_bytesOfAll_11 rfl rfl ?_
  refine V_aload_n dX12_bytesOfAll_12 rfl rfl ?_
  refine V_getI (f := (σ 94 0)) flX12_192 rfl (rfl) (by decide) dX12_bytesOfAll_13 ?_
  obtain ⟨r1, h⟩ := h
  obtain ⟨r2, h⟩ := h
  refine V_icmp_ge (tgt := 46) dX12_bytesOfAll_16 rfl r1 r2 (fun q => ?_) (fun q => ?_)
  · replace h := h.1 q
    refine V_aload_n dX12_bytesOfAll_46 rfl rfl ?_
    refine V_getI (f := (σ 94 31)) flX12_355 rfl (rfl) (by decide) dX12_bytesOfAll_47 ?_
    exact V_ireturn (stk := []) rfl dX12_bytesOfAll_50 h
  · replace h := h.2 q
    refine V_aload_n dX12_bytesOfAll_19 rfl rfl ?_
    refine V_getR (k2 := 108) flX12_57 rfl rfl (by decide) dX12_bytesOfAll_20 ?_
    refine V_iload_n dX12_bytesOfAll_23 rfl rfl ?_
    obtain ⟨r3, h⟩ := h
    refine V_iald (f := (σ 108 x1)) (rfl : shp[108]? = some (1, 16, 0)) r3 (rfl) dX12_bytesOfAll_24 ?_
    refine V_istore_n (L' := [some (vr 94), some (vi x1), some (vi (σ 108 x1))]) dX12_bytesOfAll_25 rfl (by decide) rfl ?_
    refine V_aload_n dX12_bytesOfAll_26 rfl rfl ?_
    refine V_iload_n dX12_bytesOfAll_27 rfl rfl ?_
    refine V_callV (av := [vi (σ 108 x1)]) (stk := []) cvX12_409 rfl rfl rfl (by decide) (by simp [ctg]) dX12_bytesOfAll_28 h ?_
    rintro _ σ1 ⟨z1, rfl, h⟩
    obtain ⟨r4, h⟩ := h
    refine V_if_eq (tgt := 40) dX12_bytesOfAll_31 rfl r4 (fun q => ?_) (fun q => ?_)
    · replace h := h.1 q
      refine V_iinc (L' := [some (vr 94), some (vi (x1 + 1)), some (vi (σ 108 x1))]) dX12_bytesOfAll_40 rfl (by decide) rfl ?_
      refine V_goto (tgt := 11) dX12_bytesOfAll_43 rfl ?_
      exact V.sub (SubL_s (SubL_s (SubL_n (SubL_0)))) h
    · replace h := h.2 q
      refine V_aload_n dX12_bytesOfAll_34 rfl rfl ?_
      refine V_iload_n dX12_bytesOfAll_35 rfl rfl ?_
      refine V_iconst dX12_bytesOfAll_36 ?_
      refine V_callV (av := [vi (σ 108 x1), vi 0]) (stk := []) cvX12_412 rfl rfl rfl (by decide) (by simp [ctg]) dX12_bytesOfAll_37 h ?_
      rintro _ σ2 ⟨rfl, h⟩
      refine V_iinc (L' := [some (vr 94), some (vi (x1 + 1)), some (vi (σ 108 x1))]) dX12_bytesOfAll_40 rfl (by decide) rfl ?_
      refine V_goto (tgt := 11) dX12_bytesOfAll_43 rfl ?_
      exact V.sub (SubL_s (SubL_s (SubL_n (SubL_0)))) h

set_option maxRecDepth 100000 in
theorem BX12_print_0 {σ : Sg} {post : Po} {x1 : Int} 
  (h : (rng x1) ∧ (Cl mX12_bytesOfAll [vr 94] σ (pI fun z1 σ1 => (rng (z1 - 1)) ∧ (Cl mX12_in [vl x1, vl 0, vl (z1 - 1)] σ1 (pI fun z2 σ2 => (rng z2) ∧ ((z2 = 0 → post (some (vi (-1))) σ2) ∧ (¬ z2 = 0 → (0 ≤ x1 ∧ x1 < 20000) ∧ (post (some (vi (σ2 109 x1))) σ2)))))))) :
  V mX12_print 0 [some (vr 94), some (vi x1)] [] σ post := by
  refine V_iload_n dX12_print_0 rfl rfl ?_
  obtain ⟨r1, h⟩ := h
  refine V_i2l dX12_print_1 r1 ?_
  refine V_lconst (z := 0) dX12_print_2 rfl ?_
  refine V_aload_n dX12_print_3 rfl rfl ?_
  refine V_callV (av := []) (stk := [vl 0, vl x1]) cvX12_287 rfl rfl rfl (by decide) (by simp [ctg]) dX12_print_4 h ?_
  rintro _ σ1 ⟨z1, rfl, h⟩
  refine V_iconst dX12_print_7 ?_
  refine V_isub dX12_print_8 ?_
  obtain ⟨r2, h⟩ := h
  refine V_i2l dX12_print_9 r2 ?_
  refine V_callS (av := [vl x1, vl 0, vl (z1 - 1)]) (stk := []) cvX12_146 rfl rfl (by decide) (by simp [ctg]) dX12_print_10 h ?_
  rintro _ σ2 ⟨z2, rfl, h⟩
  obtain ⟨r3, h⟩ := h
  refine V_if_eq (tgt := 25) dX12_print_13 rfl r3 (fun q => ?_) (fun q => ?_)
  · replace h := h.1 q
    refine V_iconst dX12_print_25 ?_
    exact V_ireturn (stk := []) rfl dX12_print_26 h
  · replace h := h.2 q
    refine V_aload_n dX12_print_16 rfl rfl ?_
    refine V_getR (k2 := 109) flX12_60 rfl rfl (by decide) dX12_print_17 ?_
    refine V_iload_n dX12_print_20 rfl rfl ?_
    obtain ⟨r4, h⟩ := h
    refine V_iald (f := (σ2 109 x1)) (rfl : shp[109]? = some (1, 20000, 0)) r4 (rfl) dX12_print_21 ?_
    refine V_goto (tgt := 26) dX12_print_22 rfl ?_
    exact V_ireturn (stk := []) rfl dX12_print_26 h

set_option maxRecDepth 100000 in
theorem BX12_foundFrom_0 {σ : Sg} {post : Po} {x1 : Int} 
  (h : V mX12_foundFrom 7 [some (vr 94), none, some (vi x1)] [] (up σ 94 36 0) post) :
  V mX12_foundFrom 0 [some (vr 94), some (vi x1), none] [] σ post := by
  refine V_iload_n dX12_foundFrom_0 rfl rfl ?_
  refine V_istore_n (L' := [some (vr 94), some (vi x1), some (vi x1)]) dX12_foundFrom_1 rfl (by decide) rfl ?_
  refine V_aload_n dX12_foundFrom_2 rfl rfl ?_
  refine V_iconst dX12_foundFrom_3 ?_
  refine V_putI flX12_415 rfl (by decide) dX12_foundFrom_4 ?_
  exact V.sub (SubL_s (SubL_n (SubL_s (SubL_0)))) h
set_option maxRecDepth 100000 in
theorem BX12_foundFrom_7 {σ : Sg} {post : Po} {x2 : Int} 
  (h : Cl mX12_isFilled [vr 94, vi x2] σ (pI fun z1 σ1 => (rng z1) ∧ ((¬ z1 = 0 → Cl mX12_isFilled [vr 94, vi x2] σ1 (pI fun z2 σ2 => (rng z2) ∧ ((z2 = 0 → post (some (vi (-1))) σ2) ∧ (¬ z2 = 0 → post (some (vi x2)) σ2)))) ∧ (z1 = 0 → (0 ≤ x2 ∧ x2 < 16) ∧ ((rng (σ1 98 x2)) ∧ (((σ1 98 x2) < 0 → Cl mX12_isFilled [vr 94, vi x2] σ1 (pI fun z3 σ3 => (rng z3) ∧ ((z3 = 0 → post (some (vi (-1))) σ3) ∧ (¬ z3 = 0 → post (some (vi x2)) σ3)))) ∧ (¬ (σ1 98 x2) < 0 → (rng (σ1 94 36)) ∧ ((16 ≤ (σ1 94 36) → Cl mX12_isFilled [vr 94, vi x2] σ1 (pI fun z4 σ4 => (rng z4) ∧ ((z4 = 0 → post (some (vi (-1))) σ4) ∧ (¬ z4 = 0 → post (some (vi x2)) σ4)))) ∧ (¬ 16 ≤ (σ1 94 36) → V mX12_foundFrom 7 [some (vr 94), none, some (vi (σ1 98 x2))] [] (up σ1 94 36 ((σ1 94 36) + 1)) post))))))))) :
  V mX12_foundFrom 7 [some (vr 94), none, some (vi x2)] [] σ post := by
  refine V_aload_n dX12_foundFrom_7 rfl rfl ?_
  refine V_iload_n dX12_foundFrom_8 rfl rfl ?_
  refine V_callV (av := [vi x2]) (stk := []) cvX12_278 rfl rfl rfl (by decide) (by simp [ctg]) dX12_foundFrom_9 h ?_
  rintro _ σ1 ⟨z1, rfl, h⟩
  obtain ⟨r1, h⟩ := h
  refine V_if_ne (tgt := 53) dX12_foundFrom_12 rfl r1 (fun q => ?_) (fun q => ?_)
  · replace h := h.1 q
    refine V_aload_n dX12_foundFrom_53 rfl rfl ?_
    refine V_iload_n dX12_foundFrom_54 rfl rfl ?_
    refine V_callV (av := [vi x2]) (stk := []) cvX12_278 rfl rfl rfl (by decide) (by simp [ctg]) dX12_foundFrom_55 h ?_
    rintro _ σ2 ⟨z2, rfl, h⟩
    obtain ⟨r2, h⟩ := h
    refine V_if_eq (tgt := 65) dX12_foundFrom_58 rfl r2 (fun q => ?_) (fun q => ?_)
    · replace h := h.1 q
      refine V_iconst dX12_foundFrom_65 ?_
      exact V_ireturn (stk := []) rfl dX12_foundFrom_66 h
    · replace h := h.2 q
      refine V_iload_n dX12_foundFrom_61 rfl rfl ?_
      refine V_goto (tgt := 66) dX12_foundFrom_62 rfl ?_
      exact V_ireturn (stk := []) rfl dX12_foundFrom_66 h
  · replace h := h.2 q
    refine V_aload_n dX12_foundFrom_15 rfl rfl ?_
    refine V_getR (k2 := 98) flX12_19 rfl rfl (by decide) dX12_foundFrom_16 ?_
    refine V_iload_n dX12_foundFrom_19 rfl rfl ?_
    obtain ⟨r3, h⟩ := h
    refine V_iald (f := (σ1 98 x2)) (rfl : shp[98]? = some (1, 16, 0)) r3 (rfl) dX12_foundFrom_20 ?_
    obtain ⟨r4, h⟩ := h
    refine V_if_lt (tgt := 53) dX12_foundFrom_21 rfl r4 (fun q => ?_) (fun q => ?_)
    · replace h := h.1 q
      refine V_aload_n dX12_foundFrom_53 rfl rfl ?_
      refine V_iload_n dX12_foundFrom_54 rfl rfl ?_
      refine V_callV (av := [vi x2]) (stk := []) cvX12_278 rfl rfl rfl (by decide) (by simp [ctg]) dX12_foundFrom_55 h ?_
      rintro _ σ3 ⟨z3, rfl, h⟩
      obtain ⟨r5, h⟩ := h
      refine V_if_eq (tgt := 65) dX12_foundFrom_58 rfl r5 (fun q => ?_) (fun q => ?_)
      · replace h := h.1 q
        refine V_iconst dX12_foundFrom_65 ?_
        exact V_ireturn (stk := []) rfl dX12_foundFrom_66 h
      · replace h := h.2 q
        refine V_iload_n dX12_foundFrom_61 rfl rfl ?_
        refine V_goto (tgt := 66) dX12_foundFrom_62 rfl ?_
        exact V_ireturn (stk := []) rfl dX12_foundFrom_66 h
    · replace h := h.2 q
      refine V_aload_n dX12_foundFrom_24 rfl rfl ?_
      refine V_getI (f := (σ1 94 36)) flX12_415 rfl (rfl) (by decide) dX12_foundFrom_25 ?_
      refine V_bipush dX12_foundFrom_28 (by decide) ?_
      obtain ⟨r6, h⟩ := h
      refine V_icmp_ge (tgt := 53) dX12_foundFrom_30 rfl r6 (by decide) (fun q => ?_) (fun q => ?_)
      · replace h := h.1 q
        refine V_aload_n dX12_foundFrom_53 rfl rfl ?_
        refine V_iload_n dX12_foundFrom_54 rfl rfl ?_
        refine V_callV (av := [vi x2]) (stk := []) cvX12_278 rfl rfl rfl (by decide) (by simp [ctg]) dX12_foundFrom_55 h ?_
        rintro _ σ4 ⟨z4, rfl, h⟩
        obtain ⟨r7, h⟩ := h
        refine V_if_eq (tgt := 65) dX12_foundFrom_58 rfl r7 (fun q => ?_) (fun q => ?_)
        · replace h := h.1 q
          refine V_iconst dX12_foundFrom_65 ?_
          exact V_ireturn (stk := []) rfl dX12_foundFrom_66 h
        · replace h := h.2 q
          refine V_iload_n dX12_foundFrom_61 rfl rfl ?_
          refine V_goto (tgt := 66) dX12_foundFrom_62 rfl ?_
          exact V_ireturn (stk := []) rfl dX12_foundFrom_66 h
      · replace h := h.2 q
        refine V_aload_n dX12_foundFrom_33 rfl rfl ?_
        refine V_getR (k2 := 98) flX12_19 rfl rfl (by decide) dX12_foundFrom_34 ?_
        refine V_iload_n dX12_foundFrom_37 rfl rfl ?_
        refine V_iald (f := (σ1 98 x2)) (rfl : shp[98]? = some (1, 16, 0)) r3 (rfl) dX12_foundFrom_38 ?_
        refine V_istore_n (L' := [some (vr 94), none, some (vi (σ1 98 x2))]) dX12_foundFrom_39 rfl (by decide) rfl ?_
        refine V_aload_n dX12_foundFrom_40 rfl rfl ?_
        refine V_dup dX12_foundFrom_41 trivial ?_
        refine V_getI (f := (σ1 94 36)) flX12_415 rfl (rfl) (by decide) dX12_foundFrom_42 ?_
        refine V_iconst dX12_foundFrom_45 ?_
        refine V_iadd dX12_foundFrom_46 ?_
        refine V_putI flX12_415 rfl (by decide) dX12_foundFrom_47 ?_
        refine V_goto (tgt := 7) dX12_foundFrom_50 rfl ?_
        exact V.sub (SubL_s (SubL_n (SubL_s (SubL_0)))) h

set_option maxRecDepth 100000 in
theorem BX12_look_0 {σ : Sg} {post : Po} {x1 : Int} {x2 : Int} 
  (h : Cl mX12_noHead [vr 94, vi x1] σ (pI fun z1 σ1 => (rng z1) ∧ ((z1 = 0 → (rng x2) ∧ (Cl mX12_in [vl x2, vl 0, vl 1] σ1 (pI fun z2 σ2 => (rng z2) ∧ ((¬ z2 = 0 → Cl mX12_foundFrom [vr 94, vi x1] σ2 (pI fun z3 σ3 => (rng z3) ∧ ((z3 < 0 → post (some (vi z3)) σ3) ∧ (¬ z3 < 0 → (¬ x2 = 0 → post (some (vi (σ3 94 36))) σ3) ∧ (x2 = 0 → post (some (vi z3)) σ3))))) ∧ (z2 = 0 → post (some (vi (-1002))) σ2))))) ∧ (¬ z1 = 0 → post (some (vi (-1001))) σ1)))) :
  V mX12_look 0 [some (vr 94), some (vi x1), some (vi x2), none] [] σ post := by
  refine V_aload_n dX12_look_0 rfl rfl ?_
  refine V_iload_n dX12_look_1 rfl rfl ?_
  refine V_callV (av := [vi x1]) (stk := []) cvX12_293 rfl rfl rfl (by decide) (by simp [ctg]) dX12_look_2 h ?_
  rintro _ σ1 ⟨z1, rfl, h⟩
  obtain ⟨r1, h⟩ := h
  refine V_if_eq (tgt := 12) dX12_look_5 rfl r1 (fun q => ?_) (fun q => ?_)
  · replace h := h.1 q
    refine V_iload_n dX12_look_12 rfl rfl ?_
    obtain ⟨r2, h⟩ := h
    refine V_i2l dX12_look_13 r2 ?_
    refine V_lconst (z := 0) dX12_look_14 rfl ?_
    refine V_lconst (z := 1) dX12_look_15 rfl ?_
    refine V_callS (av := [vl x2, vl 0, vl 1]) (stk := []) cvX12_146 rfl rfl (by decide) (by simp [ctg]) dX12_look_16 h ?_
    rintro _ σ2 ⟨z2, rfl, h⟩
    obtain ⟨r3, h⟩ := h
    refine V_if_ne (tgt := 26) dX12_look_19 rfl r3 (fun q => ?_) (fun q => ?_)
    · replace h := h.1 q
      refine V_aload_n dX12_look_26 rfl rfl ?_
      refine V_iload_n dX12_look_27 rfl rfl ?_
      refine V_callV (av := [vi x1]) (stk := []) cvX12_400 rfl rfl rfl (by decide) (by simp [ctg]) dX12_look_28 h ?_
      rintro _ σ3 ⟨z3, rfl, h⟩
      refine V_istore_n (L' := [some (vr 94), some (vi x1), some (vi x2), some (vi z3)]) dX12_look_31 rfl (by decide) rfl ?_
      refine V_iload_n dX12_look_32 rfl rfl ?_
      obtain ⟨r4, h⟩ := h
      refine V_if_lt (tgt := 40) dX12_look_33 rfl r4 (fun q => ?_) (fun q => ?_)
      · replace h := h.1 q
        refine V_iload_n dX12_look_40 rfl rfl ?_
        refine V_goto (tgt := 48) dX12_look_41 rfl ?_
        exact V_ireturn (stk := []) rfl dX12_look_48 h
      · replace h := h.2 q
        refine V_iload_n dX12_look_36 rfl rfl ?_
        refine V_if_ne (tgt := 44) dX12_look_37 rfl r2 (fun q => ?_) (fun q => ?_)
        · replace h := h.1 q
          refine V_aload_n dX12_look_44 rfl rfl ?_
          refine V_getI (f := (σ3 94 36)) flX12_415 rfl (rfl) (by decide) dX12_look_45 ?_
          exact V_ireturn (stk := []) rfl dX12_look_48 h
        · replace h := h.2 q
          refine V_iload_n dX12_look_40 rfl rfl ?_
          refine V_goto (tgt := 48) dX12_look_41 rfl ?_
          exact V_ireturn (stk := []) rfl dX12_look_48 h
    · replace h := h.2 q
      refine V_sipush dX12_look_22 (by decide) ?_
      exact V_ireturn (stk := []) rfl dX12_look_25 h
  · replace h := h.2 q
    refine V_sipush dX12_look_8 (by decide) ?_
    exact V_ireturn (stk := []) rfl dX12_look_11 h

set_option maxRecDepth 100000 in
theorem BX12_stepOn_0 {σ : Sg} {post : Po} {x1 : Int} 
  (h : V mX12_stepOn 4 [some (vr 94), some (vi x1), some (vi x1), some (vi 0)] [] σ post) :
  V mX12_stepOn 0 [some (vr 94), some (vi x1), none, none] [] σ post := by
  refine V_iload_n dX12_stepOn_0 rfl rfl ?_
  refine V_istore_n (L' := [some (vr 94), some (vi x1), some (vi x1), none]) dX12_stepOn_1 rfl (by decide) rfl ?_
  refine V_iconst dX12_stepOn_2 ?_
  refine V_istore_n (L' := [some (vr 94), some (vi x1), some (vi x1), some (vi 0)]) dX12_stepOn_3 rfl (by decide) rfl ?_
  exact V.sub (SubL_s (SubL_s (SubL_s (SubL_s (SubL_0))))) h
set_option maxRecDepth 100000 in
theorem BX12_stepOn_4 {σ : Sg} {post : Po} {x1 : Int} {x2 : Int} {x3 : Int} 
  (h : (rng x3) ∧ ((rng (σ 94 0)) ∧ (((σ 94 0) ≤ x3 → post (some (vi x2)) σ) ∧ (¬ (σ 94 0) ≤ x3 → Cl mX12_has [vi x1, vi x3] σ (pI fun z1 σ1 => (rng z1) ∧ ((¬ z1 = 0 → (0 ≤ x3 ∧ x3 < 16) ∧ ((rng (σ1 98 x3)) ∧ (((σ1 98 x3) < 0 → V mX12_stepOn 4 [some (vr 94), some (vi x1), some (vi (iOr x2 (iOr (σ1 99 x3) 0))), some (vi (x3 + 1))] [] σ1 post) ∧ (¬ (σ1 98 x3) < 0 → V mX12_stepOn 4 [some (vr 94), some (vi x1), some (vi (iOr x2 (iOr (σ1 99 x3) (iShl 1 (σ1 98 x3))))), some (vi (x3 + 1))] [] σ1 post)))) ∧ (z1 = 0 → V mX12_stepOn 4 [some (vr 94), some (vi x1), some (vi (iOr x2 0)), some (vi (x3 + 1))] [] σ1 post))))))) :
  V mX12_stepOn 4 [some (vr 94), some (vi x1), some (vi x2), some (vi x3)] [] σ post := by
  refine V_iload_n dX12_stepOn_4 rfl rfl ?_
  refine V_aload_n dX12_stepOn_5 rfl rfl ?_
  refine V_getI (f := (σ 94 0)) flX12_192 rfl (rfl) (by decide) dX12_stepOn_6 ?_
  obtain ⟨r1, h⟩ := h
  obtain ⟨r2, h⟩ := h
  refine V_icmp_ge (tgt := 61) dX12_stepOn_9 rfl r1 r2 (fun q => ?_) (fun q => ?_)
  · replace h := h.1 q
    refine V_iload_n dX12_stepOn_61 rfl rfl ?_
    exact V_ireturn (stk := []) rfl dX12_stepOn_62 h
  · replace h := h.2 q
    refine V_iload_n dX12_stepOn_12 rfl rfl ?_
    refine V_iload_n dX12_stepOn_13 rfl rfl ?_
    refine V_iload_n dX12_stepOn_14 rfl rfl ?_
    refine V_callS (av := [vi x1, vi x3]) (stk := [vi x2]) cvX12_237 rfl rfl (by decide) (by simp [ctg]) dX12_stepOn_15 h ?_
    rintro _ σ1 ⟨z1, rfl, h⟩
    obtain ⟨r3, h⟩ := h
    refine V_if_ne (tgt := 25) dX12_stepOn_18 rfl r3 (fun q => ?_) (fun q => ?_)
    · replace h := h.1 q
      refine V_aload_n dX12_stepOn_25 rfl rfl ?_
      refine V_getR (k2 := 99) flX12_22 rfl rfl (by decide) dX12_stepOn_26 ?_
      refine V_iload_n dX12_stepOn_29 rfl rfl ?_
      obtain ⟨r4, h⟩ := h
      refine V_iald (f := (σ1 99 x3)) (rfl : shp[99]? = some (1, 16, 0)) r4 (rfl) dX12_stepOn_30 ?_
      refine V_aload_n dX12_stepOn_31 rfl rfl ?_
      refine V_getR (k2 := 98) flX12_19 rfl rfl (by decide) dX12_stepOn_32 ?_
      refine V_iload_n dX12_stepOn_35 rfl rfl ?_
      refine V_iald (f := (σ1 98 x3)) (rfl : shp[98]? = some (1, 16, 0)) r4 (rfl) dX12_stepOn_36 ?_
      obtain ⟨r5, h⟩ := h
      refine V_if_lt (tgt := 51) dX12_stepOn_37 rfl r5 (fun q => ?_) (fun q => ?_)
      · replace h := h.1 q
        refine V_iconst dX12_stepOn_51 ?_
        refine V_ior dX12_stepOn_52 ?_
        refine V_ior dX12_stepOn_53 ?_
        refine V_istore_n (L' := [some (vr 94), some (vi x1), some (vi (iOr x2 (iOr (σ1 99 x3) 0))), some (vi x3)]) dX12_stepOn_54 rfl (by decide) rfl ?_
        refine V_iinc (L' := [some (vr 94), some (vi x1), some (vi (iOr x2 (iOr (σ1 99 x3) 0))), some (vi (x3 + 1))]) dX12_stepOn_55 rfl (by decide) rfl ?_
        refine V_goto (tgt := 4) dX12_stepOn_58 rfl ?_
        exact V.sub (SubL_s (SubL_s (SubL_s (SubL_s (SubL_0))))) h
      · replace h := h.2 q
        refine V_iconst dX12_stepOn_40 ?_
        refine V_aload_n dX12_stepOn_41 rfl rfl ?_
        refine V_getR (k2 := 98) flX12_19 rfl rfl (by decide) dX12_stepOn_42 ?_
        refine V_iload_n dX12_stepOn_45 rfl rfl ?_
        refine V_iald (f := (σ1 98 x3)) (rfl : shp[98]? = some (1, 16, 0)) r4 (rfl) dX12_stepOn_46 ?_
        refine V_ishl dX12_stepOn_47 ?_
        refine V_goto (tgt := 52) dX12_stepOn_48 rfl ?_
        refine V_ior dX12_stepOn_52 ?_
        refine V_ior dX12_stepOn_53 ?_
        refine V_istore_n (L' := [some (vr 94), some (vi x1), some (vi (iOr x2 (iOr (σ1 99 x3) (iShl 1 (σ1 98 x3))))), some (vi x3)]) dX12_stepOn_54 rfl (by decide) rfl ?_
        refine V_iinc (L' := [some (vr 94), some (vi x1), some (vi (iOr x2 (iOr (σ1 99 x3) (iShl 1 (σ1 98 x3))))), some (vi (x3 + 1))]) dX12_stepOn_55 rfl (by decide) rfl ?_
        refine V_goto (tgt := 4) dX12_stepOn_58 rfl ?_
        exact V.sub (SubL_s (SubL_s (SubL_s (SubL_s (SubL_0))))) h
    · replace h := h.2 q
      refine V_iconst dX12_stepOn_21 ?_
      refine V_goto (tgt := 53) dX12_stepOn_22 rfl ?_
      refine V_ior dX12_stepOn_53 ?_
      refine V_istore_n (L' := [some (vr 94), some (vi x1), some (vi (iOr x2 0)), some (vi x3)]) dX12_stepOn_54 rfl (by decide) rfl ?_
      refine V_iinc (L' := [some (vr 94), some (vi x1), some (vi (iOr x2 0)), some (vi (x3 + 1))]) dX12_stepOn_55 rfl (by decide) rfl ?_
      refine V_goto (tgt := 4) dX12_stepOn_58 rfl ?_
      exact V.sub (SubL_s (SubL_s (SubL_s (SubL_s (SubL_0))))) h

set_option maxRecDepth 100000 in
theorem BX12_tickAll_0 {σ : Sg} {post : Po} {x1 : Int} 
  (h : V mX12_tickAll 2 [some (vr 94), some (vi x1), some (vi 0), none, none] [] σ post) :
  V mX12_tickAll 0 [some (vr 94), some (vi x1), none, none, none] [] σ post := by
  refine V_iconst dX12_tickAll_0 ?_
  refine V_istore_n (L' := [some (vr 94), some (vi x1), some (vi 0), none, none]) dX12_tickAll_1 rfl (by decide) rfl ?_
  exact V.sub (SubL_s (SubL_s (SubL_s (SubL_n (SubL_n (SubL_0)))))) h
set_option maxRecDepth 100000 in
theorem BX12_tickAll_2 {σ : Sg} {post : Po} {x1 : Int} {x2 : Int} 
  (h : (rng x2) ∧ ((102 ≤ x2 → V mX12_tickAll 25 [some (vr 94), some (vi x1), some (vi 0), some (vi 0), none] [] σ post) ∧ (¬ 102 ≤ x2 → (0 ≤ x2 ∧ x2 < 102) ∧ (V mX12_tickAll 2 [some (vr 94), some (vi x1), some (vi (x2 + 1)), none, none] [] (up σ 107 x2 0) post)))) :
  V mX12_tickAll 2 [some (vr 94), some (vi x1), some (vi x2), none, none] [] σ post := by
  refine V_iload_n dX12_tickAll_2 rfl rfl ?_
  refine V_bipush dX12_tickAll_3 (by decide) ?_
  obtain ⟨r1, h⟩ := h
  refine V_icmp_ge (tgt := 21) dX12_tickAll_5 rfl r1 (by decide) (fun q => ?_) (fun q => ?_)
  · replace h := h.1 q
    refine V_iconst dX12_tickAll_21 ?_
    refine V_istore_n (L' := [some (vr 94), some (vi x1), some (vi 0), none, none]) dX12_tickAll_22 rfl (by decide) rfl ?_
    refine V_iconst dX12_tickAll_23 ?_
    refine V_istore_n (L' := [some (vr 94), some (vi x1), some (vi 0), some (vi 0), none]) dX12_tickAll_24 rfl (by decide) rfl ?_
    exact V.sub (SubL_s (SubL_s (SubL_s (SubL_s (SubL_n (SubL_0)))))) h
  · replace h := h.2 q
    refine V_aload_n dX12_tickAll_8 rfl rfl ?_
    refine V_getR (k2 := 107) flX12_51 rfl rfl (by decide) dX12_tickAll_9 ?_
    refine V_iload_n dX12_tickAll_12 rfl rfl ?_
    refine V_iconst dX12_tickAll_13 ?_
    obtain ⟨r2, h⟩ := h
    refine V_iast (rfl : shp[107]? = some (1, 102, 0)) r2 dX12_tickAll_14 ?_
    refine V_iinc (L' := [some (vr 94), some (vi x1), some (vi (x2 + 1)), none, none]) dX12_tickAll_15 rfl (by decide) rfl ?_
    refine V_goto (tgt := 2) dX12_tickAll_18 rfl ?_
    exact V.sub (SubL_s (SubL_s (SubL_s (SubL_n (SubL_n (SubL_0)))))) h
set_option maxRecDepth 100000 in
theorem BX12_tickAll_25 {σ : Sg} {post : Po} {x1 : Int} {x2 : Int} {x3 : Int} 
  (h : (rng x3) ∧ ((rng (σ 94 7)) ∧ (((σ 94 7) ≤ x3 → post (some (vi x2)) σ) ∧ (¬ (σ 94 7) ≤ x3 → (0 ≤ x3 ∧ x3 < 60) ∧ (V mX12_tickAll 41 [some (vr 94), some (vi x1), some (vi x2), some (vi x3), some (vi (σ 103 x3))] [] σ post))))) :
  V mX12_tickAll 25 [some (vr 94), some (vi x1), some (vi x2), some (vi x3), none] [] σ post := by
  refine V_iload_n dX12_tickAll_25 rfl rfl ?_
  refine V_aload_n dX12_tickAll_26 rfl rfl ?_
  refine V_getI (f := (σ 94 7)) flX12_210 rfl (rfl) (by decide) dX12_tickAll_27 ?_
  obtain ⟨r1, h⟩ := h
  obtain ⟨r2, h⟩ := h
  refine V_icmp_ge (tgt := 106) dX12_tickAll_30 rfl r1 r2 (fun q => ?_) (fun q => ?_)
  · replace h := h.1 q
    refine V_iload_n dX12_tickAll_106 rfl rfl ?_
    exact V_ireturn (stk := []) rfl dX12_tickAll_107 h
  · replace h := h.2 q
    refine V_aload_n dX12_tickAll_33 rfl rfl ?_
    refine V_getR (k2 := 103) flX12_34 rfl rfl (by decide) dX12_tickAll_34 ?_
    refine V_iload_n dX12_tickAll_37 rfl rfl ?_
    obtain ⟨r3, h⟩ := h
    refine V_iald (f := (σ 103 x3)) (rfl : shp[103]? = some (1, 60, 0)) r3 (rfl) dX12_tickAll_38 ?_
    refine V_istore (L' := [some (vr 94), some (vi x1), some (vi x2), some (vi x3), some (vi (σ 103 x3))]) dX12_tickAll_39 (by decide) rfl ?_
    exact V.sub (SubL_s (SubL_s (SubL_s (SubL_s (SubL_s (SubL_0)))))) h
set_option maxRecDepth 100000 in
theorem BX12_tickAll_41 {σ : Sg} {post : Po} {x1 : Int} {x2 : Int} {x3 : Int} {x4 : Int} 
  (h : (0 ≤ x3 ∧ x3 < 60) ∧ ((rng x4) ∧ ((rng (σ 104 x3)) ∧ (((σ 104 x3) < x4 → V mX12_tickAll 25 [some (vr 94), some (vi x1), some (vi x2), some (vi (x3 + 1)), none] [] σ post) ∧ (¬ (σ 104 x3) < x4 → Cl mX12_has [vi x1, vi (σ 101 x3)] σ (pI fun z1 σ1 => (rng z1) ∧ ((z1 = 0 → V mX12_tickAll 25 [some (vr 94), some (vi x1), some (vi x2), some (vi (x3 + 1)), none] [] σ1 post) ∧ (¬ z1 = 0 → (0 ≤ x4 ∧ x4 < 102) ∧ ((rng (σ1 107 x4)) ∧ ((¬ (σ1 107 x4) = 0 → Cl mX12_one [vi 0] σ1 (pI fun z2 σ2 => V mX12_tickAll 41 [some (vr 94), some (vi x1), some (vi (x2 + z2)), some (vi x3), some (vi (x4 + 1))] [] (up σ2 107 x4 1) post)) ∧ ((σ1 107 x4) = 0 → Cl mX12_one [vi 1] σ1 (pI fun z3 σ3 => V mX12_tickAll 41 [some (vr 94), some (vi x1), some (vi (x2 + z3)), some (vi x3), some (vi (x4 + 1))] [] (up σ3 107 x4 1) post)))))))))))) :
  V mX12_tickAll 41 [some (vr 94), some (vi x1), some (vi x2), some (vi x3), some (vi x4)] [] σ post := by
  refine V_iload dX12_tickAll_41 rfl ?_
  refine V_aload_n dX12_tickAll_43 rfl rfl ?_
  refine V_getR (k2 := 104) flX12_37 rfl rfl (by decide) dX12_tickAll_44 ?_
  refine V_iload_n dX12_tickAll_47 rfl rfl ?_
  obtain ⟨r1, h⟩ := h
  refine V_iald (f := (σ 104 x3)) (rfl : shp[104]? = some (1, 60, 0)) r1 (rfl) dX12_tickAll_48 ?_
  obtain ⟨r2, h⟩ := h
  obtain ⟨r3, h⟩ := h
  refine V_icmp_gt (tgt := 100) dX12_tickAll_49 rfl r2 r3 (fun q => ?_) (fun q => ?_)
  · replace h := h.1 q
    refine V_iinc (L' := [some (vr 94), some (vi x1), some (vi x2), some (vi (x3 + 1)), some (vi x4)]) dX12_tickAll_100 rfl (by decide) rfl ?_
    refine V_goto (tgt := 25) dX12_tickAll_103 rfl ?_
    exact V.sub (SubL_s (SubL_s (SubL_s (SubL_s (SubL_n (SubL_0)))))) h
  · replace h := h.2 q
    refine V_iload_n dX12_tickAll_52 rfl rfl ?_
    refine V_aload_n dX12_tickAll_53 rfl rfl ?_
    refine V_getR (k2 := 101) flX12_28 rfl rfl (by decide) dX12_tickAll_54 ?_
    refine V_iload_n dX12_tickAll_57 rfl rfl ?_
    refine V_iald (f := (σ 101 x3)) (rfl : shp[101]? = some (1, 60, 0)) r1 (rfl) dX12_tickAll_58 ?_
    refine V_callS (av := [vi x1, vi (σ 101 x3)]) (stk := []) cvX12_237 rfl rfl (by decide) (by simp [ctg]) dX12_tickAll_59 h ?_
    rintro _ σ1 ⟨z1, rfl, h⟩
    obtain ⟨r4, h⟩ := h
    refine V_if_eq (tgt := 100) dX12_tickAll_62 rfl r4 (fun q => ?_) (fun q => ?_)
    · replace h := h.1 q
      refine V_iinc (L' := [some (vr 94), some (vi x1), some (vi x2), some (vi (x3 + 1)), some (vi x4)]) dX12_tickAll_100 rfl (by decide) rfl ?_
      refine V_goto (tgt := 25) dX12_tickAll_103 rfl ?_
      exact V.sub (SubL_s (SubL_s (SubL_s (SubL_s (SubL_n (SubL_0)))))) h
    · replace h := h.2 q
      refine V_iload_n dX12_tickAll_65 rfl rfl ?_
      refine V_aload_n dX12_tickAll_66 rfl rfl ?_
      refine V_getR (k2 := 107) flX12_51 rfl rfl (by decide) dX12_tickAll_67 ?_
      refine V_iload dX12_tickAll_70 rfl ?_
      obtain ⟨r5, h⟩ := h
      refine V_iald (f := (σ1 107 x4)) (rfl : shp[107]? = some (1, 102, 0)) r5 (rfl) dX12_tickAll_72 ?_
      obtain ⟨r6, h⟩ := h
      refine V_if_ne (tgt := 80) dX12_tickAll_73 rfl r6 (fun q => ?_) (fun q => ?_)
      · replace h := h.1 q
        refine V_iconst dX12_tickAll_80 ?_
        refine V_callS (av := [vi 0]) (stk := [vi x2]) cvX12_271 rfl rfl (by decide) (by simp [ctg]) dX12_tickAll_81 h ?_
        rintro _ σ2 ⟨z2, rfl, h⟩
        refine V_iadd dX12_tickAll_84 ?_
        refine V_istore_n (L' := [some (vr 94), some (vi x1), some (vi (x2 + z2)), some (vi x3), some (vi x4)]) dX12_tickAll_85 rfl (by decide) rfl ?_
        refine V_aload_n dX12_tickAll_86 rfl rfl ?_
        refine V_getR (k2 := 107) flX12_51 rfl rfl (by decide) dX12_tickAll_87 ?_
        refine V_iload dX12_tickAll_90 rfl ?_
        refine V_iconst dX12_tickAll_92 ?_
        refine V_iast (rfl : shp[107]? = some (1, 102, 0)) r5 dX12_tickAll_93 ?_
        refine V_iinc (L' := [some (vr 94), some (vi x1), some (vi (x2 + z2)), some (vi x3), some (vi (x4 + 1))]) dX12_tickAll_94 rfl (by decide) rfl ?_
        refine V_goto (tgt := 41) dX12_tickAll_97 rfl ?_
        exact V.sub (SubL_s (SubL_s (SubL_s (SubL_s (SubL_s (SubL_0)))))) h
      · replace h := h.2 q
        refine V_iconst dX12_tickAll_76 ?_
        refine V_goto (tgt := 81) dX12_tickAll_77 rfl ?_
        refine V_callS (av := [vi 1]) (stk := [vi x2]) cvX12_271 rfl rfl (by decide) (by simp [ctg]) dX12_tickAll_81 h ?_
        rintro _ σ3 ⟨z3, rfl, h⟩
        refine V_iadd dX12_tickAll_84 ?_
        refine V_istore_n (L' := [some (vr 94), some (vi x1), some (vi (x2 + z3)), some (vi x3), some (vi x4)]) dX12_tickAll_85 rfl (by decide) rfl ?_
        refine V_aload_n dX12_tickAll_86 rfl rfl ?_
        refine V_getR (k2 := 107) flX12_51 rfl rfl (by decide) dX12_tickAll_87 ?_
        refine V_iload dX12_tickAll_90 rfl ?_
        refine V_iconst dX12_tickAll_92 ?_
        refine V_iast (rfl : shp[107]? = some (1, 102, 0)) r5 dX12_tickAll_93 ?_
        refine V_iinc (L' := [some (vr 94), some (vi x1), some (vi (x2 + z3)), some (vi x3), some (vi (x4 + 1))]) dX12_tickAll_94 rfl (by decide) rfl ?_
        refine V_goto (tgt := 41) dX12_tickAll_97 rfl ?_
        exact V.sub (SubL_s (SubL_s (SubL_s (SubL_s (SubL_s (SubL_0)))))) h

set_option maxRecDepth 100000 in
theorem BX12_steps_0 {σ : Sg} {post : Po} {x1 : Int} {x2 : Int} 
  (h : Cl mX12_noHead [vr 94, vi x1] σ (pI fun z1 σ1 => (rng z1) ∧ ((z1 = 0 → Cl mX12_isPage [vi x2] σ1 (pI fun z2 σ2 => (rng z2) ∧ ((¬ z2 = 0 → V mX12_steps 30 [some (vr 94), none, some (vi x2), some (vi (iShl 1 x1)), some (vi 0), none] [] σ2 post) ∧ (z2 = 0 → post (some (vi (-1002))) σ2)))) ∧ (¬ z1 = 0 → post (some (vi (-1001))) σ1)))) :
  V mX12_steps 0 [some (vr 94), some (vi x1), some (vi x2), none, none, none] [] σ post := by
  refine V_aload_n dX12_steps_0 rfl rfl ?_
  refine V_iload_n dX12_steps_1 rfl rfl ?_
  refine V_callV (av := [vi x1]) (stk := []) cvX12_293 rfl rfl rfl (by decide) (by simp [ctg]) dX12_steps_2 h ?_
  rintro _ σ1 ⟨z1, rfl, h⟩
  obtain ⟨r1, h⟩ := h
  refine V_if_eq (tgt := 12) dX12_steps_5 rfl r1 (fun q => ?_) (fun q => ?_)
  · replace h := h.1 q
    refine V_iload_n dX12_steps_12 rfl rfl ?_
    refine V_callS (av := [vi x2]) (stk := []) cvX12_311 rfl rfl (by decide) (by simp [ctg]) dX12_steps_13 h ?_
    rintro _ σ2 ⟨z2, rfl, h⟩
    obtain ⟨r2, h⟩ := h
    refine V_if_ne (tgt := 23) dX12_steps_16 rfl r2 (fun q => ?_) (fun q => ?_)
    · replace h := h.1 q
      refine V_iconst dX12_steps_23 ?_
      refine V_iload_n dX12_steps_24 rfl rfl ?_
      refine V_ishl dX12_steps_25 ?_
      refine V_istore_n (L' := [some (vr 94), some (vi x1), some (vi x2), some (vi (iShl 1 x1)), none, none]) dX12_steps_26 rfl (by decide) rfl ?_
      refine V_iconst dX12_steps_27 ?_
      refine V_istore (L' := [some (vr 94), some (vi x1), some (vi x2), some (vi (iShl 1 x1)), some (vi 0), none]) dX12_steps_28 (by decide) rfl ?_
      exact V.sub (SubL_s (SubL_n (SubL_s (SubL_s (SubL_s (SubL_n (SubL_0))))))) h
    · replace h := h.2 q
      refine V_sipush dX12_steps_19 (by decide) ?_
      exact V_ireturn (stk := []) rfl dX12_steps_22 h
  · replace h := h.2 q
    refine V_sipush dX12_steps_8 (by decide) ?_
    exact V_ireturn (stk := []) rfl dX12_steps_11 h
set_option maxRecDepth 100000 in
theorem BX12_steps_30 {σ : Sg} {post : Po} {x2 : Int} {x3 : Int} {x4 : Int} 
  (h : (rng x4) ∧ ((16 < x4 → post (some (vi (-1))) σ) ∧ (¬ 16 < x4 → Cl mX12_tickAll [vr 94, vi x3] σ (pI fun z1 σ1 => (0 ≤ x2 ∧ x2 < 102) ∧ ((rng (σ1 107 x2)) ∧ (((σ1 107 x2) ≤ 0 → Cl mX12_stepOn [vr 94, vi x3] σ1 (pI fun z2 σ2 => V mX12_steps 30 [some (vr 94), none, some (vi x2), some (vi z2), some (vi (x4 + 1)), none] [] σ2 post)) ∧ (¬ (σ1 107 x2) ≤ 0 → post (some (vi x4)) σ1))))))) :
  V mX12_steps 30 [some (vr 94), none, some (vi x2), some (vi x3), some (vi x4), none] [] σ post := by
  refine V_iload dX12_steps_30 rfl ?_
  refine V_bipush dX12_steps_32 (by decide) ?_
  obtain ⟨r1, h⟩ := h
  refine V_icmp_gt (tgt := 68) dX12_steps_34 rfl r1 (by decide) (fun q => ?_) (fun q => ?_)
  · replace h := h.1 q
    refine V_iconst dX12_steps_68 ?_
    exact V_ireturn (stk := []) rfl dX12_steps_69 h
  · replace h := h.2 q
    refine V_aload_n dX12_steps_37 rfl rfl ?_
    refine V_iload_n dX12_steps_38 rfl rfl ?_
    refine V_callV (av := [vi x3]) (stk := []) cvX12_418 rfl rfl rfl (by decide) (by simp [ctg]) dX12_steps_39 h ?_
    rintro _ σ1 ⟨z1, rfl, h⟩
    refine V_istore (L' := [some (vr 94), none, some (vi x2), some (vi x3), some (vi x4), some (vi z1)]) dX12_steps_42 (by decide) rfl ?_
    refine V_aload_n dX12_steps_44 rfl rfl ?_
    refine V_getR (k2 := 107) flX12_51 rfl rfl (by decide) dX12_steps_45 ?_
    refine V_iload_n dX12_steps_48 rfl rfl ?_
    obtain ⟨r2, h⟩ := h
    refine V_iald (f := (σ1 107 x2)) (rfl : shp[107]? = some (1, 102, 0)) r2 (rfl) dX12_steps_49 ?_
    obtain ⟨r3, h⟩ := h
    refine V_if_le (tgt := 56) dX12_steps_50 rfl r3 (fun q => ?_) (fun q => ?_)
    · replace h := h.1 q
      refine V_aload_n dX12_steps_56 rfl rfl ?_
      refine V_iload_n dX12_steps_57 rfl rfl ?_
      refine V_callV (av := [vi x3]) (stk := []) cvX12_421 rfl rfl rfl (by decide) (by simp [ctg]) dX12_steps_58 h ?_
      rintro _ σ2 ⟨z2, rfl, h⟩
      refine V_istore_n (L' := [some (vr 94), none, some (vi x2), some (vi z2), some (vi x4), some (vi z1)]) dX12_steps_61 rfl (by decide) rfl ?_
      refine V_iinc (L' := [some (vr 94), none, some (vi x2), some (vi z2), some (vi (x4 + 1)), some (vi z1)]) dX12_steps_62 rfl (by decide) rfl ?_
      refine V_goto (tgt := 30) dX12_steps_65 rfl ?_
      exact V.sub (SubL_s (SubL_n (SubL_s (SubL_s (SubL_s (SubL_n (SubL_0))))))) h
    · replace h := h.2 q
      refine V_iload dX12_steps_53 rfl ?_
      exact V_ireturn (stk := []) rfl dX12_steps_55 h

set_option maxRecDepth 100000 in
theorem BX12_finds_0 {σ : Sg} {post : Po} {x1 : Int} {x2 : Int} 
  (h : Cl mX12_noHead [vr 94, vi x1] σ (pI fun z1 σ1 => (rng z1) ∧ ((z1 = 0 → (rng x2) ∧ (Cl mX12_in [vl x2, vl 0, vl 9] σ1 (pI fun z2 σ2 => (rng z2) ∧ ((¬ z2 = 0 → V mX12_finds 35 [some (vr 94), none, some (vi x2), some (vi (iShl 1 x1)), some (vi 0)] [] σ2 post) ∧ (z2 = 0 → post (some (vi (-1002))) σ2))))) ∧ (¬ z1 = 0 → post (some (vi (-1001))) σ1)))) :
  V mX12_finds 0 [some (vr 94), some (vi x1), some (vi x2), none, none] [] σ post := by
  refine V_aload_n dX12_finds_0 rfl rfl ?_
  refine V_iload_n dX12_finds_1 rfl rfl ?_
  refine V_callV (av := [vi x1]) (stk := []) cvX12_293 rfl rfl rfl (by decide) (by simp [ctg]) dX12_finds_2 h ?_
  rintro _ σ1 ⟨z1, rfl, h⟩
  obtain ⟨r1, h⟩ := h
  refine V_if_eq (tgt := 12) dX12_finds_5 rfl r1 (fun q => ?_) (fun q => ?_)
  · replace h := h.1 q
    refine V_iload_n dX12_finds_12 rfl rfl ?_
    obtain ⟨r2, h⟩ := h
    refine V_i2l dX12_finds_13 r2 ?_
    refine V_lconst (z := 0) dX12_finds_14 rfl ?_
    refine V_ldc2 dX12_finds_15 klX12_424 ?_
    refine V_callS (av := [vl x2, vl 0, vl 9]) (stk := []) cvX12_146 rfl rfl (by decide) (by simp [ctg]) dX12_finds_18 h ?_
    rintro _ σ2 ⟨z2, rfl, h⟩
    obtain ⟨r3, h⟩ := h
    refine V_if_ne (tgt := 28) dX12_finds_21 rfl r3 (fun q => ?_) (fun q => ?_)
    · replace h := h.1 q
      refine V_iconst dX12_finds_28 ?_
      refine V_iload_n dX12_finds_29 rfl rfl ?_
      refine V_ishl dX12_finds_30 ?_
      refine V_istore_n (L' := [some (vr 94), some (vi x1), some (vi x2), some (vi (iShl 1 x1)), none]) dX12_finds_31 rfl (by decide) rfl ?_
      refine V_iconst dX12_finds_32 ?_
      refine V_istore (L' := [some (vr 94), some (vi x1), some (vi x2), some (vi (iShl 1 x1)), some (vi 0)]) dX12_finds_33 (by decide) rfl ?_
      exact V.sub (SubL_s (SubL_n (SubL_s (SubL_s (SubL_s (SubL_0)))))) h
    · replace h := h.2 q
      refine V_sipush dX12_finds_24 (by decide) ?_
      exact V_ireturn (stk := []) rfl dX12_finds_27 h
  · replace h := h.2 q
    refine V_sipush dX12_finds_8 (by decide) ?_
    exact V_ireturn (stk := []) rfl dX12_finds_11 h
set_option maxRecDepth 100000 in
theorem BX12_finds_35 {σ : Sg} {post : Po} {x2 : Int} {x3 : Int} {x4 : Int} 
  (h : (rng x4) ∧ ((rng x2) ∧ ((x2 ≤ x4 → Cl mX12_tickAll [vr 94, vi x3] σ (pI fun z1 σ1 => post (some (vi z1)) σ1)) ∧ (¬ x2 ≤ x4 → Cl mX12_stepOn [vr 94, vi x3] σ (pI fun z2 σ2 => V mX12_finds 35 [some (vr 94), none, some (vi x2), some (vi z2), some (vi (x4 + 1))] [] σ2 post))))) :
  V mX12_finds 35 [some (vr 94), none, some (vi x2), some (vi x3), some (vi x4)] [] σ post := by
  refine V_iload dX12_finds_35 rfl ?_
  refine V_iload_n dX12_finds_37 rfl rfl ?_
  obtain ⟨r1, h⟩ := h
  obtain ⟨r2, h⟩ := h
  refine V_icmp_ge (tgt := 53) dX12_finds_38 rfl r1 r2 (fun q => ?_) (fun q => ?_)
  · replace h := h.1 q
    refine V_aload_n dX12_finds_53 rfl rfl ?_
    refine V_iload_n dX12_finds_54 rfl rfl ?_
    refine V_callV (av := [vi x3]) (stk := []) cvX12_418 rfl rfl rfl (by decide) (by simp [ctg]) dX12_finds_55 h ?_
    rintro _ σ1 ⟨z1, rfl, h⟩
    exact V_ireturn (stk := []) rfl dX12_finds_58 h
  · replace h := h.2 q
    refine V_aload_n dX12_finds_41 rfl rfl ?_
    refine V_iload_n dX12_finds_42 rfl rfl ?_
    refine V_callV (av := [vi x3]) (stk := []) cvX12_421 rfl rfl rfl (by decide) (by simp [ctg]) dX12_finds_43 h ?_
    rintro _ σ2 ⟨z2, rfl, h⟩
    refine V_istore_n (L' := [some (vr 94), none, some (vi x2), some (vi z2), some (vi x4)]) dX12_finds_46 rfl (by decide) rfl ?_
    refine V_iinc (L' := [some (vr 94), none, some (vi x2), some (vi z2), some (vi (x4 + 1))]) dX12_finds_47 rfl (by decide) rfl ?_
    refine V_goto (tgt := 35) dX12_finds_50 rfl ?_
    exact V.sub (SubL_s (SubL_n (SubL_s (SubL_s (SubL_s (SubL_0)))))) h

set_option maxRecDepth 100000 in
theorem BX12_goesRound_0 {σ : Sg} {post : Po} {x1 : Int} 
  (h : (0 ≤ x1 ∧ x1 < 16) ∧ (V mX12_goesRound 9 [some (vr 94), some (vi x1), some (vi (σ 98 x1)), some (vi 0)] [] σ post)) :
  V mX12_goesRound 0 [some (vr 94), some (vi x1), none, none] [] σ post := by
  refine V_aload_n dX12_goesRound_0 rfl rfl ?_
  refine V_getR (k2 := 98) flX12_19 rfl rfl (by decide) dX12_goesRound_1 ?_
  refine V_iload_n dX12_goesRound_4 rfl rfl ?_
  obtain ⟨r1, h⟩ := h
  refine V_iald (f := (σ 98 x1)) (rfl : shp[98]? = some (1, 16, 0)) r1 (rfl) dX12_goesRound_5 ?_
  refine V_istore_n (L' := [some (vr 94), some (vi x1), some (vi (σ 98 x1)), none]) dX12_goesRound_6 rfl (by decide) rfl ?_
  refine V_iconst dX12_goesRound_7 ?_
  refine V_istore_n (L' := [some (vr 94), some (vi x1), some (vi (σ 98 x1)), some (vi 0)]) dX12_goesRound_8 rfl (by decide) rfl ?_
  exact V.sub (SubL_s (SubL_s (SubL_s (SubL_s (SubL_0))))) h
set_option maxRecDepth 100000 in
theorem BX12_goesRound_9 {σ : Sg} {post : Po} {x1 : Int} {x2 : Int} {x3 : Int} 
  (h : (rng x3) ∧ ((16 ≤ x3 → (rng x2) ∧ ((rng x1) ∧ ((¬ x2 = x1 → post (some (vi 0)) σ) ∧ (x2 = x1 → post (some (vi 1)) σ)))) ∧ (¬ 16 ≤ x3 → (rng x2) ∧ ((x2 < 0 → (rng x1) ∧ ((¬ x2 = x1 → post (some (vi 0)) σ) ∧ (x2 = x1 → post (some (vi 1)) σ))) ∧ (¬ x2 < 0 → (rng x1) ∧ ((x2 = x1 → (¬ x2 = x1 → post (some (vi 0)) σ) ∧ (x2 = x1 → post (some (vi 1)) σ)) ∧ (¬ x2 = x1 → (0 ≤ x2 ∧ x2 < 16) ∧ (V mX12_goesRound 9 [some (vr 94), some (vi x1), some (vi (σ 98 x2)), some (vi (x3 + 1))] [] σ post)))))))) :
  V mX12_goesRound 9 [some (vr 94), some (vi x1), some (vi x2), some (vi x3)] [] σ post := by
  refine V_iload_n dX12_goesRound_9 rfl rfl ?_
  refine V_bipush dX12_goesRound_10 (by decide) ?_
  obtain ⟨r1, h⟩ := h
  refine V_icmp_ge (tgt := 37) dX12_goesRound_12 rfl r1 (by decide) (fun q => ?_) (fun q => ?_)
  · replace h := h.1 q
    refine V_iload_n dX12_goesRound_37 rfl rfl ?_
    refine V_iload_n dX12_goesRound_38 rfl rfl ?_
    obtain ⟨r2, h⟩ := h
    obtain ⟨r3, h⟩ := h
    refine V_icmp_ne (tgt := 46) dX12_goesRound_39 rfl r2 r3 (fun q => ?_) (fun q => ?_)
    · replace h := h.1 q
      refine V_iconst dX12_goesRound_46 ?_
      exact V_zreturn (stk := []) rfl dX12_goesRound_47 (by decide) h
    · replace h := h.2 q
      refine V_iconst dX12_goesRound_42 ?_
      refine V_goto (tgt := 47) dX12_goesRound_43 rfl ?_
      exact V_zreturn (stk := []) rfl dX12_goesRound_47 (by decide) h
  · replace h := h.2 q
    refine V_iload_n dX12_goesRound_15 rfl rfl ?_
    obtain ⟨r4, h⟩ := h
    refine V_if_lt (tgt := 37) dX12_goesRound_16 rfl r4 (fun q => ?_) (fun q => ?_)
    · replace h := h.1 q
      refine V_iload_n dX12_goesRound_37 rfl rfl ?_
      refine V_iload_n dX12_goesRound_38 rfl rfl ?_
      obtain ⟨r5, h⟩ := h
      refine V_icmp_ne (tgt := 46) dX12_goesRound_39 rfl r4 r5 (fun q => ?_) (fun q => ?_)
      · replace h := h.1 q
        refine V_iconst dX12_goesRound_46 ?_
        exact V_zreturn (stk := []) rfl dX12_goesRound_47 (by decide) h
      · replace h := h.2 q
        refine V_iconst dX12_goesRound_42 ?_
        refine V_goto (tgt := 47) dX12_goesRound_43 rfl ?_
        exact V_zreturn (stk := []) rfl dX12_goesRound_47 (by decide) h
    · replace h := h.2 q
      refine V_iload_n dX12_goesRound_19 rfl rfl ?_
      refine V_iload_n dX12_goesRound_20 rfl rfl ?_
      obtain ⟨r6, h⟩ := h
      refine V_icmp_eq (tgt := 37) dX12_goesRound_21 rfl r4 r6 (fun q => ?_) (fun q => ?_)
      · replace h := h.1 q
        refine V_iload_n dX12_goesRound_37 rfl rfl ?_
        refine V_iload_n dX12_goesRound_38 rfl rfl ?_
        refine V_icmp_ne (tgt := 46) dX12_goesRound_39 rfl r4 r6 (fun q => ?_) (fun q => ?_)
        · replace h := h.1 q
          refine V_iconst dX12_goesRound_46 ?_
          exact V_zreturn (stk := []) rfl dX12_goesRound_47 (by decide) h
        · replace h := h.2 q
          refine V_iconst dX12_goesRound_42 ?_
          refine V_goto (tgt := 47) dX12_goesRound_43 rfl ?_
          exact V_zreturn (stk := []) rfl dX12_goesRound_47 (by decide) h
      · replace h := h.2 q
        refine V_aload_n dX12_goesRound_24 rfl rfl ?_
        refine V_getR (k2 := 98) flX12_19 rfl rfl (by decide) dX12_goesRound_25 ?_
        refine V_iload_n dX12_goesRound_28 rfl rfl ?_
        obtain ⟨r7, h⟩ := h
        refine V_iald (f := (σ 98 x2)) (rfl : shp[98]? = some (1, 16, 0)) r7 (rfl) dX12_goesRound_29 ?_
        refine V_istore_n (L' := [some (vr 94), some (vi x1), some (vi (σ 98 x2)), some (vi x3)]) dX12_goesRound_30 rfl (by decide) rfl ?_
        refine V_iinc (L' := [some (vr 94), some (vi x1), some (vi (σ 98 x2)), some (vi (x3 + 1))]) dX12_goesRound_31 rfl (by decide) rfl ?_
        refine V_goto (tgt := 9) dX12_goesRound_34 rfl ?_
        exact V.sub (SubL_s (SubL_s (SubL_s (SubL_s (SubL_0))))) h

