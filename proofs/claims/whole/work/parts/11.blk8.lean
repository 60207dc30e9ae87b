/-! ===== blocks: X12c (printed by wip/whole/gen/mkblk.py) ===== -/
set_option maxRecDepth 100000 in
theorem BX12_hasTwin_0 {σ : Sg} {post : Po} {x1 : Int} 
  (h : Cl mX12_tickAll [vr 94, vi (iShl 1 x1)] σ (pI fun z1 σ1 => V mX12_hasTwin 10 [some (vr 94), some (vi x1), some (vi z1), some (vi 0), none, none, none] [] σ1 post)) :
  V mX12_hasTwin 0 [some (vr 94), some (vi x1), none, none, none, none, none] [] σ post := by
  refine V_aload_n dX12_hasTwin_0 rfl rfl ?_
  refine V_iconst dX12_hasTwin_1 ?_
  refine V_iload_n dX12_hasTwin_2 rfl rfl ?_
  refine V_ishl dX12_hasTwin_3 ?_
  refine V_callV (av := [vi (iShl 1 x1)]) (stk := []) cvX12_418 rfl rfl rfl (by decide) (by simp [ctg]) dX12_hasTwin_4 h ?_
  rintro _ σ1 ⟨z1, rfl, h⟩
  refine V_istore_n (L' := [some (vr 94), some (vi x1), some (vi z1), none, none, none, none]) dX12_hasTwin_7 rfl (by decide) rfl ?_
  refine V_iconst dX12_hasTwin_8 ?_
  refine V_istore_n (L' := [some (vr 94), some (vi x1), some (vi z1), some (vi 0), none, none, none]) dX12_hasTwin_9 rfl (by decide) rfl ?_
  exact V.sub (SubL_s (SubL_s (SubL_s (SubL_s (SubL_n (SubL_n (SubL_n (SubL_0)))))))) h
set_option maxRecDepth 100000 in
theorem BX12_hasTwin_10 {σ : Sg} {post : Po} {x1 : Int} {x2 : Int} {x3 : Int} 
  (h : (rng x3) ∧ ((102 ≤ x3 → V mX12_hasTwin 39 [some (vr 94), some (vi x1), some (vi x2), some (vi 0), some (vi 0), none, none] [] σ post) ∧ (¬ 102 ≤ x3 → (0 ≤ x3 ∧ x3 < 102) ∧ (V mX12_hasTwin 10 [some (vr 94), some (vi x1), some (vi x2), some (vi (x3 + 1)), none, none, none] [] (up σ 111 x3 (σ 107 x3)) post)))) :
  V mX12_hasTwin 10 [some (vr 94), some (vi x1), some (vi x2), some (vi x3), none, none, none] [] σ post := by
  refine V_iload_n dX12_hasTwin_10 rfl rfl ?_
  refine V_bipush dX12_hasTwin_11 (by decide) ?_
  obtain ⟨r1, h⟩ := h
  refine V_icmp_ge (tgt := 34) dX12_hasTwin_13 rfl r1 (by decide) (fun q => ?_) (fun q => ?_)
  · replace h := h.1 q
    refine V_iconst dX12_hasTwin_34 ?_
    refine V_istore_n (L' := [some (vr 94), some (vi x1), some (vi x2), some (vi 0), none, none, none]) dX12_hasTwin_35 rfl (by decide) rfl ?_
    refine V_iconst dX12_hasTwin_36 ?_
    refine V_istore (L' := [some (vr 94), some (vi x1), some (vi x2), some (vi 0), some (vi 0), none, none]) dX12_hasTwin_37 (by decide) rfl ?_
    exact V.sub (SubL_s (SubL_s (SubL_s (SubL_s (SubL_s (SubL_n (SubL_n (SubL_0)))))))) h
  · replace h := h.2 q
    refine V_aload_n dX12_hasTwin_16 rfl rfl ?_
    refine V_getR (k2 := 111) flX12_66 rfl rfl (by decide) dX12_hasTwin_17 ?_
    refine V_iload_n dX12_hasTwin_20 rfl rfl ?_
    refine V_aload_n dX12_hasTwin_21 rfl rfl ?_
    refine V_getR (k2 := 107) flX12_51 rfl rfl (by decide) dX12_hasTwin_22 ?_
    refine V_iload_n dX12_hasTwin_25 rfl rfl ?_
    obtain ⟨r2, h⟩ := h
    refine V_iald (f := (σ 107 x3)) (rfl : shp[107]? = some (1, 102, 0)) r2 (rfl) dX12_hasTwin_26 ?_
    refine V_iast (rfl : shp[111]? = some (1, 102, 0)) r2 dX12_hasTwin_27 ?_
    refine V_iinc (L' := [some (vr 94), some (vi x1), some (vi x2), some (vi (x3 + 1)), none, none, none]) dX12_hasTwin_28 rfl (by decide) rfl ?_
    refine V_goto (tgt := 10) dX12_hasTwin_31 rfl ?_
    exact V.sub (SubL_s (SubL_s (SubL_s (SubL_s (SubL_n (SubL_n (SubL_n (SubL_0)))))))) h
set_option maxRecDepth 100000 in
theorem BX12_hasTwin_39 {σ : Sg} {post : Po} {x1 : Int} {x2 : Int} {x3 : Int} {x4 : Int} 
  (h : (rng x4) ∧ ((rng (σ 94 0)) ∧ (((σ 94 0) ≤ x4 → (x3 = 0 ∨ x3 = 1) ∧ (post (some (vi x3)) σ)) ∧ (¬ (σ 94 0) ≤ x4 → (rng x1) ∧ ((x4 = x1 → V mX12_hasTwin 80 [some (vr 94), some (vi x1), some (vi x2), some (vi x3), some (vi x4), some (vi 0), some (vi 0)] [] σ post) ∧ (¬ x4 = x1 → (rng x2) ∧ ((x2 ≤ 0 → V mX12_hasTwin 80 [some (vr 94), some (vi x1), some (vi x2), some (vi x3), some (vi x4), some (vi 0), some (vi 0)] [] σ post) ∧ (¬ x2 ≤ 0 → Cl mX12_tickAll [vr 94, vi (iShl 1 x4)] σ (pI fun z1 σ1 => (rng z1) ∧ ((¬ z1 = x2 → V mX12_hasTwin 80 [some (vr 94), some (vi x1), some (vi x2), some (vi x3), some (vi x4), some (vi 0), some (vi 0)] [] σ1 post) ∧ (z1 = x2 → V mX12_hasTwin 80 [some (vr 94), some (vi x1), some (vi x2), some (vi x3), some (vi x4), some (vi 1), some (vi 0)] [] σ1 post))))))))))) :
  V mX12_hasTwin 39 [some (vr 94), some (vi x1), some (vi x2), some (vi x3), some (vi x4), none, none] [] σ post := by
  refine V_iload dX12_hasTwin_39 rfl ?_
  refine V_aload_n dX12_hasTwin_41 rfl rfl ?_
  refine V_getI (f := (σ 94 0)) flX12_192 rfl (rfl) (by decide) dX12_hasTwin_42 ?_
  obtain ⟨r1, h⟩ := h
  obtain ⟨r2, h⟩ := h
  refine V_icmp_ge (tgt := 143) dX12_hasTwin_45 rfl r1 r2 (fun q => ?_) (fun q => ?_)
  · replace h := h.1 q
    refine V_iload_n dX12_hasTwin_143 rfl rfl ?_
    obtain ⟨r3, h⟩ := h
    exact V_zreturn (stk := []) rfl dX12_hasTwin_144 r3 h
  · replace h := h.2 q
    refine V_iload dX12_hasTwin_48 rfl ?_
    refine V_iload_n dX12_hasTwin_50 rfl rfl ?_
    obtain ⟨r4, h⟩ := h
    refine V_icmp_eq (tgt := 74) dX12_hasTwin_51 rfl r1 r4 (fun q => ?_) (fun q => ?_)
    · replace h := h.1 q
      refine V_iconst dX12_hasTwin_74 ?_
      refine V_istore (L' := [some (vr 94), some (vi x1), some (vi x2), some (vi x3), some (vi x4), some (vi 0), none]) dX12_hasTwin_75 (by decide) rfl ?_
      refine V_iconst dX12_hasTwin_77 ?_
      refine V_istore (L' := [some (vr 94), some (vi x1), some (vi x2), some (vi x3), some (vi x4), some (vi 0), some (vi 0)]) dX12_hasTwin_78 (by decide) rfl ?_
      exact V.sub (SubL_s (SubL_s (SubL_s (SubL_s (SubL_s (SubL_s (SubL_s (SubL_0)))))))) h
    · replace h := h.2 q
      refine V_iload_n dX12_hasTwin_54 rfl rfl ?_
      obtain ⟨r5, h⟩ := h
      refine V_if_le (tgt := 74) dX12_hasTwin_55 rfl r5 (fun q => ?_) (fun q => ?_)
      · replace h := h.1 q
        refine V_iconst dX12_hasTwin_74 ?_
        refine V_istore (L' := [some (vr 94), some (vi x1), some (vi x2), some (vi x3), some (vi x4), some (vi 0), none]) dX12_hasTwin_75 (by decide) rfl ?_
        refine V_iconst dX12_hasTwin_77 ?_
        refine V_istore (L' := [some (vr 94), some (vi x1), some (vi x2), some (vi x3), some (vi x4), some (vi 0), some (vi 0)]) dX12_hasTwin_78 (by decide) rfl ?_
        exact V.sub (SubL_s (SubL_s (SubL_s (SubL_s (SubL_s (SubL_s (SubL_s (SubL_0)))))))) h
      · replace h := h.2 q
        refine V_aload_n dX12_hasTwin_58 rfl rfl ?_
        refine V_iconst dX12_hasTwin_59 ?_
        refine V_iload dX12_hasTwin_60 rfl ?_
        refine V_ishl dX12_hasTwin_62 ?_
        refine V_callV (av := [vi (iShl 1 x4)]) (stk := []) cvX12_418 rfl rfl rfl (by decide) (by simp [ctg]) dX12_hasTwin_63 h ?_
        rintro _ σ1 ⟨z1, rfl, h⟩
        refine V_iload_n dX12_hasTwin_66 rfl rfl ?_
        obtain ⟨r6, h⟩ := h
        refine V_icmp_ne (tgt := 74) dX12_hasTwin_67 rfl r6 r5 (fun q => ?_) (fun q => ?_)
        · replace h := h.1 q
          refine V_iconst dX12_hasTwin_74 ?_
          refine V_istore (L' := [some (vr 94), some (vi x1), some (vi x2), some (vi x3), some (vi x4), some (vi 0), none]) dX12_hasTwin_75 (by decide) rfl ?_
          refine V_iconst dX12_hasTwin_77 ?_
          refine V_istore (L' := [some (vr 94), some (vi x1), some (vi x2), some (vi x3), some (vi x4), some (vi 0), some (vi 0)]) dX12_hasTwin_78 (by decide) rfl ?_
          exact V.sub (SubL_s (SubL_s (SubL_s (SubL_s (SubL_s (SubL_s (SubL_s (SubL_0)))))))) h
        · replace h := h.2 q
          refine V_iconst dX12_hasTwin_70 ?_
          refine V_goto (tgt := 75) dX12_hasTwin_71 rfl ?_
          refine V_istore (L' := [some (vr 94), some (vi x1), some (vi x2), some (vi x3), some (vi x4), some (vi 1), none]) dX12_hasTwin_75 (by decide) rfl ?_
          refine V_iconst dX12_hasTwin_77 ?_
          refine V_istore (L' := [some (vr 94), some (vi x1), some (vi x2), some (vi x3), some (vi x4), some (vi 1), some (vi 0)]) dX12_hasTwin_78 (by decide) rfl ?_
          exact V.sub (SubL_s (SubL_s (SubL_s (SubL_s (SubL_s (SubL_s (SubL_s (SubL_0)))))))) h
set_option maxRecDepth 100000 in
theorem BX12_hasTwin_80 {σ : Sg} {post : Po} {x1 : Int} {x2 : Int} {x3 : Int} {x4 : Int} {x5 : Int} {x6 : Int} 
  (h : (rng x6) ∧ ((102 ≤ x6 → (rng x3) ∧ ((¬ x3 = 0 → V mX12_hasTwin 39 [some (vr 94), some (vi x1), some (vi x2), some (vi 1), some (vi (x4 + 1)), none, none] [] σ post) ∧ (x3 = 0 → (rng x5) ∧ ((x5 = 0 → V mX12_hasTwin 39 [some (vr 94), some (vi x1), some (vi x2), some (vi 0), some (vi (x4 + 1)), none, none] [] σ post) ∧ (¬ x5 = 0 → V mX12_hasTwin 39 [some (vr 94), some (vi x1), some (vi x2), some (vi 1), some (vi (x4 + 1)), none, none] [] σ post))))) ∧ (¬ 102 ≤ x6 → (rng x5) ∧ ((x5 = 0 → (rng x3) ∧ ((¬ x3 = 0 → V mX12_hasTwin 39 [some (vr 94), some (vi x1), some (vi x2), some (vi 1), some (vi (x4 + 1)), none, none] [] σ post) ∧ (x3 = 0 → (x5 = 0 → V mX12_hasTwin 39 [some (vr 94), some (vi x1), some (vi x2), some (vi 0), some (vi (x4 + 1)), none, none] [] σ post) ∧ (¬ x5 = 0 → V mX12_hasTwin 39 [some (vr 94), some (vi x1), some (vi x2), some (vi 1), some (vi (x4 + 1)), none, none] [] σ post)))) ∧ (¬ x5 = 0 → (0 ≤ x6 ∧ x6 < 102) ∧ ((rng (σ 107 x6)) ∧ ((rng (σ 111 x6)) ∧ ((¬ (σ 107 x6) = (σ 111 x6) → V mX12_hasTwin 80 [some (vr 94), some (vi x1), some (vi x2), some (vi x3), some (vi x4), some (vi 0), some (vi (x6 + 1))] [] σ post) ∧ ((σ 107 x6) = (σ 111 x6) → V mX12_hasTwin 80 [some (vr 94), some (vi x1), some (vi x2), some (vi x3), some (vi x4), some (vi 1), some (vi (x6 + 1))] [] σ post))))))))) :
  V mX12_hasTwin 80 [some (vr 94), some (vi x1), some (vi x2), some (vi x3), some (vi x4), some (vi x5), some (vi x6)] [] σ post := by
  refine V_iload dX12_hasTwin_80 rfl ?_
  refine V_bipush dX12_hasTwin_82 (by decide) ?_
  obtain ⟨r1, h⟩ := h
  refine V_icmp_ge (tgt := 122) dX12_hasTwin_84 rfl r1 (by decide) (fun q => ?_) (fun q => ?_)
  · replace h := h.1 q
    refine V_iload_n dX12_hasTwin_122 rfl rfl ?_
    obtain ⟨r2, h⟩ := h
    refine V_if_ne (tgt := 131) dX12_hasTwin_123 rfl r2 (fun q => ?_) (fun q => ?_)
    · replace h := h.1 q
      refine V_iconst dX12_hasTwin_131 ?_
      refine V_goto (tgt := 136) dX12_hasTwin_132 rfl ?_
      refine V_istore_n (L' := [some (vr 94), some (vi x1), some (vi x2), some (vi 1), some (vi x4), some (vi x5), some (vi x6)]) dX12_hasTwin_136 rfl (by decide) rfl ?_
      refine V_iinc (L' := [some (vr 94), some (vi x1), some (vi x2), some (vi 1), some (vi (x4 + 1)), some (vi x5), some (vi x6)]) dX12_hasTwin_137 rfl (by decide) rfl ?_
      refine V_goto (tgt := 39) dX12_hasTwin_140 rfl ?_
      exact V.sub (SubL_s (SubL_s (SubL_s (SubL_s (SubL_s (SubL_n (SubL_n (SubL_0)))))))) h
    · replace h := h.2 q
      refine V_iload dX12_hasTwin_126 rfl ?_
      obtain ⟨r3, h⟩ := h
      refine V_if_eq (tgt := 135) dX12_hasTwin_128 rfl r3 (fun q => ?_) (fun q => ?_)
      · replace h := h.1 q
        refine V_iconst dX12_hasTwin_135 ?_
        refine V_istore_n (L' := [some (vr 94), some (vi x1), some (vi x2), some (vi 0), some (vi x4), some (vi x5), some (vi x6)]) dX12_hasTwin_136 rfl (by decide) rfl ?_
        refine V_iinc (L' := [some (vr 94), some (vi x1), some (vi x2), some (vi 0), some (vi (x4 + 1)), some (vi x5), some (vi x6)]) dX12_hasTwin_137 rfl (by decide) rfl ?_
        refine V_goto (tgt := 39) dX12_hasTwin_140 rfl ?_
        exact V.sub (SubL_s (SubL_s (SubL_s (SubL_s (SubL_s (SubL_n (SubL_n (SubL_0)))))))) h
      · replace h := h.2 q
        refine V_iconst dX12_hasTwin_131 ?_
        refine V_goto (tgt := 136) dX12_hasTwin_132 rfl ?_
        refine V_istore_n (L' := [some (vr 94), some (vi x1), some (vi x2), some (vi 1), some (vi x4), some (vi x5), some (vi x6)]) dX12_hasTwin_136 rfl (by decide) rfl ?_
        refine V_iinc (L' := [some (vr 94), some (vi x1), some (vi x2), some (vi 1), some (vi (x4 + 1)), some (vi x5), some (vi x6)]) dX12_hasTwin_137 rfl (by decide) rfl ?_
        refine V_goto (tgt := 39) dX12_hasTwin_140 rfl ?_
        exact V.sub (SubL_s (SubL_s (SubL_s (SubL_s (SubL_s (SubL_n (SubL_n (SubL_0)))))))) h
  · replace h := h.2 q
    refine V_iload dX12_hasTwin_87 rfl ?_
    obtain ⟨r4, h⟩ := h
    refine V_if_eq (tgt := 122) dX12_hasTwin_89 rfl r4 (fun q => ?_) (fun q => ?_)
    · replace h := h.1 q
      refine V_iload_n dX12_hasTwin_122 rfl rfl ?_
      obtain ⟨r5, h⟩ := h
      refine V_if_ne (tgt := 131) dX12_hasTwin_123 rfl r5 (fun q => ?_) (fun q => ?_)
      · replace h := h.1 q
        refine V_iconst dX12_hasTwin_131 ?_
        refine V_goto (tgt := 136) dX12_hasTwin_132 rfl ?_
        refine V_istore_n (L' := [some (vr 94), some (vi x1), some (vi x2), some (vi 1), some (vi x4), some (vi x5), some (vi x6)]) dX12_hasTwin_136 rfl (by decide) rfl ?_
        refine V_iinc (L' := [some (vr 94), some (vi x1), some (vi x2), some (vi 1), some (vi (x4 + 1)), some (vi x5), some (vi x6)]) dX12_hasTwin_137 rfl (by decide) rfl ?_
        refine V_goto (tgt := 39) dX12_hasTwin_140 rfl ?_
        exact V.sub (SubL_s (SubL_s (SubL_s (SubL_s (SubL_s (SubL_n (SubL_n (SubL_0)))))))) h
      · replace h := h.2 q
        refine V_iload dX12_hasTwin_126 rfl ?_
        refine V_if_eq (tgt := 135) dX12_hasTwin_128 rfl r4 (fun q => ?_) (fun q => ?_)
        · replace h := h.1 q
          refine V_iconst dX12_hasTwin_135 ?_
          refine V_istore_n (L' := [some (vr 94), some (vi x1), some (vi x2), some (vi 0), some (vi x4), some (vi x5), some (vi x6)]) dX12_hasTwin_136 rfl (by decide) rfl ?_
          refine V_iinc (L' := [some (vr 94), some (vi x1), some (vi x2), some (vi 0), some (vi (x4 + 1)), some (vi x5), some (vi x6)]) dX12_hasTwin_137 rfl (by decide) rfl ?_
          refine V_goto (tgt := 39) dX12_hasTwin_140 rfl ?_
          exact V.sub (SubL_s (SubL_s (SubL_s (SubL_s (SubL_s (SubL_n (SubL_n (SubL_0)))))))) h
        · replace h := h.2 q
          refine V_iconst dX12_hasTwin_131 ?_
          refine V_goto (tgt := 136) dX12_hasTwin_132 rfl ?_
          refine V_istore_n (L' := [some (vr 94), some (vi x1), some (vi x2), some (vi 1), some (vi x4), some (vi x5), some (vi x6)]) dX12_hasTwin_136 rfl (by decide) rfl ?_
          refine V_iinc (L' := [some (vr 94), some (vi x1), some (vi x2), some (vi 1), some (vi (x4 + 1)), some (vi x5), some (vi x6)]) dX12_hasTwin_137 rfl (by decide) rfl ?_
          refine V_goto (tgt := 39) dX12_hasTwin_140 rfl ?_
          exact V.sub (SubL_s (SubL_s (SubL_s (SubL_s (SubL_s (SubL_n (SubL_n (SubL_0)))))))) h
    · replace h := h.2 q
      refine V_aload_n dX12_hasTwin_92 rfl rfl ?_
      refine V_getR (k2 := 107) flX12_51 rfl rfl (by decide) dX12_hasTwin_93 ?_
      refine V_iload dX12_hasTwin_96 rfl ?_
      obtain ⟨r6, h⟩ := h
      refine V_iald (f := (σ 107 x6)) (rfl : shp[107]? = some (1, 102, 0)) r6 (rfl) dX12_hasTwin_98 ?_
      refine V_aload_n dX12_hasTwin_99 rfl rfl ?_
      refine V_getR (k2 := 111) flX12_66 rfl rfl (by decide) dX12_hasTwin_100 ?_
      refine V_iload dX12_hasTwin_103 rfl ?_
      refine V_iald (f := (σ 111 x6)) (rfl : shp[111]? = some (1, 102, 0)) r6 (rfl) dX12_hasTwin_105 ?_
      obtain ⟨r7, h⟩ := h
      obtain ⟨r8, h⟩ := h
      refine V_icmp_ne (tgt := 113) dX12_hasTwin_106 rfl r7 r8 (fun q => ?_) (fun q => ?_)
      · replace h := h.1 q
        refine V_iconst dX12_hasTwin_113 ?_
        refine V_istore (L' := [some (vr 94), some (vi x1), some (vi x2), some (vi x3), some (vi x4), some (vi 0), some (vi x6)]) dX12_hasTwin_114 (by decide) rfl ?_
        refine V_iinc (L' := [some (vr 94), some (vi x1), some (vi x2), some (vi x3), some (vi x4), some (vi 0), some (vi (x6 + 1))]) dX12_hasTwin_116 rfl (by decide) rfl ?_
        refine V_goto (tgt := 80) dX12_hasTwin_119 rfl ?_
        exact V.sub (SubL_s (SubL_s (SubL_s (SubL_s (SubL_s (SubL_s (SubL_s (SubL_0)))))))) h
      · replace h := h.2 q
        refine V_iconst dX12_hasTwin_109 ?_
        refine V_goto (tgt := 114) dX12_hasTwin_110 rfl ?_
        refine V_istore (L' := [some (vr 94), some (vi x1), some (vi x2), some (vi x3), some (vi x4), some (vi 1), some (vi x6)]) dX12_hasTwin_114 (by decide) rfl ?_
        refine V_iinc (L' := [some (vr 94), some (vi x1), some (vi x2), some (vi x3), some (vi x4), some (vi 1), some (vi (x6 + 1))]) dX12_hasTwin_116 rfl (by decide) rfl ?_
        refine V_goto (tgt := 80) dX12_hasTwin_119 rfl ?_
        exact V.sub (SubL_s (SubL_s (SubL_s (SubL_s (SubL_s (SubL_s (SubL_s (SubL_0)))))))) h

set_option maxRecDepth 100000 in
theorem BX12_alsoEmpty_0 {σ : Sg} {post : Po} {x1 : Int} 
  (h : V mX12_alsoEmpty 4 [some (vr 94), some (vi x1), some (vi 0), some (vi 0)] [] σ post) :
  V mX12_alsoEmpty 0 [some (vr 94), some (vi x1), none, none] [] σ post := by
  refine V_iconst dX12_alsoEmpty_0 ?_
  refine V_istore_n (L' := [some (vr 94), some (vi x1), some (vi 0), none]) dX12_alsoEmpty_1 rfl (by decide) rfl ?_
  refine V_iconst dX12_alsoEmpty_2 ?_
  refine V_istore_n (L' := [some (vr 94), some (vi x1), some (vi 0), some (vi 0)]) dX12_alsoEmpty_3 rfl (by decide) rfl ?_
  exact V.sub (SubL_s (SubL_s (SubL_s (SubL_s (SubL_0))))) h
set_option maxRecDepth 100000 in
theorem BX12_alsoEmpty_4 {σ : Sg} {post : Po} {x1 : Int} {x2 : Int} {x3 : Int} 
  (h : (rng x3) ∧ ((rng (σ 94 0)) ∧ (((σ 94 0) ≤ x3 → (x2 = 0 ∨ x2 = 1) ∧ (post (some (vi x2)) σ)) ∧ (¬ (σ 94 0) ≤ x3 → (rng x2) ∧ ((¬ x2 = 0 → V mX12_alsoEmpty 4 [some (vr 94), some (vi x1), some (vi 1), some (vi (x3 + 1))] [] σ post) ∧ (x2 = 0 → (0 ≤ x1 ∧ x1 < 16) ∧ (Cl mX12_has [vi (σ 99 x1), vi x3] σ (pI fun z1 σ1 => (rng z1) ∧ ((z1 = 0 → V mX12_alsoEmpty 4 [some (vr 94), some (vi x1), some (vi 0), some (vi (x3 + 1))] [] σ1 post) ∧ (¬ z1 = 0 → Cl mX12_isFilled [vr 94, vi x3] σ1 (pI fun z2 σ2 => (rng z2) ∧ ((¬ z2 = 0 → V mX12_alsoEmpty 4 [some (vr 94), some (vi x1), some (vi 0), some (vi (x3 + 1))] [] σ2 post) ∧ (z2 = 0 → V mX12_alsoEmpty 4 [some (vr 94), some (vi x1), some (vi 1), some (vi (x3 + 1))] [] σ2 post))))))))))))) :
  V mX12_alsoEmpty 4 [some (vr 94), some (vi x1), some (vi x2), some (vi x3)] [] σ post := by
  refine V_iload_n dX12_alsoEmpty_4 rfl rfl ?_
  refine V_aload_n dX12_alsoEmpty_5 rfl rfl ?_
  refine V_getI (f := (σ 94 0)) flX12_192 rfl (rfl) (by decide) dX12_alsoEmpty_6 ?_
  obtain ⟨r1, h⟩ := h
  obtain ⟨r2, h⟩ := h
  refine V_icmp_ge (tgt := 49) dX12_alsoEmpty_9 rfl r1 r2 (fun q => ?_) (fun q => ?_)
  · replace h := h.1 q
    refine V_iload_n dX12_alsoEmpty_49 rfl rfl ?_
    obtain ⟨r3, h⟩ := h
    exact V_zreturn (stk := []) rfl dX12_alsoEmpty_50 r3 h
  · replace h := h.2 q
    refine V_iload_n dX12_alsoEmpty_12 rfl rfl ?_
    obtain ⟨r4, h⟩ := h
    refine V_if_ne (tgt := 37) dX12_alsoEmpty_13 rfl r4 (fun q => ?_) (fun q => ?_)
    · replace h := h.1 q
      refine V_iconst dX12_alsoEmpty_37 ?_
      refine V_goto (tgt := 42) dX12_alsoEmpty_38 rfl ?_
      refine V_istore_n (L' := [some (vr 94), some (vi x1), some (vi 1), some (vi x3)]) dX12_alsoEmpty_42 rfl (by decide) rfl ?_
      refine V_iinc (L' := [some (vr 94), some (vi x1), some (vi 1), some (vi (x3 + 1))]) dX12_alsoEmpty_43 rfl (by decide) rfl ?_
      refine V_goto (tgt := 4) dX12_alsoEmpty_46 rfl ?_
      exact V.sub (SubL_s (SubL_s (SubL_s (SubL_s (SubL_0))))) h
    · replace h := h.2 q
      refine V_aload_n dX12_alsoEmpty_16 rfl rfl ?_
      refine V_getR (k2 := 99) flX12_22 rfl rfl (by decide) dX12_alsoEmpty_17 ?_
      refine V_iload_n dX12_alsoEmpty_20 rfl rfl ?_
      obtain ⟨r5, h⟩ := h
      refine V_iald (f := (σ 99 x1)) (rfl : shp[99]? = some (1, 16, 0)) r5 (rfl) dX12_alsoEmpty_21 ?_
      refine V_iload_n dX12_alsoEmpty_22 rfl rfl ?_
      refine V_callS (av := [vi (σ 99 x1), vi x3]) (stk := []) cvX12_237 rfl rfl (by decide) (by simp [ctg]) dX12_alsoEmpty_23 h ?_
      rintro _ σ1 ⟨z1, rfl, h⟩
      obtain ⟨r6, h⟩ := h
      refine V_if_eq (tgt := 41) dX12_alsoEmpty_26 rfl r6 (fun q => ?_) (fun q => ?_)
      · replace h := h.1 q
        refine V_iconst dX12_alsoEmpty_41 ?_
        refine V_istore_n (L' := [some (vr 94), some (vi x1), some (vi 0), some (vi x3)]) dX12_alsoEmpty_42 rfl (by decide) rfl ?_
        refine V_iinc (L' := [some (vr 94), some (vi x1), some (vi 0), some (vi (x3 + 1))]) dX12_alsoEmpty_43 rfl (by decide) rfl ?_
        refine V_goto (tgt := 4) dX12_alsoEmpty_46 rfl ?_
        exact V.sub (SubL_s (SubL_s (SubL_s (SubL_s (SubL_0))))) h
      · replace h := h.2 q
        refine V_aload_n dX12_alsoEmpty_29 rfl rfl ?_
        refine V_iload_n dX12_alsoEmpty_30 rfl rfl ?_
        refine V_callV (av := [vi x3]) (stk := []) cvX12_278 rfl rfl rfl (by decide) (by simp [ctg]) dX12_alsoEmpty_31 h ?_
        rintro _ σ2 ⟨z2, rfl, h⟩
        obtain ⟨r7, h⟩ := h
        refine V_if_ne (tgt := 41) dX12_alsoEmpty_34 rfl r7 (fun q => ?_) (fun q => ?_)
        · replace h := h.1 q
          refine V_iconst dX12_alsoEmpty_41 ?_
          refine V_istore_n (L' := [some (vr 94), some (vi x1), some (vi 0), some (vi x3)]) dX12_alsoEmpty_42 rfl (by decide) rfl ?_
          refine V_iinc (L' := [some (vr 94), some (vi x1), some (vi 0), some (vi (x3 + 1))]) dX12_alsoEmpty_43 rfl (by decide) rfl ?_
          refine V_goto (tgt := 4) dX12_alsoEmpty_46 rfl ?_
          exact V.sub (SubL_s (SubL_s (SubL_s (SubL_s (SubL_0))))) h
        · replace h := h.2 q
          refine V_iconst dX12_alsoEmpty_37 ?_
          refine V_goto (tgt := 42) dX12_alsoEmpty_38 rfl ?_
          refine V_istore_n (L' := [some (vr 94), some (vi x1), some (vi 1), some (vi x3)]) dX12_alsoEmpty_42 rfl (by decide) rfl ?_
          refine V_iinc (L' := [some (vr 94), some (vi x1), some (vi 1), some (vi (x3 + 1))]) dX12_alsoEmpty_43 rfl (by decide) rfl ?_
          refine V_goto (tgt := 4) dX12_alsoEmpty_46 rfl ?_
          exact V.sub (SubL_s (SubL_s (SubL_s (SubL_s (SubL_0))))) h

set_option maxRecDepth 100000 in
theorem BX12_isTrouble_0 {σ : Sg} {post : Po} {x1 : Int} {x2 : Int} {x3 : Int} 
  (h : (rng x2) ∧ ((x2 < 0 ∨ 5 < x2 → Cl mX12_hasTwin [vr 94, vi x1] σ (pI fun z1 σ1 => (z1 = 0 ∨ z1 = 1) ∧ (post (some (vi z1)) σ1))) ∧ (x2 = 0 → Cl mX12_foundFrom [vr 94, vi x1] σ (pI fun z2 σ2 => (rng z2) ∧ ((0 ≤ z2 → post (some (vi 0)) σ2) ∧ (¬ 0 ≤ z2 → post (some (vi 1)) σ2)))) ∧ (x2 = 1 → Cl mX12_goesRound [vr 94, vi x1] σ (pI fun z3 σ3 => (z3 = 0 ∨ z3 = 1) ∧ (post (some (vi z3)) σ3))) ∧ (x2 = 2 → Cl mX12_isFilled [vr 94, vi x1] σ (pI fun z4 σ4 => (rng z4) ∧ ((z4 = 0 → post (some (vi 0)) σ4) ∧ (¬ z4 = 0 → (0 ≤ x1 ∧ x1 < 16) ∧ ((rng (σ4 98 x1)) ∧ (((σ4 98 x1) < 0 → post (some (vi 0)) σ4) ∧ (¬ (σ4 98 x1) < 0 → post (some (vi 1)) σ4))))))) ∧ (x2 = 3 → Cl mX12_tick [vr 94, vi x1, vi (-1)] σ (pV fun σ5 => Cl mX12_runsTicked [vr 94] σ5 (pI fun z6 σ6 => (rng z6) ∧ ((rng x3) ∧ ((z6 ≤ x3 → post (some (vi 0)) σ6) ∧ (¬ z6 ≤ x3 → Cl mX12_fullSubs [vr 94, vi x1] σ6 (pI fun z7 σ7 => (rng z7) ∧ ((¬ z7 = 0 → post (some (vi 0)) σ7) ∧ (z7 = 0 → post (some (vi 1)) σ7))))))))) ∧ (x2 = 4 → Cl mX12_fullSubs [vr 94, vi x1] σ (pI fun z8 σ8 => (rng z8) ∧ ((¬ z8 = 1 → post (some (vi 0)) σ8) ∧ (z8 = 1 → post (some (vi 1)) σ8)))) ∧ (x2 = 5 → Cl mX12_alsoEmpty [vr 94, vi x1] σ (pI fun z9 σ9 => (z9 = 0 ∨ z9 = 1) ∧ (post (some (vi z9)) σ9))))) :
  V mX12_isTrouble 0 [some (vr 94), some (vi x1), some (vi x2), some (vi x3)] [] σ post := by
  refine V_iload_n dX12_isTrouble_0 rfl rfl ?_
  obtain ⟨r1, h⟩ := h
  refine V_tsw (dt := 132) dX12_isTrouble_1 r1 rfl rfl (fun q => ?_) (fun j off tgt hx ho ht hp => ?_) (by decide)
  · replace h := h.1 q
    refine V_aload_n dX12_isTrouble_132 rfl rfl ?_
    refine V_iload_n dX12_isTrouble_133 rfl rfl ?_
    refine V_callV (av := [vi x1]) (stk := []) cvX12_435 rfl rfl rfl (by decide) (by simp [ctg]) dX12_isTrouble_134 h ?_
    rintro _ σ1 ⟨z1, rfl, h⟩
    obtain ⟨r2, h⟩ := h
    exact V_zreturn (stk := []) rfl dX12_isTrouble_137 r2 h
  · rcases j with _ | _ | _ | _ | _ | _ | j
    · have e9 : off = 39 := (Option.some.inj (show some (39 : Int) = some off from ho)).symm
      subst e9
      obtain rfl : tgt = 40 := by omega
      replace h := h.2.1 (by omega)
      refine V_aload_n dX12_isTrouble_40 rfl rfl ?_
      refine V_iload_n dX12_isTrouble_41 rfl rfl ?_
      refine V_callV (av := [vi x1]) (stk := []) cvX12_400 rfl rfl rfl (by decide) (by simp [ctg]) dX12_isTrouble_42 h ?_
      rintro _ σ2 ⟨z2, rfl, h⟩
      obtain ⟨r3, h⟩ := h
      refine V_if_ge (tgt := 52) dX12_isTrouble_45 rfl r3 (fun q => ?_) (fun q => ?_)
      · replace h := h.1 q
        refine V_iconst dX12_isTrouble_52 ?_
        exact V_zreturn (stk := []) rfl dX12_isTrouble_53 (by decide) h
      · replace h := h.2 q
        refine V_iconst dX12_isTrouble_48 ?_
        refine V_goto (tgt := 53) dX12_isTrouble_49 rfl ?_
        exact V_zreturn (stk := []) rfl dX12_isTrouble_53 (by decide) h
    · have e9 : off = 53 := (Option.some.inj (show some (53 : Int) = some off from ho)).symm
      subst e9
      obtain rfl : tgt = 54 := by omega
      replace h := h.2.2.1 (by omega)
      refine V_aload_n dX12_isTrouble_54 rfl rfl ?_
      refine V_iload_n dX12_isTrouble_55 rfl rfl ?_
      refine V_callV (av := [vi x1]) (stk := []) cvX12_426 rfl rfl rfl (by decide) (by simp [ctg]) dX12_isTrouble_56 h ?_
      rintro _ σ3 ⟨z3, rfl, h⟩
      obtain ⟨r4, h⟩ := h
      exact V_zreturn (stk := []) rfl dX12_isTrouble_59 r4 h
    · have e9 : off = 59 := (Option.some.inj (show some (59 : Int) = some off from ho)).symm
      subst e9
      obtain rfl : tgt = 60 := by omega
      replace h := h.2.2.2.1 (by omega)
      refine V_aload_n dX12_isTrouble_60 rfl rfl ?_
      refine V_iload_n dX12_isTrouble_61 rfl rfl ?_
      refine V_callV (av := [vi x1]) (stk := []) cvX12_278 rfl rfl rfl (by decide) (by simp [ctg]) dX12_isTrouble_62 h ?_
      rintro _ σ4 ⟨z4, rfl, h⟩
      obtain ⟨r5, h⟩ := h
      refine V_if_eq (tgt := 81) dX12_isTrouble_65 rfl r5 (fun q => ?_) (fun q => ?_)
      · replace h := h.1 q
        refine V_iconst dX12_isTrouble_81 ?_
        exact V_zreturn (stk := []) rfl dX12_isTrouble_82 (by decide) h
      · replace h := h.2 q
        refine V_aload_n dX12_isTrouble_68 rfl rfl ?_
        refine V_getR (k2 := 98) flX12_19 rfl rfl (by decide) dX12_isTrouble_69 ?_
        refine V_iload_n dX12_isTrouble_72 rfl rfl ?_
        obtain ⟨r6, h⟩ := h
        refine V_iald (f := (σ4 98 x1)) (rfl : shp[98]? = some (1, 16, 0)) r6 (rfl) dX12_isTrouble_73 ?_
        obtain ⟨r7, h⟩ := h
        refine V_if_lt (tgt := 81) dX12_isTrouble_74 rfl r7 (fun q => ?_) (fun q => ?_)
        · replace h := h.1 q
          refine V_iconst dX12_isTrouble_81 ?_
          exact V_zreturn (stk := []) rfl dX12_isTrouble_82 (by decide) h
        · replace h := h.2 q
          refine V_iconst dX12_isTrouble_77 ?_
          refine V_goto (tgt := 82) dX12_isTrouble_78 rfl ?_
          exact V_zreturn (stk := []) rfl dX12_isTrouble_82 (by decide) h
    · have e9 : off = 82 := (Option.some.inj (show some (82 : Int) = some off from ho)).symm
      subst e9
      obtain rfl : tgt = 83 := by omega
      replace h := h.2.2.2.2.1 (by omega)
      refine V_aload_n dX12_isTrouble_83 rfl rfl ?_
      refine V_iload_n dX12_isTrouble_84 rfl rfl ?_
      refine V_iconst dX12_isTrouble_85 ?_
      refine V_callV (av := [vi x1, vi (-1)]) (stk := []) cvX12_296 rfl rfl rfl (by decide) (by simp [ctg]) dX12_isTrouble_86 h ?_
      rintro _ σ5 ⟨rfl, h⟩
      refine V_aload_n dX12_isTrouble_89 rfl rfl ?_
      refine V_callV (av := []) (stk := []) cvX12_300 rfl rfl rfl (by decide) (by simp [ctg]) dX12_isTrouble_90 h ?_
      rintro _ σ6 ⟨z6, rfl, h⟩
      refine V_iload_n dX12_isTrouble_93 rfl rfl ?_
      obtain ⟨r8, h⟩ := h
      obtain ⟨r9, h⟩ := h
      refine V_icmp_le (tgt := 109) dX12_isTrouble_94 rfl r8 r9 (fun q => ?_) (fun q => ?_)
      · replace h := h.1 q
        refine V_iconst dX12_isTrouble_109 ?_
        exact V_zreturn (stk := []) rfl dX12_isTrouble_110 (by decide) h
      · replace h := h.2 q
        refine V_aload_n dX12_isTrouble_97 rfl rfl ?_
        refine V_iload_n dX12_isTrouble_98 rfl rfl ?_
        refine V_callV (av := [vi x1]) (stk := []) cvX12_429 rfl rfl rfl (by decide) (by simp [ctg]) dX12_isTrouble_99 h ?_
        rintro _ σ7 ⟨z7, rfl, h⟩
        obtain ⟨r10, h⟩ := h
        refine V_if_ne (tgt := 109) dX12_isTrouble_102 rfl r10 (fun q => ?_) (fun q => ?_)
        · replace h := h.1 q
          refine V_iconst dX12_isTrouble_109 ?_
          exact V_zreturn (stk := []) rfl dX12_isTrouble_110 (by decide) h
        · replace h := h.2 q
          refine V_iconst dX12_isTrouble_105 ?_
          refine V_goto (tgt := 110) dX12_isTrouble_106 rfl ?_
          exact V_zreturn (stk := []) rfl dX12_isTrouble_110 (by decide) h
    · have e9 : off = 110 := (Option.some.inj (show some (110 : Int) = some off from ho)).symm
      subst e9
      obtain rfl : tgt = 111 := by omega
      replace h := h.2.2.2.2.2.1 (by omega)
      refine V_aload_n dX12_isTrouble_111 rfl rfl ?_
      refine V_iload_n dX12_isTrouble_112 rfl rfl ?_
      refine V_callV (av := [vi x1]) (stk := []) cvX12_429 rfl rfl rfl (by decide) (by simp [ctg]) dX12_isTrouble_113 h ?_
      rintro _ σ8 ⟨z8, rfl, h⟩
      refine V_iconst dX12_isTrouble_116 ?_
      obtain ⟨r11, h⟩ := h
      refine V_icmp_ne (tgt := 124) dX12_isTrouble_117 rfl r11 (by decide) (fun q => ?_) (fun q => ?_)
      · replace h := h.1 q
        refine V_iconst dX12_isTrouble_124 ?_
        exact V_zreturn (stk := []) rfl dX12_isTrouble_125 (by decide) h
      · replace h := h.2 q
        refine V_iconst dX12_isTrouble_120 ?_
        refine V_goto (tgt := 125) dX12_isTrouble_121 rfl ?_
        exact V_zreturn (stk := []) rfl dX12_isTrouble_125 (by decide) h
    · have e9 : off = 125 := (Option.some.inj (show some (125 : Int) = some off from ho)).symm
      subst e9
      obtain rfl : tgt = 126 := by omega
      replace h := h.2.2.2.2.2.2 (by omega)
      refine V_aload_n dX12_isTrouble_126 rfl rfl ?_
      refine V_iload_n dX12_isTrouble_127 rfl rfl ?_
      refine V_callV (av := [vi x1]) (stk := []) cvX12_432 rfl rfl rfl (by decide) (by simp [ctg]) dX12_isTrouble_128 h ?_
      rintro _ σ9 ⟨z9, rfl, h⟩
      obtain ⟨r12, h⟩ := h
      exact V_zreturn (stk := []) rfl dX12_isTrouble_131 r12 h
    · exact absurd ho (by simp)

set_option maxRecDepth 100000 in
theorem BX12_trouble_0 {σ : Sg} {post : Po} {x1 : Int} {x2 : Int} 
  (h : (rng x1) ∧ (Cl mX12_in [vl x1, vl 0, vl 6] σ (pI fun z1 σ1 => (rng z1) ∧ ((z1 = 0 → post (some (vi (-1002))) σ1) ∧ (¬ z1 = 0 → (rng x2) ∧ (Cl mX12_in [vl x2, vl 0, vl 20] σ1 (pI fun z2 σ2 => (rng z2) ∧ ((¬ z2 = 0 → V mX12_trouble 33 [some (vr 94), some (vi x1), some (vi x2), some (vi 0), some (vi 0)] [] σ2 post) ∧ (z2 = 0 → post (some (vi (-1002))) σ2))))))))) :
  V mX12_trouble 0 [some (vr 94), some (vi x1), some (vi x2), none, none] [] σ post := by
  refine V_iload_n dX12_trouble_0 rfl rfl ?_
  obtain ⟨r1, h⟩ := h
  refine V_i2l dX12_trouble_1 r1 ?_
  refine V_lconst (z := 0) dX12_trouble_2 rfl ?_
  refine V_ldc2 dX12_trouble_3 klX12_438 ?_
  refine V_callS (av := [vl x1, vl 0, vl 6]) (stk := []) cvX12_146 rfl rfl (by decide) (by simp [ctg]) dX12_trouble_6 h ?_
  rintro _ σ1 ⟨z1, rfl, h⟩
  obtain ⟨r2, h⟩ := h
  refine V_if_eq (tgt := 24) dX12_trouble_9 rfl r2 (fun q => ?_) (fun q => ?_)
  · replace h := h.1 q
    refine V_sipush dX12_trouble_24 (by decide) ?_
    exact V_ireturn (stk := []) rfl dX12_trouble_27 h
  · replace h := h.2 q
    refine V_iload_n dX12_trouble_12 rfl rfl ?_
    obtain ⟨r3, h⟩ := h
    refine V_i2l dX12_trouble_13 r3 ?_
    refine V_lconst (z := 0) dX12_trouble_14 rfl ?_
    refine V_ldc2 dX12_trouble_15 klX12_351 ?_
    refine V_callS (av := [vl x2, vl 0, vl 20]) (stk := []) cvX12_146 rfl rfl (by decide) (by simp [ctg]) dX12_trouble_18 h ?_
    rintro _ σ2 ⟨z2, rfl, h⟩
    obtain ⟨r4, h⟩ := h
    refine V_if_ne (tgt := 28) dX12_trouble_21 rfl r4 (fun q => ?_) (fun q => ?_)
    · replace h := h.1 q
      refine V_iconst dX12_trouble_28 ?_
      refine V_istore_n (L' := [some (vr 94), some (vi x1), some (vi x2), some (vi 0), none]) dX12_trouble_29 rfl (by decide) rfl ?_
      refine V_iconst dX12_trouble_30 ?_
      refine V_istore (L' := [some (vr 94), some (vi x1), some (vi x2), some (vi 0), some (vi 0)]) dX12_trouble_31 (by decide) rfl ?_
      exact V.sub (SubL_s (SubL_s (SubL_s (SubL_s (SubL_s (SubL_0)))))) h
    · replace h := h.2 q
      refine V_sipush dX12_trouble_24 (by decide) ?_
      exact V_ireturn (stk := []) rfl dX12_trouble_27 h
set_option maxRecDepth 100000 in
theorem BX12_trouble_33 {σ : Sg} {post : Po} {x1 : Int} {x2 : Int} {x3 : Int} {x4 : Int} 
  (h : (rng x4) ∧ ((rng (σ 94 0)) ∧ (((σ 94 0) ≤ x4 → post (some (vi x3)) σ) ∧ (¬ (σ 94 0) ≤ x4 → Cl mX12_isTrouble [vr 94, vi x4, vi x1, vi x2] σ (pI fun z1 σ1 => Cl mX12_one [vi z1] σ1 (pI fun z2 σ2 => V mX12_trouble 33 [some (vr 94), some (vi x1), some (vi x2), some (vi (iOr x3 (iShl z2 x4))), some (vi (x4 + 1))] [] σ2 post)))))) :
  V mX12_trouble 33 [some (vr 94), some (vi x1), some (vi x2), some (vi x3), some (vi x4)] [] σ post := by
  refine V_iload dX12_trouble_33 rfl ?_
  refine V_aload_n dX12_trouble_35 rfl rfl ?_
  refine V_getI (f := (σ 94 0)) flX12_192 rfl (rfl) (by decide) dX12_trouble_36 ?_
  obtain ⟨r1, h⟩ := h
  obtain ⟨r2, h⟩ := h
  refine V_icmp_ge (tgt := 65) dX12_trouble_39 rfl r1 r2 (fun q => ?_) (fun q => ?_)
  · replace h := h.1 q
    refine V_iload_n dX12_trouble_65 rfl rfl ?_
    exact V_ireturn (stk := []) rfl dX12_trouble_66 h
  · replace h := h.2 q
    refine V_iload_n dX12_trouble_42 rfl rfl ?_
    refine V_aload_n dX12_trouble_43 rfl rfl ?_
    refine V_iload dX12_trouble_44 rfl ?_
    refine V_iload_n dX12_trouble_46 rfl rfl ?_
    refine V_iload_n dX12_trouble_47 rfl rfl ?_
    refine V_callV (av := [vi x4, vi x1, vi x2]) (stk := [vi x3]) cvX12_440 rfl rfl rfl (by decide) (by simp [ctg]) dX12_trouble_48 h ?_
    rintro _ σ1 ⟨z1, rfl, h⟩
    refine V_callS (av := [vi z1]) (stk := [vi x3]) cvX12_271 rfl rfl (by decide) (by simp [ctg]) dX12_trouble_51 h ?_
    rintro _ σ2 ⟨z2, rfl, h⟩
    refine V_iload dX12_trouble_54 rfl ?_
    refine V_ishl dX12_trouble_56 ?_
    refine V_ior dX12_trouble_57 ?_
    refine V_istore_n (L' := [some (vr 94), some (vi x1), some (vi x2), some (vi (iOr x3 (iShl z2 x4))), some (vi x4)]) dX12_trouble_58 rfl (by decide) rfl ?_
    refine V_iinc (L' := [some (vr 94), some (vi x1), some (vi x2), some (vi (iOr x3 (iShl z2 x4))), some (vi (x4 + 1))]) dX12_trouble_59 rfl (by decide) rfl ?_
    refine V_goto (tgt := 33) dX12_trouble_62 rfl ?_
    exact V.sub (SubL_s (SubL_s (SubL_s (SubL_s (SubL_s (SubL_0)))))) h

set_option maxRecDepth 100000 in
theorem BX12_canPost_0 {σ : Sg} {post : Po} {x1 : Int} 
  (h : Cl mX12_isFilled [vr 94, vi x1] σ (pI fun z1 σ1 => (rng z1) ∧ ((¬ z1 = 0 → post (some (vi 0)) σ1) ∧ (z1 = 0 → Cl mX12_foundFrom [vr 94, vi x1] σ1 (pI fun z2 σ2 => (rng z2) ∧ ((z2 < 0 → post (some (vi 0)) σ2) ∧ (¬ z2 < 0 → post (some (vi 1)) σ2))))))) :
  V mX12_canPost 0 [some (vr 94), some (vi x1)] [] σ post := by
  refine V_aload_n dX12_canPost_0 rfl rfl ?_
  refine V_iload_n dX12_canPost_1 rfl rfl ?_
  refine V_callV (av := [vi x1]) (stk := []) cvX12_278 rfl rfl rfl (by decide) (by simp [ctg]) dX12_canPost_2 h ?_
  rintro _ σ1 ⟨z1, rfl, h⟩
  obtain ⟨r1, h⟩ := h
  refine V_if_ne (tgt := 20) dX12_canPost_5 rfl r1 (fun q => ?_) (fun q => ?_)
  · replace h := h.1 q
    refine V_iconst dX12_canPost_20 ?_
    exact V_zreturn (stk := []) rfl dX12_canPost_21 (by decide) h
  · replace h := h.2 q
    refine V_aload_n dX12_canPost_8 rfl rfl ?_
    refine V_iload_n dX12_canPost_9 rfl rfl ?_
    refine V_callV (av := [vi x1]) (stk := []) cvX12_400 rfl rfl rfl (by decide) (by simp [ctg]) dX12_canPost_10 h ?_
    rintro _ σ2 ⟨z2, rfl, h⟩
    obtain ⟨r2, h⟩ := h
    refine V_if_lt (tgt := 20) dX12_canPost_13 rfl r2 (fun q => ?_) (fun q => ?_)
    · replace h := h.1 q
      refine V_iconst dX12_canPost_20 ?_
      exact V_zreturn (stk := []) rfl dX12_canPost_21 (by decide) h
    · replace h := h.2 q
      refine V_iconst dX12_canPost_16 ?_
      refine V_goto (tgt := 21) dX12_canPost_17 rfl ?_
      exact V_zreturn (stk := []) rfl dX12_canPost_21 (by decide) h

set_option maxRecDepth 100000 in
theorem BX12_noSet_0 {σ : Sg} {post : Po} {x1 : Int} 
  (h : (rng x1) ∧ ((rng ((iShl 1 (σ 94 0)) - 1)) ∧ (Cl mX12_in [vl x1, vl 0, vl ((iShl 1 (σ 94 0)) - 1)] σ (pI fun z1 σ1 => (rng z1) ∧ ((¬ z1 = 0 → post (some (vi 0)) σ1) ∧ (z1 = 0 → post (some (vi 1)) σ1)))))) :
  V mX12_noSet 0 [some (vr 94), some (vi x1)] [] σ post := by
  refine V_iload_n dX12_noSet_0 rfl rfl ?_
  obtain ⟨r1, h⟩ := h
  refine V_i2l dX12_noSet_1 r1 ?_
  refine V_lconst (z := 0) dX12_noSet_2 rfl ?_
  refine V_iconst dX12_noSet_3 ?_
  refine V_aload_n dX12_noSet_4 rfl rfl ?_
  refine V_getI (f := (σ 94 0)) flX12_192 rfl (rfl) (by decide) dX12_noSet_5 ?_
  refine V_ishl dX12_noSet_8 ?_
  refine V_iconst dX12_noSet_9 ?_
  refine V_isub dX12_noSet_10 ?_
  obtain ⟨r2, h⟩ := h
  refine V_i2l dX12_noSet_11 r2 ?_
  refine V_callS (av := [vl x1, vl 0, vl ((iShl 1 (σ 94 0)) - 1)]) (stk := []) cvX12_146 rfl rfl (by decide) (by simp [ctg]) dX12_noSet_12 h ?_
  rintro _ σ1 ⟨z1, rfl, h⟩
  obtain ⟨r3, h⟩ := h
  refine V_if_ne (tgt := 22) dX12_noSet_15 rfl r3 (fun q => ?_) (fun q => ?_)
  · replace h := h.1 q
    refine V_iconst dX12_noSet_22 ?_
    exact V_zreturn (stk := []) rfl dX12_noSet_23 (by decide) h
  · replace h := h.2 q
    refine V_iconst dX12_noSet_18 ?_
    refine V_goto (tgt := 23) dX12_noSet_19 rfl ?_
    exact V_zreturn (stk := []) rfl dX12_noSet_23 (by decide) h

set_option maxRecDepth 100000 in
theorem BX12_posted_0 {σ : Sg} {post : Po} {x1 : Int} 
  (h : Cl mX12_noSet [vr 94, vi x1] σ (pI fun z1 σ1 => (rng z1) ∧ ((z1 = 0 → V mX12_posted 14 [some (vr 94), some (vi x1), some (vi 0)] [] σ1 post) ∧ (¬ z1 = 0 → post (some (vi (-1001))) σ1)))) :
  V mX12_posted 0 [some (vr 94), some (vi x1), none] [] σ post := by
  refine V_aload_n dX12_posted_0 rfl rfl ?_
  refine V_iload_n dX12_posted_1 rfl rfl ?_
  refine V_callV (av := [vi x1]) (stk := []) cvX12_443 rfl rfl rfl (by decide) (by simp [ctg]) dX12_posted_2 h ?_
  rintro _ σ1 ⟨z1, rfl, h⟩
  obtain ⟨r1, h⟩ := h
  refine V_if_eq (tgt := 12) dX12_posted_5 rfl r1 (fun q => ?_) (fun q => ?_)
  · replace h := h.1 q
    refine V_iconst dX12_posted_12 ?_
    refine V_istore_n (L' := [some (vr 94), some (vi x1), some (vi 0)]) dX12_posted_13 rfl (by decide) rfl ?_
    exact V.sub (SubL_s (SubL_s (SubL_s (SubL_0)))) h
  · replace h := h.2 q
    refine V_sipush dX12_posted_8 (by decide) ?_
    exact V_ireturn (stk := []) rfl dX12_posted_11 h
set_option maxRecDepth 100000 in
theorem BX12_posted_14 {σ : Sg} {post : Po} {x1 : Int} {x2 : Int} 
  (h : (rng x2) ∧ ((rng (σ 94 0)) ∧ (((σ 94 0) ≤ x2 → Cl mX12_linesOfAll [vr 94, vi x1] σ (pI fun z1 σ1 => post (some (vi z1)) σ1)) ∧ (¬ (σ 94 0) ≤ x2 → Cl mX12_has [vi x1, vi x2] σ (pI fun z2 σ2 => (rng z2) ∧ ((z2 = 0 → V mX12_posted 14 [some (vr 94), some (vi x1), some (vi (x2 + 1))] [] σ2 post) ∧ (¬ z2 = 0 → Cl mX12_canPost [vr 94, vi x2] σ2 (pI fun z3 σ3 => (rng z3) ∧ ((¬ z3 = 0 → V mX12_posted 14 [some (vr 94), some (vi x1), some (vi (x2 + 1))] [] σ3 post) ∧ (z3 = 0 → post (some (vi (-1003))) σ3)))))))))) :
  V mX12_posted 14 [some (vr 94), some (vi x1), some (vi x2)] [] σ post := by
  refine V_iload_n dX12_posted_14 rfl rfl ?_
  refine V_aload_n dX12_posted_15 rfl rfl ?_
  refine V_getI (f := (σ 94 0)) flX12_192 rfl (rfl) (by decide) dX12_posted_16 ?_
  obtain ⟨r1, h⟩ := h
  obtain ⟨r2, h⟩ := h
  refine V_icmp_ge (tgt := 48) dX12_posted_19 rfl r1 r2 (fun q => ?_) (fun q => ?_)
  · replace h := h.1 q
    refine V_aload_n dX12_posted_48 rfl rfl ?_
    refine V_iload_n dX12_posted_49 rfl rfl ?_
    refine V_callV (av := [vi x1]) (stk := []) cvX12_284 rfl rfl rfl (by decide) (by simp [ctg]) dX12_posted_50 h ?_
    rintro _ σ1 ⟨z1, rfl, h⟩
    exact V_ireturn (stk := []) rfl dX12_posted_53 h
  · replace h := h.2 q
    refine V_iload_n dX12_posted_22 rfl rfl ?_
    refine V_iload_n dX12_posted_23 rfl rfl ?_
    refine V_callS (av := [vi x1, vi x2]) (stk := []) cvX12_237 rfl rfl (by decide) (by simp [ctg]) dX12_posted_24 h ?_
    rintro _ σ2 ⟨z2, rfl, h⟩
    obtain ⟨r3, h⟩ := h
    refine V_if_eq (tgt := 42) dX12_posted_27 rfl r3 (fun q => ?_) (fun q => ?_)
    · replace h := h.1 q
      refine V_iinc (L' := [some (vr 94), some (vi x1), some (vi (x2 + 1))]) dX12_posted_42 rfl (by decide) rfl ?_
      refine V_goto (tgt := 14) dX12_posted_45 rfl ?_
      exact V.sub (SubL_s (SubL_s (SubL_s (SubL_0)))) h
    · replace h := h.2 q
      refine V_aload_n dX12_posted_30 rfl rfl ?_
      refine V_iload_n dX12_posted_31 rfl rfl ?_
      refine V_callV (av := [vi x2]) (stk := []) cvX12_446 rfl rfl rfl (by decide) (by simp [ctg]) dX12_posted_32 h ?_
      rintro _ σ3 ⟨z3, rfl, h⟩
      obtain ⟨r4, h⟩ := h
      refine V_if_ne (tgt := 42) dX12_posted_35 rfl r4 (fun q => ?_) (fun q => ?_)
      · replace h := h.1 q
        refine V_iinc (L' := [some (vr 94), some (vi x1), some (vi (x2 + 1))]) dX12_posted_42 rfl (by decide) rfl ?_
        refine V_goto (tgt := 14) dX12_posted_45 rfl ?_
        exact V.sub (SubL_s (SubL_s (SubL_s (SubL_0)))) h
      · replace h := h.2 q
        refine V_sipush dX12_posted_38 (by decide) ?_
        exact V_ireturn (stk := []) rfl dX12_posted_41 h

set_option maxRecDepth 100000 in
theorem BX12_tryPosting_0 {σ : Sg} {post : Po} {x1 : Int} 
  (h : Cl mX12_linesOfAll [vr 94, vi 0] σ (pI fun z1 σ1 => V mX12_tryPosting 11 [some (vr 94), some (vi x1), some (vi z1), some (vi 0), some (vi 0), none, none, none, none] [] σ1 post)) :
  V mX12_tryPosting 0 [some (vr 94), some (vi x1), none, none, none, none, none, none, none] [] σ post := by
  refine V_aload_n dX12_tryPosting_0 rfl rfl ?_
  refine V_iconst dX12_tryPosting_1 ?_
  refine V_callV (av := [vi 0]) (stk := []) cvX12_284 rfl rfl rfl (by decide) (by simp [ctg]) dX12_tryPosting_2 h ?_
  rintro _ σ1 ⟨z1, rfl, h⟩
  refine V_istore_n (L' := [some (vr 94), some (vi x1), some (vi z1), none, none, none, none, none, none]) dX12_tryPosting_5 rfl (by decide) rfl ?_
  refine V_iconst dX12_tryPosting_6 ?_
  refine V_istore_n (L' := [some (vr 94), some (vi x1), some (vi z1), some (vi 0), none, none, none, none, none]) dX12_tryPosting_7 rfl (by decide) rfl ?_
  refine V_iconst dX12_tryPosting_8 ?_
  refine V_istore (L' := [some (vr 94), some (vi x1), some (vi z1), some (vi 0), some (vi 0), none, none, none, none]) dX12_tryPosting_9 (by decide) rfl ?_
  exact V.sub (SubL_s (SubL_s (SubL_s (SubL_s (SubL_s (SubL_n (SubL_n (SubL_n (SubL_n (SubL_0)))))))))) h
set_option maxRecDepth 100000 in
theorem BX12_tryPosting_11 {σ : Sg} {post : Po} {x1 : Int} {x2 : Int} {x3 : Int} {x4 : Int} 
  (h : (rng x4) ∧ ((rng (σ 94 0)) ∧ (((σ 94 0) ≤ x4 → V mX12_tryPosting 117 [some (vr 94), some (vi x1), some (vi x2), some (vi x3), some (vi 0), none, none, none, none] [] (up (up (up σ 94 38 (-1)) 94 39 (-1)) 94 40 (-1)) post) ∧ (¬ (σ 94 0) ≤ x4 → (rng x3) ∧ ((10 ≤ x3 → V mX12_tryPosting 117 [some (vr 94), some (vi x1), some (vi x2), some (vi x3), some (vi 0), none, none, none, none] [] (up (up (up σ 94 38 (-1)) 94 39 (-1)) 94 40 (-1)) post) ∧ (¬ 10 ≤ x3 → Cl mX12_canPost [vr 94, vi x4] σ (pI fun z1 σ1 => (rng z1) ∧ ((z1 = 0 → V mX12_tryPosting 11 [some (vr 94), some (vi x1), some (vi x2), some (vi x3), some (vi (x4 + 1)), none, none, none, none] [] σ1 post) ∧ (¬ z1 = 0 → (0 ≤ x3 ∧ x3 < 10) ∧ (Cl mX12_linesOf [vr 94, vi x4, vi 2] (up σ1 112 x3 x4) (pI fun z2 σ2 => Cl mX12_linesOf [vr 94, vi x4, vi 0] σ2 (pI fun z3 σ3 => Cl mX12_foundFrom [vr 94, vi x4] (up σ3 113 x3 (z2 - z3)) (pI fun z4 σ4 => (0 ≤ x4 ∧ x4 < 16) ∧ (V mX12_tryPosting 11 [some (vr 94), some (vi x1), some (vi x2), some (vi (x3 + 1)), some (vi (x4 + 1)), none, none, none, none] [] (up σ4 114 x3 ((σ4 100 x4) * (σ4 94 36))) post)))))))))))))) :
  V mX12_tryPosting 11 [some (vr 94), some (vi x1), some (vi x2), some (vi x3), some (vi x4), none, none, none, none] [] σ post := by
  refine V_iload dX12_tryPosting_11 rfl ?_
  refine V_aload_n dX12_tryPosting_13 rfl rfl ?_
  refine V_getI (f := (σ 94 0)) flX12_192 rfl (rfl) (by decide) dX12_tryPosting_14 ?_
  obtain ⟨r1, h⟩ := h
  obtain ⟨r2, h⟩ := h
  refine V_icmp_ge (tgt := 99) dX12_tryPosting_17 rfl r1 r2 (fun q => ?_) (fun q => ?_)
  · replace h := h.1 q
    refine V_aload_n dX12_tryPosting_99 rfl rfl ?_
    refine V_iconst dX12_tryPosting_100 ?_
    refine V_putI flX12_449 rfl (by decide) dX12_tryPosting_101 ?_
    refine V_aload_n dX12_tryPosting_104 rfl rfl ?_
    refine V_iconst dX12_tryPosting_105 ?_
    refine V_putI flX12_452 rfl (by decide) dX12_tryPosting_106 ?_
    refine V_aload_n dX12_tryPosting_109 rfl rfl ?_
    refine V_iconst dX12_tryPosting_110 ?_
    refine V_putI flX12_455 rfl (by decide) dX12_tryPosting_111 ?_
    refine V_iconst dX12_tryPosting_114 ?_
    refine V_istore (L' := [some (vr 94), some (vi x1), some (vi x2), some (vi x3), some (vi 0), none, none, none, none]) dX12_tryPosting_115 (by decide) rfl ?_
    exact V.sub (SubL_s (SubL_s (SubL_s (SubL_s (SubL_s (SubL_n (SubL_n (SubL_n (SubL_n (SubL_0)))))))))) h
  · replace h := h.2 q
    refine V_iload_n dX12_tryPosting_20 rfl rfl ?_
    refine V_bipush dX12_tryPosting_21 (by decide) ?_
    obtain ⟨r3, h⟩ := h
    refine V_icmp_ge (tgt := 99) dX12_tryPosting_23 rfl r3 (by decide) (fun q => ?_) (fun q => ?_)
    · replace h := h.1 q
      refine V_aload_n dX12_tryPosting_99 rfl rfl ?_
      refine V_iconst dX12_tryPosting_100 ?_
      refine V_putI flX12_449 rfl (by decide) dX12_tryPosting_101 ?_
      refine V_aload_n dX12_tryPosting_104 rfl rfl ?_
      refine V_iconst dX12_tryPosting_105 ?_
      refine V_putI flX12_452 rfl (by decide) dX12_tryPosting_106 ?_
      refine V_aload_n dX12_tryPosting_109 rfl rfl ?_
      refine V_iconst dX12_tryPosting_110 ?_
      refine V_putI flX12_455 rfl (by decide) dX12_tryPosting_111 ?_
      refine V_iconst dX12_tryPosting_114 ?_
      refine V_istore (L' := [some (vr 94), some (vi x1), some (vi x2), some (vi x3), some (vi 0), none, none, none, none]) dX12_tryPosting_115 (by decide) rfl ?_
      exact V.sub (SubL_s (SubL_s (SubL_s (SubL_s (SubL_s (SubL_n (SubL_n (SubL_n (SubL_n (SubL_0)))))))))) h
    · replace h := h.2 q
      refine V_aload_n dX12_tryPosting_26 rfl rfl ?_
      refine V_iload dX12_tryPosting_27 rfl ?_
      refine V_callV (av := [vi x4]) (stk := []) cvX12_446 rfl rfl rfl (by decide) (by simp [ctg]) dX12_tryPosting_29 h ?_
      rintro _ σ1 ⟨z1, rfl, h⟩
      obtain ⟨r4, h⟩ := h
      refine V_if_eq (tgt := 93) dX12_tryPosting_32 rfl r4 (fun q => ?_) (fun q => ?_)
      · replace h := h.1 q
        refine V_iinc (L' := [some (vr 94), some (vi x1), some (vi x2), some (vi x3), some (vi (x4 + 1)), none, none, none, none]) dX12_tryPosting_93 rfl (by decide) rfl ?_
        refine V_goto (tgt := 11) dX12_tryPosting_96 rfl ?_
        exact V.sub (SubL_s (SubL_s (SubL_s (SubL_s (SubL_s (SubL_n (SubL_n (SubL_n (SubL_n (SubL_0)))))))))) h
      · replace h := h.2 q
        refine V_aload_n dX12_tryPosting_35 rfl rfl ?_
        refine V_getR (k2 := 112) flX12_69 rfl rfl (by decide) dX12_tryPosting_36 ?_
        refine V_iload_n dX12_tryPosting_39 rfl rfl ?_
        refine V_iload dX12_tryPosting_40 rfl ?_
        obtain ⟨r5, h⟩ := h
        refine V_iast (rfl : shp[112]? = some (1, 10, 0)) r5 dX12_tryPosting_42 ?_
        refine V_aload_n dX12_tryPosting_43 rfl rfl ?_
        refine V_getR (k2 := 113) flX12_72 rfl rfl (by decide) dX12_tryPosting_44 ?_
        refine V_iload_n dX12_tryPosting_47 rfl rfl ?_
        refine V_aload_n dX12_tryPosting_48 rfl rfl ?_
        refine V_iload dX12_tryPosting_49 rfl ?_
        refine V_iconst dX12_tryPosting_51 ?_
        refine V_callV (av := [vi x4, vi 2]) (stk := [vi x3, vr 113]) cvX12_303 rfl rfl rfl (by decide) (by simp [ctg]) dX12_tryPosting_52 h ?_
        rintro _ σ2 ⟨z2, rfl, h⟩
        refine V_aload_n dX12_tryPosting_55 rfl rfl ?_
        refine V_iload dX12_tryPosting_56 rfl ?_
        refine V_iconst dX12_tryPosting_58 ?_
        refine V_callV (av := [vi x4, vi 0]) (stk := [vi z2, vi x3, vr 113]) cvX12_303 rfl rfl rfl (by decide) (by simp [ctg]) dX12_tryPosting_59 h ?_
        rintro _ σ3 ⟨z3, rfl, h⟩
        refine V_isub dX12_tryPosting_62 ?_
        refine V_iast (rfl : shp[113]? = some (1, 10, 0)) r5 dX12_tryPosting_63 ?_
        refine V_aload_n dX12_tryPosting_64 rfl rfl ?_
        refine V_iload dX12_tryPosting_65 rfl ?_
        refine V_callV (av := [vi x4]) (stk := []) cvX12_400 rfl rfl rfl (by decide) (by simp [ctg]) dX12_tryPosting_67 h ?_
        rintro _ σ4 ⟨z4, rfl, h⟩
        refine V_istore (L' := [some (vr 94), some (vi x1), some (vi x2), some (vi x3), some (vi x4), some (vi z4), none, none, none]) dX12_tryPosting_70 (by decide) rfl ?_
        refine V_aload_n dX12_tryPosting_72 rfl rfl ?_
        refine V_getR (k2 := 114) flX12_75 rfl rfl (by decide) dX12_tryPosting_73 ?_
        refine V_iload_n dX12_tryPosting_76 rfl rfl ?_
        refine V_aload_n dX12_tryPosting_77 rfl rfl ?_
        refine V_getR (k2 := 100) flX12_25 rfl rfl (by decide) dX12_tryPosting_78 ?_
        refine V_iload dX12_tryPosting_81 rfl ?_
        obtain ⟨r6, h⟩ := h
        refine V_iald (f := (σ4 100 x4)) (rfl : shp[100]? = some (1, 16, 0)) r6 (rfl) dX12_tryPosting_83 ?_
        refine V_aload_n dX12_tryPosting_84 rfl rfl ?_
        refine V_getI (f := (σ4 94 36)) flX12_415 rfl (rfl) (by decide) dX12_tryPosting_85 ?_
        refine V_imul dX12_tryPosting_88 ?_
        refine V_iast (rfl : shp[114]? = some (1, 10, 0)) r5 dX12_tryPosting_89 ?_
        refine V_iinc (L' := [some (vr 94), some (vi x1), some (vi x2), some (vi (x3 + 1)), some (vi x4), some (vi z4), none, none, none]) dX12_tryPosting_90 rfl (by decide) rfl ?_
        refine V_iinc (L' := [some (vr 94), some (vi x1), some (vi x2), some (vi (x3 + 1)), some (vi (x4 + 1)), some (vi z4), none, none, none]) dX12_tryPosting_93 rfl (by decide) rfl ?_
        refine V_goto (tgt := 11) dX12_tryPosting_96 rfl ?_
        exact V.sub (SubL_s (SubL_s (SubL_s (SubL_s (SubL_s (SubL_n (SubL_n (SubL_n (SubL_n (SubL_0)))))))))) h
set_option maxRecDepth 100000 in
theorem BX12_tryPosting_117 {σ : Sg} {post : Po} {x1 : Int} {x2 : Int} {x3 : Int} {x4 : Int} 
  (h : (rng x4) ∧ (((iShl 1 x3) ≤ x4 → post none σ) ∧ (¬ (iShl 1 x3) ≤ x4 → (rng x2) ∧ ((rng x1) ∧ ((x1 < x2 → post none σ) ∧ (¬ x1 < x2 → V mX12_tryPosting 142 [some (vr 94), some (vi x1), some (vi x2), some (vi x3), some (vi x4), some (vi 0), some (vi x2), some (vi 0), some (vi 0)] [] σ post)))))) :
  V mX12_tryPosting 117 [some (vr 94), some (vi x1), some (vi x2), some (vi x3), some (vi x4), none, none, none, none] [] σ post := by
  refine V_iload dX12_tryPosting_117 rfl ?_
  refine V_iconst dX12_tryPosting_119 ?_
  refine V_iload_n dX12_tryPosting_120 rfl rfl ?_
  refine V_ishl dX12_tryPosting_121 ?_
  obtain ⟨r1, h⟩ := h
  refine V_icmp_ge (tgt := 291) dX12_tryPosting_122 rfl r1 (rng_of _) (fun q => ?_) (fun q => ?_)
  · replace h := h.1 q
    exact V_return (stk := []) rfl dX12_tryPosting_291 h
  · replace h := h.2 q
    refine V_iload_n dX12_tryPosting_125 rfl rfl ?_
    refine V_iload_n dX12_tryPosting_126 rfl rfl ?_
    obtain ⟨r2, h⟩ := h
    obtain ⟨r3, h⟩ := h
    refine V_icmp_gt (tgt := 291) dX12_tryPosting_127 rfl r2 r3 (fun q => ?_) (fun q => ?_)
    · replace h := h.1 q
      exact V_return (stk := []) rfl dX12_tryPosting_291 h
    · replace h := h.2 q
      refine V_iconst dX12_tryPosting_130 ?_
      refine V_istore (L' := [some (vr 94), some (vi x1), some (vi x2), some (vi x3), some (vi x4), some (vi 0), none, none, none]) dX12_tryPosting_131 (by decide) rfl ?_
      refine V_iload_n dX12_tryPosting_133 rfl rfl ?_
      refine V_istore (L' := [some (vr 94), some (vi x1), some (vi x2), some (vi x3), some (vi x4), some (vi 0), some (vi x2), none, none]) dX12_tryPosting_134 (by decide) rfl ?_
      refine V_iconst dX12_tryPosting_136 ?_
      refine V_istore (L' := [some (vr 94), some (vi x1), some (vi x2), some (vi x3), some (vi x4), some (vi 0), some (vi x2), some (vi 0), none]) dX12_tryPosting_137 (by decide) rfl ?_
      refine V_iconst dX12_tryPosting_139 ?_
      refine V_istore (L' := [some (vr 94), some (vi x1), some (vi x2), some (vi x3), some (vi x4), some (vi 0), some (vi x2), some (vi 0), some (vi 0)]) dX12_tryPosting_140 (by decide) rfl ?_
      exact V.sub (SubL_s (SubL_s (SubL_s (SubL_s (SubL_s (SubL_s (SubL_s (SubL_s (SubL_s (SubL_0)))))))))) h
set_option maxRecDepth 100000 in
theorem BX12_tryPosting_142 {σ : Sg} {post : Po} {x1 : Int} {x2 : Int} {x3 : Int} {x4 : Int} {x5 : Int} {x6 : Int} {x7 : Int} {x8 : Int} 
  (h : (rng x8) ∧ ((rng x3) ∧ ((x3 ≤ x8 → (rng x6) ∧ ((rng x1) ∧ ((x1 < x6 → V mX12_tryPosting 117 [some (vr 94), some (vi x1), some (vi x2), some (vi x3), some (vi (x4 + 1)), none, none, none, none] [] σ post) ∧ (¬ x1 < x6 → (rng x7) ∧ ((rng (σ 94 39)) ∧ (((σ 94 39) < x7 → V mX12_tryPosting 117 [some (vr 94), some (vi x1), some (vi x2), some (vi x3), some (vi (x4 + 1)), none, none, none, none] [] (up (up (up σ 94 38 x5) 94 39 x7) 94 40 x6) post) ∧ (¬ (σ 94 39) < x7 → (¬ x7 = (σ 94 39) → V mX12_tryPosting 117 [some (vr 94), some (vi x1), some (vi x2), some (vi x3), some (vi (x4 + 1)), none, none, none, none] [] σ post) ∧ (x7 = (σ 94 39) → (rng (σ 94 40)) ∧ (((σ 94 40) ≤ x6 → V mX12_tryPosting 117 [some (vr 94), some (vi x1), some (vi x2), some (vi x3), some (vi (x4 + 1)), none, none, none, none] [] σ post) ∧ (¬ (σ 94 40) ≤ x6 → V mX12_tryPosting 117 [some (vr 94), some (vi x1), some (vi x2), some (vi x3), some (vi (x4 + 1)), none, none, none, none] [] (up (up (up σ 94 38 x5) 94 39 x7) 94 40 x6) post)))))))))) ∧ (¬ x3 ≤ x8 → Cl mX12_has [vi x4, vi x8] σ (pI fun z1 σ1 => (rng z1) ∧ ((z1 = 0 → Cl mX12_has [vi x4, vi x8] σ1 (pI fun z2 σ2 => (rng z2) ∧ ((z2 = 0 → Cl mX12_has [vi x4, vi x8] σ2 (pI fun z3 σ3 => (rng z3) ∧ ((z3 = 0 → V mX12_tryPosting 142 [some (vr 94), some (vi x1), some (vi x2), some (vi x3), some (vi x4), some (vi (iOr x5 0)), some (vi (x6 + 0)), some (vi (x7 + 0)), some (vi (x8 + 1))] [] σ3 post) ∧ (¬ z3 = 0 → (0 ≤ x8 ∧ x8 < 10) ∧ (V mX12_tryPosting 142 [some (vr 94), some (vi x1), some (vi x2), some (vi x3), some (vi x4), some (vi (iOr x5 0)), some (vi (x6 + 0)), some (vi (x7 + (σ3 114 x8))), some (vi (x8 + 1))] [] σ3 post))))) ∧ (¬ z2 = 0 → (0 ≤ x8 ∧ x8 < 10) ∧ (Cl mX12_has [vi x4, vi x8] σ2 (pI fun z4 σ4 => (rng z4) ∧ ((z4 = 0 → V mX12_tryPosting 142 [some (vr 94), some (vi x1), some (vi x2), some (vi x3), some (vi x4), some (vi (iOr x5 0)), some (vi (x6 + (σ2 113 x8))), some (vi (x7 + 0)), some (vi (x8 + 1))] [] σ4 post) ∧ (¬ z4 = 0 → V mX12_tryPosting 142 [some (vr 94), some (vi x1), some (vi x2), some (vi x3), some (vi x4), some (vi (iOr x5 0)), some (vi (x6 + (σ2 113 x8))), some (vi (x7 + (σ4 114 x8))), some (vi (x8 + 1))] [] σ4 post)))))))) ∧ (¬ z1 = 0 → (0 ≤ x8 ∧ x8 < 10) ∧ (Cl mX12_has [vi x4, vi x8] σ1 (pI fun z5 σ5 => (rng z5) ∧ ((z5 = 0 → Cl mX12_has [vi x4, vi x8] σ5 (pI fun z6 σ6 => (rng z6) ∧ ((z6 = 0 → V mX12_tryPosting 142 [some (vr 94), some (vi x1), some (vi x2), some (vi x3), some (vi x4), some (vi (iOr x5 (iShl 1 (σ1 112 x8)))), some (vi (x6 + 0)), some (vi (x7 + 0)), some (vi (x8 + 1))] [] σ6 post) ∧ (¬ z6 = 0 → V mX12_tryPosting 142 [some (vr 94), some (vi x1), some (vi x2), some (vi x3), some (vi x4), some (vi (iOr x5 (iShl 1 (σ1 112 x8)))), some (vi (x6 + 0)), some (vi (x7 + (σ6 114 x8))), some (vi (x8 + 1))] [] σ6 post)))) ∧ (¬ z5 = 0 → Cl mX12_has [vi x4, vi x8] σ5 (pI fun z7 σ7 => (rng z7) ∧ ((z7 = 0 → V mX12_tryPosting 142 [some (vr 94), some (vi x1), some (vi x2), some (vi x3), some (vi x4), some (vi (iOr x5 (iShl 1 (σ1 112 x8)))), some (vi (x6 + (σ5 113 x8))), some (vi (x7 + 0)), some (vi (x8 + 1))] [] σ7 post) ∧ (¬ z7 = 0 → V mX12_tryPosting 142 [some (vr 94), some (vi x1), some (vi x2), some (vi x3), some (vi x4), some (vi (iOr x5 (iShl 1 (σ1 112 x8)))), some (vi (x6 + (σ5 113 x8))), some (vi (x7 + (σ7 114 x8))), some (vi (x8 + 1))] [] σ7 post)))))))))))))) :
  V mX12_tryPosting 142 [some (vr 94), some (vi x1), some (vi x2), some (vi x3), some (vi x4), some (vi x5), some (vi x6), some (vi x7), some (vi x8)] [] σ post := by
  refine V_iload dX12_tryPosting_142 rfl ?_
  refine V_iload_n dX12_tryPosting_144 rfl rfl ?_
  obtain ⟨r1, h⟩ := h
  obtain ⟨r2, h⟩ := h
  refine V_icmp_ge (tgt := 234) dX12_tryPosting_145 rfl r1 r2 (fun q => ?_) (fun q => ?_)
  · replace h := h.1 q
    refine V_iload dX12_tryPosting_234 rfl ?_
    refine V_iload_n dX12_tryPosting_236 rfl rfl ?_
    obtain ⟨r3, h⟩ := h
    obtain ⟨r4, h⟩ := h
    refine V_icmp_gt (tgt := 285) dX12_tryPosting_237 rfl r3 r4 (fun q => ?_) (fun q => ?_)
    · replace h := h.1 q
      refine V_iinc (L' := [some (vr 94), some (vi x1), some (vi x2), some (vi x3), some (vi (x4 + 1)), some (vi x5), some (vi x6), some (vi x7), some (vi x8)]) dX12_tryPosting_285 rfl (by decide) rfl ?_
      refine V_goto (tgt := 117) dX12_tryPosting_288 rfl ?_
      exact V.sub (SubL_s (SubL_s (SubL_s (SubL_s (SubL_s (SubL_n (SubL_n (SubL_n (SubL_n (SubL_0)))))))))) h
    · replace h := h.2 q
      refine V_iload dX12_tryPosting_240 rfl ?_
      refine V_aload_n dX12_tryPosting_242 rfl rfl ?_
      refine V_getI (f := (σ 94 39)) flX12_452 rfl (rfl) (by decide) dX12_tryPosting_243 ?_
      obtain ⟨r5, h⟩ := h
      obtain ⟨r6, h⟩ := h
      refine V_icmp_gt (tgt := 267) dX12_tryPosting_246 rfl r5 r6 (fun q => ?_) (fun q => ?_)
      · replace h := h.1 q
        refine V_aload_n dX12_tryPosting_267 rfl rfl ?_
        refine V_iload dX12_tryPosting_268 rfl ?_
        refine V_putI flX12_449 rfl (by decide) dX12_tryPosting_270 ?_
        refine V_aload_n dX12_tryPosting_273 rfl rfl ?_
        refine V_iload dX12_tryPosting_274 rfl ?_
        refine V_putI flX12_452 rfl (by decide) dX12_tryPosting_276 ?_
        refine V_aload_n dX12_tryPosting_279 rfl rfl ?_
        refine V_iload dX12_tryPosting_280 rfl ?_
        refine V_putI flX12_455 rfl (by decide) dX12_tryPosting_282 ?_
        refine V_iinc (L' := [some (vr 94), some (vi x1), some (vi x2), some (vi x3), some (vi (x4 + 1)), some (vi x5), some (vi x6), some (vi x7), some (vi x8)]) dX12_tryPosting_285 rfl (by decide) rfl ?_
        refine V_goto (tgt := 117) dX12_tryPosting_288 rfl ?_
        exact V.sub (SubL_s (SubL_s (SubL_s (SubL_s (SubL_s (SubL_n (SubL_n (SubL_n (SubL_n (SubL_0)))))))))) h
      · replace h := h.2 q
        refine V_iload dX12_tryPosting_249 rfl ?_
        refine V_aload_n dX12_tryPosting_251 rfl rfl ?_
        refine V_getI (f := (σ 94 39)) flX12_452 rfl (rfl) (by decide) dX12_tryPosting_252 ?_
        refine V_icmp_ne (tgt := 285) dX12_tryPosting_255 rfl r5 r6 (fun q => ?_) (fun q => ?_)
        · replace h := h.1 q
          refine V_iinc (L' := [some (vr 94), some (vi x1), some (vi x2), some (vi x3), some (vi (x4 + 1)), some (vi x5), some (vi x6), some (vi x7), some (vi x8)]) dX12_tryPosting_285 rfl (by decide) rfl ?_
          refine V_goto (tgt := 117) dX12_tryPosting_288 rfl ?_
          exact V.sub (SubL_s (SubL_s (SubL_s (SubL_s (SubL_s (SubL_n (SubL_n (SubL_n (SubL_n (SubL_0)))))))))) h
        · replace h := h.2 q
          refine V_iload dX12_tryPosting_258 rfl ?_
          refine V_aload_n dX12_tryPosting_260 rfl rfl ?_
          refine V_getI (f := (σ 94 40)) flX12_455 rfl (rfl) (by decide) dX12_tryPosting_261 ?_
          obtain ⟨r7, h⟩ := h
          refine V_icmp_ge (tgt := 285) dX12_tryPosting_264 rfl r3 r7 (fun q => ?_) (fun q => ?_)
          · replace h := h.1 q
            refine V_iinc (L' := [some (vr 94), some (vi x1), some (vi x2), some (vi x3), some (vi (x4 + 1)), some (vi x5), some (vi x6), some (vi x7), some (vi x8)]) dX12_tryPosting_285 rfl (by decide) rfl ?_
            refine V_goto (tgt := 117) dX12_tryPosting_288 rfl ?_
            exact V.sub (SubL_s (SubL_s (SubL_s (SubL_s (SubL_s (SubL_n (SubL_n (SubL_n (SubL_n (SubL_0)))))))))) h
          · replace h := h.2 q
            refine V_aload_n dX12_tryPosting_267 rfl rfl ?_
            refine V_iload dX12_tryPosting_268 rfl ?_
            refine V_putI flX12_449 rfl (by decide) dX12_tryPosting_270 ?_
            refine V_aload_n dX12_tryPosting_273 rfl rfl ?_
            refine V_iload dX12_tryPosting_274 rfl ?_
            refine V_putI flX12_452 rfl (by decide) dX12_tryPosting_276 ?_
            refine V_aload_n dX12_tryPosting_279 rfl rfl ?_
            refine V_iload dX12_tryPosting_280 rfl ?_
            refine V_putI flX12_455 rfl (by decide) dX12_tryPosting_282 ?_
            refine V_iinc (L' := [some (vr 94), some (vi x1), some (vi x2), some (vi x3), some (vi (x4 + 1)), some (vi x5), some (vi x6), some (vi x7), some (vi x8)]) dX12_tryPosting_285 rfl (by decide) rfl ?_
            refine V_goto (tgt := 117) dX12_tryPosting_288 rfl ?_
            exact V.sub (SubL_s (SubL_s (SubL_s (SubL_s (SubL_s (SubL_n (SubL_n (SubL_n (SubL_n (SubL_0)))))))))) h
  · replace h := h.2 q
    refine V_iload dX12_tryPosting_148 rfl ?_
    refine V_iload dX12_tryPosting_150 rfl ?_
    refine V_iload dX12_tryPosting_152 rfl ?_
    refine V_callS (av := [vi x4, vi x8]) (stk := [vi x5]) cvX12_237 rfl rfl (by decide) (by simp [ctg]) dX12_tryPosting_154 h ?_
    rintro _ σ1 ⟨z1, rfl, h⟩
    obtain ⟨r8, h⟩ := h
    refine V_if_eq (tgt := 172) dX12_tryPosting_157 rfl r8 (fun q => ?_) (fun q => ?_)
    · replace h := h.1 q
      refine V_iconst dX12_tryPosting_172 ?_
      refine V_ior dX12_tryPosting_173 ?_
      refine V_istore (L' := [some (vr 94), some (vi x1), some (vi x2), some (vi x3), some (vi x4), some (vi (iOr x5 0)), some (vi x6), some (vi x7), some (vi x8)]) dX12_tryPosting_174 (by decide) rfl ?_
      refine V_iload dX12_tryPosting_176 rfl ?_
      refine V_iload dX12_tryPosting_178 rfl ?_
      refine V_iload dX12_tryPosting_180 rfl ?_
      refine V_callS (av := [vi x4, vi x8]) (stk := [vi x6]) cvX12_237 rfl rfl (by decide) (by simp [ctg]) dX12_tryPosting_182 h ?_
      rintro _ σ2 ⟨z2, rfl, h⟩
      obtain ⟨r9, h⟩ := h
      refine V_if_eq (tgt := 198) dX12_tryPosting_185 rfl r9 (fun q => ?_) (fun q => ?_)
      · replace h := h.1 q
        refine V_iconst dX12_tryPosting_198 ?_
        refine V_iadd dX12_tryPosting_199 ?_
        refine V_istore (L' := [some (vr 94), some (vi x1), some (vi x2), some (vi x3), some (vi x4), some (vi (iOr x5 0)), some (vi (x6 + 0)), some (vi x7), some (vi x8)]) dX12_tryPosting_200 (by decide) rfl ?_
        refine V_iload dX12_tryPosting_202 rfl ?_
        refine V_iload dX12_tryPosting_204 rfl ?_
        refine V_iload dX12_tryPosting_206 rfl ?_
        refine V_callS (av := [vi x4, vi x8]) (stk := [vi x7]) cvX12_237 rfl rfl (by decide) (by simp [ctg]) dX12_tryPosting_208 h ?_
        rintro _ σ3 ⟨z3, rfl, h⟩
        obtain ⟨r10, h⟩ := h
        refine V_if_eq (tgt := 224) dX12_tryPosting_211 rfl r10 (fun q => ?_) (fun q => ?_)
        · replace h := h.1 q
          refine V_iconst dX12_tryPosting_224 ?_
          refine V_iadd dX12_tryPosting_225 ?_
          refine V_istore (L' := [some (vr 94), some (vi x1), some (vi x2), some (vi x3), some (vi x4), some (vi (iOr x5 0)), some (vi (x6 + 0)), some (vi (x7 + 0)), some (vi x8)]) dX12_tryPosting_226 (by decide) rfl ?_
          refine V_iinc (L' := [some (vr 94), some (vi x1), some (vi x2), some (vi x3), some (vi x4), some (vi (iOr x5 0)), some (vi (x6 + 0)), some (vi (x7 + 0)), some (vi (x8 + 1))]) dX12_tryPosting_228 rfl (by decide) rfl ?_
          refine V_goto (tgt := 142) dX12_tryPosting_231 rfl ?_
          exact V.sub (SubL_s (SubL_s (SubL_s (SubL_s (SubL_s (SubL_s (SubL_s (SubL_s (SubL_s (SubL_0)))))))))) h
        · replace h := h.2 q
          refine V_aload_n dX12_tryPosting_214 rfl rfl ?_
          refine V_getR (k2 := 114) flX12_75 rfl rfl (by decide) dX12_tryPosting_215 ?_
          refine V_iload dX12_tryPosting_218 rfl ?_
          obtain ⟨r11, h⟩ := h
          refine V_iald (f := (σ3 114 x8)) (rfl : shp[114]? = some (1, 10, 0)) r11 (rfl) dX12_tryPosting_220 ?_
          refine V_goto (tgt := 225) dX12_tryPosting_221 rfl ?_
          refine V_iadd dX12_tryPosting_225 ?_
          refine V_istore (L' := [some (vr 94), some (vi x1), some (vi x2), some (vi x3), some (vi x4), some (vi (iOr x5 0)), some (vi (x6 + 0)), some (vi (x7 + (σ3 114 x8))), some (vi x8)]) dX12_tryPosting_226 (by decide) rfl ?_
          refine V_iinc (L' := [some (vr 94), some (vi x1), some (vi x2), some (vi x3), some (vi x4), some (vi (iOr x5 0)), some (vi (x6 + 0)), some (vi (x7 + (σ3 114 x8))), some (vi (x8 + 1))]) dX12_tryPosting_228 rfl (by decide) rfl ?_
          refine V_goto (tgt := 142) dX12_tryPosting_231 rfl ?_
          exact V.sub (SubL_s (SubL_s (SubL_s (SubL_s (SubL_s (SubL_s (SubL_s (SubL_s (SubL_s (SubL_0)))))))))) h
      · replace h := h.2 q
        refine V_aload_n dX12_tryPosting_188 rfl rfl ?_
        refine V_getR (k2 := 113) flX12_72 rfl rfl (by decide) dX12_tryPosting_189 ?_
        refine V_iload dX12_tryPosting_192 rfl ?_
        obtain ⟨r12, h⟩ := h
        refine V_iald (f := (σ2 113 x8)) (rfl : shp[113]? = some (1, 10, 0)) r12 (rfl) dX12_tryPosting_194 ?_
        refine V_goto (tgt := 199) dX12_tryPosting_195 rfl ?_
        refine V_iadd dX12_tryPosting_199 ?_
        refine V_istore (L' := [some (vr 94), some (vi x1), some (vi x2), some (vi x3), some (vi x4), some (vi (iOr x5 0)), some (vi (x6 + (σ2 113 x8))), some (vi x7), some (vi x8)]) dX12_tryPosting_200 (by decide) rfl ?_
        refine V_iload dX12_tryPosting_202 rfl ?_
        refine V_iload dX12_tryPosting_204 rfl ?_
        refine V_iload dX12_tryPosting_206 rfl ?_
        refine V_callS (av := [vi x4, vi x8]) (stk := [vi x7]) cvX12_237 rfl rfl (by decide) (by simp [ctg]) dX12_tryPosting_208 h ?_
        rintro _ σ4 ⟨z4, rfl, h⟩
        obtain ⟨r13, h⟩ := h
        refine V_if_eq (tgt := 224) dX12_tryPosting_211 rfl r13 (fun q => ?_) (fun q => ?_)
        · replace h := h.1 q
          refine V_iconst dX12_tryPosting_224 ?_
          refine V_iadd dX12_tryPosting_225 ?_
          refine V_istore (L' := [some (vr 94), some (vi x1), some (vi x2), some (vi x3), some (vi x4), some (vi (iOr x5 0)), some (vi (x6 + (σ2 113 x8))), some (vi (x7 + 0)), some (vi x8)]) dX12_tryPosting_226 (by decide) rfl ?_
          refine V_iinc (L' := [some (vr 94), some (vi x1), some (vi x2), some (vi x3), some (vi x4), some (vi (iOr x5 0)), some (vi (x6 + (σ2 113 x8))), some (vi (x7 + 0)), some (vi (x8 + 1))]) dX12_tryPosting_228 rfl (by decide) rfl ?_
          refine V_goto (tgt := 142) dX12_tryPosting_231 rfl ?_
          exact V.sub (SubL_s (SubL_s (SubL_s (SubL_s (SubL_s (SubL_s (SubL_s (SubL_s (SubL_s (SubL_0)))))))))) h
        · replace h := h.2 q
          refine V_aload_n dX12_tryPosting_214 rfl rfl ?_
          refine V_getR (k2 := 114) flX12_75 rfl rfl (by decide) dX12_tryPosting_215 ?_
          refine V_iload dX12_tryPosting_218 rfl ?_
          refine V_iald (f := (σ4 114 x8)) (rfl : shp[114]? = some (1, 10, 0)) r12 (rfl) dX12_tryPosting_220 ?_
          refine V_goto (tgt := 225) dX12_tryPosting_221 rfl ?_
          refine V_iadd dX12_tryPosting_225 ?_
          refine V_istore (L' := [some (vr 94), some (vi x1), some (vi x2), some (vi x3), some (vi x4), some (vi (iOr x5 0)), some (vi (x6 + (σ2 113 x8))), some (vi (x7 + (σ4 114 x8))), some (vi x8)]) dX12_tryPosting_226 (by decide) rfl ?_
          refine V_iinc (L' := [some (vr 94), some (vi x1), some (vi x2), some (vi x3), some (vi x4), some (vi (iOr x5 0)), some (vi (x6 + (σ2 113 x8))), some (vi (x7 + (σ4 114 x8))), some (vi (x8 + 1))]) dX12_tryPosting_228 rfl (by decide) rfl ?_
          refine V_goto (tgt := 142) dX12_tryPosting_231 rfl ?_
          exact V.sub (SubL_s (SubL_s (SubL_s (SubL_s (SubL_s (SubL_s (SubL_s (SubL_s (SubL_s (SubL_0)))))))))) h
    · replace h := h.2 q
      refine V_iconst dX12_tryPosting_160 ?_
      refine V_aload_n dX12_tryPosting_161 rfl rfl ?_
      refine V_getR (k2 := 112) flX12_69 rfl rfl (by decide) dX12_tryPosting_162 ?_
      refine V_iload dX12_tryPosting_165 rfl ?_
      obtain ⟨r14, h⟩ := h
      refine V_iald (f := (σ1 112 x8)) (rfl : shp[112]? = some (1, 10, 0)) r14 (rfl) dX12_tryPosting_167 ?_
      refine V_ishl dX12_tryPosting_168 ?_
      refine V_goto (tgt := 173) dX12_tryPosting_169 rfl ?_
      refine V_ior dX12_tryPosting_173 ?_
      refine V_istore (L' := [some (vr 94), some (vi x1), some (vi x2), some (vi x3), some (vi x4), some (vi (iOr x5 (iShl 1 (σ1 112 x8)))), some (vi x6), some (vi x7), some (vi x8)]) dX12_tryPosting_174 (by decide) rfl ?_
      refine V_iload dX12_tryPosting_176 rfl ?_
      refine V_iload dX12_tryPosting_178 rfl ?_
      refine V_iload dX12_tryPosting_180 rfl ?_
      refine V_callS (av := [vi x4, vi x8]) (stk := [vi x6]) cvX12_237 rfl rfl (by decide) (by simp [ctg]) dX12_tryPosting_182 h ?_
      rintro _ σ5 ⟨z5, rfl, h⟩
      obtain ⟨r15, h⟩ := h
      refine V_if_eq (tgt := 198) dX12_tryPosting_185 rfl r15 (fun q => ?_) (fun q => ?_)
      · replace h := h.1 q
        refine V_iconst dX12_tryPosting_198 ?_
        refine V_iadd dX12_tryPosting_199 ?_
        refine V_istore (L' := [some (vr 94), some (vi x1), some (vi x2), some (vi x3), some (vi x4), some (vi (iOr x5 (iShl 1 (σ1 112 x8)))), some (vi (x6 + 0)), some (vi x7), some (vi x8)]) dX12_tryPosting_200 (by decide) rfl ?_
        refine V_iload dX12_tryPosting_202 rfl ?_
        refine V_iload dX12_tryPosting_204 rfl ?_
        refine V_iload dX12_tryPosting_206 rfl ?_
        refine V_callS (av := [vi x4, vi x8]) (stk := [vi x7]) cvX12_237 rfl rfl (by decide) (by simp [ctg]) dX12_tryPosting_208 h ?_
        rintro _ σ6 ⟨z6, rfl, h⟩
        obtain ⟨r16, h⟩ := h
        refine V_if_eq (tgt := 224) dX12_tryPosting_211 rfl r16 (fun q => ?_) (fun q => ?_)
        · replace h := h.1 q
          refine V_iconst dX12_tryPosting_224 ?_
          refine V_iadd dX12_tryPosting_225 ?_
          refine V_istore (L' := [some (vr 94), some (vi x1), some (vi x2), some (vi x3), some (vi x4), some (vi (iOr x5 (iShl 1 (σ1 112 x8)))), some (vi (x6 + 0)), some (vi (x7 + 0)), some (vi x8)]) dX12_tryPosting_226 (by decide) rfl ?_
          refine V_iinc (L' := [some (vr 94), some (vi x1), some (vi x2), some (vi x3), some (vi x4), some (vi (iOr x5 (iShl 1 (σ1 112 x8)))), some (vi (x6 + 0)), some (vi (x7 + 0)), some (vi (x8 + 1))]) dX12_tryPosting_228 rfl (by decide) rfl ?_
          refine V_goto (tgt := 142) dX12_tryPosting_231 rfl ?_
          exact V.sub (SubL_s (SubL_s (SubL_s (SubL_s (SubL_s (SubL_s (SubL_s (SubL_s (SubL_s (SubL_0)))))))))) h
        · replace h := h.2 q
          refine V_aload_n dX12_tryPosting_214 rfl rfl ?_
          refine V_getR (k2 := 114) flX12_75 rfl rfl (by decide) dX12_tryPosting_215 ?_
          refine V_iload dX12_tryPosting_218 rfl ?_
          refine V_iald (f := (σ6 114 x8)) (rfl : shp[114]? = some (1, 10, 0)) r14 (rfl) dX12_tryPosting_220 ?_
          refine V_goto (tgt := 225) dX12_tryPosting_221 rfl ?_
          refine V_iadd dX12_tryPosting_225 ?_
          refine V_istore (L' := [some (vr 94), some (vi x1), some (vi x2), some (vi x3), some (vi x4), some (vi (iOr x5 (iShl 1 (σ1 112 x8)))), some (vi (x6 + 0)), some (vi (x7 + (σ6 114 x8))), some (vi x8)]) dX12_tryPosting_226 (by decide) rfl ?_
          refine V_iinc (L' := [some (vr 94), some (vi x1), some (vi x2), some (vi x3), some (vi x4), some (vi (iOr x5 (iShl 1 (σ1 112 x8)))), some (vi (x6 + 0)), some (vi (x7 + (σ6 114 x8))), some (vi (x8 + 1))]) dX12_tryPosting_228 rfl (by decide) rfl ?_
          refine V_goto (tgt := 142) dX12_tryPosting_231 rfl ?_
          exact V.sub (SubL_s (SubL_s (SubL_s (SubL_s (SubL_s (SubL_s (SubL_s (SubL_s (SubL_s (SubL_0)))))))))) h
      · replace h := h.2 q
        refine V_aload_n dX12_tryPosting_188 rfl rfl ?_
        refine V_getR (k2 := 113) flX12_72 rfl rfl (by decide) dX12_tryPosting_189 ?_
        refine V_iload dX12_tryPosting_192 rfl ?_
        refine V_iald (f := (σ5 113 x8)) (rfl : shp[113]? = some (1, 10, 0)) r14 (rfl) dX12_tryPosting_194 ?_
        refine V_goto (tgt := 199) dX12_tryPosting_195 rfl ?_
        refine V_iadd dX12_tryPosting_199 ?_
        refine V_istore (L' := [some (vr 94), some (vi x1), some (vi x2), some (vi x3), some (vi x4), some (vi (iOr x5 (iShl 1 (σ1 112 x8)))), some (vi (x6 + (σ5 113 x8))), some (vi x7), some (vi x8)]) dX12_tryPosting_200 (by decide) rfl ?_
        refine V_iload dX12_tryPosting_202 rfl ?_
        refine V_iload dX12_tryPosting_204 rfl ?_
        refine V_iload dX12_tryPosting_206 rfl ?_
        refine V_callS (av := [vi x4, vi x8]) (stk := [vi x7]) cvX12_237 rfl rfl (by decide) (by simp [ctg]) dX12_tryPosting_208 h ?_
        rintro _ σ7 ⟨z7, rfl, h⟩
        obtain ⟨r17, h⟩ := h
        refine V_if_eq (tgt := 224) dX12_tryPosting_211 rfl r17 (fun q => ?_) (fun q => ?_)
        · replace h := h.1 q
          refine V_iconst dX12_tryPosting_224 ?_
          refine V_iadd dX12_tryPosting_225 ?_
          refine V_istore (L' := [some (vr 94), some (vi x1), some (vi x2), some (vi x3), some (vi x4), some (vi (iOr x5 (iShl 1 (σ1 112 x8)))), some (vi (x6 + (σ5 113 x8))), some (vi (x7 + 0)), some (vi x8)]) dX12_tryPosting_226 (by decide) rfl ?_
          refine V_iinc (L' := [some (vr 94), some (vi x1), some (vi x2), some (vi x3), some (vi x4), some (vi (iOr x5 (iShl 1 (σ1 112 x8)))), some (vi (x6 + (σ5 113 x8))), some (vi (x7 + 0)), some (vi (x8 + 1))]) dX12_tryPosting_228 rfl (by decide) rfl ?_
          refine V_goto (tgt := 142) dX12_tryPosting_231 rfl ?_
          exact V.sub (SubL_s (SubL_s (SubL_s (SubL_s (SubL_s (SubL_s (SubL_s (SubL_s (SubL_s (SubL_0)))))))))) h
        · replace h := h.2 q
          refine V_aload_n dX12_tryPosting_214 rfl rfl ?_
          refine V_getR (k2 := 114) flX12_75 rfl rfl (by decide) dX12_tryPosting_215 ?_
          refine V_iload dX12_tryPosting_218 rfl ?_
          refine V_iald (f := (σ7 114 x8)) (rfl : shp[114]? = some (1, 10, 0)) r14 (rfl) dX12_tryPosting_220 ?_
          refine V_goto (tgt := 225) dX12_tryPosting_221 rfl ?_
          refine V_iadd dX12_tryPosting_225 ?_
          refine V_istore (L' := [some (vr 94), some (vi x1), some (vi x2), some (vi x3), some (vi x4), some (vi (iOr x5 (iShl 1 (σ1 112 x8)))), some (vi (x6 + (σ5 113 x8))), some (vi (x7 + (σ7 114 x8))), some (vi x8)]) dX12_tryPosting_226 (by decide) rfl ?_
          refine V_iinc (L' := [some (vr 94), some (vi x1), some (vi x2), some (vi x3), some (vi x4), some (vi (iOr x5 (iShl 1 (σ1 112 x8)))), some (vi (x6 + (σ5 113 x8))), some (vi (x7 + (σ7 114 x8))), some (vi (x8 + 1))]) dX12_tryPosting_228 rfl (by decide) rfl ?_
          refine V_goto (tgt := 142) dX12_tryPosting_231 rfl ?_
          exact V.sub (SubL_s (SubL_s (SubL_s (SubL_s (SubL_s (SubL_s (SubL_s (SubL_s (SubL_s (SubL_0)))))))))) h

set_option maxRecDepth 100000 in
theorem BX12_posting_0 {σ : Sg} {post : Po} {x1 : Int} {x2 : Int} 
  (h : (rng x1) ∧ (Cl mX12_in [vl x1, vl 0, vl 999] σ (pI fun z1 σ1 => (rng z1) ∧ ((z1 = 0 → post (some (vi (-1002))) σ1) ∧ (¬ z1 = 0 → (rng x2) ∧ (Cl mX12_in [vl x2, vl 0, vl 2] σ1 (pI fun z2 σ2 => (rng z2) ∧ ((¬ z2 = 0 → Cl mX12_tryPosting [vr 94, vi x1] σ2 (pV fun σ3 => (¬ x2 = 0 → (¬ x2 = 1 → post (some (vi (σ3 94 40))) σ3) ∧ (x2 = 1 → post (some (vi (σ3 94 39))) σ3)) ∧ (x2 = 0 → post (some (vi (σ3 94 38))) σ3))) ∧ (z2 = 0 → post (some (vi (-1002))) σ2))))))))) :
  V mX12_posting 0 [some (vr 94), some (vi x1), some (vi x2)] [] σ post := by
  refine V_iload_n dX12_posting_0 rfl rfl ?_
  obtain ⟨r1, h⟩ := h
  refine V_i2l dX12_posting_1 r1 ?_
  refine V_lconst (z := 0) dX12_posting_2 rfl ?_
  refine V_ldc2 dX12_posting_3 klX12_458 ?_
  refine V_callS (av := [vl x1, vl 0, vl 999]) (stk := []) cvX12_146 rfl rfl (by decide) (by simp [ctg]) dX12_posting_6 h ?_
  rintro _ σ1 ⟨z1, rfl, h⟩
  obtain ⟨r2, h⟩ := h
  refine V_if_eq (tgt := 24) dX12_posting_9 rfl r2 (fun q => ?_) (fun q => ?_)
  · replace h := h.1 q
    refine V_sipush dX12_posting_24 (by decide) ?_
    exact V_ireturn (stk := []) rfl dX12_posting_27 h
  · replace h := h.2 q
    refine V_iload_n dX12_posting_12 rfl rfl ?_
    obtain ⟨r3, h⟩ := h
    refine V_i2l dX12_posting_13 r3 ?_
    refine V_lconst (z := 0) dX12_posting_14 rfl ?_
    refine V_ldc2 dX12_posting_15 klX12_330 ?_
    refine V_callS (av := [vl x2, vl 0, vl 2]) (stk := []) cvX12_146 rfl rfl (by decide) (by simp [ctg]) dX12_posting_18 h ?_
    rintro _ σ2 ⟨z2, rfl, h⟩
    obtain ⟨r4, h⟩ := h
    refine V_if_ne (tgt := 28) dX12_posting_21 rfl r4 (fun q => ?_) (fun q => ?_)
    · replace h := h.1 q
      refine V_aload_n dX12_posting_28 rfl rfl ?_
      refine V_iload_n dX12_posting_29 rfl rfl ?_
      refine V_callV (av := [vi x1]) (stk := []) cvX12_460 rfl rfl rfl (by decide) (by simp [ctg]) dX12_posting_30 h ?_
      rintro _ σ3 ⟨rfl, h⟩
      refine V_iload_n dX12_posting_33 rfl rfl ?_
      refine V_if_ne (tgt := 44) dX12_posting_34 rfl r3 (fun q => ?_) (fun q => ?_)
      · replace h := h.1 q
        refine V_iload_n dX12_posting_44 rfl rfl ?_
        refine V_iconst dX12_posting_45 ?_
        refine V_icmp_ne (tgt := 56) dX12_posting_46 rfl r3 (by decide) (fun q => ?_) (fun q => ?_)
        · replace h := h.1 q
          refine V_aload_n dX12_posting_56 rfl rfl ?_
          refine V_getI (f := (σ3 94 40)) flX12_455 rfl (rfl) (by decide) dX12_posting_57 ?_
          exact V_ireturn (stk := []) rfl dX12_posting_60 h
        · replace h := h.2 q
          refine V_aload_n dX12_posting_49 rfl rfl ?_
          refine V_getI (f := (σ3 94 39)) flX12_452 rfl (rfl) (by decide) dX12_posting_50 ?_
          refine V_goto (tgt := 60) dX12_posting_53 rfl ?_
          exact V_ireturn (stk := []) rfl dX12_posting_60 h
      · replace h := h.2 q
        refine V_aload_n dX12_posting_37 rfl rfl ?_
        refine V_getI (f := (σ3 94 38)) flX12_449 rfl (rfl) (by decide) dX12_posting_38 ?_
        refine V_goto (tgt := 60) dX12_posting_41 rfl ?_
        exact V_ireturn (stk := []) rfl dX12_posting_60 h
    · replace h := h.2 q
      refine V_sipush dX12_posting_24 (by decide) ?_
      exact V_ireturn (stk := []) rfl dX12_posting_27 h

set_option maxRecDepth 100000 in
theorem BX12_lossOf_0 {σ : Sg} {post : Po} {x1 : Int} {x2 : Int} 
  (h : (rng x2) ∧ ((¬ x2 = 0 → (0 ≤ x1 ∧ x1 < 16) ∧ ((¬ x2 = 1 → post (some (vi (((σ 100 x1) + 1) * 20))) σ) ∧ (x2 = 1 → Cl mX12_fullSubs [vr 94, vi x1] σ (pI fun z1 σ1 => post (some (vi (((σ 100 x1) + 1) * z1))) σ1)))) ∧ (x2 = 0 → post (some (vi 0)) σ))) :
  V mX12_lossOf 0 [some (vr 94), some (vi x1), some (vi x2)] [] σ post := by
  refine V_iload_n dX12_lossOf_0 rfl rfl ?_
  obtain ⟨r1, h⟩ := h
  refine V_if_ne (tgt := 8) dX12_lossOf_1 rfl r1 (fun q => ?_) (fun q => ?_)
  · replace h := h.1 q
    refine V_aload_n dX12_lossOf_8 rfl rfl ?_
    refine V_getR (k2 := 100) flX12_25 rfl rfl (by decide) dX12_lossOf_9 ?_
    refine V_iload_n dX12_lossOf_12 rfl rfl ?_
    obtain ⟨r2, h⟩ := h
    refine V_iald (f := (σ 100 x1)) (rfl : shp[100]? = some (1, 16, 0)) r2 (rfl) dX12_lossOf_13 ?_
    refine V_iconst dX12_lossOf_14 ?_
    refine V_iadd dX12_lossOf_15 ?_
    refine V_iload_n dX12_lossOf_16 rfl rfl ?_
    refine V_iconst dX12_lossOf_17 ?_
    refine V_icmp_ne (tgt := 29) dX12_lossOf_18 rfl r1 (by decide) (fun q => ?_) (fun q => ?_)
    · replace h := h.1 q
      refine V_bipush dX12_lossOf_29 (by decide) ?_
      refine V_imul dX12_lossOf_31 ?_
      exact V_ireturn (stk := []) rfl dX12_lossOf_32 h
    · replace h := h.2 q
      refine V_aload_n dX12_lossOf_21 rfl rfl ?_
      refine V_iload_n dX12_lossOf_22 rfl rfl ?_
      refine V_callV (av := [vi x1]) (stk := [vi ((σ 100 x1) + 1)]) cvX12_429 rfl rfl rfl (by decide) (by simp [ctg]) dX12_lossOf_23 h ?_
      rintro _ σ1 ⟨z1, rfl, h⟩
      refine V_goto (tgt := 31) dX12_lossOf_26 rfl ?_
      refine V_imul dX12_lossOf_31 ?_
      exact V_ireturn (stk := []) rfl dX12_lossOf_32 h
  · replace h := h.2 q
    refine V_iconst dX12_lossOf_4 ?_
    refine V_goto (tgt := 32) dX12_lossOf_5 rfl ?_
    exact V_ireturn (stk := []) rfl dX12_lossOf_32 h

set_option maxRecDepth 100000 in
theorem BX12_fitHead_0 {σ : Sg} {post : Po} {x1 : Int} {x2 : Int} {x3 : Int} {x4 : Int} 
  (h : V mX12_fitHead 4 [some (vr 94), some (vi x1), some (vi x2), some (vi x3), some (vi x4), some (vi x4), none, none, none, none] [] σ post) :
  V mX12_fitHead 0 [some (vr 94), some (vi x1), some (vi x2), some (vi x3), some (vi x4), none, none, none, none, none] [] σ post := by
  refine V_iload dX12_fitHead_0 rfl ?_
  refine V_istore (L' := [some (vr 94), some (vi x1), some (vi x2), some (vi x3), some (vi x4), some (vi x4), none, none, none, none]) dX12_fitHead_2 (by decide) rfl ?_
  exact V.sub (SubL_s (SubL_s (SubL_s (SubL_s (SubL_s (SubL_s (SubL_n (SubL_n (SubL_n (SubL_n (SubL_0))))))))))) h
set_option maxRecDepth 100000 in
theorem BX12_fitHead_4 {σ : Sg} {post : Po} {x1 : Int} {x2 : Int} {x3 : Int} {x4 : Int} {x5 : Int} 
  (h : (rng x5) ∧ ((rng x2) ∧ ((x2 < x5 → post none σ) ∧ (¬ x2 < x5 → (0 ≤ (((201 * (x1 + 1)) + x5) - x4) ∧ (((201 * (x1 + 1)) + x5) - x4) < 3417) ∧ (Cl mX12_lossOf [vr 94, vi x1, vi x3] σ (pI fun z1 σ1 => (0 ≤ ((201 * x1) + x5) ∧ ((201 * x1) + x5) < 3417) ∧ ((rng ((σ 115 (((201 * (x1 + 1)) + x5) - x4)) + z1)) ∧ ((rng (σ1 115 ((201 * x1) + x5))) ∧ ((((σ 115 (((201 * (x1 + 1)) + x5) - x4)) + z1) < (σ1 115 ((201 * x1) + x5)) → V mX12_fitHead 4 [some (vr 94), some (vi x1), some (vi x2), some (vi x3), some (vi x4), some (vi (x5 + 1)), none, none, none, none] [] (up (up (up σ1 115 ((201 * x1) + x5) ((σ 115 (((201 * (x1 + 1)) + x5) - x4)) + z1)) 116 ((201 * x1) + x5) ((σ1 116 (((201 * (x1 + 1)) + x5) - x4)) + x4)) 117 ((201 * x1) + x5) x3) post) ∧ (¬ ((σ 115 (((201 * (x1 + 1)) + x5) - x4)) + z1) < (σ1 115 ((201 * x1) + x5)) → (¬ ((σ 115 (((201 * (x1 + 1)) + x5) - x4)) + z1) = (σ1 115 ((201 * x1) + x5)) → V mX12_fitHead 4 [some (vr 94), some (vi x1), some (vi x2), some (vi x3), some (vi x4), some (vi (x5 + 1)), none, none, none, none] [] σ1 post) ∧ (((σ 115 (((201 * (x1 + 1)) + x5) - x4)) + z1) = (σ1 115 ((201 * x1) + x5)) → (rng ((σ1 116 (((201 * (x1 + 1)) + x5) - x4)) + x4)) ∧ ((rng (σ1 116 ((201 * x1) + x5))) ∧ (((σ1 116 ((201 * x1) + x5)) ≤ ((σ1 116 (((201 * (x1 + 1)) + x5) - x4)) + x4) → V mX12_fitHead 4 [some (vr 94), some (vi x1), some (vi x2), some (vi x3), some (vi x4), some (vi (x5 + 1)), none, none, none, none] [] σ1 post) ∧ (¬ (σ1 116 ((201 * x1) + x5)) ≤ ((σ1 116 (((201 * (x1 + 1)) + x5) - x4)) + x4) → V mX12_fitHead 4 [some (vr 94), some (vi x1), some (vi x2), some (vi x3), some (vi x4), some (vi (x5 + 1)), none, none, none, none] [] (up (up (up σ1 115 ((201 * x1) + x5) ((σ 115 (((201 * (x1 + 1)) + x5) - x4)) + z1)) 116 ((201 * x1) + x5) ((σ1 116 (((201 * (x1 + 1)) + x5) - x4)) + x4)) 117 ((201 * x1) + x5) x3) post)))))))))))))) :
  V mX12_fitHead 4 [some (vr 94), some (vi x1), some (vi x2), some (vi x3), some (vi x4), some (vi x5), none, none, none, none] [] σ post := by
  refine V_iload dX12_fitHead_4 rfl ?_
  refine V_iload_n dX12_fitHead_6 rfl rfl ?_
  obtain ⟨r1, h⟩ := h
  obtain ⟨r2, h⟩ := h
  refine V_icmp_gt (tgt := 131) dX12_fitHead_7 rfl r1 r2 (fun q => ?_) (fun q => ?_)
  · replace h := h.1 q
    exact V_return (stk := []) rfl dX12_fitHead_131 h
  · replace h := h.2 q
    refine V_sipush dX12_fitHead_10 (by decide) ?_
    refine V_iload_n dX12_fitHead_13 rfl rfl ?_
    refine V_imul dX12_fitHead_14 ?_
    refine V_iload dX12_fitHead_15 rfl ?_
    refine V_iadd dX12_fitHead_17 ?_
    refine V_istore (L' := [some (vr 94), some (vi x1), some (vi x2), some (vi x3), some (vi x4), some (vi x5), some (vi ((201 * x1) + x5)), none, none, none]) dX12_fitHead_18 (by decide) rfl ?_
    refine V_sipush dX12_fitHead_20 (by decide) ?_
    refine V_iload_n dX12_fitHead_23 rfl rfl ?_
    refine V_iconst dX12_fitHead_24 ?_
    refine V_iadd dX12_fitHead_25 ?_
    refine V_imul dX12_fitHead_26 ?_
    refine V_iload dX12_fitHead_27 rfl ?_
    refine V_iadd dX12_fitHead_29 ?_
    refine V_iload dX12_fitHead_30 rfl ?_
    refine V_isub dX12_fitHead_32 ?_
    refine V_istore (L' := [some (vr 94), some (vi x1), some (vi x2), some (vi x3), some (vi x4), some (vi x5), some (vi ((201 * x1) + x5)), some (vi (((201 * (x1 + 1)) + x5) - x4)), none, none]) dX12_fitHead_33 (by decide) rfl ?_
    refine V_aload_n dX12_fitHead_35 rfl rfl ?_
    refine V_getR (k2 := 115) flX12_78 rfl rfl (by decide) dX12_fitHead_36 ?_
    refine V_iload dX12_fitHead_39 rfl ?_
    obtain ⟨r3, h⟩ := h
    refine V_iald (f := (σ 115 (((201 * (x1 + 1)) + x5) - x4))) (rfl : shp[115]? = some (1, 3417, 0)) r3 (rfl) dX12_fitHead_41 ?_
    refine V_aload_n dX12_fitHead_42 rfl rfl ?_
    refine V_iload_n dX12_fitHead_43 rfl rfl ?_
    refine V_iload_n dX12_fitHead_44 rfl rfl ?_
    refine V_callV (av := [vi x1, vi x3]) (stk := [vi (σ 115 (((201 * (x1 + 1)) + x5) - x4))]) cvX12_463 rfl rfl rfl (by decide) (by simp [ctg]) dX12_fitHead_45 h ?_
    rintro _ σ1 ⟨z1, rfl, h⟩
    refine V_iadd dX12_fitHead_48 ?_
    refine V_istore (L' := [some (vr 94), some (vi x1), some (vi x2), some (vi x3), some (vi x4), some (vi x5), some (vi ((201 * x1) + x5)), some (vi (((201 * (x1 + 1)) + x5) - x4)), some (vi ((σ 115 (((201 * (x1 + 1)) + x5) - x4)) + z1)), none]) dX12_fitHead_49 (by decide) rfl ?_
    refine V_aload_n dX12_fitHead_51 rfl rfl ?_
    refine V_getR (k2 := 116) flX12_81 rfl rfl (by decide) dX12_fitHead_52 ?_
    refine V_iload dX12_fitHead_55 rfl ?_
    refine V_iald (f := (σ1 116 (((201 * (x1 + 1)) + x5) - x4))) (rfl : shp[116]? = some (1, 3417, 0)) r3 (rfl) dX12_fitHead_57 ?_
    refine V_iload dX12_fitHead_58 rfl ?_
    refine V_iadd dX12_fitHead_60 ?_
    refine V_istore (L' := [some (vr 94), some (vi x1), some (vi x2), some (vi x3), some (vi x4), some (vi x5), some (vi ((201 * x1) + x5)), some (vi (((201 * (x1 + 1)) + x5) - x4)), some (vi ((σ 115 (((201 * (x1 + 1)) + x5) - x4)) + z1)), some (vi ((σ1 116 (((201 * (x1 + 1)) + x5) - x4)) + x4))]) dX12_fitHead_61 (by decide) rfl ?_
    refine V_iload dX12_fitHead_63 rfl ?_
    refine V_aload_n dX12_fitHead_65 rfl rfl ?_
    refine V_getR (k2 := 115) flX12_78 rfl rfl (by decide) dX12_fitHead_66 ?_
    refine V_iload dX12_fitHead_69 rfl ?_
    obtain ⟨r4, h⟩ := h
    refine V_iald (f := (σ1 115 ((201 * x1) + x5))) (rfl : shp[115]? = some (1, 3417, 0)) r4 (rfl) dX12_fitHead_71 ?_
    obtain ⟨r5, h⟩ := h
    obtain ⟨r6, h⟩ := h
    refine V_icmp_lt (tgt := 99) dX12_fitHead_72 rfl r5 r6 (fun q => ?_) (fun q => ?_)
    · replace h := h.1 q
      refine V_aload_n dX12_fitHead_99 rfl rfl ?_
      refine V_getR (k2 := 115) flX12_78 rfl rfl (by decide) dX12_fitHead_100 ?_
      refine V_iload dX12_fitHead_103 rfl ?_
      refine V_iload dX12_fitHead_105 rfl ?_
      refine V_iast (rfl : shp[115]? = some (1, 3417, 0)) r4 dX12_fitHead_107 ?_
      refine V_aload_n dX12_fitHead_108 rfl rfl ?_
      refine V_getR (k2 := 116) flX12_81 rfl rfl (by decide) dX12_fitHead_109 ?_
      refine V_iload dX12_fitHead_112 rfl ?_
      refine V_iload dX12_fitHead_114 rfl ?_
      refine V_iast (rfl : shp[116]? = some (1, 3417, 0)) r4 dX12_fitHead_116 ?_
      refine V_aload_n dX12_fitHead_117 rfl rfl ?_
      refine V_getR (k2 := 117) flX12_84 rfl rfl (by decide) dX12_fitHead_118 ?_
      refine V_iload dX12_fitHead_121 rfl ?_
      refine V_iload_n dX12_fitHead_123 rfl rfl ?_
      refine V_iast (rfl : shp[117]? = some (1, 3417, 0)) r4 dX12_fitHead_124 ?_
      refine V_iinc (L' := [some (vr 94), some (vi x1), some (vi x2), some (vi x3), some (vi x4), some (vi (x5 + 1)), some (vi ((201 * x1) + x5)), some (vi (((201 * (x1 + 1)) + x5) - x4)), some (vi ((σ 115 (((201 * (x1 + 1)) + x5) - x4)) + z1)), some (vi ((σ1 116 (((201 * (x1 + 1)) + x5) - x4)) + x4))]) dX12_fitHead_125 rfl (by decide) rfl ?_
      refine V_goto (tgt := 4) dX12_fitHead_128 rfl ?_
      exact V.sub (SubL_s (SubL_s (SubL_s (SubL_s (SubL_s (SubL_s (SubL_n (SubL_n (SubL_n (SubL_n (SubL_0))))))))))) h
    · replace h := h.2 q
      refine V_iload dX12_fitHead_75 rfl ?_
      refine V_aload_n dX12_fitHead_77 rfl rfl ?_
      refine V_getR (k2 := 115) flX12_78 rfl rfl (by decide) dX12_fitHead_78 ?_
      refine V_iload dX12_fitHead_81 rfl ?_
      refine V_iald (f := (σ1 115 ((201 * x1) + x5))) (rfl : shp[115]? = some (1, 3417, 0)) r4 (rfl) dX12_fitHead_83 ?_
      refine V_icmp_ne (tgt := 125) dX12_fitHead_84 rfl r5 r6 (fun q => ?_) (fun q => ?_)
      · replace h := h.1 q
        refine V_iinc (L' := [some (vr 94), some (vi x1), some (vi x2), some (vi x3), some (vi x4), some (vi (x5 + 1)), some (vi ((201 * x1) + x5)), some (vi (((201 * (x1 + 1)) + x5) - x4)), some (vi ((σ 115 (((201 * (x1 + 1)) + x5) - x4)) + z1)), some (vi ((σ1 116 (((201 * (x1 + 1)) + x5) - x4)) + x4))]) dX12_fitHead_125 rfl (by decide) rfl ?_
        refine V_goto (tgt := 4) dX12_fitHead_128 rfl ?_
        exact V.sub (SubL_s (SubL_s (SubL_s (SubL_s (SubL_s (SubL_s (SubL_n (SubL_n (SubL_n (SubL_n (SubL_0))))))))))) h
      · replace h := h.2 q
        refine V_iload dX12_fitHead_87 rfl ?_
        refine V_aload_n dX12_fitHead_89 rfl rfl ?_
        refine V_getR (k2 := 116) flX12_81 rfl rfl (by decide) dX12_fitHead_90 ?_
        refine V_iload dX12_fitHead_93 rfl ?_
        refine V_iald (f := (σ1 116 ((201 * x1) + x5))) (rfl : shp[116]? = some (1, 3417, 0)) r4 (rfl) dX12_fitHead_95 ?_
        obtain ⟨r7, h⟩ := h
        obtain ⟨r8, h⟩ := h
        refine V_icmp_ge (tgt := 125) dX12_fitHead_96 rfl r7 r8 (fun q => ?_) (fun q => ?_)
        · replace h := h.1 q
          refine V_iinc (L' := [some (vr 94), some (vi x1), some (vi x2), some (vi x3), some (vi x4), some (vi (x5 + 1)), some (vi ((201 * x1) + x5)), some (vi (((201 * (x1 + 1)) + x5) - x4)), some (vi ((σ 115 (((201 * (x1 + 1)) + x5) - x4)) + z1)), some (vi ((σ1 116 (((201 * (x1 + 1)) + x5) - x4)) + x4))]) dX12_fitHead_125 rfl (by decide) rfl ?_
          refine V_goto (tgt := 4) dX12_fitHead_128 rfl ?_
          exact V.sub (SubL_s (SubL_s (SubL_s (SubL_s (SubL_s (SubL_s (SubL_n (SubL_n (SubL_n (SubL_n (SubL_0))))))))))) h
        · replace h := h.2 q
          refine V_aload_n dX12_fitHead_99 rfl rfl ?_
          refine V_getR (k2 := 115) flX12_78 rfl rfl (by decide) dX12_fitHead_100 ?_
          refine V_iload dX12_fitHead_103 rfl ?_
          refine V_iload dX12_fitHead_105 rfl ?_
          refine V_iast (rfl : shp[115]? = some (1, 3417, 0)) r4 dX12_fitHead_107 ?_
          refine V_aload_n dX12_fitHead_108 rfl rfl ?_
          refine V_getR (k2 := 116) flX12_81 rfl rfl (by decide) dX12_fitHead_109 ?_
          refine V_iload dX12_fitHead_112 rfl ?_
          refine V_iload dX12_fitHead_114 rfl ?_
          refine V_iast (rfl : shp[116]? = some (1, 3417, 0)) r4 dX12_fitHead_116 ?_
          refine V_aload_n dX12_fitHead_117 rfl rfl ?_
          refine V_getR (k2 := 117) flX12_84 rfl rfl (by decide) dX12_fitHead_118 ?_
          refine V_iload dX12_fitHead_121 rfl ?_
          refine V_iload_n dX12_fitHead_123 rfl rfl ?_
          refine V_iast (rfl : shp[117]? = some (1, 3417, 0)) r4 dX12_fitHead_124 ?_
          refine V_iinc (L' := [some (vr 94), some (vi x1), some (vi x2), some (vi x3), some (vi x4), some (vi (x5 + 1)), some (vi ((201 * x1) + x5)), some (vi (((201 * (x1 + 1)) + x5) - x4)), some (vi ((σ 115 (((201 * (x1 + 1)) + x5) - x4)) + z1)), some (vi ((σ1 116 (((201 * (x1 + 1)) + x5) - x4)) + x4))]) dX12_fitHead_125 rfl (by decide) rfl ?_
          refine V_goto (tgt := 4) dX12_fitHead_128 rfl ?_
          exact V.sub (SubL_s (SubL_s (SubL_s (SubL_s (SubL_s (SubL_s (SubL_n (SubL_n (SubL_n (SubL_n (SubL_0))))))))))) h

set_option maxRecDepth 100000 in
theorem BX12_fitAll_0 {σ : Sg} {post : Po} {x1 : Int} 
  (h : V mX12_fitAll 2 [some (vr 94), some (vi x1), some (vi 0), none] [] σ post) :
  V mX12_fitAll 0 [some (vr 94), some (vi x1), none, none] [] σ post := by
  refine V_iconst dX12_fitAll_0 ?_
  refine V_istore_n (L' := [some (vr 94), some (vi x1), some (vi 0), none]) dX12_fitAll_1 rfl (by decide) rfl ?_
  exact V.sub (SubL_s (SubL_s (SubL_s (SubL_n (SubL_0))))) h
set_option maxRecDepth 100000 in
theorem BX12_fitAll_2 {σ : Sg} {post : Po} {x1 : Int} {x2 : Int} 
  (h : (rng x2) ∧ ((rng x1) ∧ ((x1 < x2 → V mX12_fitAll 52 [some (vr 94), some (vi x1), some (vi ((σ 94 0) - 1)), none] [] σ post) ∧ (¬ x1 < x2 → (0 ≤ ((201 * (σ 94 0)) + x2) ∧ ((201 * (σ 94 0)) + x2) < 3417) ∧ (V mX12_fitAll 2 [some (vr 94), some (vi x1), some (vi (x2 + 1)), none] [] (up (up σ 115 ((201 * (σ 94 0)) + x2) 0) 116 ((201 * (σ 94 0)) + x2) 0) post))))) :
  V mX12_fitAll 2 [some (vr 94), some (vi x1), some (vi x2), none] [] σ post := by
  refine V_iload_n dX12_fitAll_2 rfl rfl ?_
  refine V_iload_n dX12_fitAll_3 rfl rfl ?_
  obtain ⟨r1, h⟩ := h
  obtain ⟨r2, h⟩ := h
  refine V_icmp_gt (tgt := 45) dX12_fitAll_4 rfl r1 r2 (fun q => ?_) (fun q => ?_)
  · replace h := h.1 q
    refine V_aload_n dX12_fitAll_45 rfl rfl ?_
    refine V_getI (f := (σ 94 0)) flX12_192 rfl (rfl) (by decide) dX12_fitAll_46 ?_
    refine V_iconst dX12_fitAll_49 ?_
    refine V_isub dX12_fitAll_50 ?_
    refine V_istore_n (L' := [some (vr 94), some (vi x1), some (vi ((σ 94 0) - 1)), none]) dX12_fitAll_51 rfl (by decide) rfl ?_
    exact V.sub (SubL_s (SubL_s (SubL_s (SubL_n (SubL_0))))) h
  · replace h := h.2 q
    refine V_aload_n dX12_fitAll_7 rfl rfl ?_
    refine V_getR (k2 := 115) flX12_78 rfl rfl (by decide) dX12_fitAll_8 ?_
    refine V_sipush dX12_fitAll_11 (by decide) ?_
    refine V_aload_n dX12_fitAll_14 rfl rfl ?_
    refine V_getI (f := (σ 94 0)) flX12_192 rfl (rfl) (by decide) dX12_fitAll_15 ?_
    refine V_imul dX12_fitAll_18 ?_
    refine V_iload_n dX12_fitAll_19 rfl rfl ?_
    refine V_iadd dX12_fitAll_20 ?_
    refine V_iconst dX12_fitAll_21 ?_
    obtain ⟨r3, h⟩ := h
    refine V_iast (rfl : shp[115]? = some (1, 3417, 0)) r3 dX12_fitAll_22 ?_
    refine V_aload_n dX12_fitAll_23 rfl rfl ?_
    refine V_getR (k2 := 116) flX12_81 rfl rfl (by decide) dX12_fitAll_24 ?_
    refine V_sipush dX12_fitAll_27 (by decide) ?_
    refine V_aload_n dX12_fitAll_30 rfl rfl ?_
    refine V_getI (f := (σ 94 0)) flX12_192 rfl (up_o (by omega)) (by decide) dX12_fitAll_31 ?_
    refine V_imul dX12_fitAll_34 ?_
    refine V_iload_n dX12_fitAll_35 rfl rfl ?_
    refine V_iadd dX12_fitAll_36 ?_
    refine V_iconst dX12_fitAll_37 ?_
    refine V_iast (rfl : shp[116]? = some (1, 3417, 0)) r3 dX12_fitAll_38 ?_
    refine V_iinc (L' := [some (vr 94), some (vi x1), some (vi (x2 + 1)), none]) dX12_fitAll_39 rfl (by decide) rfl ?_
    refine V_goto (tgt := 2) dX12_fitAll_42 rfl ?_
    exact V.sub (SubL_s (SubL_s (SubL_s (SubL_n (SubL_0))))) h
set_option maxRecDepth 100000 in
theorem BX12_fitAll_52 {σ : Sg} {post : Po} {x1 : Int} {x2 : Int} 
  (h : (rng x2) ∧ ((x2 < 0 → post none σ) ∧ (¬ x2 < 0 → V mX12_fitAll 58 [some (vr 94), some (vi x1), some (vi x2), some (vi 0)] [] σ post))) :
  V mX12_fitAll 52 [some (vr 94), some (vi x1), some (vi x2), none] [] σ post := by
  refine V_iload_n dX12_fitAll_52 rfl rfl ?_
  obtain ⟨r1, h⟩ := h
  refine V_if_lt (tgt := 153) dX12_fitAll_53 rfl r1 (fun q => ?_) (fun q => ?_)
  · replace h := h.1 q
    exact V_return (stk := []) rfl dX12_fitAll_153 h
  · replace h := h.2 q
    refine V_iconst dX12_fitAll_56 ?_
    refine V_istore_n (L' := [some (vr 94), some (vi x1), some (vi x2), some (vi 0)]) dX12_fitAll_57 rfl (by decide) rfl ?_
    exact V.sub (SubL_s (SubL_s (SubL_s (SubL_s (SubL_0))))) h
set_option maxRecDepth 100000 in
theorem BX12_fitAll_58 {σ : Sg} {post : Po} {x1 : Int} {x2 : Int} {x3 : Int} 
  (h : (rng x3) ∧ ((rng x1) ∧ ((x1 < x3 → Cl mX12_linesOf [vr 94, vi x2, vi 0] σ (pI fun z1 σ1 => Cl mX12_fitHead [vr 94, vi x2, vi x1, vi 0, vi z1] σ1 (pV fun σ2 => Cl mX12_fullSubs [vr 94, vi x2] σ2 (pI fun z3 σ3 => (rng z3) ∧ ((z3 ≤ 0 → Cl mX12_isPrinted [vr 94, vi x2] σ3 (pI fun z4 σ4 => (rng z4) ∧ ((z4 = 0 → V mX12_fitAll 52 [some (vr 94), some (vi x1), some (vi (x2 + (-1))), none] [] σ4 post) ∧ (¬ z4 = 0 → Cl mX12_fitHead [vr 94, vi x2, vi x1, vi 2, vi 0] σ4 (pV fun σ5 => V mX12_fitAll 52 [some (vr 94), some (vi x1), some (vi (x2 + (-1))), none] [] σ5 post))))) ∧ (¬ z3 ≤ 0 → Cl mX12_linesOf [vr 94, vi x2, vi 1] σ3 (pI fun z6 σ6 => Cl mX12_fitHead [vr 94, vi x2, vi x1, vi 1, vi z6] σ6 (pV fun σ7 => Cl mX12_isPrinted [vr 94, vi x2] σ7 (pI fun z8 σ8 => (rng z8) ∧ ((z8 = 0 → V mX12_fitAll 52 [some (vr 94), some (vi x1), some (vi (x2 + (-1))), none] [] σ8 post) ∧ (¬ z8 = 0 → Cl mX12_fitHead [vr 94, vi x2, vi x1, vi 2, vi 0] σ8 (pV fun σ9 => V mX12_fitAll 52 [some (vr 94), some (vi x1), some (vi (x2 + (-1))), none] [] σ9 post)))))))))))) ∧ (¬ x1 < x3 → (0 ≤ ((201 * x2) + x3) ∧ ((201 * x2) + x3) < 3417) ∧ (V mX12_fitAll 58 [some (vr 94), some (vi x1), some (vi x2), some (vi (x3 + 1))] [] (up (up σ 115 ((201 * x2) + x3) 1000000) 117 ((201 * x2) + x3) 0) post))))) :
  V mX12_fitAll 58 [some (vr 94), some (vi x1), some (vi x2), some (vi x3)] [] σ post := by
  refine V_iload_n dX12_fitAll_58 rfl rfl ?_
  refine V_iload_n dX12_fitAll_59 rfl rfl ?_
  obtain ⟨r1, h⟩ := h
  obtain ⟨r2, h⟩ := h
  refine V_icmp_gt (tgt := 97) dX12_fitAll_60 rfl r1 r2 (fun q => ?_) (fun q => ?_)
  · replace h := h.1 q
    refine V_aload_n dX12_fitAll_97 rfl rfl ?_
    refine V_iload_n dX12_fitAll_98 rfl rfl ?_
    refine V_iload_n dX12_fitAll_99 rfl rfl ?_
    refine V_iconst dX12_fitAll_100 ?_
    refine V_aload_n dX12_fitAll_101 rfl rfl ?_
    refine V_iload_n dX12_fitAll_102 rfl rfl ?_
    refine V_iconst dX12_fitAll_103 ?_
    refine V_callV (av := [vi x2, vi 0]) (stk := [vi 0, vi x1, vi x2, vr 94]) cvX12_303 rfl rfl rfl (by decide) (by simp [ctg]) dX12_fitAll_104 h ?_
    rintro _ σ1 ⟨z1, rfl, h⟩
    refine V_callV (av := [vi x2, vi x1, vi 0, vi z1]) (stk := []) cvX12_467 rfl rfl rfl (by decide) (by simp [ctg]) dX12_fitAll_107 h ?_
    rintro _ σ2 ⟨rfl, h⟩
    refine V_aload_n dX12_fitAll_110 rfl rfl ?_
    refine V_iload_n dX12_fitAll_111 rfl rfl ?_
    refine V_callV (av := [vi x2]) (stk := []) cvX12_429 rfl rfl rfl (by decide) (by simp [ctg]) dX12_fitAll_112 h ?_
    rintro _ σ3 ⟨z3, rfl, h⟩
    obtain ⟨r3, h⟩ := h
    refine V_if_le (tgt := 131) dX12_fitAll_115 rfl r3 (fun q => ?_) (fun q => ?_)
    · replace h := h.1 q
      refine V_aload_n dX12_fitAll_131 rfl rfl ?_
      refine V_iload_n dX12_fitAll_132 rfl rfl ?_
      refine V_callV (av := [vi x2]) (stk := []) cvX12_409 rfl rfl rfl (by decide) (by simp [ctg]) dX12_fitAll_133 h ?_
      rintro _ σ4 ⟨z4, rfl, h⟩
      obtain ⟨r4, h⟩ := h
      refine V_if_eq (tgt := 147) dX12_fitAll_136 rfl r4 (fun q => ?_) (fun q => ?_)
      · replace h := h.1 q
        refine V_iinc (L' := [some (vr 94), some (vi x1), some (vi (x2 + (-1))), some (vi x3)]) dX12_fitAll_147 rfl (by decide) rfl ?_
        refine V_goto (tgt := 52) dX12_fitAll_150 rfl ?_
        exact V.sub (SubL_s (SubL_s (SubL_s (SubL_n (SubL_0))))) h
      · replace h := h.2 q
        refine V_aload_n dX12_fitAll_139 rfl rfl ?_
        refine V_iload_n dX12_fitAll_140 rfl rfl ?_
        refine V_iload_n dX12_fitAll_141 rfl rfl ?_
        refine V_iconst dX12_fitAll_142 ?_
        refine V_iconst dX12_fitAll_143 ?_
        refine V_callV (av := [vi x2, vi x1, vi 2, vi 0]) (stk := []) cvX12_467 rfl rfl rfl (by decide) (by simp [ctg]) dX12_fitAll_144 h ?_
        rintro _ σ5 ⟨rfl, h⟩
        refine V_iinc (L' := [some (vr 94), some (vi x1), some (vi (x2 + (-1))), some (vi x3)]) dX12_fitAll_147 rfl (by decide) rfl ?_
        refine V_goto (tgt := 52) dX12_fitAll_150 rfl ?_
        exact V.sub (SubL_s (SubL_s (SubL_s (SubL_n (SubL_0))))) h
    · replace h := h.2 q
      refine V_aload_n dX12_fitAll_118 rfl rfl ?_
      refine V_iload_n dX12_fitAll_119 rfl rfl ?_
      refine V_iload_n dX12_fitAll_120 rfl rfl ?_
      refine V_iconst dX12_fitAll_121 ?_
      refine V_aload_n dX12_fitAll_122 rfl rfl ?_
      refine V_iload_n dX12_fitAll_123 rfl rfl ?_
      refine V_iconst dX12_fitAll_124 ?_
      refine V_callV (av := [vi x2, vi 1]) (stk := [vi 1, vi x1, vi x2, vr 94]) cvX12_303 rfl rfl rfl (by decide) (by simp [ctg]) dX12_fitAll_125 h ?_
      rintro _ σ6 ⟨z6, rfl, h⟩
      refine V_callV (av := [vi x2, vi x1, vi 1, vi z6]) (stk := []) cvX12_467 rfl rfl rfl (by decide) (by simp [ctg]) dX12_fitAll_128 h ?_
      rintro _ σ7 ⟨rfl, h⟩
      refine V_aload_n dX12_fitAll_131 rfl rfl ?_
      refine V_iload_n dX12_fitAll_132 rfl rfl ?_
      refine V_callV (av := [vi x2]) (stk := []) cvX12_409 rfl rfl rfl (by decide) (by simp [ctg]) dX12_fitAll_133 h ?_
      rintro _ σ8 ⟨z8, rfl, h⟩
      obtain ⟨r5, h⟩ := h
      refine V_if_eq (tgt := 147) dX12_fitAll_136 rfl r5 (fun q => ?_) (fun q => ?_)
      · replace h := h.1 q
        refine V_iinc (L' := [some (vr 94), some (vi x1), some (vi (x2 + (-1))), some (vi x3)]) dX12_fitAll_147 rfl (by decide) rfl ?_
        refine V_goto (tgt := 52) dX12_fitAll_150 rfl ?_
        exact V.sub (SubL_s (SubL_s (SubL_s (SubL_n (SubL_0))))) h
      · replace h := h.2 q
        refine V_aload_n dX12_fitAll_139 rfl rfl ?_
        refine V_iload_n dX12_fitAll_140 rfl rfl ?_
        refine V_iload_n dX12_fitAll_141 rfl rfl ?_
        refine V_iconst dX12_fitAll_142 ?_
        refine V_iconst dX12_fitAll_143 ?_
        refine V_callV (av := [vi x2, vi x1, vi 2, vi 0]) (stk := []) cvX12_467 rfl rfl rfl (by decide) (by simp [ctg]) dX12_fitAll_144 h ?_
        rintro _ σ9 ⟨rfl, h⟩
        refine V_iinc (L' := [some (vr 94), some (vi x1), some (vi (x2 + (-1))), some (vi x3)]) dX12_fitAll_147 rfl (by decide) rfl ?_
        refine V_goto (tgt := 52) dX12_fitAll_150 rfl ?_
        exact V.sub (SubL_s (SubL_s (SubL_s (SubL_n (SubL_0))))) h
  · replace h := h.2 q
    refine V_aload_n dX12_fitAll_63 rfl rfl ?_
    refine V_getR (k2 := 115) flX12_78 rfl rfl (by decide) dX12_fitAll_64 ?_
    refine V_sipush dX12_fitAll_67 (by decide) ?_
    refine V_iload_n dX12_fitAll_70 rfl rfl ?_
    refine V_imul dX12_fitAll_71 ?_
    refine V_iload_n dX12_fitAll_72 rfl rfl ?_
    refine V_iadd dX12_fitAll_73 ?_
    refine V_ldcw dX12_fitAll_74 kcX12_466 ?_
    obtain ⟨r6, h⟩ := h
    refine V_iast (rfl : shp[115]? = some (1, 3417, 0)) r6 dX12_fitAll_77 ?_
    refine V_aload_n dX12_fitAll_78 rfl rfl ?_
    refine V_getR (k2 := 117) flX12_84 rfl rfl (by decide) dX12_fitAll_79 ?_
    refine V_sipush dX12_fitAll_82 (by decide) ?_
    refine V_iload_n dX12_fitAll_85 rfl rfl ?_
    refine V_imul dX12_fitAll_86 ?_
    refine V_iload_n dX12_fitAll_87 rfl rfl ?_
    refine V_iadd dX12_fitAll_88 ?_
    refine V_iconst dX12_fitAll_89 ?_
    refine V_iast (rfl : shp[117]? = some (1, 3417, 0)) r6 dX12_fitAll_90 ?_
    refine V_iinc (L' := [some (vr 94), some (vi x1), some (vi x2), some (vi (x3 + 1))]) dX12_fitAll_91 rfl (by decide) rfl ?_
    refine V_goto (tgt := 58) dX12_fitAll_94 rfl ?_
    exact V.sub (SubL_s (SubL_s (SubL_s (SubL_s (SubL_0))))) h

set_option maxRecDepth 100000 in
theorem BX12_fit_0 {σ : Sg} {post : Po} {x1 : Int} {x2 : Int} 
  (h : (rng x2) ∧ ((x2 = (-1) → (rng x1) ∧ (Cl mX12_in [vl x1, vl 0, vl 200] σ (pI fun z1 σ1 => (rng z1) ∧ ((¬ z1 = 0 → Cl mX12_fitAll [vr 94, vi x1] σ1 (pV fun σ2 => (¬ x2 = (-1) → V mX12_fit 55 [some (vr 94), none, some (vi x2), some (vi x1), some (vi 0), none] [] σ2 post) ∧ (x2 = (-1) → (0 ≤ x1 ∧ x1 < 3417) ∧ (post (some (vi (σ2 115 x1))) σ2)))) ∧ (z1 = 0 → post (some (vi (-1002))) σ1))))) ∧ (¬ x2 = (-1) → Cl mX12_noHead [vr 94, vi x2] σ (pI fun z3 σ3 => (rng z3) ∧ ((z3 = 0 → (rng x1) ∧ (Cl mX12_in [vl x1, vl 0, vl 200] σ3 (pI fun z4 σ4 => (rng z4) ∧ ((¬ z4 = 0 → Cl mX12_fitAll [vr 94, vi x1] σ4 (pV fun σ5 => (¬ x2 = (-1) → V mX12_fit 55 [some (vr 94), none, some (vi x2), some (vi x1), some (vi 0), none] [] σ5 post) ∧ (x2 = (-1) → (0 ≤ x1 ∧ x1 < 3417) ∧ (post (some (vi (σ5 115 x1))) σ5)))) ∧ (z4 = 0 → post (some (vi (-1002))) σ4))))) ∧ (¬ z3 = 0 → post (some (vi (-1001))) σ3)))))) :
  V mX12_fit 0 [some (vr 94), some (vi x1), some (vi x2), none, none, none] [] σ post := by
  refine V_iload_n dX12_fit_0 rfl rfl ?_
  refine V_iconst dX12_fit_1 ?_
  obtain ⟨r1, h⟩ := h
  refine V_icmp_eq (tgt := 17) dX12_fit_2 rfl r1 (by decide) (fun q => ?_) (fun q => ?_)
  · replace h := h.1 q
    refine V_iload_n dX12_fit_17 rfl rfl ?_
    obtain ⟨r2, h⟩ := h
    refine V_i2l dX12_fit_18 r2 ?_
    refine V_lconst (z := 0) dX12_fit_19 rfl ?_
    refine V_ldc2 dX12_fit_20 klX12_471 ?_
    refine V_callS (av := [vl x1, vl 0, vl 200]) (stk := []) cvX12_146 rfl rfl (by decide) (by simp [ctg]) dX12_fit_23 h ?_
    rintro _ σ1 ⟨z1, rfl, h⟩
    obtain ⟨r3, h⟩ := h
    refine V_if_ne (tgt := 33) dX12_fit_26 rfl r3 (fun q => ?_) (fun q => ?_)
    · replace h := h.1 q
      refine V_aload_n dX12_fit_33 rfl rfl ?_
      refine V_iload_n dX12_fit_34 rfl rfl ?_
      refine V_callV (av := [vi x1]) (stk := []) cvX12_473 rfl rfl rfl (by decide) (by simp [ctg]) dX12_fit_35 h ?_
      rintro _ σ2 ⟨rfl, h⟩
      refine V_iload_n dX12_fit_38 rfl rfl ?_
      refine V_iconst dX12_fit_39 ?_
      refine V_icmp_ne (tgt := 50) dX12_fit_40 rfl r1 (by decide) (fun q => ?_) (fun q => ?_)
      · replace h := h.1 q
        refine V_iload_n dX12_fit_50 rfl rfl ?_
        refine V_istore_n (L' := [some (vr 94), some (vi x1), some (vi x2), some (vi x1), none, none]) dX12_fit_51 rfl (by decide) rfl ?_
        refine V_iconst dX12_fit_52 ?_
        refine V_istore (L' := [some (vr 94), some (vi x1), some (vi x2), some (vi x1), some (vi 0), none]) dX12_fit_53 (by decide) rfl ?_
        exact V.sub (SubL_s (SubL_n (SubL_s (SubL_s (SubL_s (SubL_n (SubL_0))))))) h
      · replace h := h.2 q
        refine V_aload_n dX12_fit_43 rfl rfl ?_
        refine V_getR (k2 := 115) flX12_78 rfl rfl (by decide) dX12_fit_44 ?_
        refine V_iload_n dX12_fit_47 rfl rfl ?_
        obtain ⟨r4, h⟩ := h
        refine V_iald (f := (σ2 115 x1)) (rfl : shp[115]? = some (1, 3417, 0)) r4 (rfl) dX12_fit_48 ?_
        exact V_ireturn (stk := []) rfl dX12_fit_49 h
    · replace h := h.2 q
      refine V_sipush dX12_fit_29 (by decide) ?_
      exact V_ireturn (stk := []) rfl dX12_fit_32 h
  · replace h := h.2 q
    refine V_aload_n dX12_fit_5 rfl rfl ?_
    refine V_iload_n dX12_fit_6 rfl rfl ?_
    refine V_callV (av := [vi x2]) (stk := []) cvX12_293 rfl rfl rfl (by decide) (by simp [ctg]) dX12_fit_7 h ?_
    rintro _ σ3 ⟨z3, rfl, h⟩
    obtain ⟨r5, h⟩ := h
    refine V_if_eq (tgt := 17) dX12_fit_10 rfl r5 (fun q => ?_) (fun q => ?_)
    · replace h := h.1 q
      refine V_iload_n dX12_fit_17 rfl rfl ?_
      obtain ⟨r6, h⟩ := h
      refine V_i2l dX12_fit_18 r6 ?_
      refine V_lconst (z := 0) dX12_fit_19 rfl ?_
      refine V_ldc2 dX12_fit_20 klX12_471 ?_
      refine V_callS (av := [vl x1, vl 0, vl 200]) (stk := []) cvX12_146 rfl rfl (by decide) (by simp [ctg]) dX12_fit_23 h ?_
      rintro _ σ4 ⟨z4, rfl, h⟩
      obtain ⟨r7, h⟩ := h
      refine V_if_ne (tgt := 33) dX12_fit_26 rfl r7 (fun q => ?_) (fun q => ?_)
      · replace h := h.1 q
        refine V_aload_n dX12_fit_33 rfl rfl ?_
        refine V_iload_n dX12_fit_34 rfl rfl ?_
        refine V_callV (av := [vi x1]) (stk := []) cvX12_473 rfl rfl rfl (by decide) (by simp [ctg]) dX12_fit_35 h ?_
        rintro _ σ5 ⟨rfl, h⟩
        refine V_iload_n dX12_fit_38 rfl rfl ?_
        refine V_iconst dX12_fit_39 ?_
        refine V_icmp_ne (tgt := 50) dX12_fit_40 rfl r1 (by decide) (fun q => ?_) (fun q => ?_)
        · replace h := h.1 q
          refine V_iload_n dX12_fit_50 rfl rfl ?_
          refine V_istore_n (L' := [some (vr 94), some (vi x1), some (vi x2), some (vi x1), none, none]) dX12_fit_51 rfl (by decide) rfl ?_
          refine V_iconst dX12_fit_52 ?_
          refine V_istore (L' := [some (vr 94), some (vi x1), some (vi x2), some (vi x1), some (vi 0), none]) dX12_fit_53 (by decide) rfl ?_
          exact V.sub (SubL_s (SubL_n (SubL_s (SubL_s (SubL_s (SubL_n (SubL_0))))))) h
        · replace h := h.2 q
          refine V_aload_n dX12_fit_43 rfl rfl ?_
          refine V_getR (k2 := 115) flX12_78 rfl rfl (by decide) dX12_fit_44 ?_
          refine V_iload_n dX12_fit_47 rfl rfl ?_
          obtain ⟨r8, h⟩ := h
          refine V_iald (f := (σ5 115 x1)) (rfl : shp[115]? = some (1, 3417, 0)) r8 (rfl) dX12_fit_48 ?_
          exact V_ireturn (stk := []) rfl dX12_fit_49 h
      · replace h := h.2 q
        refine V_sipush dX12_fit_29 (by decide) ?_
        exact V_ireturn (stk := []) rfl dX12_fit_32 h
    · replace h := h.2 q
      refine V_sipush dX12_fit_13 (by decide) ?_
      exact V_ireturn (stk := []) rfl dX12_fit_16 h
set_option maxRecDepth 100000 in
theorem BX12_fit_55 {σ : Sg} {post : Po} {x2 : Int} {x3 : Int} {x4 : Int} 
  (h : (rng x4) ∧ ((rng x2) ∧ ((x2 ≤ x4 → (0 ≤ ((201 * x2) + x3) ∧ ((201 * x2) + x3) < 3417) ∧ (post (some (vi (σ 117 ((201 * x2) + x3)))) σ)) ∧ (¬ x2 ≤ x4 → (0 ≤ ((201 * x4) + x3) ∧ ((201 * x4) + x3) < 3417) ∧ ((rng (σ 117 ((201 * x4) + x3))) ∧ ((¬ (σ 117 ((201 * x4) + x3)) = 2 → (¬ (σ 117 ((201 * x4) + x3)) = 1 → Cl mX12_linesOf [vr 94, vi x4, vi 0] σ (pI fun z1 σ1 => V mX12_fit 55 [some (vr 94), none, some (vi x2), some (vi (x3 - z1)), some (vi (x4 + 1)), none] [] σ1 post)) ∧ ((σ 117 ((201 * x4) + x3)) = 1 → Cl mX12_linesOf [vr 94, vi x4, vi 1] σ (pI fun z2 σ2 => V mX12_fit 55 [some (vr 94), none, some (vi x2), some (vi (x3 - z2)), some (vi (x4 + 1)), none] [] σ2 post))) ∧ ((σ 117 ((201 * x4) + x3)) = 2 → V mX12_fit 55 [some (vr 94), none, some (vi x2), some (vi (x3 - 0)), some (vi (x4 + 1)), none] [] σ post))))))) :
  V mX12_fit 55 [some (vr 94), none, some (vi x2), some (vi x3), some (vi x4), none] [] σ post := by
  refine V_iload dX12_fit_55 rfl ?_
  refine V_iload_n dX12_fit_57 rfl rfl ?_
  obtain ⟨r1, h⟩ := h
  obtain ⟨r2, h⟩ := h
  refine V_icmp_ge (tgt := 112) dX12_fit_58 rfl r1 r2 (fun q => ?_) (fun q => ?_)
  · replace h := h.1 q
    refine V_aload_n dX12_fit_112 rfl rfl ?_
    refine V_getR (k2 := 117) flX12_84 rfl rfl (by decide) dX12_fit_113 ?_
    refine V_sipush dX12_fit_116 (by decide) ?_
    refine V_iload_n dX12_fit_119 rfl rfl ?_
    refine V_imul dX12_fit_120 ?_
    refine V_iload_n dX12_fit_121 rfl rfl ?_
    refine V_iadd dX12_fit_122 ?_
    obtain ⟨r3, h⟩ := h
    refine V_iald (f := (σ 117 ((201 * x2) + x3))) (rfl : shp[117]? = some (1, 3417, 0)) r3 (rfl) dX12_fit_123 ?_
    exact V_ireturn (stk := []) rfl dX12_fit_124 h
  · replace h := h.2 q
    refine V_aload_n dX12_fit_61 rfl rfl ?_
    refine V_getR (k2 := 117) flX12_84 rfl rfl (by decide) dX12_fit_62 ?_
    refine V_sipush dX12_fit_65 (by decide) ?_
    refine V_iload dX12_fit_68 rfl ?_
    refine V_imul dX12_fit_70 ?_
    refine V_iload_n dX12_fit_71 rfl rfl ?_
    refine V_iadd dX12_fit_72 ?_
    obtain ⟨r4, h⟩ := h
    refine V_iald (f := (σ 117 ((201 * x4) + x3))) (rfl : shp[117]? = some (1, 3417, 0)) r4 (rfl) dX12_fit_73 ?_
    refine V_istore (L' := [some (vr 94), none, some (vi x2), some (vi x3), some (vi x4), some (vi (σ 117 ((201 * x4) + x3)))]) dX12_fit_74 (by decide) rfl ?_
    refine V_iload_n dX12_fit_76 rfl rfl ?_
    refine V_iload dX12_fit_77 rfl ?_
    refine V_iconst dX12_fit_79 ?_
    obtain ⟨r5, h⟩ := h
    refine V_icmp_ne (tgt := 87) dX12_fit_80 rfl r5 (by decide) (fun q => ?_) (fun q => ?_)
    · replace h := h.1 q
      refine V_aload_n dX12_fit_87 rfl rfl ?_
      refine V_iload dX12_fit_88 rfl ?_
      refine V_iload dX12_fit_90 rfl ?_
      refine V_iconst dX12_fit_92 ?_
      refine V_icmp_ne (tgt := 100) dX12_fit_93 rfl r5 (by decide) (fun q => ?_) (fun q => ?_)
      · replace h := h.1 q
        refine V_iconst dX12_fit_100 ?_
        refine V_callV (av := [vi x4, vi 0]) (stk := [vi x3]) cvX12_303 rfl rfl rfl (by decide) (by simp [ctg]) dX12_fit_101 h ?_
        rintro _ σ1 ⟨z1, rfl, h⟩
        refine V_isub dX12_fit_104 ?_
        refine V_istore_n (L' := [some (vr 94), none, some (vi x2), some (vi (x3 - z1)), some (vi x4), some (vi (σ 117 ((201 * x4) + x3)))]) dX12_fit_105 rfl (by decide) rfl ?_
        refine V_iinc (L' := [some (vr 94), none, some (vi x2), some (vi (x3 - z1)), some (vi (x4 + 1)), some (vi (σ 117 ((201 * x4) + x3)))]) dX12_fit_106 rfl (by decide) rfl ?_
        refine V_goto (tgt := 55) dX12_fit_109 rfl ?_
        exact V.sub (SubL_s (SubL_n (SubL_s (SubL_s (SubL_s (SubL_n (SubL_0))))))) h
      · replace h := h.2 q
        refine V_iconst dX12_fit_96 ?_
        refine V_goto (tgt := 101) dX12_fit_97 rfl ?_
        refine V_callV (av := [vi x4, vi 1]) (stk := [vi x3]) cvX12_303 rfl rfl rfl (by decide) (by simp [ctg]) dX12_fit_101 h ?_
        rintro _ σ2 ⟨z2, rfl, h⟩
        refine V_isub dX12_fit_104 ?_
        refine V_istore_n (L' := [some (vr 94), none, some (vi x2), some (vi (x3 - z2)), some (vi x4), some (vi (σ 117 ((201 * x4) + x3)))]) dX12_fit_105 rfl (by decide) rfl ?_
        refine V_iinc (L' := [some (vr 94), none, some (vi x2), some (vi (x3 - z2)), some (vi (x4 + 1)), some (vi (σ 117 ((201 * x4) + x3)))]) dX12_fit_106 rfl (by decide) rfl ?_
        refine V_goto (tgt := 55) dX12_fit_109 rfl ?_
        exact V.sub (SubL_s (SubL_n (SubL_s (SubL_s (SubL_s (SubL_n (SubL_0))))))) h
    · replace h := h.2 q
      refine V_iconst dX12_fit_83 ?_
      refine V_goto (tgt := 104) dX12_fit_84 rfl ?_
      refine V_isub dX12_fit_104 ?_
      refine V_istore_n (L' := [some (vr 94), none, some (vi x2), some (vi (x3 - 0)), some (vi x4), some (vi (σ 117 ((201 * x4) + x3)))]) dX12_fit_105 rfl (by decide) rfl ?_
      refine V_iinc (L' := [some (vr 94), none, some (vi x2), some (vi (x3 - 0)), some (vi (x4 + 1)), some (vi (σ 117 ((201 * x4) + x3)))]) dX12_fit_106 rfl (by decide) rfl ?_
      refine V_goto (tgt := 55) dX12_fit_109 rfl ?_
      exact V.sub (SubL_s (SubL_n (SubL_s (SubL_s (SubL_s (SubL_n (SubL_0))))))) h

set_option maxRecDepth 100000 in
theorem BX12_putIn_0 {σ : Sg} {post : Po} {x1 : Int} {x2 : Int} 
  (h : (rng x1) ∧ (Cl mX12_in [vl x1, vl 0, vl 99] σ (pI fun z1 σ1 => (rng z1) ∧ ((z1 = 0 → post (some (vi (-1002))) σ1) ∧ (¬ z1 = 0 → (rng x2) ∧ (Cl mX12_in [vl x2, vl 1, vl 9] σ1 (pI fun z2 σ2 => (rng z2) ∧ ((¬ z2 = 0 → V mX12_putIn 30 [some (vr 94), some (vi x1), some (vi x2), some (vi 0), none] [] σ2 post) ∧ (z2 = 0 → post (some (vi (-1002))) σ2))))))))) :
  V mX12_putIn 0 [some (vr 94), some (vi x1), some (vi x2), none, none] [] σ post := by
  refine V_iload_n dX12_putIn_0 rfl rfl ?_
  obtain ⟨r1, h⟩ := h
  refine V_i2l dX12_putIn_1 r1 ?_
  refine V_lconst (z := 0) dX12_putIn_2 rfl ?_
  refine V_ldc2 dX12_putIn_3 klX12_309 ?_
  refine V_callS (av := [vl x1, vl 0, vl 99]) (stk := []) cvX12_146 rfl rfl (by decide) (by simp [ctg]) dX12_putIn_6 h ?_
  rintro _ σ1 ⟨z1, rfl, h⟩
  obtain ⟨r2, h⟩ := h
  refine V_if_eq (tgt := 24) dX12_putIn_9 rfl r2 (fun q => ?_) (fun q => ?_)
  · replace h := h.1 q
    refine V_sipush dX12_putIn_24 (by decide) ?_
    exact V_ireturn (stk := []) rfl dX12_putIn_27 h
  · replace h := h.2 q
    refine V_iload_n dX12_putIn_12 rfl rfl ?_
    obtain ⟨r3, h⟩ := h
    refine V_i2l dX12_putIn_13 r3 ?_
    refine V_lconst (z := 1) dX12_putIn_14 rfl ?_
    refine V_ldc2 dX12_putIn_15 klX12_424 ?_
    refine V_callS (av := [vl x2, vl 1, vl 9]) (stk := []) cvX12_146 rfl rfl (by decide) (by simp [ctg]) dX12_putIn_18 h ?_
    rintro _ σ2 ⟨z2, rfl, h⟩
    obtain ⟨r4, h⟩ := h
    refine V_if_ne (tgt := 28) dX12_putIn_21 rfl r4 (fun q => ?_) (fun q => ?_)
    · replace h := h.1 q
      refine V_iconst dX12_putIn_28 ?_
      refine V_istore_n (L' := [some (vr 94), some (vi x1), some (vi x2), some (vi 0), none]) dX12_putIn_29 rfl (by decide) rfl ?_
      exact V.sub (SubL_s (SubL_s (SubL_s (SubL_s (SubL_n (SubL_0)))))) h
    · replace h := h.2 q
      refine V_sipush dX12_putIn_24 (by decide) ?_
      exact V_ireturn (stk := []) rfl dX12_putIn_27 h
set_option maxRecDepth 100000 in
theorem BX12_putIn_30 {σ : Sg} {post : Po} {x1 : Int} {x2 : Int} {x3 : Int} 
  (h : (rng x3) ∧ ((rng (σ 94 7)) ∧ (((σ 94 7) ≤ x3 → V mX12_putIn 76 [some (vr 94), some (vi x1), some (vi x2), some (vi 0), some (vi 0)] [] σ post) ∧ (¬ (σ 94 7) ≤ x3 → (0 ≤ x3 ∧ x3 < 60) ∧ ((rng (σ 104 x3)) ∧ ((rng x1) ∧ (((σ 104 x3) ≤ x1 → V mX12_putIn 30 [some (vr 94), some (vi x1), some (vi x2), some (vi (x3 + 1)), none] [] σ post) ∧ (¬ (σ 104 x3) ≤ x1 → (rng ((σ 104 x3) + x2)) ∧ ((((σ 104 x3) + x2) ≤ 99 → V mX12_putIn 30 [some (vr 94), some (vi x1), some (vi x2), some (vi (x3 + 1)), none] [] σ post) ∧ (¬ ((σ 104 x3) + x2) ≤ 99 → post (some (vi (-1003))) σ)))))))))) :
  V mX12_putIn 30 [some (vr 94), some (vi x1), some (vi x2), some (vi x3), none] [] σ post := by
  refine V_iload_n dX12_putIn_30 rfl rfl ?_
  refine V_aload_n dX12_putIn_31 rfl rfl ?_
  refine V_getI (f := (σ 94 7)) flX12_210 rfl (rfl) (by decide) dX12_putIn_32 ?_
  obtain ⟨r1, h⟩ := h
  obtain ⟨r2, h⟩ := h
  refine V_icmp_ge (tgt := 71) dX12_putIn_35 rfl r1 r2 (fun q => ?_) (fun q => ?_)
  · replace h := h.1 q
    refine V_iconst dX12_putIn_71 ?_
    refine V_istore_n (L' := [some (vr 94), some (vi x1), some (vi x2), some (vi 0), none]) dX12_putIn_72 rfl (by decide) rfl ?_
    refine V_iconst dX12_putIn_73 ?_
    refine V_istore (L' := [some (vr 94), some (vi x1), some (vi x2), some (vi 0), some (vi 0)]) dX12_putIn_74 (by decide) rfl ?_
    exact V.sub (SubL_s (SubL_s (SubL_s (SubL_s (SubL_s (SubL_0)))))) h
  · replace h := h.2 q
    refine V_aload_n dX12_putIn_38 rfl rfl ?_
    refine V_getR (k2 := 104) flX12_37 rfl rfl (by decide) dX12_putIn_39 ?_
    refine V_iload_n dX12_putIn_42 rfl rfl ?_
    obtain ⟨r3, h⟩ := h
    refine V_iald (f := (σ 104 x3)) (rfl : shp[104]? = some (1, 60, 0)) r3 (rfl) dX12_putIn_43 ?_
    refine V_iload_n dX12_putIn_44 rfl rfl ?_
    obtain ⟨r4, h⟩ := h
    obtain ⟨r5, h⟩ := h
    refine V_icmp_le (tgt := 65) dX12_putIn_45 rfl r4 r5 (fun q => ?_) (fun q => ?_)
    · replace h := h.1 q
      refine V_iinc (L' := [some (vr 94), some (vi x1), some (vi x2), some (vi (x3 + 1)), none]) dX12_putIn_65 rfl (by decide) rfl ?_
      refine V_goto (tgt := 30) dX12_putIn_68 rfl ?_
      exact V.sub (SubL_s (SubL_s (SubL_s (SubL_s (SubL_n (SubL_0)))))) h
    · replace h := h.2 q
      refine V_aload_n dX12_putIn_48 rfl rfl ?_
      refine V_getR (k2 := 104) flX12_37 rfl rfl (by decide) dX12_putIn_49 ?_
      refine V_iload_n dX12_putIn_52 rfl rfl ?_
      refine V_iald (f := (σ 104 x3)) (rfl : shp[104]? = some (1, 60, 0)) r3 (rfl) dX12_putIn_53 ?_
      refine V_iload_n dX12_putIn_54 rfl rfl ?_
      refine V_iadd dX12_putIn_55 ?_
      refine V_bipush dX12_putIn_56 (by decide) ?_
      obtain ⟨r6, h⟩ := h
      refine V_icmp_le (tgt := 65) dX12_putIn_58 rfl r6 (by decide) (fun q => ?_) (fun q => ?_)
      · replace h := h.1 q
        refine V_iinc (L' := [some (vr 94), some (vi x1), some (vi x2), some (vi (x3 + 1)), none]) dX12_putIn_65 rfl (by decide) rfl ?_
        refine V_goto (tgt := 30) dX12_putIn_68 rfl ?_
        exact V.sub (SubL_s (SubL_s (SubL_s (SubL_s (SubL_n (SubL_0)))))) h
      · replace h := h.2 q
        refine V_sipush dX12_putIn_61 (by decide) ?_
        exact V_ireturn (stk := []) rfl dX12_putIn_64 h
set_option maxRecDepth 100000 in
theorem BX12_putIn_76 {σ : Sg} {post : Po} {x1 : Int} {x2 : Int} {x3 : Int} {x4 : Int} 
  (h : (rng x4) ∧ ((rng (σ 94 7)) ∧ (((σ 94 7) ≤ x4 → post (some (vi x3)) σ) ∧ (¬ (σ 94 7) ≤ x4 → (0 ≤ x4 ∧ x4 < 60) ∧ ((rng (σ 104 x4)) ∧ ((rng x1) ∧ (((σ 104 x4) ≤ x1 → Cl mX12_one [vi 0] σ (pI fun z1 σ1 => (rng (σ1 103 x4)) ∧ (((σ1 103 x4) ≤ x1 → (rng (σ1 104 x4)) ∧ (((σ1 104 x4) ≤ x1 → V mX12_putIn 76 [some (vr 94), some (vi x1), some (vi x2), some (vi (x3 + z1)), some (vi (x4 + 1))] [] (up (up σ1 103 x4 ((σ1 103 x4) + 0)) 104 x4 ((σ1 104 x4) + 0)) post) ∧ (¬ (σ1 104 x4) ≤ x1 → V mX12_putIn 76 [some (vr 94), some (vi x1), some (vi x2), some (vi (x3 + z1)), some (vi (x4 + 1))] [] (up (up σ1 103 x4 ((σ1 103 x4) + 0)) 104 x4 ((σ1 104 x4) + x2)) post))) ∧ (¬ (σ1 103 x4) ≤ x1 → (rng (σ1 104 x4)) ∧ (((σ1 104 x4) ≤ x1 → V mX12_putIn 76 [some (vr 94), some (vi x1), some (vi x2), some (vi (x3 + z1)), some (vi (x4 + 1))] [] (up (up σ1 103 x4 ((σ1 103 x4) + x2)) 104 x4 ((σ1 104 x4) + 0)) post) ∧ (¬ (σ1 104 x4) ≤ x1 → V mX12_putIn 76 [some (vr 94), some (vi x1), some (vi x2), some (vi (x3 + z1)), some (vi (x4 + 1))] [] (up (up σ1 103 x4 ((σ1 103 x4) + x2)) 104 x4 ((σ1 104 x4) + x2)) post)))))) ∧ (¬ (σ 104 x4) ≤ x1 → Cl mX12_one [vi 1] σ (pI fun z2 σ2 => (rng (σ2 103 x4)) ∧ (((σ2 103 x4) ≤ x1 → (rng (σ2 104 x4)) ∧ (((σ2 104 x4) ≤ x1 → V mX12_putIn 76 [some (vr 94), some (vi x1), some (vi x2), some (vi (x3 + z2)), some (vi (x4 + 1))] [] (up (up σ2 103 x4 ((σ2 103 x4) + 0)) 104 x4 ((σ2 104 x4) + 0)) post) ∧ (¬ (σ2 104 x4) ≤ x1 → V mX12_putIn 76 [some (vr 94), some (vi x1), some (vi x2), some (vi (x3 + z2)), some (vi (x4 + 1))] [] (up (up σ2 103 x4 ((σ2 103 x4) + 0)) 104 x4 ((σ2 104 x4) + x2)) post))) ∧ (¬ (σ2 103 x4) ≤ x1 → (rng (σ2 104 x4)) ∧ (((σ2 104 x4) ≤ x1 → V mX12_putIn 76 [some (vr 94), some (vi x1), some (vi x2), some (vi (x3 + z2)), some (vi (x4 + 1))] [] (up (up σ2 103 x4 ((σ2 103 x4) + x2)) 104 x4 ((σ2 104 x4) + 0)) post) ∧ (¬ (σ2 104 x4) ≤ x1 → V mX12_putIn 76 [some (vr 94), some (vi x1), some (vi x2), some (vi (x3 + z2)), some (vi (x4 + 1))] [] (up (up σ2 103 x4 ((σ2 103 x4) + x2)) 104 x4 ((σ2 104 x4) + x2)) post))))))))))))) :
  V mX12_putIn 76 [some (vr 94), some (vi x1), some (vi x2), some (vi x3), some (vi x4)] [] σ post := by
  refine V_iload dX12_putIn_76 rfl ?_
  refine V_aload_n dX12_putIn_78 rfl rfl ?_
  refine V_getI (f := (σ 94 7)) flX12_210 rfl (rfl) (by decide) dX12_putIn_79 ?_
  obtain ⟨r1, h⟩ := h
  obtain ⟨r2, h⟩ := h
  refine V_icmp_ge (tgt := 165) dX12_putIn_82 rfl r1 r2 (fun q => ?_) (fun q => ?_)
  · replace h := h.1 q
    refine V_iload_n dX12_putIn_165 rfl rfl ?_
    exact V_ireturn (stk := []) rfl dX12_putIn_166 h
  · replace h := h.2 q
    refine V_iload_n dX12_putIn_85 rfl rfl ?_
    refine V_aload_n dX12_putIn_86 rfl rfl ?_
    refine V_getR (k2 := 104) flX12_37 rfl rfl (by decide) dX12_putIn_87 ?_
    refine V_iload dX12_putIn_90 rfl ?_
    obtain ⟨r3, h⟩ := h
    refine V_iald (f := (σ 104 x4)) (rfl : shp[104]? = some (1, 60, 0)) r3 (rfl) dX12_putIn_92 ?_
    refine V_iload_n dX12_putIn_93 rfl rfl ?_
    obtain ⟨r4, h⟩ := h
    obtain ⟨r5, h⟩ := h
    refine V_icmp_le (tgt := 101) dX12_putIn_94 rfl r4 r5 (fun q => ?_) (fun q => ?_)
    · replace h := h.1 q
      refine V_iconst dX12_putIn_101 ?_
      refine V_callS (av := [vi 0]) (stk := [vi x3]) cvX12_271 rfl rfl (by decide) (by simp [ctg]) dX12_putIn_102 h ?_
      rintro _ σ1 ⟨z1, rfl, h⟩
      refine V_iadd dX12_putIn_105 ?_
      refine V_istore_n (L' := [some (vr 94), some (vi x1), some (vi x2), some (vi (x3 + z1)), some (vi x4)]) dX12_putIn_106 rfl (by decide) rfl ?_
      refine V_aload_n dX12_putIn_107 rfl rfl ?_
      refine V_getR (k2 := 103) flX12_34 rfl rfl (by decide) dX12_putIn_108 ?_
      refine V_iload dX12_putIn_111 rfl ?_
      refine V_dup2 dX12_putIn_113 trivial trivial ?_
      refine V_iald (f := (σ1 103 x4)) (rfl : shp[103]? = some (1, 60, 0)) r3 (rfl) dX12_putIn_114 ?_
      refine V_aload_n dX12_putIn_115 rfl rfl ?_
      refine V_getR (k2 := 103) flX12_34 rfl rfl (by decide) dX12_putIn_116 ?_
      refine V_iload dX12_putIn_119 rfl ?_
      refine V_iald (f := (σ1 103 x4)) (rfl : shp[103]? = some (1, 60, 0)) r3 (rfl) dX12_putIn_121 ?_
      refine V_iload_n dX12_putIn_122 rfl rfl ?_
      obtain ⟨r6, h⟩ := h
      refine V_icmp_le (tgt := 130) dX12_putIn_123 rfl r6 r5 (fun q => ?_) (fun q => ?_)
      · replace h := h.1 q
        refine V_iconst dX12_putIn_130 ?_
        refine V_iadd dX12_putIn_131 ?_
        refine V_iast (rfl : shp[103]? = some (1, 60, 0)) r3 dX12_putIn_132 ?_
        refine V_aload_n dX12_putIn_133 rfl rfl ?_
        refine V_getR (k2 := 104) flX12_37 rfl rfl (by decide) dX12_putIn_134 ?_
        refine V_iload dX12_putIn_137 rfl ?_
        refine V_dup2 dX12_putIn_139 trivial trivial ?_
        refine V_iald (f := (σ1 104 x4)) (rfl : shp[104]? = some (1, 60, 0)) r3 (up_o (by omega)) dX12_putIn_140 ?_
        refine V_aload_n dX12_putIn_141 rfl rfl ?_
        refine V_getR (k2 := 104) flX12_37 rfl rfl (by decide) dX12_putIn_142 ?_
        refine V_iload dX12_putIn_145 rfl ?_
        refine V_iald (f := (σ1 104 x4)) (rfl : shp[104]? = some (1, 60, 0)) r3 (up_o (by omega)) dX12_putIn_147 ?_
        refine V_iload_n dX12_putIn_148 rfl rfl ?_
        obtain ⟨r7, h⟩ := h
        refine V_icmp_le (tgt := 156) dX12_putIn_149 rfl r7 r5 (fun q => ?_) (fun q => ?_)
        · replace h := h.1 q
          refine V_iconst dX12_putIn_156 ?_
          refine V_iadd dX12_putIn_157 ?_
          refine V_iast (rfl : shp[104]? = some (1, 60, 0)) r3 dX12_putIn_158 ?_
          refine V_iinc (L' := [some (vr 94), some (vi x1), some (vi x2), some (vi (x3 + z1)), some (vi (x4 + 1))]) dX12_putIn_159 rfl (by decide) rfl ?_
          refine V_goto (tgt := 76) dX12_putIn_162 rfl ?_
          exact V.sub (SubL_s (SubL_s (SubL_s (SubL_s (SubL_s (SubL_0)))))) h
        · replace h := h.2 q
          refine V_iload_n dX12_putIn_152 rfl rfl ?_
          refine V_goto (tgt := 157) dX12_putIn_153 rfl ?_
          refine V_iadd dX12_putIn_157 ?_
          refine V_iast (rfl : shp[104]? = some (1, 60, 0)) r3 dX12_putIn_158 ?_
          refine V_iinc (L' := [some (vr 94), some (vi x1), some (vi x2), some (vi (x3 + z1)), some (vi (x4 + 1))]) dX12_putIn_159 rfl (by decide) rfl ?_
          refine V_goto (tgt := 76) dX12_putIn_162 rfl ?_
          exact V.sub (SubL_s (SubL_s (SubL_s (SubL_s (SubL_s (SubL_0)))))) h
      · replace h := h.2 q
        refine V_iload_n dX12_putIn_126 rfl rfl ?_
        refine V_goto (tgt := 131) dX12_putIn_127 rfl ?_
        refine V_iadd dX12_putIn_131 ?_
        refine V_iast (rfl : shp[103]? = some (1, 60, 0)) r3 dX12_putIn_132 ?_
        refine V_aload_n dX12_putIn_133 rfl rfl ?_
        refine V_getR (k2 := 104) flX12_37 rfl rfl (by decide) dX12_putIn_134 ?_
        refine V_iload dX12_putIn_137 rfl ?_
        refine V_dup2 dX12_putIn_139 trivial trivial ?_
        refine V_iald (f := (σ1 104 x4)) (rfl : shp[104]? = some (1, 60, 0)) r3 (up_o (by omega)) dX12_putIn_140 ?_
        refine V_aload_n dX12_putIn_141 rfl rfl ?_
        refine V_getR (k2 := 104) flX12_37 rfl rfl (by decide) dX12_putIn_142 ?_
        refine V_iload dX12_putIn_145 rfl ?_
        refine V_iald (f := (σ1 104 x4)) (rfl : shp[104]? = some (1, 60, 0)) r3 (up_o (by omega)) dX12_putIn_147 ?_
        refine V_iload_n dX12_putIn_148 rfl rfl ?_
        obtain ⟨r8, h⟩ := h
        refine V_icmp_le (tgt := 156) dX12_putIn_149 rfl r8 r5 (fun q => ?_) (fun q => ?_)
        · replace h := h.1 q
          refine V_iconst dX12_putIn_156 ?_
          refine V_iadd dX12_putIn_157 ?_
          refine V_iast (rfl : shp[104]? = some (1, 60, 0)) r3 dX12_putIn_158 ?_
          refine V_iinc (L' := [some (vr 94), some (vi x1), some (vi x2), some (vi (x3 + z1)), some (vi (x4 + 1))]) dX12_putIn_159 rfl (by decide) rfl ?_
          refine V_goto (tgt := 76) dX12_putIn_162 rfl ?_
          exact V.sub (SubL_s (SubL_s (SubL_s (SubL_s (SubL_s (SubL_0)))))) h
        · replace h := h.2 q
          refine V_iload_n dX12_putIn_152 rfl rfl ?_
          refine V_goto (tgt := 157) dX12_putIn_153 rfl ?_
          refine V_iadd dX12_putIn_157 ?_
          refine V_iast (rfl : shp[104]? = some (1, 60, 0)) r3 dX12_putIn_158 ?_
          refine V_iinc (L' := [some (vr 94), some (vi x1), some (vi x2), some (vi (x3 + z1)), some (vi (x4 + 1))]) dX12_putIn_159 rfl (by decide) rfl ?_
          refine V_goto (tgt := 76) dX12_putIn_162 rfl ?_
          exact V.sub (SubL_s (SubL_s (SubL_s (SubL_s (SubL_s (SubL_0)))))) h
    · replace h := h.2 q
      refine V_iconst dX12_putIn_97 ?_
      refine V_goto (tgt := 102) dX12_putIn_98 rfl ?_
      refine V_callS (av := [vi 1]) (stk := [vi x3]) cvX12_271 rfl rfl (by decide) (by simp [ctg]) dX12_putIn_102 h ?_
      rintro _ σ2 ⟨z2, rfl, h⟩
      refine V_iadd dX12_putIn_105 ?_
      refine V_istore_n (L' := [some (vr 94), some (vi x1), some (vi x2), some (vi (x3 + z2)), some (vi x4)]) dX12_putIn_106 rfl (by decide) rfl ?_
      refine V_aload_n dX12_putIn_107 rfl rfl ?_
      refine V_getR (k2 := 103) flX12_34 rfl rfl (by decide) dX12_putIn_108 ?_
      refine V_iload dX12_putIn_111 rfl ?_
      refine V_dup2 dX12_putIn_113 trivial trivial ?_
      refine V_iald (f := (σ2 103 x4)) (rfl : shp[103]? = some (1, 60, 0)) r3 (rfl) dX12_putIn_114 ?_
      refine V_aload_n dX12_putIn_115 rfl rfl ?_
      refine V_getR (k2 := 103) flX12_34 rfl rfl (by decide) dX12_putIn_116 ?_
      refine V_iload dX12_putIn_119 rfl ?_
      refine V_iald (f := (σ2 103 x4)) (rfl : shp[103]? = some (1, 60, 0)) r3 (rfl) dX12_putIn_121 ?_
      refine V_iload_n dX12_putIn_122 rfl rfl ?_
      obtain ⟨r9, h⟩ := h
      refine V_icmp_le (tgt := 130) dX12_putIn_123 rfl r9 r5 (fun q => ?_) (fun q => ?_)
      · replace h := h.1 q
        refine V_iconst dX12_putIn_130 ?_
        refine V_iadd dX12_putIn_131 ?_
        refine V_iast (rfl : shp[103]? = some (1, 60, 0)) r3 dX12_putIn_132 ?_
        refine V_aload_n dX12_putIn_133 rfl rfl ?_
        refine V_getR (k2 := 104) flX12_37 rfl rfl (by decide) dX12_putIn_134 ?_
        refine V_iload dX12_putIn_137 rfl ?_
        refine V_dup2 dX12_putIn_139 trivial trivial ?_
        refine V_iald (f := (σ2 104 x4)) (rfl : shp[104]? = some (1, 60, 0)) r3 (up_o (by omega)) dX12_putIn_140 ?_
        refine V_aload_n dX12_putIn_141 rfl rfl ?_
        refine V_getR (k2 := 104) flX12_37 rfl rfl (by decide) dX12_putIn_142 ?_
        refine V_iload dX12_putIn_145 rfl ?_
        refine V_iald (f := (σ2 104 x4)) (rfl : shp[104]? = some (1, 60, 0)) r3 (up_o (by omega)) dX12_putIn_147 ?_
        refine V_iload_n dX12_putIn_148 rfl rfl ?_
        obtain ⟨r10, h⟩ := h
        refine V_icmp_le (tgt := 156) dX12_putIn_149 rfl r10 r5 (fun q => ?_) (fun q => ?_)
        · replace h := h.1 q
          refine V_iconst dX12_putIn_156 ?_
          refine V_iadd dX12_putIn_157 ?_
          refine V_iast (rfl : shp[104]? = some (1, 60, 0)) r3 dX12_putIn_158 ?_
          refine V_iinc (L' := [some (vr 94), some (vi x1), some (vi x2), some (vi (x3 + z2)), some (vi (x4 + 1))]) dX12_putIn_159 rfl (by decide) rfl ?_
          refine V_goto (tgt := 76) dX12_putIn_162 rfl ?_
          exact V.sub (SubL_s (SubL_s (SubL_s (SubL_s (SubL_s (SubL_0)))))) h
        · replace h := h.2 q
          refine V_iload_n dX12_putIn_152 rfl rfl ?_
          refine V_goto (tgt := 157) dX12_putIn_153 rfl ?_
          refine V_iadd dX12_putIn_157 ?_
          refine V_iast (rfl : shp[104]? = some (1, 60, 0)) r3 dX12_putIn_158 ?_
          refine V_iinc (L' := [some (vr 94), some (vi x1), some (vi x2), some (vi (x3 + z2)), some (vi (x4 + 1))]) dX12_putIn_159 rfl (by decide) rfl ?_
          refine V_goto (tgt := 76) dX12_putIn_162 rfl ?_
          exact V.sub (SubL_s (SubL_s (SubL_s (SubL_s (SubL_s (SubL_0)))))) h
      · replace h := h.2 q
        refine V_iload_n dX12_putIn_126 rfl rfl ?_
        refine V_goto (tgt := 131) dX12_putIn_127 rfl ?_
        refine V_iadd dX12_putIn_131 ?_
        refine V_iast (rfl : shp[103]? = some (1, 60, 0)) r3 dX12_putIn_132 ?_
        refine V_aload_n dX12_putIn_133 rfl rfl ?_
        refine V_getR (k2 := 104) flX12_37 rfl rfl (by decide) dX12_putIn_134 ?_
        refine V_iload dX12_putIn_137 rfl ?_
        refine V_dup2 dX12_putIn_139 trivial trivial ?_
        refine V_iald (f := (σ2 104 x4)) (rfl : shp[104]? = some (1, 60, 0)) r3 (up_o (by omega)) dX12_putIn_140 ?_
        refine V_aload_n dX12_putIn_141 rfl rfl ?_
        refine V_getR (k2 := 104) flX12_37 rfl rfl (by decide) dX12_putIn_142 ?_
        refine V_iload dX12_putIn_145 rfl ?_
        refine V_iald (f := (σ2 104 x4)) (rfl : shp[104]? = some (1, 60, 0)) r3 (up_o (by omega)) dX12_putIn_147 ?_
        refine V_iload_n dX12_putIn_148 rfl rfl ?_
        obtain ⟨r11, h⟩ := h
        refine V_icmp_le (tgt := 156) dX12_putIn_149 rfl r11 r5 (fun q => ?_) (fun q => ?_)
        · replace h := h.1 q
          refine V_iconst dX12_putIn_156 ?_
          refine V_iadd dX12_putIn_157 ?_
          refine V_iast (rfl : shp[104]? = some (1, 60, 0)) r3 dX12_putIn_158 ?_
          refine V_iinc (L' := [some (vr 94), some (vi x1), some (vi x2), some (vi (x3 + z2)), some (vi (x4 + 1))]) dX12_putIn_159 rfl (by decide) rfl ?_
          refine V_goto (tgt := 76) dX12_putIn_162 rfl ?_
          exact V.sub (SubL_s (SubL_s (SubL_s (SubL_s (SubL_s (SubL_0)))))) h
        · replace h := h.2 q
          refine V_iload_n dX12_putIn_152 rfl rfl ?_
          refine V_goto (tgt := 157) dX12_putIn_153 rfl ?_
          refine V_iadd dX12_putIn_157 ?_
          refine V_iast (rfl : shp[104]? = some (1, 60, 0)) r3 dX12_putIn_158 ?_
          refine V_iinc (L' := [some (vr 94), some (vi x1), some (vi x2), some (vi (x3 + z2)), some (vi (x4 + 1))]) dX12_putIn_159 rfl (by decide) rfl ?_
          refine V_goto (tgt := 76) dX12_putIn_162 rfl ?_
          exact V.sub (SubL_s (SubL_s (SubL_s (SubL_s (SubL_s (SubL_0)))))) h

set_option maxRecDepth 100000 in
theorem BX12_takeOut_0 {σ : Sg} {post : Po} {x1 : Int} {x2 : Int} 
  (h : Cl mX12_isPage [vi x1] σ (pI fun z1 σ1 => (rng z1) ∧ ((z1 = 0 → V mX12_takeOut 19 [none, none, none, none, none] [] σ1 post) ∧ (¬ z1 = 0 → Cl mX12_isPage [vi x2] σ1 (pI fun z2 σ2 => (rng z2) ∧ ((z2 = 0 → V mX12_takeOut 19 [none, none, none, none, none] [] σ2 post) ∧ (¬ z2 = 0 → (rng x2) ∧ ((rng x1) ∧ ((x1 ≤ x2 → V mX12_takeOut 33 [some (vr 94), some (vi x1), some (vi x2), some (vi 0), some (vi ((σ2 94 7) - 1))] [] σ2 post) ∧ (¬ x1 ≤ x2 → V mX12_takeOut 19 [none, none, none, none, none] [] σ2 post)))))))))) :
  V mX12_takeOut 0 [some (vr 94), some (vi x1), some (vi x2), none, none] [] σ post := by
  refine V_iload_n dX12_takeOut_0 rfl rfl ?_
  refine V_callS (av := [vi x1]) (stk := []) cvX12_311 rfl rfl (by decide) (by simp [ctg]) dX12_takeOut_1 h ?_
  rintro _ σ1 ⟨z1, rfl, h⟩
  obtain ⟨r1, h⟩ := h
  refine V_if_eq (tgt := 19) dX12_takeOut_4 rfl r1 (fun q => ?_) (fun q => ?_)
  · replace h := h.1 q
    exact V.sub (SubL_n (SubL_n (SubL_n (SubL_n (SubL_n (SubL_0)))))) h
  · replace h := h.2 q
    refine V_iload_n dX12_takeOut_7 rfl rfl ?_
    refine V_callS (av := [vi x2]) (stk := []) cvX12_311 rfl rfl (by decide) (by simp [ctg]) dX12_takeOut_8 h ?_
    rintro _ σ2 ⟨z2, rfl, h⟩
    obtain ⟨r2, h⟩ := h
    refine V_if_eq (tgt := 19) dX12_takeOut_11 rfl r2 (fun q => ?_) (fun q => ?_)
    · replace h := h.1 q
      exact V.sub (SubL_n (SubL_n (SubL_n (SubL_n (SubL_n (SubL_0)))))) h
    · replace h := h.2 q
      refine V_iload_n dX12_takeOut_14 rfl rfl ?_
      refine V_iload_n dX12_takeOut_15 rfl rfl ?_
      obtain ⟨r3, h⟩ := h
      obtain ⟨r4, h⟩ := h
      refine V_icmp_ge (tgt := 23) dX12_takeOut_16 rfl r3 r4 (fun q => ?_) (fun q => ?_)
      · replace h := h.1 q
        refine V_iconst dX12_takeOut_23 ?_
        refine V_istore_n (L' := [some (vr 94), some (vi x1), some (vi x2), some (vi 0), none]) dX12_takeOut_24 rfl (by decide) rfl ?_
        refine V_aload_n dX12_takeOut_25 rfl rfl ?_
        refine V_getI (f := (σ2 94 7)) flX12_210 rfl (rfl) (by decide) dX12_takeOut_26 ?_
        refine V_iconst dX12_takeOut_29 ?_
        refine V_isub dX12_takeOut_30 ?_
        refine V_istore (L' := [some (vr 94), some (vi x1), some (vi x2), some (vi 0), some (vi ((σ2 94 7) - 1))]) dX12_takeOut_31 (by decide) rfl ?_
        exact V.sub (SubL_s (SubL_s (SubL_s (SubL_s (SubL_s (SubL_0)))))) h
      · replace h := h.2 q
        exact V.sub (SubL_n (SubL_n (SubL_n (SubL_n (SubL_n (SubL_0)))))) h
set_option maxRecDepth 100000 in
theorem BX12_takeOut_19 {σ : Sg} {post : Po}  
  (h : post (some (vi (-1002))) σ) :
  V mX12_takeOut 19 [none, none, none, none, none] [] σ post := by
  refine V_sipush dX12_takeOut_19 (by decide) ?_
  exact V_ireturn (stk := []) rfl dX12_takeOut_22 h
set_option maxRecDepth 100000 in
theorem BX12_takeOut_33 {σ : Sg} {post : Po} {x1 : Int} {x2 : Int} {x3 : Int} {x4 : Int} 
  (h : (rng x4) ∧ ((x4 < 0 → post (some (vi x3)) σ) ∧ (¬ x4 < 0 → (0 ≤ x4 ∧ x4 < 60) ∧ ((rng (σ 103 x4)) ∧ ((rng x1) ∧ ((x1 ≤ (σ 103 x4) → (rng x2) ∧ ((x2 < (σ 103 x4) → (rng (σ 104 x4)) ∧ ((x1 ≤ (σ 104 x4) → (x2 < (σ 104 x4) → (rng ((σ 104 x4) - ((x2 - x1) + 1))) ∧ ((rng ((σ 103 x4) - ((x2 - x1) + 1))) ∧ ((((σ 103 x4) - ((x2 - x1) + 1)) ≤ ((σ 104 x4) - ((x2 - x1) + 1)) → V mX12_takeOut 178 [some (vr 94), some (vi x1), some (vi x2), some (vi x3), some (vi x4)] [] (up (up σ 103 x4 ((σ 103 x4) - ((x2 - x1) + 1))) 104 x4 ((σ 104 x4) - ((x2 - x1) + 1))) post) ∧ (¬ ((σ 103 x4) - ((x2 - x1) + 1)) ≤ ((σ 104 x4) - ((x2 - x1) + 1)) → Cl mX12_takeAway [vr 94, vi x4] (up (up σ 103 x4 ((σ 103 x4) - ((x2 - x1) + 1))) 104 x4 ((σ 104 x4) - ((x2 - x1) + 1))) (pV fun σ1 => V mX12_takeOut 178 [some (vr 94), some (vi x1), some (vi x2), some (vi (x3 + 1)), some (vi x4)] [] σ1 post))))) ∧ (¬ x2 < (σ 104 x4) → (rng (x1 - 1)) ∧ ((rng ((σ 103 x4) - ((x2 - x1) + 1))) ∧ ((((σ 103 x4) - ((x2 - x1) + 1)) ≤ (x1 - 1) → V mX12_takeOut 178 [some (vr 94), some (vi x1), some (vi x2), some (vi x3), some (vi x4)] [] (up (up σ 103 x4 ((σ 103 x4) - ((x2 - x1) + 1))) 104 x4 (x1 - 1)) post) ∧ (¬ ((σ 103 x4) - ((x2 - x1) + 1)) ≤ (x1 - 1) → Cl mX12_takeAway [vr 94, vi x4] (up (up σ 103 x4 ((σ 103 x4) - ((x2 - x1) + 1))) 104 x4 (x1 - 1)) (pV fun σ2 => V mX12_takeOut 178 [some (vr 94), some (vi x1), some (vi x2), some (vi (x3 + 1)), some (vi x4)] [] σ2 post)))))) ∧ (¬ x1 ≤ (σ 104 x4) → (rng ((σ 103 x4) - ((x2 - x1) + 1))) ∧ ((((σ 103 x4) - ((x2 - x1) + 1)) ≤ (σ 104 x4) → V mX12_takeOut 178 [some (vr 94), some (vi x1), some (vi x2), some (vi x3), some (vi x4)] [] (up (up σ 103 x4 ((σ 103 x4) - ((x2 - x1) + 1))) 104 x4 (σ 104 x4)) post) ∧ (¬ ((σ 103 x4) - ((x2 - x1) + 1)) ≤ (σ 104 x4) → Cl mX12_takeAway [vr 94, vi x4] (up (up σ 103 x4 ((σ 103 x4) - ((x2 - x1) + 1))) 104 x4 (σ 104 x4)) (pV fun σ3 => V mX12_takeOut 178 [some (vr 94), some (vi x1), some (vi x2), some (vi (x3 + 1)), some (vi x4)] [] σ3 post)))))) ∧ (¬ x2 < (σ 103 x4) → (rng (σ 104 x4)) ∧ ((x1 ≤ (σ 104 x4) → (x2 < (σ 104 x4) → (rng ((σ 104 x4) - ((x2 - x1) + 1))) ∧ ((x1 ≤ ((σ 104 x4) - ((x2 - x1) + 1)) → V mX12_takeOut 178 [some (vr 94), some (vi x1), some (vi x2), some (vi x3), some (vi x4)] [] (up (up σ 103 x4 x1) 104 x4 ((σ 104 x4) - ((x2 - x1) + 1))) post) ∧ (¬ x1 ≤ ((σ 104 x4) - ((x2 - x1) + 1)) → Cl mX12_takeAway [vr 94, vi x4] (up (up σ 103 x4 x1) 104 x4 ((σ 104 x4) - ((x2 - x1) + 1))) (pV fun σ4 => V mX12_takeOut 178 [some (vr 94), some (vi x1), some (vi x2), some (vi (x3 + 1)), some (vi x4)] [] σ4 post)))) ∧ (¬ x2 < (σ 104 x4) → (rng (x1 - 1)) ∧ ((x1 ≤ (x1 - 1) → V mX12_takeOut 178 [some (vr 94), some (vi x1), some (vi x2), some (vi x3), some (vi x4)] [] (up (up σ 103 x4 x1) 104 x4 (x1 - 1)) post) ∧ (¬ x1 ≤ (x1 - 1) → Cl mX12_takeAway [vr 94, vi x4] (up (up σ 103 x4 x1) 104 x4 (x1 - 1)) (pV fun σ5 => V mX12_takeOut 178 [some (vr 94), some (vi x1), some (vi x2), some (vi (x3 + 1)), some (vi x4)] [] σ5 post))))) ∧ (¬ x1 ≤ (σ 104 x4) → (x1 ≤ (σ 104 x4) → V mX12_takeOut 178 [some (vr 94), some (vi x1), some (vi x2), some (vi x3), some (vi x4)] [] (up (up σ 103 x4 x1) 104 x4 (σ 104 x4)) post) ∧ (¬ x1 ≤ (σ 104 x4) → Cl mX12_takeAway [vr 94, vi x4] (up (up σ 103 x4 x1) 104 x4 (σ 104 x4)) (pV fun σ6 => V mX12_takeOut 178 [some (vr 94), some (vi x1), some (vi x2), some (vi (x3 + 1)), some (vi x4)] [] σ6 post))))))) ∧ (¬ x1 ≤ (σ 103 x4) → (rng (σ 104 x4)) ∧ ((x1 ≤ (σ 104 x4) → (rng x2) ∧ ((x2 < (σ 104 x4) → (rng ((σ 104 x4) - ((x2 - x1) + 1))) ∧ (((σ 103 x4) ≤ ((σ 104 x4) - ((x2 - x1) + 1)) → V mX12_takeOut 178 [some (vr 94), some (vi x1), some (vi x2), some (vi x3), some (vi x4)] [] (up (up σ 103 x4 (σ 103 x4)) 104 x4 ((σ 104 x4) - ((x2 - x1) + 1))) post) ∧ (¬ (σ 103 x4) ≤ ((σ 104 x4) - ((x2 - x1) + 1)) → Cl mX12_takeAway [vr 94, vi x4] (up (up σ 103 x4 (σ 103 x4)) 104 x4 ((σ 104 x4) - ((x2 - x1) + 1))) (pV fun σ7 => V mX12_takeOut 178 [some (vr 94), some (vi x1), some (vi x2), some (vi (x3 + 1)), some (vi x4)] [] σ7 post)))) ∧ (¬ x2 < (σ 104 x4) → (rng (x1 - 1)) ∧ (((σ 103 x4) ≤ (x1 - 1) → V mX12_takeOut 178 [some (vr 94), some (vi x1), some (vi x2), some (vi x3), some (vi x4)] [] (up (up σ 103 x4 (σ 103 x4)) 104 x4 (x1 - 1)) post) ∧ (¬ (σ 103 x4) ≤ (x1 - 1) → Cl mX12_takeAway [vr 94, vi x4] (up (up σ 103 x4 (σ 103 x4)) 104 x4 (x1 - 1)) (pV fun σ8 => V mX12_takeOut 178 [some (vr 94), some (vi x1), some (vi x2), some (vi (x3 + 1)), some (vi x4)] [] σ8 post)))))) ∧ (¬ x1 ≤ (σ 104 x4) → ((σ 103 x4) ≤ (σ 104 x4) → V mX12_takeOut 178 [some (vr 94), some (vi x1), some (vi x2), some (vi x3), some (vi x4)] [] (up (up σ 103 x4 (σ 103 x4)) 104 x4 (σ 104 x4)) post) ∧ (¬ (σ 103 x4) ≤ (σ 104 x4) → Cl mX12_takeAway [vr 94, vi x4] (up (up σ 103 x4 (σ 103 x4)) 104 x4 (σ 104 x4)) (pV fun σ9 => V mX12_takeOut 178 [some (vr 94), some (vi x1), some (vi x2), some (vi (x3 + 1)), some (vi x4)] [] σ9 post))))))))))) :
  V mX12_takeOut 33 [some (vr 94), some (vi x1), some (vi x2), some (vi x3), some (vi x4)] [] σ post := by
  refine V_iload dX12_takeOut_33 rfl ?_
  obtain ⟨r1, h⟩ := h
  refine V_if_lt (tgt := 184) dX12_takeOut_35 rfl r1 (fun q => ?_) (fun q => ?_)
  · replace h := h.1 q
    refine V_iload_n dX12_takeOut_184 rfl rfl ?_
    exact V_ireturn (stk := []) rfl dX12_takeOut_185 h
  · replace h := h.2 q
    refine V_aload_n dX12_takeOut_38 rfl rfl ?_
    refine V_getR (k2 := 103) flX12_34 rfl rfl (by decide) dX12_takeOut_39 ?_
    refine V_iload dX12_takeOut_42 rfl ?_
    refine V_aload_n dX12_takeOut_44 rfl rfl ?_
    refine V_getR (k2 := 103) flX12_34 rfl rfl (by decide) dX12_takeOut_45 ?_
    refine V_iload dX12_takeOut_48 rfl ?_
    obtain ⟨r2, h⟩ := h
    refine V_iald (f := (σ 103 x4)) (rfl : shp[103]? = some (1, 60, 0)) r2 (rfl) dX12_takeOut_50 ?_
    refine V_iload_n dX12_takeOut_51 rfl rfl ?_
    obtain ⟨r3, h⟩ := h
    obtain ⟨r4, h⟩ := h
    refine V_icmp_ge (tgt := 65) dX12_takeOut_52 rfl r3 r4 (fun q => ?_) (fun q => ?_)
    · replace h := h.1 q
      refine V_aload_n dX12_takeOut_65 rfl rfl ?_
      refine V_getR (k2 := 103) flX12_34 rfl rfl (by decide) dX12_takeOut_66 ?_
      refine V_iload dX12_takeOut_69 rfl ?_
      refine V_iald (f := (σ 103 x4)) (rfl : shp[103]? = some (1, 60, 0)) r2 (rfl) dX12_takeOut_71 ?_
      refine V_iload_n dX12_takeOut_72 rfl rfl ?_
      obtain ⟨r5, h⟩ := h
      refine V_icmp_gt (tgt := 80) dX12_takeOut_73 rfl r3 r5 (fun q => ?_) (fun q => ?_)
      · replace h := h.1 q
        refine V_aload_n dX12_takeOut_80 rfl rfl ?_
        refine V_getR (k2 := 103) flX12_34 rfl rfl (by decide) dX12_takeOut_81 ?_
        refine V_iload dX12_takeOut_84 rfl ?_
        refine V_iald (f := (σ 103 x4)) (rfl : shp[103]? = some (1, 60, 0)) r2 (rfl) dX12_takeOut_86 ?_
        refine V_iload_n dX12_takeOut_87 rfl rfl ?_
        refine V_iload_n dX12_takeOut_88 rfl rfl ?_
        refine V_isub dX12_takeOut_89 ?_
        refine V_iconst dX12_takeOut_90 ?_
        refine V_iadd dX12_takeOut_91 ?_
        refine V_isub dX12_takeOut_92 ?_
        refine V_iast (rfl : shp[103]? = some (1, 60, 0)) r2 dX12_takeOut_93 ?_
        refine V_aload_n dX12_takeOut_94 rfl rfl ?_
        refine V_getR (k2 := 104) flX12_37 rfl rfl (by decide) dX12_takeOut_95 ?_
        refine V_iload dX12_takeOut_98 rfl ?_
        refine V_aload_n dX12_takeOut_100 rfl rfl ?_
        refine V_getR (k2 := 104) flX12_37 rfl rfl (by decide) dX12_takeOut_101 ?_
        refine V_iload dX12_takeOut_104 rfl ?_
        refine V_iald (f := (σ 104 x4)) (rfl : shp[104]? = some (1, 60, 0)) r2 (up_o (by omega)) dX12_takeOut_106 ?_
        refine V_iload_n dX12_takeOut_107 rfl rfl ?_
        obtain ⟨r6, h⟩ := h
        refine V_icmp_ge (tgt := 121) dX12_takeOut_108 rfl r6 r4 (fun q => ?_) (fun q => ?_)
        · replace h := h.1 q
          refine V_aload_n dX12_takeOut_121 rfl rfl ?_
          refine V_getR (k2 := 104) flX12_37 rfl rfl (by decide) dX12_takeOut_122 ?_
          refine V_iload dX12_takeOut_125 rfl ?_
          refine V_iald (f := (σ 104 x4)) (rfl : shp[104]? = some (1, 60, 0)) r2 (up_o (by omega)) dX12_takeOut_127 ?_
          refine V_iload_n dX12_takeOut_128 rfl rfl ?_
          refine V_icmp_gt (tgt := 138) dX12_takeOut_129 rfl r6 r5 (fun q => ?_) (fun q => ?_)
          · replace h := h.1 q
            refine V_aload_n dX12_takeOut_138 rfl rfl ?_
            refine V_getR (k2 := 104) flX12_37 rfl rfl (by decide) dX12_takeOut_139 ?_
            refine V_iload dX12_takeOut_142 rfl ?_
            refine V_iald (f := (σ 104 x4)) (rfl : shp[104]? = some (1, 60, 0)) r2 (up_o (by omega)) dX12_takeOut_144 ?_
            refine V_iload_n dX12_takeOut_145 rfl rfl ?_
            refine V_iload_n dX12_takeOut_146 rfl rfl ?_
            refine V_isub dX12_takeOut_147 ?_
            refine V_iconst dX12_takeOut_148 ?_
            refine V_iadd dX12_takeOut_149 ?_
            refine V_isub dX12_takeOut_150 ?_
            refine V_iast (rfl : shp[104]? = some (1, 60, 0)) r2 dX12_takeOut_151 ?_
            refine V_aload_n dX12_takeOut_152 rfl rfl ?_
            refine V_getR (k2 := 104) flX12_37 rfl rfl (by decide) dX12_takeOut_153 ?_
            refine V_iload dX12_takeOut_156 rfl ?_
            refine V_iald (f := ((σ 104 x4) - ((x2 - x1) + 1))) (rfl : shp[104]? = some (1, 60, 0)) r2 (up_s) dX12_takeOut_158 ?_
            refine V_aload_n dX12_takeOut_159 rfl rfl ?_
            refine V_getR (k2 := 103) flX12_34 rfl rfl (by decide) dX12_takeOut_160 ?_
            refine V_iload dX12_takeOut_163 rfl ?_
            refine V_iald (f := ((σ 103 x4) - ((x2 - x1) + 1))) (rfl : shp[103]? = some (1, 60, 0)) r2 ((up_o (by omega)).trans (up_s)) dX12_takeOut_165 ?_
            obtain ⟨r7, h⟩ := h
            obtain ⟨r8, h⟩ := h
            refine V_icmp_ge (tgt := 178) dX12_takeOut_166 rfl r7 r8 (fun q => ?_) (fun q => ?_)
            · replace h := h.1 q
              exact V.sub (SubL_s (SubL_s (SubL_s (SubL_s (SubL_s (SubL_0)))))) h
            · replace h := h.2 q
              refine V_aload_n dX12_takeOut_169 rfl rfl ?_
              refine V_iload dX12_takeOut_170 rfl ?_
              refine V_callV (av := [vi x4]) (stk := []) cvX12_314 rfl rfl rfl (by decide) (by simp [ctg]) dX12_takeOut_172 h ?_
              rintro _ σ1 ⟨rfl, h⟩
              refine V_iinc (L' := [some (vr 94), some (vi x1), some (vi x2), some (vi (x3 + 1)), some (vi x4)]) dX12_takeOut_175 rfl (by decide) rfl ?_
              exact V.sub (SubL_s (SubL_s (SubL_s (SubL_s (SubL_s (SubL_0)))))) h
          · replace h := h.2 q
            refine V_iload_n dX12_takeOut_132 rfl rfl ?_
            refine V_iconst dX12_takeOut_133 ?_
            refine V_isub dX12_takeOut_134 ?_
            refine V_goto (tgt := 151) dX12_takeOut_135 rfl ?_
            refine V_iast (rfl : shp[104]? = some (1, 60, 0)) r2 dX12_takeOut_151 ?_
            refine V_aload_n dX12_takeOut_152 rfl rfl ?_
            refine V_getR (k2 := 104) flX12_37 rfl rfl (by decide) dX12_takeOut_153 ?_
            refine V_iload dX12_takeOut_156 rfl ?_
            refine V_iald (f := (x1 - 1)) (rfl : shp[104]? = some (1, 60, 0)) r2 (up_s) dX12_takeOut_158 ?_
            refine V_aload_n dX12_takeOut_159 rfl rfl ?_
            refine V_getR (k2 := 103) flX12_34 rfl rfl (by decide) dX12_takeOut_160 ?_
            refine V_iload dX12_takeOut_163 rfl ?_
            refine V_iald (f := ((σ 103 x4) - ((x2 - x1) + 1))) (rfl : shp[103]? = some (1, 60, 0)) r2 ((up_o (by omega)).trans (up_s)) dX12_takeOut_165 ?_
            obtain ⟨r9, h⟩ := h
            obtain ⟨r10, h⟩ := h
            refine V_icmp_ge (tgt := 178) dX12_takeOut_166 rfl r9 r10 (fun q => ?_) (fun q => ?_)
            · replace h := h.1 q
              exact V.sub (SubL_s (SubL_s (SubL_s (SubL_s (SubL_s (SubL_0)))))) h
            · replace h := h.2 q
              refine V_aload_n dX12_takeOut_169 rfl rfl ?_
              refine V_iload dX12_takeOut_170 rfl ?_
              refine V_callV (av := [vi x4]) (stk := []) cvX12_314 rfl rfl rfl (by decide) (by simp [ctg]) dX12_takeOut_172 h ?_
              rintro _ σ2 ⟨rfl, h⟩
              refine V_iinc (L' := [some (vr 94), some (vi x1), some (vi x2), some (vi (x3 + 1)), some (vi x4)]) dX12_takeOut_175 rfl (by decide) rfl ?_
              exact V.sub (SubL_s (SubL_s (SubL_s (SubL_s (SubL_s (SubL_0)))))) h
        · replace h := h.2 q
          refine V_aload_n dX12_takeOut_111 rfl rfl ?_
          refine V_getR (k2 := 104) flX12_37 rfl rfl (by decide) dX12_takeOut_112 ?_
          refine V_iload dX12_takeOut_115 rfl ?_
          refine V_iald (f := (σ 104 x4)) (rfl : shp[104]? = some (1, 60, 0)) r2 (up_o (by omega)) dX12_takeOut_117 ?_
          refine V_goto (tgt := 151) dX12_takeOut_118 rfl ?_
          refine V_iast (rfl : shp[104]? = some (1, 60, 0)) r2 dX12_takeOut_151 ?_
          refine V_aload_n dX12_takeOut_152 rfl rfl ?_
          refine V_getR (k2 := 104) flX12_37 rfl rfl (by decide) dX12_takeOut_153 ?_
          refine V_iload dX12_takeOut_156 rfl ?_
          refine V_iald (f := (σ 104 x4)) (rfl : shp[104]? = some (1, 60, 0)) r2 (up_s) dX12_takeOut_158 ?_
          refine V_aload_n dX12_takeOut_159 rfl rfl ?_
          refine V_getR (k2 := 103) flX12_34 rfl rfl (by decide) dX12_takeOut_160 ?_
          refine V_iload dX12_takeOut_163 rfl ?_
          refine V_iald (f := ((σ 103 x4) - ((x2 - x1) + 1))) (rfl : shp[103]? = some (1, 60, 0)) r2 ((up_o (by omega)).trans (up_s)) dX12_takeOut_165 ?_
          obtain ⟨r11, h⟩ := h
          refine V_icmp_ge (tgt := 178) dX12_takeOut_166 rfl r6 r11 (fun q => ?_) (fun q => ?_)
          · replace h := h.1 q
            exact V.sub (SubL_s (SubL_s (SubL_s (SubL_s (SubL_s (SubL_0)))))) h
          · replace h := h.2 q
            refine V_aload_n dX12_takeOut_169 rfl rfl ?_
            refine V_iload dX12_takeOut_170 rfl ?_
            refine V_callV (av := [vi x4]) (stk := []) cvX12_314 rfl rfl rfl (by decide) (by simp [ctg]) dX12_takeOut_172 h ?_
            rintro _ σ3 ⟨rfl, h⟩
            refine V_iinc (L' := [some (vr 94), some (vi x1), some (vi x2), some (vi (x3 + 1)), some (vi x4)]) dX12_takeOut_175 rfl (by decide) rfl ?_
            exact V.sub (SubL_s (SubL_s (SubL_s (SubL_s (SubL_s (SubL_0)))))) h
      · replace h := h.2 q
        refine V_iload_n dX12_takeOut_76 rfl rfl ?_
        refine V_goto (tgt := 93) dX12_takeOut_77 rfl ?_
        refine V_iast (rfl : shp[103]? = some (1, 60, 0)) r2 dX12_takeOut_93 ?_
        refine V_aload_n dX12_takeOut_94 rfl rfl ?_
        refine V_getR (k2 := 104) flX12_37 rfl rfl (by decide) dX12_takeOut_95 ?_
        refine V_iload dX12_takeOut_98 rfl ?_
        refine V_aload_n dX12_takeOut_100 rfl rfl ?_
        refine V_getR (k2 := 104) flX12_37 rfl rfl (by decide) dX12_takeOut_101 ?_
        refine V_iload dX12_takeOut_104 rfl ?_
        refine V_iald (f := (σ 104 x4)) (rfl : shp[104]? = some (1, 60, 0)) r2 (up_o (by omega)) dX12_takeOut_106 ?_
        refine V_iload_n dX12_takeOut_107 rfl rfl ?_
        obtain ⟨r12, h⟩ := h
        refine V_icmp_ge (tgt := 121) dX12_takeOut_108 rfl r12 r4 (fun q => ?_) (fun q => ?_)
        · replace h := h.1 q
          refine V_aload_n dX12_takeOut_121 rfl rfl ?_
          refine V_getR (k2 := 104) flX12_37 rfl rfl (by decide) dX12_takeOut_122 ?_
          refine V_iload dX12_takeOut_125 rfl ?_
          refine V_iald (f := (σ 104 x4)) (rfl : shp[104]? = some (1, 60, 0)) r2 (up_o (by omega)) dX12_takeOut_127 ?_
          refine V_iload_n dX12_takeOut_128 rfl rfl ?_
          refine V_icmp_gt (tgt := 138) dX12_takeOut_129 rfl r12 r5 (fun q => ?_) (fun q => ?_)
          · replace h := h.1 q
            refine V_aload_n dX12_takeOut_138 rfl rfl ?_
            refine V_getR (k2 := 104) flX12_37 rfl rfl (by decide) dX12_takeOut_139 ?_
            refine V_iload dX12_takeOut_142 rfl ?_
            refine V_iald (f := (σ 104 x4)) (rfl : shp[104]? = some (1, 60, 0)) r2 (up_o (by omega)) dX12_takeOut_144 ?_
            refine V_iload_n dX12_takeOut_145 rfl rfl ?_
            refine V_iload_n dX12_takeOut_146 rfl rfl ?_
            refine V_isub dX12_takeOut_147 ?_
            refine V_iconst dX12_takeOut_148 ?_
            refine V_iadd dX12_takeOut_149 ?_
            refine V_isub dX12_takeOut_150 ?_
            refine V_iast (rfl : shp[104]? = some (1, 60, 0)) r2 dX12_takeOut_151 ?_
            refine V_aload_n dX12_takeOut_152 rfl rfl ?_
            refine V_getR (k2 := 104) flX12_37 rfl rfl (by decide) dX12_takeOut_153 ?_
            refine V_iload dX12_takeOut_156 rfl ?_
            refine V_iald (f := ((σ 104 x4) - ((x2 - x1) + 1))) (rfl : shp[104]? = some (1, 60, 0)) r2 (up_s) dX12_takeOut_158 ?_
            refine V_aload_n dX12_takeOut_159 rfl rfl ?_
            refine V_getR (k2 := 103) flX12_34 rfl rfl (by decide) dX12_takeOut_160 ?_
            refine V_iload dX12_takeOut_163 rfl ?_
            refine V_iald (f := x1) (rfl : shp[103]? = some (1, 60, 0)) r2 ((up_o (by omega)).trans (up_s)) dX12_takeOut_165 ?_
            obtain ⟨r13, h⟩ := h
            refine V_icmp_ge (tgt := 178) dX12_takeOut_166 rfl r13 r4 (fun q => ?_) (fun q => ?_)
            · replace h := h.1 q
              exact V.sub (SubL_s (SubL_s (SubL_s (SubL_s (SubL_s (SubL_0)))))) h
            · replace h := h.2 q
              refine V_aload_n dX12_takeOut_169 rfl rfl ?_
              refine V_iload dX12_takeOut_170 rfl ?_
              refine V_callV (av := [vi x4]) (stk := []) cvX12_314 rfl rfl rfl (by decide) (by simp [ctg]) dX12_takeOut_172 h ?_
              rintro _ σ4 ⟨rfl, h⟩
              refine V_iinc (L' := [some (vr 94), some (vi x1), some (vi x2), some (vi (x3 + 1)), some (vi x4)]) dX12_takeOut_175 rfl (by decide) rfl ?_
              exact V.sub (SubL_s (SubL_s (SubL_s (SubL_s (SubL_s (SubL_0)))))) h
          · replace h := h.2 q
            refine V_iload_n dX12_takeOut_132 rfl rfl ?_
            refine V_iconst dX12_takeOut_133 ?_
            refine V_isub dX12_takeOut_134 ?_
            refine V_goto (tgt := 151) dX12_takeOut_135 rfl ?_
            refine V_iast (rfl : shp[104]? = some (1, 60, 0)) r2 dX12_takeOut_151 ?_
            refine V_aload_n dX12_takeOut_152 rfl rfl ?_
            refine V_getR (k2 := 104) flX12_37 rfl rfl (by decide) dX12_takeOut_153 ?_
            refine V_iload dX12_takeOut_156 rfl ?_
            refine V_iald (f := (x1 - 1)) (rfl : shp[104]? = some (1, 60, 0)) r2 (up_s) dX12_takeOut_158 ?_
            refine V_aload_n dX12_takeOut_159 rfl rfl ?_
            refine V_getR (k2 := 103) flX12_34 rfl rfl (by decide) dX12_takeOut_160 ?_
            refine V_iload dX12_takeOut_163 rfl ?_
            refine V_iald (f := x1) (rfl : shp[103]? = some (1, 60, 0)) r2 ((up_o (by omega)).trans (up_s)) dX12_takeOut_165 ?_
            obtain ⟨r14, h⟩ := h
            refine V_icmp_ge (tgt := 178) dX12_takeOut_166 rfl r14 r4 (fun q => ?_) (fun q => ?_)
            · replace h := h.1 q
              exact V.sub (SubL_s (SubL_s (SubL_s (SubL_s (SubL_s (SubL_0)))))) h
            · replace h := h.2 q
              refine V_aload_n dX12_takeOut_169 rfl rfl ?_
              refine V_iload dX12_takeOut_170 rfl ?_
              refine V_callV (av := [vi x4]) (stk := []) cvX12_314 rfl rfl rfl (by decide) (by simp [ctg]) dX12_takeOut_172 h ?_
              rintro _ σ5 ⟨rfl, h⟩
              refine V_iinc (L' := [some (vr 94), some (vi x1), some (vi x2), some (vi (x3 + 1)), some (vi x4)]) dX12_takeOut_175 rfl (by decide) rfl ?_
              exact V.sub (SubL_s (SubL_s (SubL_s (SubL_s (SubL_s (SubL_0)))))) h
        · replace h := h.2 q
          refine V_aload_n dX12_takeOut_111 rfl rfl ?_
          refine V_getR (k2 := 104) flX12_37 rfl rfl (by decide) dX12_takeOut_112 ?_
          refine V_iload dX12_takeOut_115 rfl ?_
          refine V_iald (f := (σ 104 x4)) (rfl : shp[104]? = some (1, 60, 0)) r2 (up_o (by omega)) dX12_takeOut_117 ?_
          refine V_goto (tgt := 151) dX12_takeOut_118 rfl ?_
          refine V_iast (rfl : shp[104]? = some (1, 60, 0)) r2 dX12_takeOut_151 ?_
          refine V_aload_n dX12_takeOut_152 rfl rfl ?_
          refine V_getR (k2 := 104) flX12_37 rfl rfl (by decide) dX12_takeOut_153 ?_
          refine V_iload dX12_takeOut_156 rfl ?_
          refine V_iald (f := (σ 104 x4)) (rfl : shp[104]? = some (1, 60, 0)) r2 (up_s) dX12_takeOut_158 ?_
          refine V_aload_n dX12_takeOut_159 rfl rfl ?_
          refine V_getR (k2 := 103) flX12_34 rfl rfl (by decide) dX12_takeOut_160 ?_
          refine V_iload dX12_takeOut_163 rfl ?_
          refine V_iald (f := x1) (rfl : shp[103]? = some (1, 60, 0)) r2 ((up_o (by omega)).trans (up_s)) dX12_takeOut_165 ?_
          refine V_icmp_ge (tgt := 178) dX12_takeOut_166 rfl r12 r4 (fun q => ?_) (fun q => ?_)
          · replace h := h.1 q
            exact V.sub (SubL_s (SubL_s (SubL_s (SubL_s (SubL_s (SubL_0)))))) h
          · replace h := h.2 q
            refine V_aload_n dX12_takeOut_169 rfl rfl ?_
            refine V_iload dX12_takeOut_170 rfl ?_
            refine V_callV (av := [vi x4]) (stk := []) cvX12_314 rfl rfl rfl (by decide) (by simp [ctg]) dX12_takeOut_172 h ?_
            rintro _ σ6 ⟨rfl, h⟩
            refine V_iinc (L' := [some (vr 94), some (vi x1), some (vi x2), some (vi (x3 + 1)), some (vi x4)]) dX12_takeOut_175 rfl (by decide) rfl ?_
            exact V.sub (SubL_s (SubL_s (SubL_s (SubL_s (SubL_s (SubL_0)))))) h
    · replace h := h.2 q
      refine V_aload_n dX12_takeOut_55 rfl rfl ?_
      refine V_getR (k2 := 103) flX12_34 rfl rfl (by decide) dX12_takeOut_56 ?_
      refine V_iload dX12_takeOut_59 rfl ?_
      refine V_iald (f := (σ 103 x4)) (rfl : shp[103]? = some (1, 60, 0)) r2 (rfl) dX12_takeOut_61 ?_
      refine V_goto (tgt := 93) dX12_takeOut_62 rfl ?_
      refine V_iast (rfl : shp[103]? = some (1, 60, 0)) r2 dX12_takeOut_93 ?_
      refine V_aload_n dX12_takeOut_94 rfl rfl ?_
      refine V_getR (k2 := 104) flX12_37 rfl rfl (by decide) dX12_takeOut_95 ?_
      refine V_iload dX12_takeOut_98 rfl ?_
      refine V_aload_n dX12_takeOut_100 rfl rfl ?_
      refine V_getR (k2 := 104) flX12_37 rfl rfl (by decide) dX12_takeOut_101 ?_
      refine V_iload dX12_takeOut_104 rfl ?_
      refine V_iald (f := (σ 104 x4)) (rfl : shp[104]? = some (1, 60, 0)) r2 (up_o (by omega)) dX12_takeOut_106 ?_
      refine V_iload_n dX12_takeOut_107 rfl rfl ?_
      obtain ⟨r15, h⟩ := h
      refine V_icmp_ge (tgt := 121) dX12_takeOut_108 rfl r15 r4 (fun q => ?_) (fun q => ?_)
      · replace h := h.1 q
        refine V_aload_n dX12_takeOut_121 rfl rfl ?_
        refine V_getR (k2 := 104) flX12_37 rfl rfl (by decide) dX12_takeOut_122 ?_
        refine V_iload dX12_takeOut_125 rfl ?_
        refine V_iald (f := (σ 104 x4)) (rfl : shp[104]? = some (1, 60, 0)) r2 (up_o (by omega)) dX12_takeOut_127 ?_
        refine V_iload_n dX12_takeOut_128 rfl rfl ?_
        obtain ⟨r16, h⟩ := h
        refine V_icmp_gt (tgt := 138) dX12_takeOut_129 rfl r15 r16 (fun q => ?_) (fun q => ?_)
        · replace h := h.1 q
          refine V_aload_n dX12_takeOut_138 rfl rfl ?_
          refine V_getR (k2 := 104) flX12_37 rfl rfl (by decide) dX12_takeOut_139 ?_
          refine V_iload dX12_takeOut_142 rfl ?_
          refine V_iald (f := (σ 104 x4)) (rfl : shp[104]? = some (1, 60, 0)) r2 (up_o (by omega)) dX12_takeOut_144 ?_
          refine V_iload_n dX12_takeOut_145 rfl rfl ?_
          refine V_iload_n dX12_takeOut_146 rfl rfl ?_
          refine V_isub dX12_takeOut_147 ?_
          refine V_iconst dX12_takeOut_148 ?_
          refine V_iadd dX12_takeOut_149 ?_
          refine V_isub dX12_takeOut_150 ?_
          refine V_iast (rfl : shp[104]? = some (1, 60, 0)) r2 dX12_takeOut_151 ?_
          refine V_aload_n dX12_takeOut_152 rfl rfl ?_
          refine V_getR (k2 := 104) flX12_37 rfl rfl (by decide) dX12_takeOut_153 ?_
          refine V_iload dX12_takeOut_156 rfl ?_
          refine V_iald (f := ((σ 104 x4) - ((x2 - x1) + 1))) (rfl : shp[104]? = some (1, 60, 0)) r2 (up_s) dX12_takeOut_158 ?_
          refine V_aload_n dX12_takeOut_159 rfl rfl ?_
          refine V_getR (k2 := 103) flX12_34 rfl rfl (by decide) dX12_takeOut_160 ?_
          refine V_iload dX12_takeOut_163 rfl ?_
          refine V_iald (f := (σ 103 x4)) (rfl : shp[103]? = some (1, 60, 0)) r2 ((up_o (by omega)).trans (up_s)) dX12_takeOut_165 ?_
          obtain ⟨r17, h⟩ := h
          refine V_icmp_ge (tgt := 178) dX12_takeOut_166 rfl r17 r3 (fun q => ?_) (fun q => ?_)
          · replace h := h.1 q
            exact V.sub (SubL_s (SubL_s (SubL_s (SubL_s (SubL_s (SubL_0)))))) h
          · replace h := h.2 q
            refine V_aload_n dX12_takeOut_169 rfl rfl ?_
            refine V_iload dX12_takeOut_170 rfl ?_
            refine V_callV (av := [vi x4]) (stk := []) cvX12_314 rfl rfl rfl (by decide) (by simp [ctg]) dX12_takeOut_172 h ?_
            rintro _ σ7 ⟨rfl, h⟩
            refine V_iinc (L' := [some (vr 94), some (vi x1), some (vi x2), some (vi (x3 + 1)), some (vi x4)]) dX12_takeOut_175 rfl (by decide) rfl ?_
            exact V.sub (SubL_s (SubL_s (SubL_s (SubL_s (SubL_s (SubL_0)))))) h
        · replace h := h.2 q
          refine V_iload_n dX12_takeOut_132 rfl rfl ?_
          refine V_iconst dX12_takeOut_133 ?_
          refine V_isub dX12_takeOut_134 ?_
          refine V_goto (tgt := 151) dX12_takeOut_135 rfl ?_
          refine V_iast (rfl : shp[104]? = some (1, 60, 0)) r2 dX12_takeOut_151 ?_
          refine V_aload_n dX12_takeOut_152 rfl rfl ?_
          refine V_getR (k2 := 104) flX12_37 rfl rfl (by decide) dX12_takeOut_153 ?_
          refine V_iload dX12_takeOut_156 rfl ?_
          refine V_iald (f := (x1 - 1)) (rfl : shp[104]? = some (1, 60, 0)) r2 (up_s) dX12_takeOut_158 ?_
          refine V_aload_n dX12_takeOut_159 rfl rfl ?_
          refine V_getR (k2 := 103) flX12_34 rfl rfl (by decide) dX12_takeOut_160 ?_
          refine V_iload dX12_takeOut_163 rfl ?_
          refine V_iald (f := (σ 103 x4)) (rfl : shp[103]? = some (1, 60, 0)) r2 ((up_o (by omega)).trans (up_s)) dX12_takeOut_165 ?_
          obtain ⟨r18, h⟩ := h
          refine V_icmp_ge (tgt := 178) dX12_takeOut_166 rfl r18 r3 (fun q => ?_) (fun q => ?_)
          · replace h := h.1 q
            exact V.sub (SubL_s (SubL_s (SubL_s (SubL_s (SubL_s (SubL_0)))))) h
          · replace h := h.2 q
            refine V_aload_n dX12_takeOut_169 rfl rfl ?_
            refine V_iload dX12_takeOut_170 rfl ?_
            refine V_callV (av := [vi x4]) (stk := []) cvX12_314 rfl rfl rfl (by decide) (by simp [ctg]) dX12_takeOut_172 h ?_
            rintro _ σ8 ⟨rfl, h⟩
            refine V_iinc (L' := [some (vr 94), some (vi x1), some (vi x2), some (vi (x3 + 1)), some (vi x4)]) dX12_takeOut_175 rfl (by decide) rfl ?_
            exact V.sub (SubL_s (SubL_s (SubL_s (SubL_s (SubL_s (SubL_0)))))) h
      · replace h := h.2 q
        refine V_aload_n dX12_takeOut_111 rfl rfl ?_
        refine V_getR (k2 := 104) flX12_37 rfl rfl (by decide) dX12_takeOut_112 ?_
        refine V_iload dX12_takeOut_115 rfl ?_
        refine V_iald (f := (σ 104 x4)) (rfl : shp[104]? = some (1, 60, 0)) r2 (up_o (by omega)) dX12_takeOut_117 ?_
        refine V_goto (tgt := 151) dX12_takeOut_118 rfl ?_
        refine V_iast (rfl : shp[104]? = some (1, 60, 0)) r2 dX12_takeOut_151 ?_
        refine V_aload_n dX12_takeOut_152 rfl rfl ?_
        refine V_getR (k2 := 104) flX12_37 rfl rfl (by decide) dX12_takeOut_153 ?_
        refine V_iload dX12_takeOut_156 rfl ?_
        refine V_iald (f := (σ 104 x4)) (rfl : shp[104]? = some (1, 60, 0)) r2 (up_s) dX12_takeOut_158 ?_
        refine V_aload_n dX12_takeOut_159 rfl rfl ?_
        refine V_getR (k2 := 103) flX12_34 rfl rfl (by decide) dX12_takeOut_160 ?_
        refine V_iload dX12_takeOut_163 rfl ?_
        refine V_iald (f := (σ 103 x4)) (rfl : shp[103]? = some (1, 60, 0)) r2 ((up_o (by omega)).trans (up_s)) dX12_takeOut_165 ?_
        refine V_icmp_ge (tgt := 178) dX12_takeOut_166 rfl r15 r3 (fun q => ?_) (fun q => ?_)
        · replace h := h.1 q
          exact V.sub (SubL_s (SubL_s (SubL_s (SubL_s (SubL_s (SubL_0)))))) h
        · replace h := h.2 q
          refine V_aload_n dX12_takeOut_169 rfl rfl ?_
          refine V_iload dX12_takeOut_170 rfl ?_
          refine V_callV (av := [vi x4]) (stk := []) cvX12_314 rfl rfl rfl (by decide) (by simp [ctg]) dX12_takeOut_172 h ?_
          rintro _ σ9 ⟨rfl, h⟩
          refine V_iinc (L' := [some (vr 94), some (vi x1), some (vi x2), some (vi (x3 + 1)), some (vi x4)]) dX12_takeOut_175 rfl (by decide) rfl ?_
          exact V.sub (SubL_s (SubL_s (SubL_s (SubL_s (SubL_s (SubL_0)))))) h
set_option maxRecDepth 100000 in
theorem BX12_takeOut_178 {σ : Sg} {post : Po} {x1 : Int} {x2 : Int} {x3 : Int} {x4 : Int} 
  (h : V mX12_takeOut 33 [some (vr 94), some (vi x1), some (vi x2), some (vi x3), some (vi (x4 + (-1)))] [] σ post) :
  V mX12_takeOut 178 [some (vr 94), some (vi x1), some (vi x2), some (vi x3), some (vi x4)] [] σ post := by
  refine V_iinc (L' := [some (vr 94), some (vi x1), some (vi x2), some (vi x3), some (vi (x4 + (-1)))]) dX12_takeOut_178 rfl (by decide) rfl ?_
  refine V_goto (tgt := 33) dX12_takeOut_181 rfl ?_
  exact V.sub (SubL_s (SubL_s (SubL_s (SubL_s (SubL_s (SubL_0)))))) h

set_option maxRecDepth 100000 in
theorem BX12_saw_0 {σ : Sg} {post : Po} {x1 : Int} {x2 : Int} 
  (h : Cl mX12_isPage [vi x1] σ (pI fun z1 σ1 => (rng z1) ∧ ((z1 = 0 → post (some (vi (-1002))) σ1) ∧ (¬ z1 = 0 → (rng x2) ∧ (Cl mX12_in [vl x2, vl 1, vl 199] σ1 (pI fun z2 σ2 => (rng z2) ∧ ((¬ z2 = 0 → (rng (σ2 94 47)) ∧ (((σ2 94 47) ≤ 0 → (¬ (σ2 94 47) = 20 → (0 ≤ (σ2 94 47) ∧ (σ2 94 47) < 20) ∧ (post (some (vi ((σ2 94 47) + 1))) (up (up (up σ2 118 (σ2 94 47) x1) 119 (σ2 94 47) x2) 94 47 ((σ2 94 47) + 1)))) ∧ ((σ2 94 47) = 20 → post (some (vi (-1004))) σ2)) ∧ (¬ (σ2 94 47) ≤ 0 → (0 ≤ ((σ2 94 47) - 1) ∧ ((σ2 94 47) - 1) < 20) ∧ ((rng x1) ∧ ((rng (σ2 118 ((σ2 94 47) - 1))) ∧ (((σ2 118 ((σ2 94 47) - 1)) < x1 → (¬ (σ2 94 47) = 20 → (0 ≤ (σ2 94 47) ∧ (σ2 94 47) < 20) ∧ (post (some (vi ((σ2 94 47) + 1))) (up (up (up σ2 118 (σ2 94 47) x1) 119 (σ2 94 47) x2) 94 47 ((σ2 94 47) + 1)))) ∧ ((σ2 94 47) = 20 → post (some (vi (-1004))) σ2)) ∧ (¬ (σ2 118 ((σ2 94 47) - 1)) < x1 → post (some (vi (-1003))) σ2))))))) ∧ (z2 = 0 → post (some (vi (-1002))) σ2)))))))) :
  V mX12_saw 0 [some (vr 94), some (vi x1), some (vi x2)] [] σ post := by
  refine V_iload_n dX12_saw_0 rfl rfl ?_
  refine V_callS (av := [vi x1]) (stk := []) cvX12_311 rfl rfl (by decide) (by simp [ctg]) dX12_saw_1 h ?_
  rintro _ σ1 ⟨z1, rfl, h⟩
  obtain ⟨r1, h⟩ := h
  refine V_if_eq (tgt := 19) dX12_saw_4 rfl r1 (fun q => ?_) (fun q => ?_)
  · replace h := h.1 q
    refine V_sipush dX12_saw_19 (by decide) ?_
    exact V_ireturn (stk := []) rfl dX12_saw_22 h
  · replace h := h.2 q
    refine V_iload_n dX12_saw_7 rfl rfl ?_
    obtain ⟨r2, h⟩ := h
    refine V_i2l dX12_saw_8 r2 ?_
    refine V_lconst (z := 1) dX12_saw_9 rfl ?_
    refine V_ldc2 dX12_saw_10 klX12_476 ?_
    refine V_callS (av := [vl x2, vl 1, vl 199]) (stk := []) cvX12_146 rfl rfl (by decide) (by simp [ctg]) dX12_saw_13 h ?_
    rintro _ σ2 ⟨z2, rfl, h⟩
    obtain ⟨r3, h⟩ := h
    refine V_if_ne (tgt := 23) dX12_saw_16 rfl r3 (fun q => ?_) (fun q => ?_)
    · replace h := h.1 q
      refine V_aload_n dX12_saw_23 rfl rfl ?_
      refine V_getI (f := (σ2 94 47)) flX12_281 rfl (rfl) (by decide) dX12_saw_24 ?_
      obtain ⟨r4, h⟩ := h
      refine V_if_le (tgt := 49) dX12_saw_27 rfl r4 (fun q => ?_) (fun q => ?_)
      · replace h := h.1 q
        refine V_aload_n dX12_saw_49 rfl rfl ?_
        refine V_getI (f := (σ2 94 47)) flX12_281 rfl (rfl) (by decide) dX12_saw_50 ?_
        refine V_bipush dX12_saw_53 (by decide) ?_
        refine V_icmp_ne (tgt := 62) dX12_saw_55 rfl r4 (by decide) (fun q => ?_) (fun q => ?_)
        · replace h := h.1 q
          refine V_aload_n dX12_saw_62 rfl rfl ?_
          refine V_getR (k2 := 118) flX12_87 rfl rfl (by decide) dX12_saw_63 ?_
          refine V_aload_n dX12_saw_66 rfl rfl ?_
          refine V_getI (f := (σ2 94 47)) flX12_281 rfl (rfl) (by decide) dX12_saw_67 ?_
          refine V_iload_n dX12_saw_70 rfl rfl ?_
          obtain ⟨r5, h⟩ := h
          refine V_iast (rfl : shp[118]? = some (1, 20, 0)) r5 dX12_saw_71 ?_
          refine V_aload_n dX12_saw_72 rfl rfl ?_
          refine V_getR (k2 := 119) flX12_90 rfl rfl (by decide) dX12_saw_73 ?_
          refine V_aload_n dX12_saw_76 rfl rfl ?_
          refine V_getI (f := (σ2 94 47)) flX12_281 rfl (up_o (by omega)) (by decide) dX12_saw_77 ?_
          refine V_iload_n dX12_saw_80 rfl rfl ?_
          refine V_iast (rfl : shp[119]? = some (1, 20, 0)) r5 dX12_saw_81 ?_
          refine V_aload_n dX12_saw_82 rfl rfl ?_
          refine V_dup dX12_saw_83 trivial ?_
          refine V_getI (f := (σ2 94 47)) flX12_281 rfl ((up_o (by omega)).trans (up_o (by omega))) (by decide) dX12_saw_84 ?_
          refine V_iconst dX12_saw_87 ?_
          refine V_iadd dX12_saw_88 ?_
          refine V_putI flX12_281 rfl (by decide) dX12_saw_89 ?_
          refine V_aload_n dX12_saw_92 rfl rfl ?_
          refine V_getI (f := ((σ2 94 47) + 1)) flX12_281 rfl (up_s) (by decide) dX12_saw_93 ?_
          exact V_ireturn (stk := []) rfl dX12_saw_96 h
        · replace h := h.2 q
          refine V_sipush dX12_saw_58 (by decide) ?_
          exact V_ireturn (stk := []) rfl dX12_saw_61 h
      · replace h := h.2 q
        refine V_iload_n dX12_saw_30 rfl rfl ?_
        refine V_aload_n dX12_saw_31 rfl rfl ?_
        refine V_getR (k2 := 118) flX12_87 rfl rfl (by decide) dX12_saw_32 ?_
        refine V_aload_n dX12_saw_35 rfl rfl ?_
        refine V_getI (f := (σ2 94 47)) flX12_281 rfl (rfl) (by decide) dX12_saw_36 ?_
        refine V_iconst dX12_saw_39 ?_
        refine V_isub dX12_saw_40 ?_
        obtain ⟨r6, h⟩ := h
        refine V_iald (f := (σ2 118 ((σ2 94 47) - 1))) (rfl : shp[118]? = some (1, 20, 0)) r6 (rfl) dX12_saw_41 ?_
        obtain ⟨r7, h⟩ := h
        obtain ⟨r8, h⟩ := h
        refine V_icmp_gt (tgt := 49) dX12_saw_42 rfl r7 r8 (fun q => ?_) (fun q => ?_)
        · replace h := h.1 q
          refine V_aload_n dX12_saw_49 rfl rfl ?_
          refine V_getI (f := (σ2 94 47)) flX12_281 rfl (rfl) (by decide) dX12_saw_50 ?_
          refine V_bipush dX12_saw_53 (by decide) ?_
          refine V_icmp_ne (tgt := 62) dX12_saw_55 rfl r4 (by decide) (fun q => ?_) (fun q => ?_)
          · replace h := h.1 q
            refine V_aload_n dX12_saw_62 rfl rfl ?_
            refine V_getR (k2 := 118) flX12_87 rfl rfl (by decide) dX12_saw_63 ?_
            refine V_aload_n dX12_saw_66 rfl rfl ?_
            refine V_getI (f := (σ2 94 47)) flX12_281 rfl (rfl) (by decide) dX12_saw_67 ?_
            refine V_iload_n dX12_saw_70 rfl rfl ?_
            obtain ⟨r9, h⟩ := h
            refine V_iast (rfl : shp[118]? = some (1, 20, 0)) r9 dX12_saw_71 ?_
            refine V_aload_n dX12_saw_72 rfl rfl ?_
            refine V_getR (k2 := 119) flX12_90 rfl rfl (by decide) dX12_saw_73 ?_
            refine V_aload_n dX12_saw_76 rfl rfl ?_
            refine V_getI (f := (σ2 94 47)) flX12_281 rfl (up_o (by omega)) (by decide) dX12_saw_77 ?_
            refine V_iload_n dX12_saw_80 rfl rfl ?_
            refine V_iast (rfl : shp[119]? = some (1, 20, 0)) r9 dX12_saw_81 ?_
            refine V_aload_n dX12_saw_82 rfl rfl ?_
            refine V_dup dX12_saw_83 trivial ?_
            refine V_getI (f := (σ2 94 47)) flX12_281 rfl ((up_o (by omega)).trans (up_o (by omega))) (by decide) dX12_saw_84 ?_
            refine V_iconst dX12_saw_87 ?_
            refine V_iadd dX12_saw_88 ?_
            refine V_putI flX12_281 rfl (by decide) dX12_saw_89 ?_
            refine V_aload_n dX12_saw_92 rfl rfl ?_
            refine V_getI (f := ((σ2 94 47) + 1)) flX12_281 rfl (up_s) (by decide) dX12_saw_93 ?_
            exact V_ireturn (stk := []) rfl dX12_saw_96 h
          · replace h := h.2 q
            refine V_sipush dX12_saw_58 (by decide) ?_
            exact V_ireturn (stk := []) rfl dX12_saw_61 h
        · replace h := h.2 q
          refine V_sipush dX12_saw_45 (by decide) ?_
          exact V_ireturn (stk := []) rfl dX12_saw_48 h
    · replace h := h.2 q
      refine V_sipush dX12_saw_19 (by decide) ?_
      exact V_ireturn (stk := []) rfl dX12_saw_22 h

set_option maxRecDepth 100000 in
theorem BX12_forget_0 {σ : Sg} {post : Po}  
  (h : post (some (vi (σ 94 47))) (up σ 94 47 0)) :
  V mX12_forget 0 [some (vr 94), none] [] σ post := by
  refine V_aload_n dX12_forget_0 rfl rfl ?_
  refine V_getI (f := (σ 94 47)) flX12_281 rfl (rfl) (by decide) dX12_forget_1 ?_
  refine V_istore_n (L' := [some (vr 94), some (vi (σ 94 47))]) dX12_forget_4 rfl (by decide) rfl ?_
  refine V_aload_n dX12_forget_5 rfl rfl ?_
  refine V_iconst dX12_forget_6 ?_
  refine V_putI flX12_281 rfl (by decide) dX12_forget_7 ?_
  refine V_iload_n dX12_forget_10 rfl rfl ?_
  exact V_ireturn (stk := []) rfl dX12_forget_11 h

set_option maxRecDepth 100000 in
theorem BX12_standing_0 {σ : Sg} {post : Po} {x1 : Int} {x2 : Int} {x3 : Int} 
  (h : (rng x2) ∧ ((20 ≤ x2 → (0 ≤ ((21 * (x1 + 1)) + x1) ∧ ((21 * (x1 + 1)) + x1) < 441) ∧ (post (some (vi ((σ 120 ((21 * (x1 + 1)) + x1)) + 0))) σ)) ∧ (¬ 20 ≤ x2 → (0 ≤ x1 ∧ x1 < 20) ∧ ((0 ≤ x2 ∧ x2 < 20) ∧ ((rng ((σ 119 x1) - (σ 118 x1))) ∧ ((rng ((σ 119 x2) - (σ 118 x2))) ∧ ((((σ 119 x1) - (σ 118 x1)) = ((σ 119 x2) - (σ 118 x2)) → (0 ≤ ((21 * (x1 + 1)) + x1) ∧ ((21 * (x1 + 1)) + x1) < 441) ∧ (post (some (vi ((σ 120 ((21 * (x1 + 1)) + x1)) + 0))) σ)) ∧ (¬ ((σ 119 x1) - (σ 118 x1)) = ((σ 119 x2) - (σ 118 x2)) → (0 ≤ ((21 * (x1 + 1)) + x1) ∧ ((21 * (x1 + 1)) + x1) < 441) ∧ (post (some (vi ((σ 120 ((21 * (x1 + 1)) + x1)) + (100 * x3)))) σ))))))))) :
  V mX12_standing 0 [some (vr 94), some (vi x1), some (vi x2), some (vi x3), none] [] σ post := by
  refine V_iload_n dX12_standing_0 rfl rfl ?_
  refine V_bipush dX12_standing_1 (by decide) ?_
  obtain ⟨r1, h⟩ := h
  refine V_icmp_ge (tgt := 39) dX12_standing_3 rfl r1 (by decide) (fun q => ?_) (fun q => ?_)
  · replace h := h.1 q
    refine V_iconst dX12_standing_39 ?_
    refine V_istore (L' := [some (vr 94), some (vi x1), some (vi x2), some (vi x3), some (vi 0)]) dX12_standing_40 (by decide) rfl ?_
    refine V_aload_n dX12_standing_42 rfl rfl ?_
    refine V_getR (k2 := 120) flX12_93 rfl rfl (by decide) dX12_standing_43 ?_
    refine V_bipush dX12_standing_46 (by decide) ?_
    refine V_iload_n dX12_standing_48 rfl rfl ?_
    refine V_iconst dX12_standing_49 ?_
    refine V_iadd dX12_standing_50 ?_
    refine V_imul dX12_standing_51 ?_
    refine V_iload_n dX12_standing_52 rfl rfl ?_
    refine V_iadd dX12_standing_53 ?_
    obtain ⟨r2, h⟩ := h
    refine V_iald (f := (σ 120 ((21 * (x1 + 1)) + x1))) (rfl : shp[120]? = some (1, 441, 0)) r2 (rfl) dX12_standing_54 ?_
    refine V_iload dX12_standing_55 rfl ?_
    refine V_if_eq (tgt := 67) dX12_standing_57 rfl (by decide) (fun q => ?_) (fun q => absurd q (by decide))
    refine V_iconst dX12_standing_67 ?_
    refine V_iadd dX12_standing_68 ?_
    exact V_ireturn (stk := []) rfl dX12_standing_69 h
  · replace h := h.2 q
    refine V_aload_n dX12_standing_6 rfl rfl ?_
    refine V_getR (k2 := 119) flX12_90 rfl rfl (by decide) dX12_standing_7 ?_
    refine V_iload_n dX12_standing_10 rfl rfl ?_
    obtain ⟨r3, h⟩ := h
    refine V_iald (f := (σ 119 x1)) (rfl : shp[119]? = some (1, 20, 0)) r3 (rfl) dX12_standing_11 ?_
    refine V_aload_n dX12_standing_12 rfl rfl ?_
    refine V_getR (k2 := 118) flX12_87 rfl rfl (by decide) dX12_standing_13 ?_
    refine V_iload_n dX12_standing_16 rfl rfl ?_
    refine V_iald (f := (σ 118 x1)) (rfl : shp[118]? = some (1, 20, 0)) r3 (rfl) dX12_standing_17 ?_
    refine V_isub dX12_standing_18 ?_
    refine V_aload_n dX12_standing_19 rfl rfl ?_
    refine V_getR (k2 := 119) flX12_90 rfl rfl (by decide) dX12_standing_20 ?_
    refine V_iload_n dX12_standing_23 rfl rfl ?_
    obtain ⟨r4, h⟩ := h
    refine V_iald (f := (σ 119 x2)) (rfl : shp[119]? = some (1, 20, 0)) r4 (rfl) dX12_standing_24 ?_
    refine V_aload_n dX12_standing_25 rfl rfl ?_
    refine V_getR (k2 := 118) flX12_87 rfl rfl (by decide) dX12_standing_26 ?_
    refine V_iload_n dX12_standing_29 rfl rfl ?_
    refine V_iald (f := (σ 118 x2)) (rfl : shp[118]? = some (1, 20, 0)) r4 (rfl) dX12_standing_30 ?_
    refine V_isub dX12_standing_31 ?_
    obtain ⟨r5, h⟩ := h
    obtain ⟨r6, h⟩ := h
    refine V_icmp_eq (tgt := 39) dX12_standing_32 rfl r5 r6 (fun q => ?_) (fun q => ?_)
    · replace h := h.1 q
      refine V_iconst dX12_standing_39 ?_
      refine V_istore (L' := [some (vr 94), some (vi x1), some (vi x2), some (vi x3), some (vi 0)]) dX12_standing_40 (by decide) rfl ?_
      refine V_aload_n dX12_standing_42 rfl rfl ?_
      refine V_getR (k2 := 120) flX12_93 rfl rfl (by decide) dX12_standing_43 ?_
      refine V_bipush dX12_standing_46 (by decide) ?_
      refine V_iload_n dX12_standing_48 rfl rfl ?_
      refine V_iconst dX12_standing_49 ?_
      refine V_iadd dX12_standing_50 ?_
      refine V_imul dX12_standing_51 ?_
      refine V_iload_n dX12_standing_52 rfl rfl ?_
      refine V_iadd dX12_standing_53 ?_
      obtain ⟨r7, h⟩ := h
      refine V_iald (f := (σ 120 ((21 * (x1 + 1)) + x1))) (rfl : shp[120]? = some (1, 441, 0)) r7 (rfl) dX12_standing_54 ?_
      refine V_iload dX12_standing_55 rfl ?_
      refine V_if_eq (tgt := 67) dX12_standing_57 rfl (by decide) (fun q => ?_) (fun q => absurd q (by decide))
      refine V_iconst dX12_standing_67 ?_
      refine V_iadd dX12_standing_68 ?_
      exact V_ireturn (stk := []) rfl dX12_standing_69 h
    · replace h := h.2 q
      refine V_iconst dX12_standing_35 ?_
      refine V_goto (tgt := 40) dX12_standing_36 rfl ?_
      refine V_istore (L' := [some (vr 94), some (vi x1), some (vi x2), some (vi x3), some (vi 1)]) dX12_standing_40 (by decide) rfl ?_
      refine V_aload_n dX12_standing_42 rfl rfl ?_
      refine V_getR (k2 := 120) flX12_93 rfl rfl (by decide) dX12_standing_43 ?_
      refine V_bipush dX12_standing_46 (by decide) ?_
      refine V_iload_n dX12_standing_48 rfl rfl ?_
      refine V_iconst dX12_standing_49 ?_
      refine V_iadd dX12_standing_50 ?_
      refine V_imul dX12_standing_51 ?_
      refine V_iload_n dX12_standing_52 rfl rfl ?_
      refine V_iadd dX12_standing_53 ?_
      obtain ⟨r8, h⟩ := h
      refine V_iald (f := (σ 120 ((21 * (x1 + 1)) + x1))) (rfl : shp[120]? = some (1, 441, 0)) r8 (rfl) dX12_standing_54 ?_
      refine V_iload dX12_standing_55 rfl ?_
      refine V_if_eq (tgt := 67) dX12_standing_57 rfl (by decide) (fun q => absurd q (by decide)) (fun q => ?_)
      refine V_bipush dX12_standing_60 (by decide) ?_
      refine V_iload_n dX12_standing_62 rfl rfl ?_
      refine V_imul dX12_standing_63 ?_
      refine V_goto (tgt := 68) dX12_standing_64 rfl ?_
      refine V_iadd dX12_standing_68 ?_
      exact V_ireturn (stk := []) rfl dX12_standing_69 h

set_option maxRecDepth 100000 in
theorem BX12_leaving_0 {σ : Sg} {post : Po} {x1 : Int} {x2 : Int} 
  (h : (0 ≤ ((21 * (x1 + 1)) + x2) ∧ ((21 * (x1 + 1)) + x2) < 441) ∧ (post (some (vi ((σ 120 ((21 * (x1 + 1)) + x2)) + 101))) σ)) :
  V mX12_leaving 0 [some (vr 94), some (vi x1), some (vi x2)] [] σ post := by
  refine V_aload_n dX12_leaving_0 rfl rfl ?_
  refine V_getR (k2 := 120) flX12_93 rfl rfl (by decide) dX12_leaving_1 ?_
  refine V_bipush dX12_leaving_4 (by decide) ?_
  refine V_iload_n dX12_leaving_6 rfl rfl ?_
  refine V_iconst dX12_leaving_7 ?_
  refine V_iadd dX12_leaving_8 ?_
  refine V_imul dX12_leaving_9 ?_
  refine V_iload_n dX12_leaving_10 rfl rfl ?_
  refine V_iadd dX12_leaving_11 ?_
  obtain ⟨r1, h⟩ := h
  refine V_iald (f := (σ 120 ((21 * (x1 + 1)) + x2))) (rfl : shp[120]? = some (1, 441, 0)) r1 (rfl) dX12_leaving_12 ?_
  refine V_bipush dX12_leaving_13 (by decide) ?_
  refine V_iadd dX12_leaving_15 ?_
  exact V_ireturn (stk := []) rfl dX12_leaving_16 h

set_option maxRecDepth 100000 in
theorem BX12_story_0 {σ : Sg} {post : Po} {x1 : Int} {x2 : Int} 
  (h : (rng x2) ∧ ((rng ((σ 94 47) - 1)) ∧ (Cl mX12_in [vl x2, vl (-1), vl ((σ 94 47) - 1)] σ (pI fun z1 σ1 => (rng z1) ∧ ((¬ z1 = 0 → (rng x1) ∧ (Cl mX12_in [vl x1, vl 0, vl 20] σ1 (pI fun z2 σ2 => (rng z2) ∧ ((¬ z2 = 0 → V mX12_story 43 [some (vr 94), some (vi x1), some (vi x2), some (vi (σ2 94 47)), none, none, none] [] σ2 post) ∧ (z2 = 0 → post (some (vi (-1002))) σ2))))) ∧ (z1 = 0 → post (some (vi (-1001))) σ1)))))) :
  V mX12_story 0 [some (vr 94), some (vi x1), some (vi x2), none, none, none, none] [] σ post := by
  refine V_iload_n dX12_story_0 rfl rfl ?_
  obtain ⟨r1, h⟩ := h
  refine V_i2l dX12_story_1 r1 ?_
  refine V_ldc2 dX12_story_2 klX12_265 ?_
  refine V_aload_n dX12_story_5 rfl rfl ?_
  refine V_getI (f := (σ 94 47)) flX12_281 rfl (rfl) (by decide) dX12_story_6 ?_
  refine V_iconst dX12_story_9 ?_
  refine V_isub dX12_story_10 ?_
  obtain ⟨r2, h⟩ := h
  refine V_i2l dX12_story_11 r2 ?_
  refine V_callS (av := [vl x2, vl (-1), vl ((σ 94 47) - 1)]) (stk := []) cvX12_146 rfl rfl (by decide) (by simp [ctg]) dX12_story_12 h ?_
  rintro _ σ1 ⟨z1, rfl, h⟩
  obtain ⟨r3, h⟩ := h
  refine V_if_ne (tgt := 22) dX12_story_15 rfl r3 (fun q => ?_) (fun q => ?_)
  · replace h := h.1 q
    refine V_iload_n dX12_story_22 rfl rfl ?_
    obtain ⟨r4, h⟩ := h
    refine V_i2l dX12_story_23 r4 ?_
    refine V_lconst (z := 0) dX12_story_24 rfl ?_
    refine V_ldc2 dX12_story_25 klX12_351 ?_
    refine V_callS (av := [vl x1, vl 0, vl 20]) (stk := []) cvX12_146 rfl rfl (by decide) (by simp [ctg]) dX12_story_28 h ?_
    rintro _ σ2 ⟨z2, rfl, h⟩
    obtain ⟨r5, h⟩ := h
    refine V_if_ne (tgt := 38) dX12_story_31 rfl r5 (fun q => ?_) (fun q => ?_)
    · replace h := h.1 q
      refine V_aload_n dX12_story_38 rfl rfl ?_
      refine V_getI (f := (σ2 94 47)) flX12_281 rfl (rfl) (by decide) dX12_story_39 ?_
      refine V_istore_n (L' := [some (vr 94), some (vi x1), some (vi x2), some (vi (σ2 94 47)), none, none, none]) dX12_story_42 rfl (by decide) rfl ?_
      exact V.sub (SubL_s (SubL_s (SubL_s (SubL_s (SubL_n (SubL_n (SubL_n (SubL_0)))))))) h
    · replace h := h.2 q
      refine V_sipush dX12_story_34 (by decide) ?_
      exact V_ireturn (stk := []) rfl dX12_story_37 h
  · replace h := h.2 q
    refine V_sipush dX12_story_18 (by decide) ?_
    exact V_ireturn (stk := []) rfl dX12_story_21 h
set_option maxRecDepth 100000 in
theorem BX12_story_43 {σ : Sg} {post : Po} {x1 : Int} {x2 : Int} {x3 : Int} 
  (h : (rng x3) ∧ ((x3 < 0 → (rng x2) ∧ ((¬ x2 = (-1) → V mX12_story 160 [some (vr 94), some (vi x1), some (vi x2), some (vi 20), some (vi 0), none, none] [] σ post) ∧ (x2 = (-1) → post (some (vi (iDiv (σ 120 20) 100))) σ))) ∧ (¬ x3 < 0 → V mX12_story 50 [some (vr 94), some (vi x1), some (vi x2), some (vi x3), some (vi 0), none, none] [] σ post))) :
  V mX12_story 43 [some (vr 94), some (vi x1), some (vi x2), some (vi x3), none, none, none] [] σ post := by
  refine V_iload_n dX12_story_43 rfl rfl ?_
  obtain ⟨r1, h⟩ := h
  refine V_if_lt (tgt := 138) dX12_story_44 rfl r1 (fun q => ?_) (fun q => ?_)
  · replace h := h.1 q
    refine V_iload_n dX12_story_138 rfl rfl ?_
    refine V_iconst dX12_story_139 ?_
    obtain ⟨r2, h⟩ := h
    refine V_icmp_ne (tgt := 154) dX12_story_140 rfl r2 (by decide) (fun q => ?_) (fun q => ?_)
    · replace h := h.1 q
      refine V_bipush dX12_story_154 (by decide) ?_
      refine V_istore_n (L' := [some (vr 94), some (vi x1), some (vi x2), some (vi 20), none, none, none]) dX12_story_156 rfl (by decide) rfl ?_
      refine V_iconst dX12_story_157 ?_
      refine V_istore (L' := [some (vr 94), some (vi x1), some (vi x2), some (vi 20), some (vi 0), none, none]) dX12_story_158 (by decide) rfl ?_
      exact V.sub (SubL_s (SubL_s (SubL_s (SubL_s (SubL_s (SubL_n (SubL_n (SubL_0)))))))) h
    · replace h := h.2 q
      refine V_aload_n dX12_story_143 rfl rfl ?_
      refine V_getR (k2 := 120) flX12_93 rfl rfl (by decide) dX12_story_144 ?_
      refine V_bipush dX12_story_147 (by decide) ?_
      refine V_iald (f := (σ 120 20)) (rfl : shp[120]? = some (1, 441, 0)) (by decide) (rfl) dX12_story_149 ?_
      refine V_bipush dX12_story_150 (by decide) ?_
      refine V_idiv dX12_story_152 (by decide) ?_
      exact V_ireturn (stk := []) rfl dX12_story_153 h
  · replace h := h.2 q
    refine V_iconst dX12_story_47 ?_
    refine V_istore (L' := [some (vr 94), some (vi x1), some (vi x2), some (vi x3), some (vi 0), none, none]) dX12_story_48 (by decide) rfl ?_
    exact V.sub (SubL_s (SubL_s (SubL_s (SubL_s (SubL_s (SubL_n (SubL_n (SubL_0)))))))) h
set_option maxRecDepth 100000 in
theorem BX12_story_160 {σ : Sg} {post : Po} {x1 : Int} {x2 : Int} {x3 : Int} {x4 : Int} 
  (h : (rng x4) ∧ ((rng x2) ∧ ((x2 ≤ x4 → Cl mX12_standing [vr 94, vi x2, vi x3, vi x1] σ (pI fun z1 σ1 => Cl mX12_leaving [vr 94, vi x2, vi x3] σ1 (pI fun z2 σ2 => (rng z1) ∧ ((rng z2) ∧ ((z2 < z1 → Cl mX12_one [vi 0] σ2 (pI fun z3 σ3 => post (some (vi z3)) σ3)) ∧ (¬ z2 < z1 → Cl mX12_one [vi 1] σ2 (pI fun z4 σ4 => post (some (vi z4)) σ4))))))) ∧ (¬ x2 ≤ x4 → Cl mX12_standing [vr 94, vi x4, vi x3, vi x1] σ (pI fun z5 σ5 => Cl mX12_leaving [vr 94, vi x4, vi x3] σ5 (pI fun z6 σ6 => (rng z5) ∧ ((rng z6) ∧ ((z6 < z5 → V mX12_story 160 [some (vr 94), some (vi x1), some (vi x2), some (vi x3), some (vi (x4 + 1)), none, none] [] σ6 post) ∧ (¬ z6 < z5 → V mX12_story 160 [some (vr 94), some (vi x1), some (vi x2), some (vi x4), some (vi (x4 + 1)), none, none] [] σ6 post))))))))) :
  V mX12_story 160 [some (vr 94), some (vi x1), some (vi x2), some (vi x3), some (vi x4), none, none] [] σ post := by
  refine V_iload dX12_story_160 rfl ?_
  refine V_iload_n dX12_story_162 rfl rfl ?_
  obtain ⟨r1, h⟩ := h
  obtain ⟨r2, h⟩ := h
  refine V_icmp_ge (tgt := 197) dX12_story_163 rfl r1 r2 (fun q => ?_) (fun q => ?_)
  · replace h := h.1 q
    refine V_aload_n dX12_story_197 rfl rfl ?_
    refine V_iload_n dX12_story_198 rfl rfl ?_
    refine V_iload_n dX12_story_199 rfl rfl ?_
    refine V_iload_n dX12_story_200 rfl rfl ?_
    refine V_callV (av := [vi x2, vi x3, vi x1]) (stk := []) cvX12_478 rfl rfl rfl (by decide) (by simp [ctg]) dX12_story_201 h ?_
    rintro _ σ1 ⟨z1, rfl, h⟩
    refine V_aload_n dX12_story_204 rfl rfl ?_
    refine V_iload_n dX12_story_205 rfl rfl ?_
    refine V_iload_n dX12_story_206 rfl rfl ?_
    refine V_callV (av := [vi x2, vi x3]) (stk := [vi z1]) cvX12_482 rfl rfl rfl (by decide) (by simp [ctg]) dX12_story_207 h ?_
    rintro _ σ2 ⟨z2, rfl, h⟩
    obtain ⟨r3, h⟩ := h
    obtain ⟨r4, h⟩ := h
    refine V_icmp_gt (tgt := 217) dX12_story_210 rfl r3 r4 (fun q => ?_) (fun q => ?_)
    · replace h := h.1 q
      refine V_iconst dX12_story_217 ?_
      refine V_callS (av := [vi 0]) (stk := []) cvX12_271 rfl rfl (by decide) (by simp [ctg]) dX12_story_218 h ?_
      rintro _ σ3 ⟨z3, rfl, h⟩
      exact V_ireturn (stk := []) rfl dX12_story_221 h
    · replace h := h.2 q
      refine V_iconst dX12_story_213 ?_
      refine V_goto (tgt := 218) dX12_story_214 rfl ?_
      refine V_callS (av := [vi 1]) (stk := []) cvX12_271 rfl rfl (by decide) (by simp [ctg]) dX12_story_218 h ?_
      rintro _ σ4 ⟨z4, rfl, h⟩
      exact V_ireturn (stk := []) rfl dX12_story_221 h
  · replace h := h.2 q
    refine V_aload_n dX12_story_166 rfl rfl ?_
    refine V_iload dX12_story_167 rfl ?_
    refine V_iload_n dX12_story_169 rfl rfl ?_
    refine V_iload_n dX12_story_170 rfl rfl ?_
    refine V_callV (av := [vi x4, vi x3, vi x1]) (stk := []) cvX12_478 rfl rfl rfl (by decide) (by simp [ctg]) dX12_story_171 h ?_
    rintro _ σ5 ⟨z5, rfl, h⟩
    refine V_aload_n dX12_story_174 rfl rfl ?_
    refine V_iload dX12_story_175 rfl ?_
    refine V_iload_n dX12_story_177 rfl rfl ?_
    refine V_callV (av := [vi x4, vi x3]) (stk := [vi z5]) cvX12_482 rfl rfl rfl (by decide) (by simp [ctg]) dX12_story_178 h ?_
    rintro _ σ6 ⟨z6, rfl, h⟩
    obtain ⟨r5, h⟩ := h
    obtain ⟨r6, h⟩ := h
    refine V_icmp_gt (tgt := 189) dX12_story_181 rfl r5 r6 (fun q => ?_) (fun q => ?_)
    · replace h := h.1 q
      refine V_iload_n dX12_story_189 rfl rfl ?_
      refine V_istore_n (L' := [some (vr 94), some (vi x1), some (vi x2), some (vi x3), some (vi x4), none, none]) dX12_story_190 rfl (by decide) rfl ?_
      refine V_iinc (L' := [some (vr 94), some (vi x1), some (vi x2), some (vi x3), some (vi (x4 + 1)), none, none]) dX12_story_191 rfl (by decide) rfl ?_
      refine V_goto (tgt := 160) dX12_story_194 rfl ?_
      exact V.sub (SubL_s (SubL_s (SubL_s (SubL_s (SubL_s (SubL_n (SubL_n (SubL_0)))))))) h
    · replace h := h.2 q
      refine V_iload dX12_story_184 rfl ?_
      refine V_goto (tgt := 190) dX12_story_186 rfl ?_
      refine V_istore_n (L' := [some (vr 94), some (vi x1), some (vi x2), some (vi x4), some (vi x4), none, none]) dX12_story_190 rfl (by decide) rfl ?_
      refine V_iinc (L' := [some (vr 94), some (vi x1), some (vi x2), some (vi x4), some (vi (x4 + 1)), none, none]) dX12_story_191 rfl (by decide) rfl ?_
      refine V_goto (tgt := 160) dX12_story_194 rfl ?_
      exact V.sub (SubL_s (SubL_s (SubL_s (SubL_s (SubL_s (SubL_n (SubL_n (SubL_0)))))))) h
set_option maxRecDepth 100000 in
theorem BX12_story_50 {σ : Sg} {post : Po} {x1 : Int} {x2 : Int} {x3 : Int} {x4 : Int} 
  (h : (rng x4) ∧ ((20 < x4 → V mX12_story 43 [some (vr 94), some (vi x1), some (vi x2), some (vi (x3 + (-1))), none, none, none] [] σ post) ∧ (¬ 20 < x4 → (rng x3) ∧ ((rng (σ 94 47)) ∧ ((¬ x3 = (σ 94 47) → Cl mX12_standing [vr 94, vi x3, vi x4, vi x1] σ (pI fun z1 σ1 => Cl mX12_leaving [vr 94, vi x3, vi x4] σ1 (pI fun z2 σ2 => (rng z1) ∧ ((rng z2) ∧ ((z2 ≤ z1 → (0 ≤ ((21 * x3) + x4) ∧ ((21 * x3) + x4) < 441) ∧ (V mX12_story 50 [some (vr 94), some (vi x1), some (vi x2), some (vi x3), some (vi (x4 + 1)), none, none] [] (up σ2 120 ((21 * x3) + x4) z2) post)) ∧ (¬ z2 ≤ z1 → (0 ≤ ((21 * x3) + x4) ∧ ((21 * x3) + x4) < 441) ∧ (V mX12_story 50 [some (vr 94), some (vi x1), some (vi x2), some (vi x3), some (vi (x4 + 1)), none, none] [] (up σ2 120 ((21 * x3) + x4) z1) post))))))) ∧ (x3 = (σ 94 47) → (0 ≤ ((21 * x3) + x4) ∧ ((21 * x3) + x4) < 441) ∧ (V mX12_story 50 [some (vr 94), some (vi x1), some (vi x2), some (vi x3), some (vi (x4 + 1)), none, none] [] (up σ 120 ((21 * x3) + x4) 0) post))))))) :
  V mX12_story 50 [some (vr 94), some (vi x1), some (vi x2), some (vi x3), some (vi x4), none, none] [] σ post := by
  refine V_iload dX12_story_50 rfl ?_
  refine V_bipush dX12_story_52 (by decide) ?_
  obtain ⟨r1, h⟩ := h
  refine V_icmp_gt (tgt := 132) dX12_story_54 rfl r1 (by decide) (fun q => ?_) (fun q => ?_)
  · replace h := h.1 q
    refine V_iinc (L' := [some (vr 94), some (vi x1), some (vi x2), some (vi (x3 + (-1))), some (vi x4), none, none]) dX12_story_132 rfl (by decide) rfl ?_
    refine V_goto (tgt := 43) dX12_story_135 rfl ?_
    exact V.sub (SubL_s (SubL_s (SubL_s (SubL_s (SubL_n (SubL_n (SubL_n (SubL_0)))))))) h
  · replace h := h.2 q
    refine V_iload_n dX12_story_57 rfl rfl ?_
    refine V_aload_n dX12_story_58 rfl rfl ?_
    refine V_getI (f := (σ 94 47)) flX12_281 rfl (rfl) (by decide) dX12_story_59 ?_
    obtain ⟨r2, h⟩ := h
    obtain ⟨r3, h⟩ := h
    refine V_icmp_ne (tgt := 81) dX12_story_62 rfl r2 r3 (fun q => ?_) (fun q => ?_)
    · replace h := h.1 q
      refine V_aload_n dX12_story_81 rfl rfl ?_
      refine V_iload_n dX12_story_82 rfl rfl ?_
      refine V_iload dX12_story_83 rfl ?_
      refine V_iload_n dX12_story_85 rfl rfl ?_
      refine V_callV (av := [vi x3, vi x4, vi x1]) (stk := []) cvX12_478 rfl rfl rfl (by decide) (by simp [ctg]) dX12_story_86 h ?_
      rintro _ σ1 ⟨z1, rfl, h⟩
      refine V_istore (L' := [some (vr 94), some (vi x1), some (vi x2), some (vi x3), some (vi x4), some (vi z1), none]) dX12_story_89 (by decide) rfl ?_
      refine V_aload_n dX12_story_91 rfl rfl ?_
      refine V_iload_n dX12_story_92 rfl rfl ?_
      refine V_iload dX12_story_93 rfl ?_
      refine V_callV (av := [vi x3, vi x4]) (stk := []) cvX12_482 rfl rfl rfl (by decide) (by simp [ctg]) dX12_story_95 h ?_
      rintro _ σ2 ⟨z2, rfl, h⟩
      refine V_istore (L' := [some (vr 94), some (vi x1), some (vi x2), some (vi x3), some (vi x4), some (vi z1), some (vi z2)]) dX12_story_98 (by decide) rfl ?_
      refine V_aload_n dX12_story_100 rfl rfl ?_
      refine V_getR (k2 := 120) flX12_93 rfl rfl (by decide) dX12_story_101 ?_
      refine V_bipush dX12_story_104 (by decide) ?_
      refine V_iload_n dX12_story_106 rfl rfl ?_
      refine V_imul dX12_story_107 ?_
      refine V_iload dX12_story_108 rfl ?_
      refine V_iadd dX12_story_110 ?_
      refine V_iload dX12_story_111 rfl ?_
      refine V_iload dX12_story_113 rfl ?_
      obtain ⟨r4, h⟩ := h
      obtain ⟨r5, h⟩ := h
      refine V_icmp_ge (tgt := 123) dX12_story_115 rfl r4 r5 (fun q => ?_) (fun q => ?_)
      · replace h := h.1 q
        refine V_iload dX12_story_123 rfl ?_
        obtain ⟨r6, h⟩ := h
        refine V_iast (rfl : shp[120]? = some (1, 441, 0)) r6 dX12_story_125 ?_
        refine V_iinc (L' := [some (vr 94), some (vi x1), some (vi x2), some (vi x3), some (vi (x4 + 1)), some (vi z1), some (vi z2)]) dX12_story_126 rfl (by decide) rfl ?_
        refine V_goto (tgt := 50) dX12_story_129 rfl ?_
        exact V.sub (SubL_s (SubL_s (SubL_s (SubL_s (SubL_s (SubL_n (SubL_n (SubL_0)))))))) h
      · replace h := h.2 q
        refine V_iload dX12_story_118 rfl ?_
        refine V_goto (tgt := 125) dX12_story_120 rfl ?_
        obtain ⟨r7, h⟩ := h
        refine V_iast (rfl : shp[120]? = some (1, 441, 0)) r7 dX12_story_125 ?_
        refine V_iinc (L' := [some (vr 94), some (vi x1), some (vi x2), some (vi x3), some (vi (x4 + 1)), some (vi z1), some (vi z2)]) dX12_story_126 rfl (by decide) rfl ?_
        refine V_goto (tgt := 50) dX12_story_129 rfl ?_
        exact V.sub (SubL_s (SubL_s (SubL_s (SubL_s (SubL_s (SubL_n (SubL_n (SubL_0)))))))) h
    · replace h := h.2 q
      refine V_aload_n dX12_story_65 rfl rfl ?_
      refine V_getR (k2 := 120) flX12_93 rfl rfl (by decide) dX12_story_66 ?_
      refine V_bipush dX12_story_69 (by decide) ?_
      refine V_iload_n dX12_story_71 rfl rfl ?_
      refine V_imul dX12_story_72 ?_
      refine V_iload dX12_story_73 rfl ?_
      refine V_iadd dX12_story_75 ?_
      refine V_iconst dX12_story_76 ?_
      obtain ⟨r8, h⟩ := h
      refine V_iast (rfl : shp[120]? = some (1, 441, 0)) r8 dX12_story_77 ?_
      refine V_goto (tgt := 126) dX12_story_78 rfl ?_
      refine V_iinc (L' := [some (vr 94), some (vi x1), some (vi x2), some (vi x3), some (vi (x4 + 1)), none, none]) dX12_story_126 rfl (by decide) rfl ?_
      refine V_goto (tgt := 50) dX12_story_129 rfl ?_
      exact V.sub (SubL_s (SubL_s (SubL_s (SubL_s (SubL_s (SubL_n (SubL_n (SubL_0)))))))) h

set_option maxRecDepth 100000 in
theorem BX12_bareSize_0 {σ : Sg} {post : Po} {x1 : Int} 
  (h : V mX12_bareSize 4 [some (vr 94), some (vi x1), some (vi 0), some (vi 0)] [] σ post) :
  V mX12_bareSize 0 [some (vr 94), some (vi x1), none, none] [] σ post := by
  refine V_iconst dX12_bareSize_0 ?_
  refine V_istore_n (L' := [some (vr 94), some (vi x1), some (vi 0), none]) dX12_bareSize_1 rfl (by decide) rfl ?_
  refine V_iconst dX12_bareSize_2 ?_
  refine V_istore_n (L' := [some (vr 94), some (vi x1), some (vi 0), some (vi 0)]) dX12_bareSize_3 rfl (by decide) rfl ?_
  exact V.sub (SubL_s (SubL_s (SubL_s (SubL_s (SubL_0))))) h
set_option maxRecDepth 100000 in
theorem BX12_bareSize_4 {σ : Sg} {post : Po} {x1 : Int} {x2 : Int} {x3 : Int} 
  (h : (0 ≤ x1 ∧ x1 < 112) ∧ ((rng x3) ∧ ((rng (σ 96 x1)) ∧ (((σ 96 x1) ≤ x3 → post (some (vi x2)) σ) ∧ (¬ (σ 96 x1) ≤ x3 → (0 ≤ ((12 * x1) + x3) ∧ ((12 * x1) + x3) < 1344) ∧ ((rng (σ 97 ((12 * x1) + x3))) ∧ (((σ 97 ((12 * x1) + x3)) = 95 → Cl mX12_one [vi 0] σ (pI fun z1 σ1 => V mX12_bareSize 4 [some (vr 94), some (vi x1), some (vi (x2 + z1)), some (vi (x3 + 1))] [] σ1 post)) ∧ (¬ (σ 97 ((12 * x1) + x3)) = 95 → Cl mX12_one [vi 1] σ (pI fun z2 σ2 => V mX12_bareSize 4 [some (vr 94), some (vi x1), some (vi (x2 + z2)), some (vi (x3 + 1))] [] σ2 post))))))))) :
  V mX12_bareSize 4 [some (vr 94), some (vi x1), some (vi x2), some (vi x3)] [] σ post := by
  refine V_iload_n dX12_bareSize_4 rfl rfl ?_
  refine V_aload_n dX12_bareSize_5 rfl rfl ?_
  refine V_getR (k2 := 96) flX12_13 rfl rfl (by decide) dX12_bareSize_6 ?_
  refine V_iload_n dX12_bareSize_9 rfl rfl ?_
  obtain ⟨r1, h⟩ := h
  refine V_iald (f := (σ 96 x1)) (rfl : shp[96]? = some (1, 112, 0)) r1 (rfl) dX12_bareSize_10 ?_
  obtain ⟨r2, h⟩ := h
  obtain ⟨r3, h⟩ := h
  refine V_icmp_ge (tgt := 47) dX12_bareSize_11 rfl r2 r3 (fun q => ?_) (fun q => ?_)
  · replace h := h.1 q
    refine V_iload_n dX12_bareSize_47 rfl rfl ?_
    exact V_ireturn (stk := []) rfl dX12_bareSize_48 h
  · replace h := h.2 q
    refine V_iload_n dX12_bareSize_14 rfl rfl ?_
    refine V_aload_n dX12_bareSize_15 rfl rfl ?_
    refine V_getR (k2 := 97) flX12_16 rfl rfl (by decide) dX12_bareSize_16 ?_
    refine V_bipush dX12_bareSize_19 (by decide) ?_
    refine V_iload_n dX12_bareSize_21 rfl rfl ?_
    refine V_imul dX12_bareSize_22 ?_
    refine V_iload_n dX12_bareSize_23 rfl rfl ?_
    refine V_iadd dX12_bareSize_24 ?_
    obtain ⟨r4, h⟩ := h
    refine V_iald (f := (σ 97 ((12 * x1) + x3))) (rfl : shp[97]? = some (1, 1344, 0)) r4 (rfl) dX12_bareSize_25 ?_
    refine V_bipush dX12_bareSize_26 (by decide) ?_
    obtain ⟨r5, h⟩ := h
    refine V_icmp_eq (tgt := 35) dX12_bareSize_28 rfl r5 (by decide) (fun q => ?_) (fun q => ?_)
    · replace h := h.1 q
      refine V_iconst dX12_bareSize_35 ?_
      refine V_callS (av := [vi 0]) (stk := [vi x2]) cvX12_271 rfl rfl (by decide) (by simp [ctg]) dX12_bareSize_36 h ?_
      rintro _ σ1 ⟨z1, rfl, h⟩
      refine V_iadd dX12_bareSize_39 ?_
      refine V_istore_n (L' := [some (vr 94), some (vi x1), some (vi (x2 + z1)), some (vi x3)]) dX12_bareSize_40 rfl (by decide) rfl ?_
      refine V_iinc (L' := [some (vr 94), some (vi x1), some (vi (x2 + z1)), some (vi (x3 + 1))]) dX12_bareSize_41 rfl (by decide) rfl ?_
      refine V_goto (tgt := 4) dX12_bareSize_44 rfl ?_
      exact V.sub (SubL_s (SubL_s (SubL_s (SubL_s (SubL_0))))) h
    · replace h := h.2 q
      refine V_iconst dX12_bareSize_31 ?_
      refine V_goto (tgt := 36) dX12_bareSize_32 rfl ?_
      refine V_callS (av := [vi 1]) (stk := [vi x2]) cvX12_271 rfl rfl (by decide) (by simp [ctg]) dX12_bareSize_36 h ?_
      rintro _ σ2 ⟨z2, rfl, h⟩
      refine V_iadd dX12_bareSize_39 ?_
      refine V_istore_n (L' := [some (vr 94), some (vi x1), some (vi (x2 + z2)), some (vi x3)]) dX12_bareSize_40 rfl (by decide) rfl ?_
      refine V_iinc (L' := [some (vr 94), some (vi x1), some (vi (x2 + z2)), some (vi (x3 + 1))]) dX12_bareSize_41 rfl (by decide) rfl ?_
      refine V_goto (tgt := 4) dX12_bareSize_44 rfl ?_
      exact V.sub (SubL_s (SubL_s (SubL_s (SubL_s (SubL_0))))) h

set_option maxRecDepth 100000 in
theorem BX12_bareAt_0 {σ : Sg} {post : Po} {x1 : Int} {x2 : Int} 
  (h : V mX12_bareAt 5 [some (vr 94), some (vi x1), some (vi x2), some (vi 0), some (vi 0), none] [] σ post) :
  V mX12_bareAt 0 [some (vr 94), some (vi x1), some (vi x2), none, none, none] [] σ post := by
  refine V_iconst dX12_bareAt_0 ?_
  refine V_istore_n (L' := [some (vr 94), some (vi x1), some (vi x2), some (vi 0), none, none]) dX12_bareAt_1 rfl (by decide) rfl ?_
  refine V_iconst dX12_bareAt_2 ?_
  refine V_istore (L' := [some (vr 94), some (vi x1), some (vi x2), some (vi 0), some (vi 0), none]) dX12_bareAt_3 (by decide) rfl ?_
  exact V.sub (SubL_s (SubL_s (SubL_s (SubL_s (SubL_s (SubL_n (SubL_0))))))) h
set_option maxRecDepth 100000 in
theorem BX12_bareAt_5 {σ : Sg} {post : Po} {x1 : Int} {x2 : Int} {x3 : Int} {x4 : Int} 
  (h : (0 ≤ x1 ∧ x1 < 112) ∧ ((rng x4) ∧ ((rng (σ 96 x1)) ∧ (((σ 96 x1) ≤ x4 → post (some (vi 0)) σ) ∧ (¬ (σ 96 x1) ≤ x4 → (0 ≤ ((12 * x1) + x4) ∧ ((12 * x1) + x4) < 1344) ∧ ((rng (σ 97 ((12 * x1) + x4))) ∧ (((σ 97 ((12 * x1) + x4)) = 95 → ((σ 97 ((12 * x1) + x4)) = 95 → Cl mX12_one [vi 0] σ (pI fun z1 σ1 => V mX12_bareAt 5 [some (vr 94), some (vi x1), some (vi x2), some (vi (x3 + z1)), some (vi (x4 + 1)), none] [] σ1 post)) ∧ (¬ (σ 97 ((12 * x1) + x4)) = 95 → Cl mX12_one [vi 1] σ (pI fun z2 σ2 => V mX12_bareAt 5 [some (vr 94), some (vi x1), some (vi x2), some (vi (x3 + z2)), some (vi (x4 + 1)), none] [] σ2 post))) ∧ (¬ (σ 97 ((12 * x1) + x4)) = 95 → (rng x3) ∧ ((rng x2) ∧ ((¬ x3 = x2 → ((σ 97 ((12 * x1) + x4)) = 95 → Cl mX12_one [vi 0] σ (pI fun z3 σ3 => V mX12_bareAt 5 [some (vr 94), some (vi x1), some (vi x2), some (vi (x3 + z3)), some (vi (x4 + 1)), none] [] σ3 post)) ∧ (¬ (σ 97 ((12 * x1) + x4)) = 95 → Cl mX12_one [vi 1] σ (pI fun z4 σ4 => V mX12_bareAt 5 [some (vr 94), some (vi x1), some (vi x2), some (vi (x3 + z4)), some (vi (x4 + 1)), none] [] σ4 post))) ∧ (x3 = x2 → post (some (vi (σ 97 ((12 * x1) + x4)))) σ))))))))))) :
  V mX12_bareAt 5 [some (vr 94), some (vi x1), some (vi x2), some (vi x3), some (vi x4), none] [] σ post := by
  refine V_iload dX12_bareAt_5 rfl ?_
  refine V_aload_n dX12_bareAt_7 rfl rfl ?_
  refine V_getR (k2 := 96) flX12_13 rfl rfl (by decide) dX12_bareAt_8 ?_
  refine V_iload_n dX12_bareAt_11 rfl rfl ?_
  obtain ⟨r1, h⟩ := h
  refine V_iald (f := (σ 96 x1)) (rfl : shp[96]? = some (1, 112, 0)) r1 (rfl) dX12_bareAt_12 ?_
  obtain ⟨r2, h⟩ := h
  obtain ⟨r3, h⟩ := h
  refine V_icmp_ge (tgt := 69) dX12_bareAt_13 rfl r2 r3 (fun q => ?_) (fun q => ?_)
  · replace h := h.1 q
    refine V_iconst dX12_bareAt_69 ?_
    exact V_ireturn (stk := []) rfl dX12_bareAt_70 h
  · replace h := h.2 q
    refine V_aload_n dX12_bareAt_16 rfl rfl ?_
    refine V_getR (k2 := 97) flX12_16 rfl rfl (by decide) dX12_bareAt_17 ?_
    refine V_bipush dX12_bareAt_20 (by decide) ?_
    refine V_iload_n dX12_bareAt_22 rfl rfl ?_
    refine V_imul dX12_bareAt_23 ?_
    refine V_iload dX12_bareAt_24 rfl ?_
    refine V_iadd dX12_bareAt_26 ?_
    obtain ⟨r4, h⟩ := h
    refine V_iald (f := (σ 97 ((12 * x1) + x4))) (rfl : shp[97]? = some (1, 1344, 0)) r4 (rfl) dX12_bareAt_27 ?_
    refine V_istore (L' := [some (vr 94), some (vi x1), some (vi x2), some (vi x3), some (vi x4), some (vi (σ 97 ((12 * x1) + x4)))]) dX12_bareAt_28 (by decide) rfl ?_
    refine V_iload dX12_bareAt_30 rfl ?_
    refine V_bipush dX12_bareAt_32 (by decide) ?_
    obtain ⟨r5, h⟩ := h
    refine V_icmp_eq (tgt := 45) dX12_bareAt_34 rfl r5 (by decide) (fun q => ?_) (fun q => ?_)
    · replace h := h.1 q
      refine V_iload_n dX12_bareAt_45 rfl rfl ?_
      refine V_iload dX12_bareAt_46 rfl ?_
      refine V_bipush dX12_bareAt_48 (by decide) ?_
      refine V_icmp_eq (tgt := 57) dX12_bareAt_50 rfl r5 (by decide) (fun q => ?_) (fun q => ?_)
      · replace h := h.1 q
        refine V_iconst dX12_bareAt_57 ?_
        refine V_callS (av := [vi 0]) (stk := [vi x3]) cvX12_271 rfl rfl (by decide) (by simp [ctg]) dX12_bareAt_58 h ?_
        rintro _ σ1 ⟨z1, rfl, h⟩
        refine V_iadd dX12_bareAt_61 ?_
        refine V_istore_n (L' := [some (vr 94), some (vi x1), some (vi x2), some (vi (x3 + z1)), some (vi x4), some (vi (σ 97 ((12 * x1) + x4)))]) dX12_bareAt_62 rfl (by decide) rfl ?_
        refine V_iinc (L' := [some (vr 94), some (vi x1), some (vi x2), some (vi (x3 + z1)), some (vi (x4 + 1)), some (vi (σ 97 ((12 * x1) + x4)))]) dX12_bareAt_63 rfl (by decide) rfl ?_
        refine V_goto (tgt := 5) dX12_bareAt_66 rfl ?_
        exact V.sub (SubL_s (SubL_s (SubL_s (SubL_s (SubL_s (SubL_n (SubL_0))))))) h
      · replace h := h.2 q
        refine V_iconst dX12_bareAt_53 ?_
        refine V_goto (tgt := 58) dX12_bareAt_54 rfl ?_
        refine V_callS (av := [vi 1]) (stk := [vi x3]) cvX12_271 rfl rfl (by decide) (by simp [ctg]) dX12_bareAt_58 h ?_
        rintro _ σ2 ⟨z2, rfl, h⟩
        refine V_iadd dX12_bareAt_61 ?_
        refine V_istore_n (L' := [some (vr 94), some (vi x1), some (vi x2), some (vi (x3 + z2)), some (vi x4), some (vi (σ 97 ((12 * x1) + x4)))]) dX12_bareAt_62 rfl (by decide) rfl ?_
        refine V_iinc (L' := [some (vr 94), some (vi x1), some (vi x2), some (vi (x3 + z2)), some (vi (x4 + 1)), some (vi (σ 97 ((12 * x1) + x4)))]) dX12_bareAt_63 rfl (by decide) rfl ?_
        refine V_goto (tgt := 5) dX12_bareAt_66 rfl ?_
        exact V.sub (SubL_s (SubL_s (SubL_s (SubL_s (SubL_s (SubL_n (SubL_0))))))) h
    · replace h := h.2 q
      refine V_iload_n dX12_bareAt_37 rfl rfl ?_
      refine V_iload_n dX12_bareAt_38 rfl rfl ?_
      obtain ⟨r6, h⟩ := h
      obtain ⟨r7, h⟩ := h
      refine V_icmp_ne (tgt := 45) dX12_bareAt_39 rfl r6 r7 (fun q => ?_) (fun q => ?_)
      · replace h := h.1 q
        refine V_iload_n dX12_bareAt_45 rfl rfl ?_
        refine V_iload dX12_bareAt_46 rfl ?_
        refine V_bipush dX12_bareAt_48 (by decide) ?_
        refine V_icmp_eq (tgt := 57) dX12_bareAt_50 rfl r5 (by decide) (fun q => ?_) (fun q => ?_)
        · replace h := h.1 q
          refine V_iconst dX12_bareAt_57 ?_
          refine V_callS (av := [vi 0]) (stk := [vi x3]) cvX12_271 rfl rfl (by decide) (by simp [ctg]) dX12_bareAt_58 h ?_
          rintro _ σ3 ⟨z3, rfl, h⟩
          refine V_iadd dX12_bareAt_61 ?_
          refine V_istore_n (L' := [some (vr 94), some (vi x1), some (vi x2), some (vi (x3 + z3)), some (vi x4), some (vi (σ 97 ((12 * x1) + x4)))]) dX12_bareAt_62 rfl (by decide) rfl ?_
          refine V_iinc (L' := [some (vr 94), some (vi x1), some (vi x2), some (vi (x3 + z3)), some (vi (x4 + 1)), some (vi (σ 97 ((12 * x1) + x4)))]) dX12_bareAt_63 rfl (by decide) rfl ?_
          refine V_goto (tgt := 5) dX12_bareAt_66 rfl ?_
          exact V.sub (SubL_s (SubL_s (SubL_s (SubL_s (SubL_s (SubL_n (SubL_0))))))) h
        · replace h := h.2 q
          refine V_iconst dX12_bareAt_53 ?_
          refine V_goto (tgt := 58) dX12_bareAt_54 rfl ?_
          refine V_callS (av := [vi 1]) (stk := [vi x3]) cvX12_271 rfl rfl (by decide) (by simp [ctg]) dX12_bareAt_58 h ?_
          rintro _ σ4 ⟨z4, rfl, h⟩
          refine V_iadd dX12_bareAt_61 ?_
          refine V_istore_n (L' := [some (vr 94), some (vi x1), some (vi x2), some (vi (x3 + z4)), some (vi x4), some (vi (σ 97 ((12 * x1) + x4)))]) dX12_bareAt_62 rfl (by decide) rfl ?_
          refine V_iinc (L' := [some (vr 94), some (vi x1), some (vi x2), some (vi (x3 + z4)), some (vi (x4 + 1)), some (vi (σ 97 ((12 * x1) + x4)))]) dX12_bareAt_63 rfl (by decide) rfl ?_
          refine V_goto (tgt := 5) dX12_bareAt_66 rfl ?_
          exact V.sub (SubL_s (SubL_s (SubL_s (SubL_s (SubL_s (SubL_n (SubL_0))))))) h
      · replace h := h.2 q
        refine V_iload dX12_bareAt_42 rfl ?_
        exact V_ireturn (stk := []) rfl dX12_bareAt_44 h

set_option maxRecDepth 100000 in
theorem BX12_headAlike_0 {σ : Sg} {post : Po} {x1 : Int} {x2 : Int} 
  (h : V mX12_headAlike 2 [some (vr 94), some (vi x1), some (vi x2), some (vi 0)] [] σ post) :
  V mX12_headAlike 0 [some (vr 94), some (vi x1), some (vi x2), none] [] σ post := by
  refine V_iconst dX12_headAlike_0 ?_
  refine V_istore_n (L' := [some (vr 94), some (vi x1), some (vi x2), some (vi 0)]) dX12_headAlike_1 rfl (by decide) rfl ?_
  exact V.sub (SubL_s (SubL_s (SubL_s (SubL_s (SubL_0))))) h
set_option maxRecDepth 100000 in
theorem BX12_headAlike_2 {σ : Sg} {post : Po} {x1 : Int} {x2 : Int} {x3 : Int} 
  (h : Cl mX12_bareSize [vr 94, vi x1] σ (pI fun z1 σ1 => (rng x3) ∧ ((rng z1) ∧ ((z1 ≤ x3 → post (some (vi x3)) σ1) ∧ (¬ z1 ≤ x3 → Cl mX12_bareSize [vr 94, vi x2] σ1 (pI fun z2 σ2 => (rng z2) ∧ ((z2 ≤ x3 → post (some (vi x3)) σ2) ∧ (¬ z2 ≤ x3 → Cl mX12_bareAt [vr 94, vi x1, vi x3] σ2 (pI fun z3 σ3 => Cl mX12_bareAt [vr 94, vi x2, vi x3] σ3 (pI fun z4 σ4 => (rng z3) ∧ ((rng z4) ∧ ((¬ z3 = z4 → post (some (vi x3)) σ4) ∧ (z3 = z4 → V mX12_headAlike 2 [some (vr 94), some (vi x1), some (vi x2), some (vi (x3 + 1))] [] σ4 post))))))))))))) :
  V mX12_headAlike 2 [some (vr 94), some (vi x1), some (vi x2), some (vi x3)] [] σ post := by
  refine V_iload_n dX12_headAlike_2 rfl rfl ?_
  refine V_aload_n dX12_headAlike_3 rfl rfl ?_
  refine V_iload_n dX12_headAlike_4 rfl rfl ?_
  refine V_callV (av := [vi x1]) (stk := [vi x3]) cvX12_485 rfl rfl rfl (by decide) (by simp [ctg]) dX12_headAlike_5 h ?_
  rintro _ σ1 ⟨z1, rfl, h⟩
  obtain ⟨r1, h⟩ := h
  obtain ⟨r2, h⟩ := h
  refine V_icmp_ge (tgt := 41) dX12_headAlike_8 rfl r1 r2 (fun q => ?_) (fun q => ?_)
  · replace h := h.1 q
    refine V_iload_n dX12_headAlike_41 rfl rfl ?_
    exact V_ireturn (stk := []) rfl dX12_headAlike_42 h
  · replace h := h.2 q
    refine V_iload_n dX12_headAlike_11 rfl rfl ?_
    refine V_aload_n dX12_headAlike_12 rfl rfl ?_
    refine V_iload_n dX12_headAlike_13 rfl rfl ?_
    refine V_callV (av := [vi x2]) (stk := [vi x3]) cvX12_485 rfl rfl rfl (by decide) (by simp [ctg]) dX12_headAlike_14 h ?_
    rintro _ σ2 ⟨z2, rfl, h⟩
    obtain ⟨r3, h⟩ := h
    refine V_icmp_ge (tgt := 41) dX12_headAlike_17 rfl r1 r3 (fun q => ?_) (fun q => ?_)
    · replace h := h.1 q
      refine V_iload_n dX12_headAlike_41 rfl rfl ?_
      exact V_ireturn (stk := []) rfl dX12_headAlike_42 h
    · replace h := h.2 q
      refine V_aload_n dX12_headAlike_20 rfl rfl ?_
      refine V_iload_n dX12_headAlike_21 rfl rfl ?_
      refine V_iload_n dX12_headAlike_22 rfl rfl ?_
      refine V_callV (av := [vi x1, vi x3]) (stk := []) cvX12_488 rfl rfl rfl (by decide) (by simp [ctg]) dX12_headAlike_23 h ?_
      rintro _ σ3 ⟨z3, rfl, h⟩
      refine V_aload_n dX12_headAlike_26 rfl rfl ?_
      refine V_iload_n dX12_headAlike_27 rfl rfl ?_
      refine V_iload_n dX12_headAlike_28 rfl rfl ?_
      refine V_callV (av := [vi x2, vi x3]) (stk := [vi z3]) cvX12_488 rfl rfl rfl (by decide) (by simp [ctg]) dX12_headAlike_29 h ?_
      rintro _ σ4 ⟨z4, rfl, h⟩
      obtain ⟨r4, h⟩ := h
      obtain ⟨r5, h⟩ := h
      refine V_icmp_ne (tgt := 41) dX12_headAlike_32 rfl r4 r5 (fun q => ?_) (fun q => ?_)
      · replace h := h.1 q
        refine V_iload_n dX12_headAlike_41 rfl rfl ?_
        exact V_ireturn (stk := []) rfl dX12_headAlike_42 h
      · replace h := h.2 q
        refine V_iinc (L' := [some (vr 94), some (vi x1), some (vi x2), some (vi (x3 + 1))]) dX12_headAlike_35 rfl (by decide) rfl ?_
        refine V_goto (tgt := 2) dX12_headAlike_38 rfl ?_
        exact V.sub (SubL_s (SubL_s (SubL_s (SubL_s (SubL_0))))) h

set_option maxRecDepth 100000 in
theorem BX12_tailAlike_0 {σ : Sg} {post : Po} {x1 : Int} {x2 : Int} 
  (h : Cl mX12_bareSize [vr 94, vi x1] σ (pI fun z1 σ1 => Cl mX12_bareSize [vr 94, vi x2] σ1 (pI fun z2 σ2 => V mX12_tailAlike 16 [some (vr 94), some (vi x1), some (vi x2), some (vi z1), some (vi z2), some (vi 0)] [] σ2 post))) :
  V mX12_tailAlike 0 [some (vr 94), some (vi x1), some (vi x2), none, none, none] [] σ post := by
  refine V_aload_n dX12_tailAlike_0 rfl rfl ?_
  refine V_iload_n dX12_tailAlike_1 rfl rfl ?_
  refine V_callV (av := [vi x1]) (stk := []) cvX12_485 rfl rfl rfl (by decide) (by simp [ctg]) dX12_tailAlike_2 h ?_
  rintro _ σ1 ⟨z1, rfl, h⟩
  refine V_istore_n (L' := [some (vr 94), some (vi x1), some (vi x2), some (vi z1), none, none]) dX12_tailAlike_5 rfl (by decide) rfl ?_
  refine V_aload_n dX12_tailAlike_6 rfl rfl ?_
  refine V_iload_n dX12_tailAlike_7 rfl rfl ?_
  refine V_callV (av := [vi x2]) (stk := []) cvX12_485 rfl rfl rfl (by decide) (by simp [ctg]) dX12_tailAlike_8 h ?_
  rintro _ σ2 ⟨z2, rfl, h⟩
  refine V_istore (L' := [some (vr 94), some (vi x1), some (vi x2), some (vi z1), some (vi z2), none]) dX12_tailAlike_11 (by decide) rfl ?_
  refine V_iconst dX12_tailAlike_13 ?_
  refine V_istore (L' := [some (vr 94), some (vi x1), some (vi x2), some (vi z1), some (vi z2), some (vi 0)]) dX12_tailAlike_14 (by decide) rfl ?_
  exact V.sub (SubL_s (SubL_s (SubL_s (SubL_s (SubL_s (SubL_s (SubL_0))))))) h
set_option maxRecDepth 100000 in
theorem BX12_tailAlike_16 {σ : Sg} {post : Po} {x1 : Int} {x2 : Int} {x3 : Int} {x4 : Int} {x5 : Int} 
  (h : (rng x5) ∧ ((rng x3) ∧ ((x3 ≤ x5 → post (some (vi x5)) σ) ∧ (¬ x3 ≤ x5 → (rng x4) ∧ ((x4 ≤ x5 → post (some (vi x5)) σ) ∧ (¬ x4 ≤ x5 → Cl mX12_bareAt [vr 94, vi x1, vi ((x3 - 1) - x5)] σ (pI fun z1 σ1 => Cl mX12_bareAt [vr 94, vi x2, vi ((x4 - 1) - x5)] σ1 (pI fun z2 σ2 => (rng z1) ∧ ((rng z2) ∧ ((¬ z1 = z2 → post (some (vi x5)) σ2) ∧ (z1 = z2 → V mX12_tailAlike 16 [some (vr 94), some (vi x1), some (vi x2), some (vi x3), some (vi x4), some (vi (x5 + 1))] [] σ2 post))))))))))) :
  V mX12_tailAlike 16 [some (vr 94), some (vi x1), some (vi x2), some (vi x3), some (vi x4), some (vi x5)] [] σ post := by
  refine V_iload dX12_tailAlike_16 rfl ?_
  refine V_iload_n dX12_tailAlike_18 rfl rfl ?_
  obtain ⟨r1, h⟩ := h
  obtain ⟨r2, h⟩ := h
  refine V_icmp_ge (tgt := 61) dX12_tailAlike_19 rfl r1 r2 (fun q => ?_) (fun q => ?_)
  · replace h := h.1 q
    refine V_iload dX12_tailAlike_61 rfl ?_
    exact V_ireturn (stk := []) rfl dX12_tailAlike_63 h
  · replace h := h.2 q
    refine V_iload dX12_tailAlike_22 rfl ?_
    refine V_iload dX12_tailAlike_24 rfl ?_
    obtain ⟨r3, h⟩ := h
    refine V_icmp_ge (tgt := 61) dX12_tailAlike_26 rfl r1 r3 (fun q => ?_) (fun q => ?_)
    · replace h := h.1 q
      refine V_iload dX12_tailAlike_61 rfl ?_
      exact V_ireturn (stk := []) rfl dX12_tailAlike_63 h
    · replace h := h.2 q
      refine V_aload_n dX12_tailAlike_29 rfl rfl ?_
      refine V_iload_n dX12_tailAlike_30 rfl rfl ?_
      refine V_iload_n dX12_tailAlike_31 rfl rfl ?_
      refine V_iconst dX12_tailAlike_32 ?_
      refine V_isub dX12_tailAlike_33 ?_
      refine V_iload dX12_tailAlike_34 rfl ?_
      refine V_isub dX12_tailAlike_36 ?_
      refine V_callV (av := [vi x1, vi ((x3 - 1) - x5)]) (stk := []) cvX12_488 rfl rfl rfl (by decide) (by simp [ctg]) dX12_tailAlike_37 h ?_
      rintro _ σ1 ⟨z1, rfl, h⟩
      refine V_aload_n dX12_tailAlike_40 rfl rfl ?_
      refine V_iload_n dX12_tailAlike_41 rfl rfl ?_
      refine V_iload dX12_tailAlike_42 rfl ?_
      refine V_iconst dX12_tailAlike_44 ?_
      refine V_isub dX12_tailAlike_45 ?_
      refine V_iload dX12_tailAlike_46 rfl ?_
      refine V_isub dX12_tailAlike_48 ?_
      refine V_callV (av := [vi x2, vi ((x4 - 1) - x5)]) (stk := [vi z1]) cvX12_488 rfl rfl rfl (by decide) (by simp [ctg]) dX12_tailAlike_49 h ?_
      rintro _ σ2 ⟨z2, rfl, h⟩
      obtain ⟨r4, h⟩ := h
      obtain ⟨r5, h⟩ := h
      refine V_icmp_ne (tgt := 61) dX12_tailAlike_52 rfl r4 r5 (fun q => ?_) (fun q => ?_)
      · replace h := h.1 q
        refine V_iload dX12_tailAlike_61 rfl ?_
        exact V_ireturn (stk := []) rfl dX12_tailAlike_63 h
      · replace h := h.2 q
        refine V_iinc (L' := [some (vr 94), some (vi x1), some (vi x2), some (vi x3), some (vi x4), some (vi (x5 + 1))]) dX12_tailAlike_55 rfl (by decide) rfl ?_
        refine V_goto (tgt := 16) dX12_tailAlike_58 rfl ?_
        exact V.sub (SubL_s (SubL_s (SubL_s (SubL_s (SubL_s (SubL_s (SubL_0))))))) h

set_option maxRecDepth 100000 in
theorem BX12_isPlural_0 {σ : Sg} {post : Po} {x1 : Int} {x2 : Int} 
  (h : Cl mX12_bareSize [vr 94, vi x1] σ (pI fun z1 σ1 => Cl mX12_bareSize [vr 94, vi x2] σ1 (pI fun z2 σ2 => (rng z2) ∧ ((rng (z1 + 1)) ∧ ((¬ z2 = (z1 + 1) → post (some (vi 0)) σ2) ∧ (z2 = (z1 + 1) → Cl mX12_headAlike [vr 94, vi x1, vi x2] σ2 (pI fun z3 σ3 => (rng z3) ∧ ((rng z1) ∧ ((¬ z3 = z1 → post (some (vi 0)) σ3) ∧ (z3 = z1 → Cl mX12_bareAt [vr 94, vi x2, vi z1] σ3 (pI fun z4 σ4 => (rng z4) ∧ ((¬ z4 = 115 → post (some (vi 0)) σ4) ∧ (z4 = 115 → post (some (vi 1)) σ4))))))))))))) :
  V mX12_isPlural 0 [some (vr 94), some (vi x1), some (vi x2), none] [] σ post := by
  refine V_aload_n dX12_isPlural_0 rfl rfl ?_
  refine V_iload_n dX12_isPlural_1 rfl rfl ?_
  refine V_callV (av := [vi x1]) (stk := []) cvX12_485 rfl rfl rfl (by decide) (by simp [ctg]) dX12_isPlural_2 h ?_
  rintro _ σ1 ⟨z1, rfl, h⟩
  refine V_istore_n (L' := [some (vr 94), some (vi x1), some (vi x2), some (vi z1)]) dX12_isPlural_5 rfl (by decide) rfl ?_
  refine V_aload_n dX12_isPlural_6 rfl rfl ?_
  refine V_iload_n dX12_isPlural_7 rfl rfl ?_
  refine V_callV (av := [vi x2]) (stk := []) cvX12_485 rfl rfl rfl (by decide) (by simp [ctg]) dX12_isPlural_8 h ?_
  rintro _ σ2 ⟨z2, rfl, h⟩
  refine V_iload_n dX12_isPlural_11 rfl rfl ?_
  refine V_iconst dX12_isPlural_12 ?_
  refine V_iadd dX12_isPlural_13 ?_
  obtain ⟨r1, h⟩ := h
  obtain ⟨r2, h⟩ := h
  refine V_icmp_ne (tgt := 42) dX12_isPlural_14 rfl r1 r2 (fun q => ?_) (fun q => ?_)
  · replace h := h.1 q
    refine V_iconst dX12_isPlural_42 ?_
    exact V_zreturn (stk := []) rfl dX12_isPlural_43 (by decide) h
  · replace h := h.2 q
    refine V_aload_n dX12_isPlural_17 rfl rfl ?_
    refine V_iload_n dX12_isPlural_18 rfl rfl ?_
    refine V_iload_n dX12_isPlural_19 rfl rfl ?_
    refine V_callV (av := [vi x1, vi x2]) (stk := []) cvX12_491 rfl rfl rfl (by decide) (by simp [ctg]) dX12_isPlural_20 h ?_
    rintro _ σ3 ⟨z3, rfl, h⟩
    refine V_iload_n dX12_isPlural_23 rfl rfl ?_
    obtain ⟨r3, h⟩ := h
    obtain ⟨r4, h⟩ := h
    refine V_icmp_ne (tgt := 42) dX12_isPlural_24 rfl r3 r4 (fun q => ?_) (fun q => ?_)
    · replace h := h.1 q
      refine V_iconst dX12_isPlural_42 ?_
      exact V_zreturn (stk := []) rfl dX12_isPlural_43 (by decide) h
    · replace h := h.2 q
      refine V_aload_n dX12_isPlural_27 rfl rfl ?_
      refine V_iload_n dX12_isPlural_28 rfl rfl ?_
      refine V_iload_n dX12_isPlural_29 rfl rfl ?_
      refine V_callV (av := [vi x2, vi z1]) (stk := []) cvX12_488 rfl rfl rfl (by decide) (by simp [ctg]) dX12_isPlural_30 h ?_
      rintro _ σ4 ⟨z4, rfl, h⟩
      refine V_bipush dX12_isPlural_33 (by decide) ?_
      obtain ⟨r5, h⟩ := h
      refine V_icmp_ne (tgt := 42) dX12_isPlural_35 rfl r5 (by decide) (fun q => ?_) (fun q => ?_)
      · replace h := h.1 q
        refine V_iconst dX12_isPlural_42 ?_
        exact V_zreturn (stk := []) rfl dX12_isPlural_43 (by decide) h
      · replace h := h.2 q
        refine V_iconst dX12_isPlural_38 ?_
        refine V_goto (tgt := 43) dX12_isPlural_39 rfl ?_
        exact V_zreturn (stk := []) rfl dX12_isPlural_43 (by decide) h

set_option maxRecDepth 100000 in
theorem BX12_near_0 {σ : Sg} {post : Po} {x1 : Int} {x2 : Int} 
  (h : Cl mX12_noHead [vr 94, vi x1] σ (pI fun z1 σ1 => (rng z1) ∧ ((¬ z1 = 0 → post (some (vi (-1001))) σ1) ∧ (z1 = 0 → Cl mX12_noHead [vr 94, vi x2] σ1 (pI fun z2 σ2 => (rng z2) ∧ ((¬ z2 = 0 → post (some (vi (-1001))) σ2) ∧ (z2 = 0 → (rng x1) ∧ ((rng x2) ∧ ((¬ x1 = x2 → Cl mX12_slot [vi x1, vi (-1)] σ2 (pI fun z3 σ3 => Cl mX12_slot [vi x2, vi (-1)] σ3 (pI fun z4 σ4 => Cl mX12_bareSize [vr 94, vi z3] σ4 (pI fun z5 σ5 => Cl mX12_bareSize [vr 94, vi z4] σ5 (pI fun z6 σ6 => Cl mX12_headAlike [vr 94, vi z3, vi z4] σ6 (pI fun z7 σ7 => (rng z5) ∧ ((rng z6) ∧ ((¬ z5 = z6 → Cl mX12_isPlural [vr 94, vi z3, vi z4] σ7 (pI fun z8 σ8 => (rng z8) ∧ ((¬ z8 = 0 → post (some (vi 2)) σ8) ∧ (z8 = 0 → Cl mX12_isPlural [vr 94, vi z4, vi z3] σ8 (pI fun z9 σ9 => (rng z9) ∧ ((z9 = 0 → Cl mX12_tailAlike [vr 94, vi z3, vi z4] σ9 (pI fun z10 σ10 => (z5 ≤ z6 → (z5 = z6 → (rng (z7 + z10)) ∧ ((rng (z6 - 1)) ∧ (((z7 + z10) < (z6 - 1) → post (some (vi 0)) σ10) ∧ (¬ (z7 + z10) < (z6 - 1) → post (some (vi 3)) σ10)))) ∧ (¬ z5 = z6 → (rng (z6 + 1)) ∧ ((z5 = (z6 + 1) → (rng (z7 + z10)) ∧ ((rng (z6 - 1)) ∧ (((z7 + z10) < (z6 - 1) → post (some (vi 0)) σ10) ∧ (¬ (z7 + z10) < (z6 - 1) → post (some (vi 3)) σ10)))) ∧ (¬ z5 = (z6 + 1) → (rng (z5 + 1)) ∧ ((¬ z6 = (z5 + 1) → post (some (vi 0)) σ10) ∧ (z6 = (z5 + 1) → (rng (z7 + z10)) ∧ ((rng (z6 - 1)) ∧ (((z7 + z10) < (z6 - 1) → post (some (vi 0)) σ10) ∧ (¬ (z7 + z10) < (z6 - 1) → post (some (vi 3)) σ10))))))))) ∧ (¬ z5 ≤ z6 → (z5 = z6 → (rng (z7 + z10)) ∧ ((rng (z5 - 1)) ∧ (((z7 + z10) < (z5 - 1) → post (some (vi 0)) σ10) ∧ (¬ (z7 + z10) < (z5 - 1) → post (some (vi 3)) σ10)))) ∧ (¬ z5 = z6 → (rng (z6 + 1)) ∧ ((z5 = (z6 + 1) → (rng (z7 + z10)) ∧ ((rng (z5 - 1)) ∧ (((z7 + z10) < (z5 - 1) → post (some (vi 0)) σ10) ∧ (¬ (z7 + z10) < (z5 - 1) → post (some (vi 3)) σ10)))) ∧ (¬ z5 = (z6 + 1) → (rng (z5 + 1)) ∧ ((¬ z6 = (z5 + 1) → post (some (vi 0)) σ10) ∧ (z6 = (z5 + 1) → (rng (z7 + z10)) ∧ ((rng (z5 - 1)) ∧ (((z7 + z10) < (z5 - 1) → post (some (vi 0)) σ10) ∧ (¬ (z7 + z10) < (z5 - 1) → post (some (vi 3)) σ10))))))))))) ∧ (¬ z9 = 0 → post (some (vi 2)) σ9))))))) ∧ (z5 = z6 → (rng z7) ∧ ((¬ z7 = z5 → Cl mX12_isPlural [vr 94, vi z3, vi z4] σ7 (pI fun z11 σ11 => (rng z11) ∧ ((¬ z11 = 0 → post (some (vi 2)) σ11) ∧ (z11 = 0 → Cl mX12_isPlural [vr 94, vi z4, vi z3] σ11 (pI fun z12 σ12 => (rng z12) ∧ ((z12 = 0 → Cl mX12_tailAlike [vr 94, vi z3, vi z4] σ12 (pI fun z13 σ13 => (z5 ≤ z6 → (z5 = z6 → (rng (z7 + z13)) ∧ ((rng (z6 - 1)) ∧ (((z7 + z13) < (z6 - 1) → post (some (vi 0)) σ13) ∧ (¬ (z7 + z13) < (z6 - 1) → post (some (vi 3)) σ13)))) ∧ (¬ z5 = z6 → (rng (z6 + 1)) ∧ ((z5 = (z6 + 1) → (rng (z7 + z13)) ∧ ((rng (z6 - 1)) ∧ (((z7 + z13) < (z6 - 1) → post (some (vi 0)) σ13) ∧ (¬ (z7 + z13) < (z6 - 1) → post (some (vi 3)) σ13)))) ∧ (¬ z5 = (z6 + 1) → (rng (z5 + 1)) ∧ ((¬ z6 = (z5 + 1) → post (some (vi 0)) σ13) ∧ (z6 = (z5 + 1) → (rng (z7 + z13)) ∧ ((rng (z6 - 1)) ∧ (((z7 + z13) < (z6 - 1) → post (some (vi 0)) σ13) ∧ (¬ (z7 + z13) < (z6 - 1) → post (some (vi 3)) σ13))))))))) ∧ (¬ z5 ≤ z6 → (z5 = z6 → (rng (z7 + z13)) ∧ ((rng (z5 - 1)) ∧ (((z7 + z13) < (z5 - 1) → post (some (vi 0)) σ13) ∧ (¬ (z7 + z13) < (z5 - 1) → post (some (vi 3)) σ13)))) ∧ (¬ z5 = z6 → (rng (z6 + 1)) ∧ ((z5 = (z6 + 1) → (rng (z7 + z13)) ∧ ((rng (z5 - 1)) ∧ (((z7 + z13) < (z5 - 1) → post (some (vi 0)) σ13) ∧ (¬ (z7 + z13) < (z5 - 1) → post (some (vi 3)) σ13)))) ∧ (¬ z5 = (z6 + 1) → (rng (z5 + 1)) ∧ ((¬ z6 = (z5 + 1) → post (some (vi 0)) σ13) ∧ (z6 = (z5 + 1) → (rng (z7 + z13)) ∧ ((rng (z5 - 1)) ∧ (((z7 + z13) < (z5 - 1) → post (some (vi 0)) σ13) ∧ (¬ (z7 + z13) < (z5 - 1) → post (some (vi 3)) σ13))))))))))) ∧ (¬ z12 = 0 → post (some (vi 2)) σ12))))))) ∧ (z7 = z5 → post (some (vi 1)) σ7))))))))))) ∧ (x1 = x2 → post (some (vi (-1001))) σ2)))))))))) :
  V mX12_near 0 [some (vr 94), some (vi x1), some (vi x2), none, none, none, none, none, none, none, none] [] σ post := by
  refine V_aload_n dX12_near_0 rfl rfl ?_
  refine V_iload_n dX12_near_1 rfl rfl ?_
  refine V_callV (av := [vi x1]) (stk := []) cvX12_293 rfl rfl rfl (by decide) (by simp [ctg]) dX12_near_2 h ?_
  rintro _ σ1 ⟨z1, rfl, h⟩
  obtain ⟨r1, h⟩ := h
  refine V_if_ne (tgt := 21) dX12_near_5 rfl r1 (fun q => ?_) (fun q => ?_)
  · replace h := h.1 q
    refine V_sipush dX12_near_21 (by decide) ?_
    exact V_ireturn (stk := []) rfl dX12_near_24 h
  · replace h := h.2 q
    refine V_aload_n dX12_near_8 rfl rfl ?_
    refine V_iload_n dX12_near_9 rfl rfl ?_
    refine V_callV (av := [vi x2]) (stk := []) cvX12_293 rfl rfl rfl (by decide) (by simp [ctg]) dX12_near_10 h ?_
    rintro _ σ2 ⟨z2, rfl, h⟩
    obtain ⟨r2, h⟩ := h
    refine V_if_ne (tgt := 21) dX12_near_13 rfl r2 (fun q => ?_) (fun q => ?_)
    · replace h := h.1 q
      refine V_sipush dX12_near_21 (by decide) ?_
      exact V_ireturn (stk := []) rfl dX12_near_24 h
    · replace h := h.2 q
      refine V_iload_n dX12_near_16 rfl rfl ?_
      refine V_iload_n dX12_near_17 rfl rfl ?_
      obtain ⟨r3, h⟩ := h
      obtain ⟨r4, h⟩ := h
      refine V_icmp_ne (tgt := 25) dX12_near_18 rfl r3 r4 (fun q => ?_) (fun q => ?_)
      · replace h := h.1 q
        refine V_iload_n dX12_near_25 rfl rfl ?_
        refine V_iconst dX12_near_26 ?_
        refine V_callS (av := [vi x1, vi (-1)]) (stk := []) cvX12_195 rfl rfl (by decide) (by simp [ctg]) dX12_near_27 h ?_
        rintro _ σ3 ⟨z3, rfl, h⟩
        refine V_istore_n (L' := [some (vr 94), some (vi x1), some (vi x2), some (vi z3), none, none, none, none, none, none, none]) dX12_near_30 rfl (by decide) rfl ?_
        refine V_iload_n dX12_near_31 rfl rfl ?_
        refine V_iconst dX12_near_32 ?_
        refine V_callS (av := [vi x2, vi (-1)]) (stk := []) cvX12_195 rfl rfl (by decide) (by simp [ctg]) dX12_near_33 h ?_
        rintro _ σ4 ⟨z4, rfl, h⟩
        refine V_istore (L' := [some (vr 94), some (vi x1), some (vi x2), some (vi z3), some (vi z4), none, none, none, none, none, none]) dX12_near_36 (by decide) rfl ?_
        refine V_aload_n dX12_near_38 rfl rfl ?_
        refine V_iload_n dX12_near_39 rfl rfl ?_
        refine V_callV (av := [vi z3]) (stk := []) cvX12_485 rfl rfl rfl (by decide) (by simp [ctg]) dX12_near_40 h ?_
        rintro _ σ5 ⟨z5, rfl, h⟩
        refine V_istore (L' := [some (vr 94), some (vi x1), some (vi x2), some (vi z3), some (vi z4), some (vi z5), none, none, none, none, none]) dX12_near_43 (by decide) rfl ?_
        refine V_aload_n dX12_near_45 rfl rfl ?_
        refine V_iload dX12_near_46 rfl ?_
        refine V_callV (av := [vi z4]) (stk := []) cvX12_485 rfl rfl rfl (by decide) (by simp [ctg]) dX12_near_48 h ?_
        rintro _ σ6 ⟨z6, rfl, h⟩
        refine V_istore (L' := [some (vr 94), some (vi x1), some (vi x2), some (vi z3), some (vi z4), some (vi z5), some (vi z6), none, none, none, none]) dX12_near_51 (by decide) rfl ?_
        refine V_aload_n dX12_near_53 rfl rfl ?_
        refine V_iload_n dX12_near_54 rfl rfl ?_
        refine V_iload dX12_near_55 rfl ?_
        refine V_callV (av := [vi z3, vi z4]) (stk := []) cvX12_491 rfl rfl rfl (by decide) (by simp [ctg]) dX12_near_57 h ?_
        rintro _ σ7 ⟨z7, rfl, h⟩
        refine V_istore (L' := [some (vr 94), some (vi x1), some (vi x2), some (vi z3), some (vi z4), some (vi z5), some (vi z6), some (vi z7), none, none, none]) dX12_near_60 (by decide) rfl ?_
        refine V_iload dX12_near_62 rfl ?_
        refine V_iload dX12_near_64 rfl ?_
        obtain ⟨r5, h⟩ := h
        obtain ⟨r6, h⟩ := h
        refine V_icmp_ne (tgt := 78) dX12_near_66 rfl r5 r6 (fun q => ?_) (fun q => ?_)
        · replace h := h.1 q
          refine V_aload_n dX12_near_78 rfl rfl ?_
          refine V_iload_n dX12_near_79 rfl rfl ?_
          refine V_iload dX12_near_80 rfl ?_
          refine V_callV (av := [vi z3, vi z4]) (stk := []) cvX12_494 rfl rfl rfl (by decide) (by simp [ctg]) dX12_near_82 h ?_
          rintro _ σ8 ⟨z8, rfl, h⟩
          obtain ⟨r7, h⟩ := h
          refine V_if_ne (tgt := 98) dX12_near_85 rfl r7 (fun q => ?_) (fun q => ?_)
          · replace h := h.1 q
            refine V_iconst dX12_near_98 ?_
            exact V_ireturn (stk := []) rfl dX12_near_99 h
          · replace h := h.2 q
            refine V_aload_n dX12_near_88 rfl rfl ?_
            refine V_iload dX12_near_89 rfl ?_
            refine V_iload_n dX12_near_91 rfl rfl ?_
            refine V_callV (av := [vi z4, vi z3]) (stk := []) cvX12_494 rfl rfl rfl (by decide) (by simp [ctg]) dX12_near_92 h ?_
            rintro _ σ9 ⟨z9, rfl, h⟩
            obtain ⟨r8, h⟩ := h
            refine V_if_eq (tgt := 100) dX12_near_95 rfl r8 (fun q => ?_) (fun q => ?_)
            · replace h := h.1 q
              refine V_iload dX12_near_100 rfl ?_
              refine V_aload_n dX12_near_102 rfl rfl ?_
              refine V_iload_n dX12_near_103 rfl rfl ?_
              refine V_iload dX12_near_104 rfl ?_
              refine V_callV (av := [vi z3, vi z4]) (stk := [vi z7]) cvX12_497 rfl rfl rfl (by decide) (by simp [ctg]) dX12_near_106 h ?_
              rintro _ σ10 ⟨z10, rfl, h⟩
              refine V_iadd dX12_near_109 ?_
              refine V_istore (L' := [some (vr 94), some (vi x1), some (vi x2), some (vi z3), some (vi z4), some (vi z5), some (vi z6), some (vi z7), some (vi (z7 + z10)), none, none]) dX12_near_110 (by decide) rfl ?_
              refine V_iload dX12_near_112 rfl ?_
              refine V_iload dX12_near_114 rfl ?_
              refine V_icmp_le (tgt := 124) dX12_near_116 rfl r5 r6 (fun q => ?_) (fun q => ?_)
              · replace h := h.1 q
                refine V_iload dX12_near_124 rfl ?_
                refine V_istore (L' := [some (vr 94), some (vi x1), some (vi x2), some (vi z3), some (vi z4), some (vi z5), some (vi z6), some (vi z7), some (vi (z7 + z10)), some (vi z6), none]) dX12_near_126 (by decide) rfl ?_
                refine V_iload dX12_near_128 rfl ?_
                refine V_iload dX12_near_130 rfl ?_
                refine V_icmp_eq (tgt := 153) dX12_near_132 rfl r5 r6 (fun q => ?_) (fun q => ?_)
                · replace h := h.1 q
                  refine V_iconst dX12_near_153 ?_
                  refine V_goto (tgt := 158) dX12_near_154 rfl ?_
                  refine V_istore (L' := [some (vr 94), some (vi x1), some (vi x2), some (vi z3), some (vi z4), some (vi z5), some (vi z6), some (vi z7), some (vi (z7 + z10)), some (vi z6), some (vi 1)]) dX12_near_158 (by decide) rfl ?_
                  refine V_iload dX12_near_160 rfl ?_
                  refine V_if_eq (tgt := 178) dX12_near_162 rfl (by decide) (fun q => absurd q (by decide)) (fun q => ?_)
                  refine V_iload dX12_near_165 rfl ?_
                  refine V_iload dX12_near_167 rfl ?_
                  refine V_iconst dX12_near_169 ?_
                  refine V_isub dX12_near_170 ?_
                  obtain ⟨r9, h⟩ := h
                  obtain ⟨r10, h⟩ := h
                  refine V_icmp_lt (tgt := 178) dX12_near_171 rfl r9 r10 (fun q => ?_) (fun q => ?_)
                  · replace h := h.1 q
                    refine V_iconst dX12_near_178 ?_
                    exact V_ireturn (stk := []) rfl dX12_near_179 h
                  · replace h := h.2 q
                    refine V_iconst dX12_near_174 ?_
                    refine V_goto (tgt := 179) dX12_near_175 rfl ?_
                    exact V_ireturn (stk := []) rfl dX12_near_179 h
                · replace h := h.2 q
                  refine V_iload dX12_near_135 rfl ?_
                  refine V_iload dX12_near_137 rfl ?_
                  refine V_iconst dX12_near_139 ?_
                  refine V_iadd dX12_near_140 ?_
                  obtain ⟨r11, h⟩ := h
                  refine V_icmp_eq (tgt := 153) dX12_near_141 rfl r5 r11 (fun q => ?_) (fun q => ?_)
                  · replace h := h.1 q
                    refine V_iconst dX12_near_153 ?_
                    refine V_goto (tgt := 158) dX12_near_154 rfl ?_
                    refine V_istore (L' := [some (vr 94), some (vi x1), some (vi x2), some (vi z3), some (vi z4), some (vi z5), some (vi z6), some (vi z7), some (vi (z7 + z10)), some (vi z6), some (vi 1)]) dX12_near_158 (by decide) rfl ?_
                    refine V_iload dX12_near_160 rfl ?_
                    refine V_if_eq (tgt := 178) dX12_near_162 rfl (by decide) (fun q => absurd q (by decide)) (fun q => ?_)
                    refine V_iload dX12_near_165 rfl ?_
                    refine V_iload dX12_near_167 rfl ?_
                    refine V_iconst dX12_near_169 ?_
                    refine V_isub dX12_near_170 ?_
                    obtain ⟨r12, h⟩ := h
                    obtain ⟨r13, h⟩ := h
                    refine V_icmp_lt (tgt := 178) dX12_near_171 rfl r12 r13 (fun q => ?_) (fun q => ?_)
                    · replace h := h.1 q
                      refine V_iconst dX12_near_178 ?_
                      exact V_ireturn (stk := []) rfl dX12_near_179 h
                    · replace h := h.2 q
                      refine V_iconst dX12_near_174 ?_
                      refine V_goto (tgt := 179) dX12_near_175 rfl ?_
                      exact V_ireturn (stk := []) rfl dX12_near_179 h
                  · replace h := h.2 q
                    refine V_iload dX12_near_144 rfl ?_
                    refine V_iload dX12_near_146 rfl ?_
                    refine V_iconst dX12_near_148 ?_
                    refine V_iadd dX12_near_149 ?_
                    obtain ⟨r14, h⟩ := h
                    refine V_icmp_ne (tgt := 157) dX12_near_150 rfl r6 r14 (fun q => ?_) (fun q => ?_)
                    · replace h := h.1 q
                      refine V_iconst dX12_near_157 ?_
                      refine V_istore (L' := [some (vr 94), some (vi x1), some (vi x2), some (vi z3), some (vi z4), some (vi z5), some (vi z6), some (vi z7), some (vi (z7 + z10)), some (vi z6), some (vi 0)]) dX12_near_158 (by decide) rfl ?_
                      refine V_iload dX12_near_160 rfl ?_
                      refine V_if_eq (tgt := 178) dX12_near_162 rfl (by decide) (fun q => ?_) (fun q => absurd q (by decide))
                      refine V_iconst dX12_near_178 ?_
                      exact V_ireturn (stk := []) rfl dX12_near_179 h
                    · replace h := h.2 q
                      refine V_iconst dX12_near_153 ?_
                      refine V_goto (tgt := 158) dX12_near_154 rfl ?_
                      refine V_istore (L' := [some (vr 94), some (vi x1), some (vi x2), some (vi z3), some (vi z4), some (vi z5), some (vi z6), some (vi z7), some (vi (z7 + z10)), some (vi z6), some (vi 1)]) dX12_near_158 (by decide) rfl ?_
                      refine V_iload dX12_near_160 rfl ?_
                      refine V_if_eq (tgt := 178) dX12_near_162 rfl (by decide) (fun q => absurd q (by decide)) (fun q => ?_)
                      refine V_iload dX12_near_165 rfl ?_
                      refine V_iload dX12_near_167 rfl ?_
                      refine V_iconst dX12_near_169 ?_
                      refine V_isub dX12_near_170 ?_
                      obtain ⟨r15, h⟩ := h
                      obtain ⟨r16, h⟩ := h
                      refine V_icmp_lt (tgt := 178) dX12_near_171 rfl r15 r16 (fun q => ?_) (fun q => ?_)
                      · replace h := h.1 q
                        refine V_iconst dX12_near_178 ?_
                        exact V_ireturn (stk := []) rfl dX12_near_179 h
                      · replace h := h.2 q
                        refine V_iconst dX12_near_174 ?_
                        refine V_goto (tgt := 179) dX12_near_175 rfl ?_
                        exact V_ireturn (stk := []) rfl dX12_near_179 h
              · replace h := h.2 q
                refine V_iload dX12_near_119 rfl ?_
                refine V_goto (tgt := 126) dX12_near_121 rfl ?_
                refine V_istore (L' := [some (vr 94), some (vi x1), some (vi x2), some (vi z3), some (vi z4), some (vi z5), some (vi z6), some (vi z7), some (vi (z7 + z10)), some (vi z5), none]) dX12_near_126 (by decide) rfl ?_
                refine V_iload dX12_near_128 rfl ?_
                refine V_iload dX12_near_130 rfl ?_
                refine V_icmp_eq (tgt := 153) dX12_near_132 rfl r5 r6 (fun q => ?_) (fun q => ?_)
                · replace h := h.1 q
                  refine V_iconst dX12_near_153 ?_
                  refine V_goto (tgt := 158) dX12_near_154 rfl ?_
                  refine V_istore (L' := [some (vr 94), some (vi x1), some (vi x2), some (vi z3), some (vi z4), some (vi z5), some (vi z6), some (vi z7), some (vi (z7 + z10)), some (vi z5), some (vi 1)]) dX12_near_158 (by decide) rfl ?_
                  refine V_iload dX12_near_160 rfl ?_
                  refine V_if_eq (tgt := 178) dX12_near_162 rfl (by decide) (fun q => absurd q (by decide)) (fun q => ?_)
                  refine V_iload dX12_near_165 rfl ?_
                  refine V_iload dX12_near_167 rfl ?_
                  refine V_iconst dX12_near_169 ?_
                  refine V_isub dX12_near_170 ?_
                  obtain ⟨r17, h⟩ := h
                  obtain ⟨r18, h⟩ := h
                  refine V_icmp_lt (tgt := 178) dX12_near_171 rfl r17 r18 (fun q => ?_) (fun q => ?_)
                  · replace h := h.1 q
                    refine V_iconst dX12_near_178 ?_
                    exact V_ireturn (stk := []) rfl dX12_near_179 h
                  · replace h := h.2 q
                    refine V_iconst dX12_near_174 ?_
                    refine V_goto (tgt := 179) dX12_near_175 rfl ?_
                    exact V_ireturn (stk := []) rfl dX12_near_179 h
                · replace h := h.2 q
                  refine V_iload dX12_near_135 rfl ?_
                  refine V_iload dX12_near_137 rfl ?_
                  refine V_iconst dX12_near_139 ?_
                  refine V_iadd dX12_near_140 ?_
                  obtain ⟨r19, h⟩ := h
                  refine V_icmp_eq (tgt := 153) dX12_near_141 rfl r5 r19 (fun q => ?_) (fun q => ?_)
                  · replace h := h.1 q
                    refine V_iconst dX12_near_153 ?_
                    refine V_goto (tgt := 158) dX12_near_154 rfl ?_
                    refine V_istore (L' := [some (vr 94), some (vi x1), some (vi x2), some (vi z3), some (vi z4), some (vi z5), some (vi z6), some (vi z7), some (vi (z7 + z10)), some (vi z5), some (vi 1)]) dX12_near_158 (by decide) rfl ?_
                    refine V_iload dX12_near_160 rfl ?_
                    refine V_if_eq (tgt := 178) dX12_near_162 rfl (by decide) (fun q => absurd q (by decide)) (fun q => ?_)
                    refine V_iload dX12_near_165 rfl ?_
                    refine V_iload dX12_near_167 rfl ?_
                    refine V_iconst dX12_near_169 ?_
                    refine V_isub dX12_near_170 ?_
                    obtain ⟨r20, h⟩ := h
                    obtain ⟨r21, h⟩ := h
                    refine V_icmp_lt (tgt := 178) dX12_near_171 rfl r20 r21 (fun q => ?_) (fun q => ?_)
                    · replace h := h.1 q
                      refine V_iconst dX12_near_178 ?_
                      exact V_ireturn (stk := []) rfl dX12_near_179 h
                    · replace h := h.2 q
                      refine V_iconst dX12_near_174 ?_
                      refine V_goto (tgt := 179) dX12_near_175 rfl ?_
                      exact V_ireturn (stk := []) rfl dX12_near_179 h
                  · replace h := h.2 q
                    refine V_iload dX12_near_144 rfl ?_
                    refine V_iload dX12_near_146 rfl ?_
                    refine V_iconst dX12_near_148 ?_
                    refine V_iadd dX12_near_149 ?_
                    obtain ⟨r22, h⟩ := h
                    refine V_icmp_ne (tgt := 157) dX12_near_150 rfl r6 r22 (fun q => ?_) (fun q => ?_)
                    · replace h := h.1 q
                      refine V_iconst dX12_near_157 ?_
                      refine V_istore (L' := [some (vr 94), some (vi x1), some (vi x2), some (vi z3), some (vi z4), some (vi z5), some (vi z6), some (vi z7), some (vi (z7 + z10)), some (vi z5), some (vi 0)]) dX12_near_158 (by decide) rfl ?_
                      refine V_iload dX12_near_160 rfl ?_
                      refine V_if_eq (tgt := 178) dX12_near_162 rfl (by decide) (fun q => ?_) (fun q => absurd q (by decide))
                      refine V_iconst dX12_near_178 ?_
                      exact V_ireturn (stk := []) rfl dX12_near_179 h
                    · replace h := h.2 q
                      refine V_iconst dX12_near_153 ?_
                      refine V_goto (tgt := 158) dX12_near_154 rfl ?_
                      refine V_istore (L' := [some (vr 94), some (vi x1), some (vi x2), some (vi z3), some (vi z4), some (vi z5), some (vi z6), some (vi z7), some (vi (z7 + z10)), some (vi z5), some (vi 1)]) dX12_near_158 (by decide) rfl ?_
                      refine V_iload dX12_near_160 rfl ?_
                      refine V_if_eq (tgt := 178) dX12_near_162 rfl (by decide) (fun q => absurd q (by decide)) (fun q => ?_)
                      refine V_iload dX12_near_165 rfl ?_
                      refine V_iload dX12_near_167 rfl ?_
                      refine V_iconst dX12_near_169 ?_
                      refine V_isub dX12_near_170 ?_
                      obtain ⟨r23, h⟩ := h
                      obtain ⟨r24, h⟩ := h
                      refine V_icmp_lt (tgt := 178) dX12_near_171 rfl r23 r24 (fun q => ?_) (fun q => ?_)
                      · replace h := h.1 q
                        refine V_iconst dX12_near_178 ?_
                        exact V_ireturn (stk := []) rfl dX12_near_179 h
                      · replace h := h.2 q
                        refine V_iconst dX12_near_174 ?_
                        refine V_goto (tgt := 179) dX12_near_175 rfl ?_
                        exact V_ireturn (stk := []) rfl dX12_near_179 h
            · replace h := h.2 q
              refine V_iconst dX12_near_98 ?_
              exact V_ireturn (stk := []) rfl dX12_near_99 h
        · replace h := h.2 q
          refine V_iload dX12_near_69 rfl ?_
          refine V_iload dX12_near_71 rfl ?_
          obtain ⟨r25, h⟩ := h
          refine V_icmp_ne (tgt := 78) dX12_near_73 rfl r25 r5 (fun q => ?_) (fun q => ?_)
          · replace h := h.1 q
            refine V_aload_n dX12_near_78 rfl rfl ?_
            refine V_iload_n dX12_near_79 rfl rfl ?_
            refine V_iload dX12_near_80 rfl ?_
            refine V_callV (av := [vi z3, vi z4]) (stk := []) cvX12_494 rfl rfl rfl (by decide) (by simp [ctg]) dX12_near_82 h ?_
            rintro _ σ11 ⟨z11, rfl, h⟩
            obtain ⟨r26, h⟩ := h
            refine V_if_ne (tgt := 98) dX12_near_85 rfl r26 (fun q => ?_) (fun q => ?_)
            · replace h := h.1 q
              refine V_iconst dX12_near_98 ?_
              exact V_ireturn (stk := []) rfl dX12_near_99 h
            · replace h := h.2 q
              refine V_aload_n dX12_near_88 rfl rfl ?_
              refine V_iload dX12_near_89 rfl ?_
              refine V_iload_n dX12_near_91 rfl rfl ?_
              refine V_callV (av := [vi z4, vi z3]) (stk := []) cvX12_494 rfl rfl rfl (by decide) (by simp [ctg]) dX12_near_92 h ?_
              rintro _ σ12 ⟨z12, rfl, h⟩
              obtain ⟨r27, h⟩ := h
              refine V_if_eq (tgt := 100) dX12_near_95 rfl r27 (fun q => ?_) (fun q => ?_)
              · replace h := h.1 q
                refine V_iload dX12_near_100 rfl ?_
                refine V_aload_n dX12_near_102 rfl rfl ?_
                refine V_iload_n dX12_near_103 rfl rfl ?_
                refine V_iload dX12_near_104 rfl ?_
                refine V_callV (av := [vi z3, vi z4]) (stk := [vi z7]) cvX12_497 rfl rfl rfl (by decide) (by simp [ctg]) dX12_near_106 h ?_
                rintro _ σ13 ⟨z13, rfl, h⟩
                refine V_iadd dX12_near_109 ?_
                refine V_istore (L' := [some (vr 94), some (vi x1), some (vi x2), some (vi z3), some (vi z4), some (vi z5), some (vi z6), some (vi z7), some (vi (z7 + z13)), none, none]) dX12_near_110 (by decide) rfl ?_
                refine V_iload dX12_near_112 rfl ?_
                refine V_iload dX12_near_114 rfl ?_
                refine V_icmp_le (tgt := 124) dX12_near_116 rfl r5 r6 (fun q => ?_) (fun q => ?_)
                · replace h := h.1 q
                  refine V_iload dX12_near_124 rfl ?_
                  refine V_istore (L' := [some (vr 94), some (vi x1), some (vi x2), some (vi z3), some (vi z4), some (vi z5), some (vi z6), some (vi z7), some (vi (z7 + z13)), some (vi z6), none]) dX12_near_126 (by decide) rfl ?_
                  refine V_iload dX12_near_128 rfl ?_
                  refine V_iload dX12_near_130 rfl ?_
                  refine V_icmp_eq (tgt := 153) dX12_near_132 rfl r5 r6 (fun q => ?_) (fun q => ?_)
                  · replace h := h.1 q
                    refine V_iconst dX12_near_153 ?_
                    refine V_goto (tgt := 158) dX12_near_154 rfl ?_
                    refine V_istore (L' := [some (vr 94), some (vi x1), some (vi x2), some (vi z3), some (vi z4), some (vi z5), some (vi z6), some (vi z7), some (vi (z7 + z13)), some (vi z6), some (vi 1)]) dX12_near_158 (by decide) rfl ?_
                    refine V_iload dX12_near_160 rfl ?_
                    refine V_if_eq (tgt := 178) dX12_near_162 rfl (by decide) (fun q => absurd q (by decide)) (fun q => ?_)
                    refine V_iload dX12_near_165 rfl ?_
                    refine V_iload dX12_near_167 rfl ?_
                    refine V_iconst dX12_near_169 ?_
                    refine V_isub dX12_near_170 ?_
                    obtain ⟨r28, h⟩ := h
                    obtain ⟨r29, h⟩ := h
                    refine V_icmp_lt (tgt := 178) dX12_near_171 rfl r28 r29 (fun q => ?_) (fun q => ?_)
                    · replace h := h.1 q
                      refine V_iconst dX12_near_178 ?_
                      exact V_ireturn (stk := []) rfl dX12_near_179 h
                    · replace h := h.2 q
                      refine V_iconst dX12_near_174 ?_
                      refine V_goto (tgt := 179) dX12_near_175 rfl ?_
                      exact V_ireturn (stk := []) rfl dX12_near_179 h
                  · replace h := h.2 q
                    refine V_iload dX12_near_135 rfl ?_
                    refine V_iload dX12_near_137 rfl ?_
                    refine V_iconst dX12_near_139 ?_
                    refine V_iadd dX12_near_140 ?_
                    obtain ⟨r30, h⟩ := h
                    refine V_icmp_eq (tgt := 153) dX12_near_141 rfl r5 r30 (fun q => ?_) (fun q => ?_)
                    · replace h := h.1 q
                      refine V_iconst dX12_near_153 ?_
                      refine V_goto (tgt := 158) dX12_near_154 rfl ?_
                      refine V_istore (L' := [some (vr 94), some (vi x1), some (vi x2), some (vi z3), some (vi z4), some (vi z5), some (vi z6), some (vi z7), some (vi (z7 + z13)), some (vi z6), some (vi 1)]) dX12_near_158 (by decide) rfl ?_
                      refine V_iload dX12_near_160 rfl ?_
                      refine V_if_eq (tgt := 178) dX12_near_162 rfl (by decide) (fun q => absurd q (by decide)) (fun q => ?_)
                      refine V_iload dX12_near_165 rfl ?_
                      refine V_iload dX12_near_167 rfl ?_
                      refine V_iconst dX12_near_169 ?_
                      refine V_isub dX12_near_170 ?_
                      obtain ⟨r31, h⟩ := h
                      obtain ⟨r32, h⟩ := h
                      refine V_icmp_lt (tgt := 178) dX12_near_171 rfl r31 r32 (fun q => ?_) (fun q => ?_)
                      · replace h := h.1 q
                        refine V_iconst dX12_near_178 ?_
                        exact V_ireturn (stk := []) rfl dX12_near_179 h
                      · replace h := h.2 q
                        refine V_iconst dX12_near_174 ?_
                        refine V_goto (tgt := 179) dX12_near_175 rfl ?_
                        exact V_ireturn (stk := []) rfl dX12_near_179 h
                    · replace h := h.2 q
                      refine V_iload dX12_near_144 rfl ?_
                      refine V_iload dX12_near_146 rfl ?_
                      refine V_iconst dX12_near_148 ?_
                      refine V_iadd dX12_near_149 ?_
                      obtain ⟨r33, h⟩ := h
                      refine V_icmp_ne (tgt := 157) dX12_near_150 rfl r6 r33 (fun q => ?_) (fun q => ?_)
                      · replace h := h.1 q
                        refine V_iconst dX12_near_157 ?_
                        refine V_istore (L' := [some (vr 94), some (vi x1), some (vi x2), some (vi z3), some (vi z4), some (vi z5), some (vi z6), some (vi z7), some (vi (z7 + z13)), some (vi z6), some (vi 0)]) dX12_near_158 (by decide) rfl ?_
                        refine V_iload dX12_near_160 rfl ?_
                        refine V_if_eq (tgt := 178) dX12_near_162 rfl (by decide) (fun q => ?_) (fun q => absurd q (by decide))
                        refine V_iconst dX12_near_178 ?_
                        exact V_ireturn (stk := []) rfl dX12_near_179 h
                      · replace h := h.2 q
                        refine V_iconst dX12_near_153 ?_
                        refine V_goto (tgt := 158) dX12_near_154 rfl ?_
                        refine V_istore (L' := [some (vr 94), some (vi x1), some (vi x2), some (vi z3), some (vi z4), some (vi z5), some (vi z6), some (vi z7), some (vi (z7 + z13)), some (vi z6), some (vi 1)]) dX12_near_158 (by decide) rfl ?_
                        refine V_iload dX12_near_160 rfl ?_
                        refine V_if_eq (tgt := 178) dX12_near_162 rfl (by decide) (fun q => absurd q (by decide)) (fun q => ?_)
                        refine V_iload dX12_near_165 rfl ?_
                        refine V_iload dX12_near_167 rfl ?_
                        refine V_iconst dX12_near_169 ?_
                        refine V_isub dX12_near_170 ?_
                        obtain ⟨r34, h⟩ := h
                        obtain ⟨r35, h⟩ := h
                        refine V_icmp_lt (tgt := 178) dX12_near_171 rfl r34 r35 (fun q => ?_) (fun q => ?_)
                        · replace h := h.1 q
                          refine V_iconst dX12_near_178 ?_
                          exact V_ireturn (stk := []) rfl dX12_near_179 h
                        · replace h := h.2 q
                          refine V_iconst dX12_near_174 ?_
                          refine V_goto (tgt := 179) dX12_near_175 rfl ?_
                          exact V_ireturn (stk := []) rfl dX12_near_179 h
                · replace h := h.2 q
                  refine V_iload dX12_near_119 rfl ?_
                  refine V_goto (tgt := 126) dX12_near_121 rfl ?_
                  refine V_istore (L' := [some (vr 94), some (vi x1), some (vi x2), some (vi z3), some (vi z4), some (vi z5), some (vi z6), some (vi z7), some (vi (z7 + z13)), some (vi z5), none]) dX12_near_126 (by decide) rfl ?_
                  refine V_iload dX12_near_128 rfl ?_
                  refine V_iload dX12_near_130 rfl ?_
                  refine V_icmp_eq (tgt := 153) dX12_near_132 rfl r5 r6 (fun q => ?_) (fun q => ?_)
                  · replace h := h.1 q
                    refine V_iconst dX12_near_153 ?_
                    refine V_goto (tgt := 158) dX12_near_154 rfl ?_
                    refine V_istore (L' := [some (vr 94), some (vi x1), some (vi x2), some (vi z3), some (vi z4), some (vi z5), some (vi z6), some (vi z7), some (vi (z7 + z13)), some (vi z5), some (vi 1)]) dX12_near_158 (by decide) rfl ?_
                    refine V_iload dX12_near_160 rfl ?_
                    refine V_if_eq (tgt := 178) dX12_near_162 rfl (by decide) (fun q => absurd q (by decide)) (fun q => ?_)
                    refine V_iload dX12_near_165 rfl ?_
                    refine V_iload dX12_near_167 rfl ?_
                    refine V_iconst dX12_near_169 ?_
                    refine V_isub dX12_near_170 ?_
                    obtain ⟨r36, h⟩ := h
                    obtain ⟨r37, h⟩ := h
                    refine V_icmp_lt (tgt := 178) dX12_near_171 rfl r36 r37 (fun q => ?_) (fun q => ?_)
                    · replace h := h.1 q
                      refine V_iconst dX12_near_178 ?_
                      exact V_ireturn (stk := []) rfl dX12_near_179 h
                    · replace h := h.2 q
                      refine V_iconst dX12_near_174 ?_
                      refine V_goto (tgt := 179) dX12_near_175 rfl ?_
                      exact V_ireturn (stk := []) rfl dX12_near_179 h
                  · replace h := h.2 q
                    refine V_iload dX12_near_135 rfl ?_
                    refine V_iload dX12_near_137 rfl ?_
                    refine V_iconst dX12_near_139 ?_
                    refine V_iadd dX12_near_140 ?_
                    obtain ⟨r38, h⟩ := h
                    refine V_icmp_eq (tgt := 153) dX12_near_141 rfl r5 r38 (fun q => ?_) (fun q => ?_)
                    · replace h := h.1 q
                      refine V_iconst dX12_near_153 ?_
                      refine V_goto (tgt := 158) dX12_near_154 rfl ?_
                      refine V_istore (L' := [some (vr 94), some (vi x1), some (vi x2), some (vi z3), some (vi z4), some (vi z5), some (vi z6), some (vi z7), some (vi (z7 + z13)), some (vi z5), some (vi 1)]) dX12_near_158 (by decide) rfl ?_
                      refine V_iload dX12_near_160 rfl ?_
                      refine V_if_eq (tgt := 178) dX12_near_162 rfl (by decide) (fun q => absurd q (by decide)) (fun q => ?_)
                      refine V_iload dX12_near_165 rfl ?_
                      refine V_iload dX12_near_167 rfl ?_
                      refine V_iconst dX12_near_169 ?_
                      refine V_isub dX12_near_170 ?_
                      obtain ⟨r39, h⟩ := h
                      obtain ⟨r40, h⟩ := h
                      refine V_icmp_lt (tgt := 178) dX12_near_171 rfl r39 r40 (fun q => ?_) (fun q => ?_)
                      · replace h := h.1 q
                        refine V_iconst dX12_near_178 ?_
                        exact V_ireturn (stk := []) rfl dX12_near_179 h
                      · replace h := h.2 q
                        refine V_iconst dX12_near_174 ?_
                        refine V_goto (tgt := 179) dX12_near_175 rfl ?_
                        exact V_ireturn (stk := []) rfl dX12_near_179 h
                    · replace h := h.2 q
                      refine V_iload dX12_near_144 rfl ?_
                      refine V_iload dX12_near_146 rfl ?_
                      refine V_iconst dX12_near_148 ?_
                      refine V_iadd dX12_near_149 ?_
                      obtain ⟨r41, h⟩ := h
                      refine V_icmp_ne (tgt := 157) dX12_near_150 rfl r6 r41 (fun q => ?_) (fun q => ?_)
                      · replace h := h.1 q
                        refine V_iconst dX12_near_157 ?_
                        refine V_istore (L' := [some (vr 94), some (vi x1), some (vi x2), some (vi z3), some (vi z4), some (vi z5), some (vi z6), some (vi z7), some (vi (z7 + z13)), some (vi z5), some (vi 0)]) dX12_near_158 (by decide) rfl ?_
                        refine V_iload dX12_near_160 rfl ?_
                        refine V_if_eq (tgt := 178) dX12_near_162 rfl (by decide) (fun q => ?_) (fun q => absurd q (by decide))
                        refine V_iconst dX12_near_178 ?_
                        exact V_ireturn (stk := []) rfl dX12_near_179 h
                      · replace h := h.2 q
                        refine V_iconst dX12_near_153 ?_
                        refine V_goto (tgt := 158) dX12_near_154 rfl ?_
                        refine V_istore (L' := [some (vr 94), some (vi x1), some (vi x2), some (vi z3), some (vi z4), some (vi z5), some (vi z6), some (vi z7), some (vi (z7 + z13)), some (vi z5), some (vi 1)]) dX12_near_158 (by decide) rfl ?_
                        refine V_iload dX12_near_160 rfl ?_
                        refine V_if_eq (tgt := 178) dX12_near_162 rfl (by decide) (fun q => absurd q (by decide)) (fun q => ?_)
                        refine V_iload dX12_near_165 rfl ?_
                        refine V_iload dX12_near_167 rfl ?_
                        refine V_iconst dX12_near_169 ?_
                        refine V_isub dX12_near_170 ?_
                        obtain ⟨r42, h⟩ := h
                        obtain ⟨r43, h⟩ := h
                        refine V_icmp_lt (tgt := 178) dX12_near_171 rfl r42 r43 (fun q => ?_) (fun q => ?_)
                        · replace h := h.1 q
                          refine V_iconst dX12_near_178 ?_
                          exact V_ireturn (stk := []) rfl dX12_near_179 h
                        · replace h := h.2 q
                          refine V_iconst dX12_near_174 ?_
                          refine V_goto (tgt := 179) dX12_near_175 rfl ?_
                          exact V_ireturn (stk := []) rfl dX12_near_179 h
              · replace h := h.2 q
                refine V_iconst dX12_near_98 ?_
                exact V_ireturn (stk := []) rfl dX12_near_99 h
          · replace h := h.2 q
            refine V_iconst dX12_near_76 ?_
            exact V_ireturn (stk := []) rfl dX12_near_77 h
      · replace h := h.2 q
        refine V_sipush dX12_near_21 (by decide) ?_
        exact V_ireturn (stk := []) rfl dX12_near_24 h

set_option maxRecDepth 100000 in
theorem BX12_likeSub_0 {σ : Sg} {post : Po} {x1 : Int} {x2 : Int} 
  (h : V mX12_likeSub 2 [some (vr 94), some (vi x1), some (vi x2), some (vi 0), none, none, none] [] σ post) :
  V mX12_likeSub 0 [some (vr 94), some (vi x1), some (vi x2), none, none, none, none] [] σ post := by
  refine V_iconst dX12_likeSub_0 ?_
  refine V_istore_n (L' := [some (vr 94), some (vi x1), some (vi x2), some (vi 0), none, none, none]) dX12_likeSub_1 rfl (by decide) rfl ?_
  exact V.sub (SubL_s (SubL_s (SubL_s (SubL_s (SubL_n (SubL_n (SubL_n (SubL_0)))))))) h
set_option maxRecDepth 100000 in
theorem BX12_likeSub_2 {σ : Sg} {post : Po} {x1 : Int} {x2 : Int} {x3 : Int} 
  (h : (0 ≤ x1 ∧ x1 < 16) ∧ ((rng x3) ∧ ((rng (σ 95 x1)) ∧ (((σ 95 x1) ≤ x3 → post (some (vi (-1))) σ) ∧ (¬ (σ 95 x1) ≤ x3 → Cl mX12_slot [vi x1, vi x3] σ (pI fun z1 σ1 => (0 ≤ z1 ∧ z1 < 112) ∧ ((0 ≤ x2 ∧ x2 < 112) ∧ ((rng (σ1 96 z1)) ∧ ((rng (σ1 96 x2)) ∧ ((¬ (σ1 96 z1) = (σ1 96 x2) → V mX12_likeSub 45 [some (vr 94), some (vi x1), some (vi x2), some (vi x3), some (vi z1), some (vi 0), some (vi 0)] [] σ1 post) ∧ ((σ1 96 z1) = (σ1 96 x2) → V mX12_likeSub 45 [some (vr 94), some (vi x1), some (vi x2), some (vi x3), some (vi z1), some (vi 1), some (vi 0)] [] σ1 post))))))))))) :
  V mX12_likeSub 2 [some (vr 94), some (vi x1), some (vi x2), some (vi x3), none, none, none] [] σ post := by
  refine V_iload_n dX12_likeSub_2 rfl rfl ?_
  refine V_aload_n dX12_likeSub_3 rfl rfl ?_
  refine V_getR (k2 := 95) flX12_7 rfl rfl (by decide) dX12_likeSub_4 ?_
  refine V_iload_n dX12_likeSub_7 rfl rfl ?_
  obtain ⟨r1, h⟩ := h
  refine V_iald (f := (σ 95 x1)) (rfl : shp[95]? = some (1, 16, 0)) r1 (rfl) dX12_likeSub_8 ?_
  obtain ⟨r2, h⟩ := h
  obtain ⟨r3, h⟩ := h
  refine V_icmp_ge (tgt := 115) dX12_likeSub_9 rfl r2 r3 (fun q => ?_) (fun q => ?_)
  · replace h := h.1 q
    refine V_iconst dX12_likeSub_115 ?_
    exact V_ireturn (stk := []) rfl dX12_likeSub_116 h
  · replace h := h.2 q
    refine V_iload_n dX12_likeSub_12 rfl rfl ?_
    refine V_iload_n dX12_likeSub_13 rfl rfl ?_
    refine V_callS (av := [vi x1, vi x3]) (stk := []) cvX12_195 rfl rfl (by decide) (by simp [ctg]) dX12_likeSub_14 h ?_
    rintro _ σ1 ⟨z1, rfl, h⟩
    refine V_istore (L' := [some (vr 94), some (vi x1), some (vi x2), some (vi x3), some (vi z1), none, none]) dX12_likeSub_17 (by decide) rfl ?_
    refine V_aload_n dX12_likeSub_19 rfl rfl ?_
    refine V_getR (k2 := 96) flX12_13 rfl rfl (by decide) dX12_likeSub_20 ?_
    refine V_iload dX12_likeSub_23 rfl ?_
    obtain ⟨r4, h⟩ := h
    refine V_iald (f := (σ1 96 z1)) (rfl : shp[96]? = some (1, 112, 0)) r4 (rfl) dX12_likeSub_25 ?_
    refine V_aload_n dX12_likeSub_26 rfl rfl ?_
    refine V_getR (k2 := 96) flX12_13 rfl rfl (by decide) dX12_likeSub_27 ?_
    refine V_iload_n dX12_likeSub_30 rfl rfl ?_
    obtain ⟨r5, h⟩ := h
    refine V_iald (f := (σ1 96 x2)) (rfl : shp[96]? = some (1, 112, 0)) r5 (rfl) dX12_likeSub_31 ?_
    obtain ⟨r6, h⟩ := h
    obtain ⟨r7, h⟩ := h
    refine V_icmp_ne (tgt := 39) dX12_likeSub_32 rfl r6 r7 (fun q => ?_) (fun q => ?_)
    · replace h := h.1 q
      refine V_iconst dX12_likeSub_39 ?_
      refine V_istore (L' := [some (vr 94), some (vi x1), some (vi x2), some (vi x3), some (vi z1), some (vi 0), none]) dX12_likeSub_40 (by decide) rfl ?_
      refine V_iconst dX12_likeSub_42 ?_
      refine V_istore (L' := [some (vr 94), some (vi x1), some (vi x2), some (vi x3), some (vi z1), some (vi 0), some (vi 0)]) dX12_likeSub_43 (by decide) rfl ?_
      exact V.sub (SubL_s (SubL_s (SubL_s (SubL_s (SubL_s (SubL_s (SubL_s (SubL_0)))))))) h
    · replace h := h.2 q
      refine V_iconst dX12_likeSub_35 ?_
      refine V_goto (tgt := 40) dX12_likeSub_36 rfl ?_
      refine V_istore (L' := [some (vr 94), some (vi x1), some (vi x2), some (vi x3), some (vi z1), some (vi 1), none]) dX12_likeSub_40 (by decide) rfl ?_
      refine V_iconst dX12_likeSub_42 ?_
      refine V_istore (L' := [some (vr 94), some (vi x1), some (vi x2), some (vi x3), some (vi z1), some (vi 1), some (vi 0)]) dX12_likeSub_43 (by decide) rfl ?_
      exact V.sub (SubL_s (SubL_s (SubL_s (SubL_s (SubL_s (SubL_s (SubL_s (SubL_0)))))))) h
set_option maxRecDepth 100000 in
theorem BX12_likeSub_45 {σ : Sg} {post : Po} {x1 : Int} {x2 : Int} {x3 : Int} {x4 : Int} {x5 : Int} {x6 : Int} 
  (h : (0 ≤ x2 ∧ x2 < 112) ∧ ((rng x6) ∧ ((rng (σ 96 x2)) ∧ (((σ 96 x2) ≤ x6 → (rng x5) ∧ ((x5 = 0 → V mX12_likeSub 2 [some (vr 94), some (vi x1), some (vi x2), some (vi (x3 + 1)), none, none, none] [] σ post) ∧ (¬ x5 = 0 → post (some (vi x3)) σ))) ∧ (¬ (σ 96 x2) ≤ x6 → (rng x5) ∧ ((x5 = 0 → (x5 = 0 → V mX12_likeSub 2 [some (vr 94), some (vi x1), some (vi x2), some (vi (x3 + 1)), none, none, none] [] σ post) ∧ (¬ x5 = 0 → post (some (vi x3)) σ)) ∧ (¬ x5 = 0 → (0 ≤ ((12 * x4) + x6) ∧ ((12 * x4) + x6) < 1344) ∧ ((0 ≤ ((12 * x2) + x6) ∧ ((12 * x2) + x6) < 1344) ∧ ((rng (σ 97 ((12 * x4) + x6))) ∧ ((rng (σ 97 ((12 * x2) + x6))) ∧ ((¬ (σ 97 ((12 * x4) + x6)) = (σ 97 ((12 * x2) + x6)) → V mX12_likeSub 45 [some (vr 94), some (vi x1), some (vi x2), some (vi x3), some (vi x4), some (vi 0), some (vi (x6 + 1))] [] σ post) ∧ ((σ 97 ((12 * x4) + x6)) = (σ 97 ((12 * x2) + x6)) → V mX12_likeSub 45 [some (vr 94), some (vi x1), some (vi x2), some (vi x3), some (vi x4), some (vi 1), some (vi (x6 + 1))] [] σ post)))))))))))) :
  V mX12_likeSub 45 [some (vr 94), some (vi x1), some (vi x2), some (vi x3), some (vi x4), some (vi x5), some (vi x6)] [] σ post := by
  refine V_iload dX12_likeSub_45 rfl ?_
  refine V_aload_n dX12_likeSub_47 rfl rfl ?_
  refine V_getR (k2 := 96) flX12_13 rfl rfl (by decide) dX12_likeSub_48 ?_
  refine V_iload_n dX12_likeSub_51 rfl rfl ?_
  obtain ⟨r1, h⟩ := h
  refine V_iald (f := (σ 96 x2)) (rfl : shp[96]? = some (1, 112, 0)) r1 (rfl) dX12_likeSub_52 ?_
  obtain ⟨r2, h⟩ := h
  obtain ⟨r3, h⟩ := h
  refine V_icmp_ge (tgt := 102) dX12_likeSub_53 rfl r2 r3 (fun q => ?_) (fun q => ?_)
  · replace h := h.1 q
    refine V_iload dX12_likeSub_102 rfl ?_
    obtain ⟨r4, h⟩ := h
    refine V_if_eq (tgt := 109) dX12_likeSub_104 rfl r4 (fun q => ?_) (fun q => ?_)
    · replace h := h.1 q
      refine V_iinc (L' := [some (vr 94), some (vi x1), some (vi x2), some (vi (x3 + 1)), some (vi x4), some (vi x5), some (vi x6)]) dX12_likeSub_109 rfl (by decide) rfl ?_
      refine V_goto (tgt := 2) dX12_likeSub_112 rfl ?_
      exact V.sub (SubL_s (SubL_s (SubL_s (SubL_s (SubL_n (SubL_n (SubL_n (SubL_0)))))))) h
    · replace h := h.2 q
      refine V_iload_n dX12_likeSub_107 rfl rfl ?_
      exact V_ireturn (stk := []) rfl dX12_likeSub_108 h
  · replace h := h.2 q
    refine V_iload dX12_likeSub_56 rfl ?_
    obtain ⟨r5, h⟩ := h
    refine V_if_eq (tgt := 102) dX12_likeSub_58 rfl r5 (fun q => ?_) (fun q => ?_)
    · replace h := h.1 q
      refine V_iload dX12_likeSub_102 rfl ?_
      refine V_if_eq (tgt := 109) dX12_likeSub_104 rfl r5 (fun q => ?_) (fun q => ?_)
      · replace h := h.1 q
        refine V_iinc (L' := [some (vr 94), some (vi x1), some (vi x2), some (vi (x3 + 1)), some (vi x4), some (vi x5), some (vi x6)]) dX12_likeSub_109 rfl (by decide) rfl ?_
        refine V_goto (tgt := 2) dX12_likeSub_112 rfl ?_
        exact V.sub (SubL_s (SubL_s (SubL_s (SubL_s (SubL_n (SubL_n (SubL_n (SubL_0)))))))) h
      · replace h := h.2 q
        refine V_iload_n dX12_likeSub_107 rfl rfl ?_
        exact V_ireturn (stk := []) rfl dX12_likeSub_108 h
    · replace h := h.2 q
      refine V_aload_n dX12_likeSub_61 rfl rfl ?_
      refine V_getR (k2 := 97) flX12_16 rfl rfl (by decide) dX12_likeSub_62 ?_
      refine V_bipush dX12_likeSub_65 (by decide) ?_
      refine V_iload dX12_likeSub_67 rfl ?_
      refine V_imul dX12_likeSub_69 ?_
      refine V_iload dX12_likeSub_70 rfl ?_
      refine V_iadd dX12_likeSub_72 ?_
      obtain ⟨r6, h⟩ := h
      refine V_iald (f := (σ 97 ((12 * x4) + x6))) (rfl : shp[97]? = some (1, 1344, 0)) r6 (rfl) dX12_likeSub_73 ?_
      refine V_aload_n dX12_likeSub_74 rfl rfl ?_
      refine V_getR (k2 := 97) flX12_16 rfl rfl (by decide) dX12_likeSub_75 ?_
      refine V_bipush dX12_likeSub_78 (by decide) ?_
      refine V_iload_n dX12_likeSub_80 rfl rfl ?_
      refine V_imul dX12_likeSub_81 ?_
      refine V_iload dX12_likeSub_82 rfl ?_
      refine V_iadd dX12_likeSub_84 ?_
      obtain ⟨r7, h⟩ := h
      refine V_iald (f := (σ 97 ((12 * x2) + x6))) (rfl : shp[97]? = some (1, 1344, 0)) r7 (rfl) dX12_likeSub_85 ?_
      obtain ⟨r8, h⟩ := h
      obtain ⟨r9, h⟩ := h
      refine V_icmp_ne (tgt := 93) dX12_likeSub_86 rfl r8 r9 (fun q => ?_) (fun q => ?_)
      · replace h := h.1 q
        refine V_iconst dX12_likeSub_93 ?_
        refine V_istore (L' := [some (vr 94), some (vi x1), some (vi x2), some (vi x3), some (vi x4), some (vi 0), some (vi x6)]) dX12_likeSub_94 (by decide) rfl ?_
        refine V_iinc (L' := [some (vr 94), some (vi x1), some (vi x2), some (vi x3), some (vi x4), some (vi 0), some (vi (x6 + 1))]) dX12_likeSub_96 rfl (by decide) rfl ?_
        refine V_goto (tgt := 45) dX12_likeSub_99 rfl ?_
        exact V.sub (SubL_s (SubL_s (SubL_s (SubL_s (SubL_s (SubL_s (SubL_s (SubL_0)))))))) h
      · replace h := h.2 q
        refine V_iconst dX12_likeSub_89 ?_
        refine V_goto (tgt := 94) dX12_likeSub_90 rfl ?_
        refine V_istore (L' := [some (vr 94), some (vi x1), some (vi x2), some (vi x3), some (vi x4), some (vi 1), some (vi x6)]) dX12_likeSub_94 (by decide) rfl ?_
        refine V_iinc (L' := [some (vr 94), some (vi x1), some (vi x2), some (vi x3), some (vi x4), some (vi 1), some (vi (x6 + 1))]) dX12_likeSub_96 rfl (by decide) rfl ?_
        refine V_goto (tgt := 45) dX12_likeSub_99 rfl ?_
        exact V.sub (SubL_s (SubL_s (SubL_s (SubL_s (SubL_s (SubL_s (SubL_s (SubL_0)))))))) h

set_option maxRecDepth 100000 in
theorem BX12_copyWord_0 {σ : Sg} {post : Po} {x1 : Int} {x2 : Int} 
  (h : (0 ≤ x1 ∧ x1 < 112) ∧ ((0 ≤ x2 ∧ x2 < 112) ∧ (V mX12_copyWord 14 [some (vr 94), some (vi x1), some (vi x2), some (vi 0)] [] (up σ 96 x2 (σ 96 x1)) post))) :
  V mX12_copyWord 0 [some (vr 94), some (vi x1), some (vi x2), none] [] σ post := by
  refine V_aload_n dX12_copyWord_0 rfl rfl ?_
  refine V_getR (k2 := 96) flX12_13 rfl rfl (by decide) dX12_copyWord_1 ?_
  refine V_iload_n dX12_copyWord_4 rfl rfl ?_
  refine V_aload_n dX12_copyWord_5 rfl rfl ?_
  refine V_getR (k2 := 96) flX12_13 rfl rfl (by decide) dX12_copyWord_6 ?_
  refine V_iload_n dX12_copyWord_9 rfl rfl ?_
  obtain ⟨r1, h⟩ := h
  refine V_iald (f := (σ 96 x1)) (rfl : shp[96]? = some (1, 112, 0)) r1 (rfl) dX12_copyWord_10 ?_
  obtain ⟨r2, h⟩ := h
  refine V_iast (rfl : shp[96]? = some (1, 112, 0)) r2 dX12_copyWord_11 ?_
  refine V_iconst dX12_copyWord_12 ?_
  refine V_istore_n (L' := [some (vr 94), some (vi x1), some (vi x2), some (vi 0)]) dX12_copyWord_13 rfl (by decide) rfl ?_
  exact V.sub (SubL_s (SubL_s (SubL_s (SubL_s (SubL_0))))) h
set_option maxRecDepth 100000 in
theorem BX12_copyWord_14 {σ : Sg} {post : Po} {x1 : Int} {x2 : Int} {x3 : Int} 
  (h : (rng x3) ∧ ((12 ≤ x3 → post none σ) ∧ (¬ 12 ≤ x3 → (0 ≤ ((12 * x1) + x3) ∧ ((12 * x1) + x3) < 1344) ∧ ((0 ≤ ((12 * x2) + x3) ∧ ((12 * x2) + x3) < 1344) ∧ (V mX12_copyWord 14 [some (vr 94), some (vi x1), some (vi x2), some (vi (x3 + 1))] [] (up σ 97 ((12 * x2) + x3) (σ 97 ((12 * x1) + x3))) post))))) :
  V mX12_copyWord 14 [some (vr 94), some (vi x1), some (vi x2), some (vi x3)] [] σ post := by
  refine V_iload_n dX12_copyWord_14 rfl rfl ?_
  refine V_bipush dX12_copyWord_15 (by decide) ?_
  obtain ⟨r1, h⟩ := h
  refine V_icmp_ge (tgt := 48) dX12_copyWord_17 rfl r1 (by decide) (fun q => ?_) (fun q => ?_)
  · replace h := h.1 q
    exact V_return (stk := []) rfl dX12_copyWord_48 h
  · replace h := h.2 q
    refine V_aload_n dX12_copyWord_20 rfl rfl ?_
    refine V_getR (k2 := 97) flX12_16 rfl rfl (by decide) dX12_copyWord_21 ?_
    refine V_bipush dX12_copyWord_24 (by decide) ?_
    refine V_iload_n dX12_copyWord_26 rfl rfl ?_
    refine V_imul dX12_copyWord_27 ?_
    refine V_iload_n dX12_copyWord_28 rfl rfl ?_
    refine V_iadd dX12_copyWord_29 ?_
    refine V_aload_n dX12_copyWord_30 rfl rfl ?_
    refine V_getR (k2 := 97) flX12_16 rfl rfl (by decide) dX12_copyWord_31 ?_
    refine V_bipush dX12_copyWord_34 (by decide) ?_
    refine V_iload_n dX12_copyWord_36 rfl rfl ?_
    refine V_imul dX12_copyWord_37 ?_
    refine V_iload_n dX12_copyWord_38 rfl rfl ?_
    refine V_iadd dX12_copyWord_39 ?_
    obtain ⟨r2, h⟩ := h
    refine V_iald (f := (σ 97 ((12 * x1) + x3))) (rfl : shp[97]? = some (1, 1344, 0)) r2 (rfl) dX12_copyWord_40 ?_
    obtain ⟨r3, h⟩ := h
    refine V_iast (rfl : shp[97]? = some (1, 1344, 0)) r3 dX12_copyWord_41 ?_
    refine V_iinc (L' := [some (vr 94), some (vi x1), some (vi x2), some (vi (x3 + 1))]) dX12_copyWord_42 rfl (by decide) rfl ?_
    refine V_goto (tgt := 14) dX12_copyWord_45 rfl ?_
    exact V.sub (SubL_s (SubL_s (SubL_s (SubL_s (SubL_0))))) h

set_option maxRecDepth 100000 in
theorem BX12_join_0 {σ : Sg} {post : Po} {x1 : Int} {x2 : Int} 
  (h : Cl mX12_noHead [vr 94, vi x1] σ (pI fun z1 σ1 => (rng z1) ∧ ((¬ z1 = 0 → V mX12_join 21 [none, none, none, none, none] [] σ1 post) ∧ (z1 = 0 → Cl mX12_noHead [vr 94, vi x2] σ1 (pI fun z2 σ2 => (rng z2) ∧ ((¬ z2 = 0 → V mX12_join 21 [none, none, none, none, none] [] σ2 post) ∧ (z2 = 0 → (rng x1) ∧ ((rng x2) ∧ ((¬ x1 = x2 → (0 ≤ x1 ∧ x1 < 16) ∧ ((rng (σ2 98 x1)) ∧ (((σ2 98 x1) < 0 → V mX12_join 43 [some (vr 94), some (vi x1), some (vi x2), some (vi 0), some (vi 0)] [] σ2 post) ∧ (¬ (σ2 98 x1) < 0 → post (some (vi (-1003))) σ2)))) ∧ (x1 = x2 → V mX12_join 21 [none, none, none, none, none] [] σ2 post)))))))))) :
  V mX12_join 0 [some (vr 94), some (vi x1), some (vi x2), none, none] [] σ post := by
  refine V_aload_n dX12_join_0 rfl rfl ?_
  refine V_iload_n dX12_join_1 rfl rfl ?_
  refine V_callV (av := [vi x1]) (stk := []) cvX12_293 rfl rfl rfl (by decide) (by simp [ctg]) dX12_join_2 h ?_
  rintro _ σ1 ⟨z1, rfl, h⟩
  obtain ⟨r1, h⟩ := h
  refine V_if_ne (tgt := 21) dX12_join_5 rfl r1 (fun q => ?_) (fun q => ?_)
  · replace h := h.1 q
    exact V.sub (SubL_n (SubL_n (SubL_n (SubL_n (SubL_n (SubL_0)))))) h
  · replace h := h.2 q
    refine V_aload_n dX12_join_8 rfl rfl ?_
    refine V_iload_n dX12_join_9 rfl rfl ?_
    refine V_callV (av := [vi x2]) (stk := []) cvX12_293 rfl rfl rfl (by decide) (by simp [ctg]) dX12_join_10 h ?_
    rintro _ σ2 ⟨z2, rfl, h⟩
    obtain ⟨r2, h⟩ := h
    refine V_if_ne (tgt := 21) dX12_join_13 rfl r2 (fun q => ?_) (fun q => ?_)
    · replace h := h.1 q
      exact V.sub (SubL_n (SubL_n (SubL_n (SubL_n (SubL_n (SubL_0)))))) h
    · replace h := h.2 q
      refine V_iload_n dX12_join_16 rfl rfl ?_
      refine V_iload_n dX12_join_17 rfl rfl ?_
      obtain ⟨r3, h⟩ := h
      obtain ⟨r4, h⟩ := h
      refine V_icmp_ne (tgt := 25) dX12_join_18 rfl r3 r4 (fun q => ?_) (fun q => ?_)
      · replace h := h.1 q
        refine V_aload_n dX12_join_25 rfl rfl ?_
        refine V_getR (k2 := 98) flX12_19 rfl rfl (by decide) dX12_join_26 ?_
        refine V_iload_n dX12_join_29 rfl rfl ?_
        obtain ⟨r5, h⟩ := h
        refine V_iald (f := (σ2 98 x1)) (rfl : shp[98]? = some (1, 16, 0)) r5 (rfl) dX12_join_30 ?_
        obtain ⟨r6, h⟩ := h
        refine V_if_lt (tgt := 38) dX12_join_31 rfl r6 (fun q => ?_) (fun q => ?_)
        · replace h := h.1 q
          refine V_iconst dX12_join_38 ?_
          refine V_istore_n (L' := [some (vr 94), some (vi x1), some (vi x2), some (vi 0), none]) dX12_join_39 rfl (by decide) rfl ?_
          refine V_iconst dX12_join_40 ?_
          refine V_istore (L' := [some (vr 94), some (vi x1), some (vi x2), some (vi 0), some (vi 0)]) dX12_join_41 (by decide) rfl ?_
          exact V.sub (SubL_s (SubL_s (SubL_s (SubL_s (SubL_s (SubL_0)))))) h
        · replace h := h.2 q
          refine V_sipush dX12_join_34 (by decide) ?_
          exact V_ireturn (stk := []) rfl dX12_join_37 h
      · replace h := h.2 q
        exact V.sub (SubL_n (SubL_n (SubL_n (SubL_n (SubL_n (SubL_0)))))) h
set_option maxRecDepth 100000 in
theorem BX12_join_21 {σ : Sg} {post : Po}  
  (h : post (some (vi (-1001))) σ) :
  V mX12_join 21 [none, none, none, none, none] [] σ post := by
  refine V_sipush dX12_join_21 (by decide) ?_
  exact V_ireturn (stk := []) rfl dX12_join_24 h
set_option maxRecDepth 100000 in
theorem BX12_join_43 {σ : Sg} {post : Po} {x1 : Int} {x2 : Int} {x3 : Int} {x4 : Int} 
  (h : (0 ≤ x2 ∧ x2 < 16) ∧ ((rng x4) ∧ ((rng (σ 95 x2)) ∧ (((σ 95 x2) ≤ x4 → (0 ≤ x1 ∧ x1 < 16) ∧ ((rng ((σ 95 x1) + x3)) ∧ ((((σ 95 x1) + x3) ≤ 6 → V mX12_join 105 [some (vr 94), some (vi x1), some (vi x2), none, some (vi 0)] [] σ post) ∧ (¬ ((σ 95 x1) + x3) ≤ 6 → post (some (vi (-1004))) σ)))) ∧ (¬ (σ 95 x2) ≤ x4 → Cl mX12_slot [vi x2, vi x4] σ (pI fun z1 σ1 => Cl mX12_likeSub [vr 94, vi x1, vi z1] σ1 (pI fun z2 σ2 => (rng z2) ∧ ((0 ≤ z2 → Cl mX12_one [vi 0] σ2 (pI fun z3 σ3 => V mX12_join 43 [some (vr 94), some (vi x1), some (vi x2), some (vi (x3 + z3)), some (vi (x4 + 1))] [] σ3 post)) ∧ (¬ 0 ≤ z2 → Cl mX12_one [vi 1] σ2 (pI fun z4 σ4 => V mX12_join 43 [some (vr 94), some (vi x1), some (vi x2), some (vi (x3 + z4)), some (vi (x4 + 1))] [] σ4 post)))))))))) :
  V mX12_join 43 [some (vr 94), some (vi x1), some (vi x2), some (vi x3), some (vi x4)] [] σ post := by
  refine V_iload dX12_join_43 rfl ?_
  refine V_aload_n dX12_join_45 rfl rfl ?_
  refine V_getR (k2 := 95) flX12_7 rfl rfl (by decide) dX12_join_46 ?_
  refine V_iload_n dX12_join_49 rfl rfl ?_
  obtain ⟨r1, h⟩ := h
  refine V_iald (f := (σ 95 x2)) (rfl : shp[95]? = some (1, 16, 0)) r1 (rfl) dX12_join_50 ?_
  obtain ⟨r2, h⟩ := h
  obtain ⟨r3, h⟩ := h
  refine V_icmp_ge (tgt := 85) dX12_join_51 rfl r2 r3 (fun q => ?_) (fun q => ?_)
  · replace h := h.1 q
    refine V_aload_n dX12_join_85 rfl rfl ?_
    refine V_getR (k2 := 95) flX12_7 rfl rfl (by decide) dX12_join_86 ?_
    refine V_iload_n dX12_join_89 rfl rfl ?_
    obtain ⟨r4, h⟩ := h
    refine V_iald (f := (σ 95 x1)) (rfl : shp[95]? = some (1, 16, 0)) r4 (rfl) dX12_join_90 ?_
    refine V_iload_n dX12_join_91 rfl rfl ?_
    refine V_iadd dX12_join_92 ?_
    refine V_bipush dX12_join_93 (by decide) ?_
    obtain ⟨r5, h⟩ := h
    refine V_icmp_le (tgt := 102) dX12_join_95 rfl r5 (by decide) (fun q => ?_) (fun q => ?_)
    · replace h := h.1 q
      refine V_iconst dX12_join_102 ?_
      refine V_istore (L' := [some (vr 94), some (vi x1), some (vi x2), some (vi x3), some (vi 0)]) dX12_join_103 (by decide) rfl ?_
      exact V.sub (SubL_s (SubL_s (SubL_s (SubL_n (SubL_s (SubL_0)))))) h
    · replace h := h.2 q
      refine V_sipush dX12_join_98 (by decide) ?_
      exact V_ireturn (stk := []) rfl dX12_join_101 h
  · replace h := h.2 q
    refine V_iload_n dX12_join_54 rfl rfl ?_
    refine V_aload_n dX12_join_55 rfl rfl ?_
    refine V_iload_n dX12_join_56 rfl rfl ?_
    refine V_iload_n dX12_join_57 rfl rfl ?_
    refine V_iload dX12_join_58 rfl ?_
    refine V_callS (av := [vi x2, vi x4]) (stk := [vi x1, vr 94, vi x3]) cvX12_195 rfl rfl (by decide) (by simp [ctg]) dX12_join_60 h ?_
    rintro _ σ1 ⟨z1, rfl, h⟩
    refine V_callV (av := [vi x1, vi z1]) (stk := [vi x3]) cvX12_500 rfl rfl rfl (by decide) (by simp [ctg]) dX12_join_63 h ?_
    rintro _ σ2 ⟨z2, rfl, h⟩
    obtain ⟨r6, h⟩ := h
    refine V_if_ge (tgt := 73) dX12_join_66 rfl r6 (fun q => ?_) (fun q => ?_)
    · replace h := h.1 q
      refine V_iconst dX12_join_73 ?_
      refine V_callS (av := [vi 0]) (stk := [vi x3]) cvX12_271 rfl rfl (by decide) (by simp [ctg]) dX12_join_74 h ?_
      rintro _ σ3 ⟨z3, rfl, h⟩
      refine V_iadd dX12_join_77 ?_
      refine V_istore_n (L' := [some (vr 94), some (vi x1), some (vi x2), some (vi (x3 + z3)), some (vi x4)]) dX12_join_78 rfl (by decide) rfl ?_
      refine V_iinc (L' := [some (vr 94), some (vi x1), some (vi x2), some (vi (x3 + z3)), some (vi (x4 + 1))]) dX12_join_79 rfl (by decide) rfl ?_
      refine V_goto (tgt := 43) dX12_join_82 rfl ?_
      exact V.sub (SubL_s (SubL_s (SubL_s (SubL_s (SubL_s (SubL_0)))))) h
    · replace h := h.2 q
      refine V_iconst dX12_join_69 ?_
      refine V_goto (tgt := 74) dX12_join_70 rfl ?_
      refine V_callS (av := [vi 1]) (stk := [vi x3]) cvX12_271 rfl rfl (by decide) (by simp [ctg]) dX12_join_74 h ?_
      rintro _ σ4 ⟨z4, rfl, h⟩
      refine V_iadd dX12_join_77 ?_
      refine V_istore_n (L' := [some (vr 94), some (vi x1), some (vi x2), some (vi (x3 + z4)), some (vi x4)]) dX12_join_78 rfl (by decide) rfl ?_
      refine V_iinc (L' := [some (vr 94), some (vi x1), some (vi x2), some (vi (x3 + z4)), some (vi (x4 + 1))]) dX12_join_79 rfl (by decide) rfl ?_
      refine V_goto (tgt := 43) dX12_join_82 rfl ?_
      exact V.sub (SubL_s (SubL_s (SubL_s (SubL_s (SubL_s (SubL_0)))))) h
set_option maxRecDepth 100000 in
theorem BX12_join_105 {σ : Sg} {post : Po} {x1 : Int} {x2 : Int} {x4 : Int} 
  (h : (0 ≤ x2 ∧ x2 < 16) ∧ ((rng x4) ∧ ((rng (σ 95 x2)) ∧ (((σ 95 x2) ≤ x4 → V mX12_join 196 [some (vr 94), some (vi x1), some (vi x2), none, some (vi 0)] [] σ post) ∧ (¬ (σ 95 x2) ≤ x4 → Cl mX12_slot [vi x2, vi x4] σ (pI fun z1 σ1 => Cl mX12_likeSub [vr 94, vi x1, vi z1] σ1 (pI fun z2 σ2 => (0 ≤ x4 ∧ x4 < 6) ∧ ((rng z2) ∧ ((0 ≤ z2 → V mX12_join 187 [some (vr 94), some (vi x1), some (vi x2), none, some (vi x4)] [] (up σ2 121 x4 z2) post) ∧ (¬ 0 ≤ z2 → (0 ≤ x1 ∧ x1 < 16) ∧ (Cl mX12_slot [vi x2, vi x4] (up (up σ2 121 x4 z2) 121 x4 (σ2 95 x1)) (pI fun z3 σ3 => Cl mX12_slot [vi x1, vi (σ3 95 x1)] σ3 (pI fun z4 σ4 => Cl mX12_copyWord [vr 94, vi z3, vi z4] σ4 (pV fun σ5 => V mX12_join 187 [some (vr 94), some (vi x1), some (vi x2), none, some (vi x4)] [] (up σ5 95 x1 ((σ5 95 x1) + 1)) post)))))))))))))) :
  V mX12_join 105 [some (vr 94), some (vi x1), some (vi x2), none, some (vi x4)] [] σ post := by
  refine V_iload dX12_join_105 rfl ?_
  refine V_aload_n dX12_join_107 rfl rfl ?_
  refine V_getR (k2 := 95) flX12_7 rfl rfl (by decide) dX12_join_108 ?_
  refine V_iload_n dX12_join_111 rfl rfl ?_
  obtain ⟨r1, h⟩ := h
  refine V_iald (f := (σ 95 x2)) (rfl : shp[95]? = some (1, 16, 0)) r1 (rfl) dX12_join_112 ?_
  obtain ⟨r2, h⟩ := h
  obtain ⟨r3, h⟩ := h
  refine V_icmp_ge (tgt := 193) dX12_join_113 rfl r2 r3 (fun q => ?_) (fun q => ?_)
  · replace h := h.1 q
    refine V_iconst dX12_join_193 ?_
    refine V_istore (L' := [some (vr 94), some (vi x1), some (vi x2), none, some (vi 0)]) dX12_join_194 (by decide) rfl ?_
    exact V.sub (SubL_s (SubL_s (SubL_s (SubL_n (SubL_s (SubL_0)))))) h
  · replace h := h.2 q
    refine V_aload_n dX12_join_116 rfl rfl ?_
    refine V_getR (k2 := 121) flX12_96 rfl rfl (by decide) dX12_join_117 ?_
    refine V_iload dX12_join_120 rfl ?_
    refine V_aload_n dX12_join_122 rfl rfl ?_
    refine V_iload_n dX12_join_123 rfl rfl ?_
    refine V_iload_n dX12_join_124 rfl rfl ?_
    refine V_iload dX12_join_125 rfl ?_
    refine V_callS (av := [vi x2, vi x4]) (stk := [vi x1, vr 94, vi x4, vr 121]) cvX12_195 rfl rfl (by decide) (by simp [ctg]) dX12_join_127 h ?_
    rintro _ σ1 ⟨z1, rfl, h⟩
    refine V_callV (av := [vi x1, vi z1]) (stk := [vi x4, vr 121]) cvX12_500 rfl rfl rfl (by decide) (by simp [ctg]) dX12_join_130 h ?_
    rintro _ σ2 ⟨z2, rfl, h⟩
    obtain ⟨r4, h⟩ := h
    refine V_iast (rfl : shp[121]? = some (1, 6, 0)) r4 dX12_join_133 ?_
    refine V_aload_n dX12_join_134 rfl rfl ?_
    refine V_getR (k2 := 121) flX12_96 rfl rfl (by decide) dX12_join_135 ?_
    refine V_iload dX12_join_138 rfl ?_
    refine V_iald (f := z2) (rfl : shp[121]? = some (1, 6, 0)) r4 (up_s) dX12_join_140 ?_
    obtain ⟨r5, h⟩ := h
    refine V_if_ge (tgt := 187) dX12_join_141 rfl r5 (fun q => ?_) (fun q => ?_)
    · replace h := h.1 q
      exact V.sub (SubL_s (SubL_s (SubL_s (SubL_n (SubL_s (SubL_0)))))) h
    · replace h := h.2 q
      refine V_aload_n dX12_join_144 rfl rfl ?_
      refine V_getR (k2 := 121) flX12_96 rfl rfl (by decide) dX12_join_145 ?_
      refine V_iload dX12_join_148 rfl ?_
      refine V_aload_n dX12_join_150 rfl rfl ?_
      refine V_getR (k2 := 95) flX12_7 rfl rfl (by decide) dX12_join_151 ?_
      refine V_iload_n dX12_join_154 rfl rfl ?_
      obtain ⟨r6, h⟩ := h
      refine V_iald (f := (σ2 95 x1)) (rfl : shp[95]? = some (1, 16, 0)) r6 (up_o (by omega)) dX12_join_155 ?_
      refine V_iast (rfl : shp[121]? = some (1, 6, 0)) r4 dX12_join_156 ?_
      refine V_aload_n dX12_join_157 rfl rfl ?_
      refine V_iload_n dX12_join_158 rfl rfl ?_
      refine V_iload dX12_join_159 rfl ?_
      refine V_callS (av := [vi x2, vi x4]) (stk := [vr 94]) cvX12_195 rfl rfl (by decide) (by simp [ctg]) dX12_join_161 h ?_
      rintro _ σ3 ⟨z3, rfl, h⟩
      refine V_iload_n dX12_join_164 rfl rfl ?_
      refine V_aload_n dX12_join_165 rfl rfl ?_
      refine V_getR (k2 := 95) flX12_7 rfl rfl (by decide) dX12_join_166 ?_
      refine V_iload_n dX12_join_169 rfl rfl ?_
      refine V_iald (f := (σ3 95 x1)) (rfl : shp[95]? = some (1, 16, 0)) r6 (rfl) dX12_join_170 ?_
      refine V_callS (av := [vi x1, vi (σ3 95 x1)]) (stk := [vi z3, vr 94]) cvX12_195 rfl rfl (by decide) (by simp [ctg]) dX12_join_171 h ?_
      rintro _ σ4 ⟨z4, rfl, h⟩
      refine V_callV (av := [vi z3, vi z4]) (stk := []) cvX12_503 rfl rfl rfl (by decide) (by simp [ctg]) dX12_join_174 h ?_
      rintro _ σ5 ⟨rfl, h⟩
      refine V_aload_n dX12_join_177 rfl rfl ?_
      refine V_getR (k2 := 95) flX12_7 rfl rfl (by decide) dX12_join_178 ?_
      refine V_iload_n dX12_join_181 rfl rfl ?_
      refine V_dup2 dX12_join_182 trivial trivial ?_
      refine V_iald (f := (σ5 95 x1)) (rfl : shp[95]? = some (1, 16, 0)) r6 (rfl) dX12_join_183 ?_
      refine V_iconst dX12_join_184 ?_
      refine V_iadd dX12_join_185 ?_
      refine V_iast (rfl : shp[95]? = some (1, 16, 0)) r6 dX12_join_186 ?_
      exact V.sub (SubL_s (SubL_s (SubL_s (SubL_n (SubL_s (SubL_0)))))) h
set_option maxRecDepth 100000 in
theorem BX12_join_196 {σ : Sg} {post : Po} {x1 : Int} {x2 : Int} {x4 : Int} 
  (h : (rng x4) ∧ ((rng (σ 94 7)) ∧ (((σ 94 7) ≤ x4 → (0 ≤ x1 ∧ x1 < 16) ∧ ((0 ≤ x2 ∧ x2 < 16) ∧ ((rng ((σ 100 x1) + (σ 100 x2))) ∧ ((((σ 100 x1) + (σ 100 x2)) ≤ 99 → Cl mX12_marksOf [vr 94, vi x1, vi (-2)] (up (up (up (up (up (up σ 99 x1 (iOr (σ 99 x1) (iAnd (σ 99 x2) (iXor (iShl 1 x1) (-1))))) 100 x1 ((σ 100 x1) + (σ 100 x2))) 98 x2 x1) 95 x2 0) 99 x2 0) 100 x2 0) (pI fun z1 σ1 => post (some (vi z1)) σ1)) ∧ (¬ ((σ 100 x1) + (σ 100 x2)) ≤ 99 → Cl mX12_marksOf [vr 94, vi x1, vi (-2)] (up (up (up (up (up (up σ 99 x1 (iOr (σ 99 x1) (iAnd (σ 99 x2) (iXor (iShl 1 x1) (-1))))) 100 x1 99) 98 x2 x1) 95 x2 0) 99 x2 0) 100 x2 0) (pI fun z2 σ2 => post (some (vi z2)) σ2)))))) ∧ (¬ (σ 94 7) ≤ x4 → (0 ≤ x4 ∧ x4 < 60) ∧ ((rng (σ 101 x4)) ∧ ((rng x2) ∧ ((¬ (σ 101 x4) = x2 → V mX12_join 257 [some (vr 94), some (vi x1), some (vi x2), none, some (vi x4)] [] σ post) ∧ ((σ 101 x4) = x2 → (rng (σ 102 x4)) ∧ ((0 ≤ (σ 102 x4) → (0 ≤ (σ 102 x4) ∧ (σ 102 x4) < 6) ∧ (V mX12_join 257 [some (vr 94), some (vi x1), some (vi x2), none, some (vi x4)] [] (up (up σ 101 x4 x1) 102 x4 (σ 121 (σ 102 x4))) post)) ∧ (¬ 0 ≤ (σ 102 x4) → V mX12_join 257 [some (vr 94), some (vi x1), some (vi x2), none, some (vi x4)] [] (up (up σ 101 x4 x1) 102 x4 (-1)) post)))))))))) :
  V mX12_join 196 [some (vr 94), some (vi x1), some (vi x2), none, some (vi x4)] [] σ post := by
  refine V_iload dX12_join_196 rfl ?_
  refine V_aload_n dX12_join_198 rfl rfl ?_
  refine V_getI (f := (σ 94 7)) flX12_210 rfl (rfl) (by decide) dX12_join_199 ?_
  obtain ⟨r1, h⟩ := h
  obtain ⟨r2, h⟩ := h
  refine V_icmp_ge (tgt := 263) dX12_join_202 rfl r1 r2 (fun q => ?_) (fun q => ?_)
  · replace h := h.1 q
    refine V_aload_n dX12_join_263 rfl rfl ?_
    refine V_getR (k2 := 99) flX12_22 rfl rfl (by decide) dX12_join_264 ?_
    refine V_iload_n dX12_join_267 rfl rfl ?_
    refine V_dup2 dX12_join_268 trivial trivial ?_
    obtain ⟨r3, h⟩ := h
    refine V_iald (f := (σ 99 x1)) (rfl : shp[99]? = some (1, 16, 0)) r3 (rfl) dX12_join_269 ?_
    refine V_aload_n dX12_join_270 rfl rfl ?_
    refine V_getR (k2 := 99) flX12_22 rfl rfl (by decide) dX12_join_271 ?_
    refine V_iload_n dX12_join_274 rfl rfl ?_
    obtain ⟨r4, h⟩ := h
    refine V_iald (f := (σ 99 x2)) (rfl : shp[99]? = some (1, 16, 0)) r4 (rfl) dX12_join_275 ?_
    refine V_iconst dX12_join_276 ?_
    refine V_iload_n dX12_join_277 rfl rfl ?_
    refine V_ishl dX12_join_278 ?_
    refine V_iconst dX12_join_279 ?_
    refine V_ixor dX12_join_280 ?_
    refine V_iand dX12_join_281 ?_
    refine V_ior dX12_join_282 ?_
    refine V_iast (rfl : shp[99]? = some (1, 16, 0)) r3 dX12_join_283 ?_
    refine V_aload_n dX12_join_284 rfl rfl ?_
    refine V_getR (k2 := 100) flX12_25 rfl rfl (by decide) dX12_join_285 ?_
    refine V_iload_n dX12_join_288 rfl rfl ?_
    refine V_aload_n dX12_join_289 rfl rfl ?_
    refine V_getR (k2 := 100) flX12_25 rfl rfl (by decide) dX12_join_290 ?_
    refine V_iload_n dX12_join_293 rfl rfl ?_
    refine V_iald (f := (σ 100 x1)) (rfl : shp[100]? = some (1, 16, 0)) r3 (up_o (by omega)) dX12_join_294 ?_
    refine V_aload_n dX12_join_295 rfl rfl ?_
    refine V_getR (k2 := 100) flX12_25 rfl rfl (by decide) dX12_join_296 ?_
    refine V_iload_n dX12_join_299 rfl rfl ?_
    refine V_iald (f := (σ 100 x2)) (rfl : shp[100]? = some (1, 16, 0)) r4 (up_o (by omega)) dX12_join_300 ?_
    refine V_iadd dX12_join_301 ?_
    refine V_bipush dX12_join_302 (by decide) ?_
    obtain ⟨r5, h⟩ := h
    refine V_icmp_le (tgt := 312) dX12_join_304 rfl r5 (by decide) (fun q => ?_) (fun q => ?_)
    · replace h := h.1 q
      refine V_aload_n dX12_join_312 rfl rfl ?_
      refine V_getR (k2 := 100) flX12_25 rfl rfl (by decide) dX12_join_313 ?_
      refine V_iload_n dX12_join_316 rfl rfl ?_
      refine V_iald (f := (σ 100 x1)) (rfl : shp[100]? = some (1, 16, 0)) r3 (up_o (by omega)) dX12_join_317 ?_
      refine V_aload_n dX12_join_318 rfl rfl ?_
      refine V_getR (k2 := 100) flX12_25 rfl rfl (by decide) dX12_join_319 ?_
      refine V_iload_n dX12_join_322 rfl rfl ?_
      refine V_iald (f := (σ 100 x2)) (rfl : shp[100]? = some (1, 16, 0)) r4 (up_o (by omega)) dX12_join_323 ?_
      refine V_iadd dX12_join_324 ?_
      refine V_iast (rfl : shp[100]? = some (1, 16, 0)) r3 dX12_join_325 ?_
      refine V_aload_n dX12_join_326 rfl rfl ?_
      refine V_getR (k2 := 98) flX12_19 rfl rfl (by decide) dX12_join_327 ?_
      refine V_iload_n dX12_join_330 rfl rfl ?_
      refine V_iload_n dX12_join_331 rfl rfl ?_
      refine V_iast (rfl : shp[98]? = some (1, 16, 0)) r4 dX12_join_332 ?_
      refine V_aload_n dX12_join_333 rfl rfl ?_
      refine V_getR (k2 := 95) flX12_7 rfl rfl (by decide) dX12_join_334 ?_
      refine V_iload_n dX12_join_337 rfl rfl ?_
      refine V_iconst dX12_join_338 ?_
      refine V_iast (rfl : shp[95]? = some (1, 16, 0)) r4 dX12_join_339 ?_
      refine V_aload_n dX12_join_340 rfl rfl ?_
      refine V_getR (k2 := 99) flX12_22 rfl rfl (by decide) dX12_join_341 ?_
      refine V_iload_n dX12_join_344 rfl rfl ?_
      refine V_iconst dX12_join_345 ?_
      refine V_iast (rfl : shp[99]? = some (1, 16, 0)) r4 dX12_join_346 ?_
      refine V_aload_n dX12_join_347 rfl rfl ?_
      refine V_getR (k2 := 100) flX12_25 rfl rfl (by decide) dX12_join_348 ?_
      refine V_iload_n dX12_join_351 rfl rfl ?_
      refine V_iconst dX12_join_352 ?_
      refine V_iast (rfl : shp[100]? = some (1, 16, 0)) r4 dX12_join_353 ?_
      refine V_aload_n dX12_join_354 rfl rfl ?_
      refine V_iload_n dX12_join_355 rfl rfl ?_
      refine V_bipush dX12_join_356 (by decide) ?_
      refine V_callV (av := [vi x1, vi (-2)]) (stk := []) cvX12_275 rfl rfl rfl (by decide) (by simp [ctg]) dX12_join_358 h ?_
      rintro _ σ1 ⟨z1, rfl, h⟩
      exact V_ireturn (stk := []) rfl dX12_join_361 h
    · replace h := h.2 q
      refine V_bipush dX12_join_307 (by decide) ?_
      refine V_goto (tgt := 325) dX12_join_309 rfl ?_
      refine V_iast (rfl : shp[100]? = some (1, 16, 0)) r3 dX12_join_325 ?_
      refine V_aload_n dX12_join_326 rfl rfl ?_
      refine V_getR (k2 := 98) flX12_19 rfl rfl (by decide) dX12_join_327 ?_
      refine V_iload_n dX12_join_330 rfl rfl ?_
      refine V_iload_n dX12_join_331 rfl rfl ?_
      refine V_iast (rfl : shp[98]? = some (1, 16, 0)) r4 dX12_join_332 ?_
      refine V_aload_n dX12_join_333 rfl rfl ?_
      refine V_getR (k2 := 95) flX12_7 rfl rfl (by decide) dX12_join_334 ?_
      refine V_iload_n dX12_join_337 rfl rfl ?_
      refine V_iconst dX12_join_338 ?_
      refine V_iast (rfl : shp[95]? = some (1, 16, 0)) r4 dX12_join_339 ?_
      refine V_aload_n dX12_join_340 rfl rfl ?_
      refine V_getR (k2 := 99) flX12_22 rfl rfl (by decide) dX12_join_341 ?_
      refine V_iload_n dX12_join_344 rfl rfl ?_
      refine V_iconst dX12_join_345 ?_
      refine V_iast (rfl : shp[99]? = some (1, 16, 0)) r4 dX12_join_346 ?_
      refine V_aload_n dX12_join_347 rfl rfl ?_
      refine V_getR (k2 := 100) flX12_25 rfl rfl (by decide) dX12_join_348 ?_
      refine V_iload_n dX12_join_351 rfl rfl ?_
      refine V_iconst dX12_join_352 ?_
      refine V_iast (rfl : shp[100]? = some (1, 16, 0)) r4 dX12_join_353 ?_
      refine V_aload_n dX12_join_354 rfl rfl ?_
      refine V_iload_n dX12_join_355 rfl rfl ?_
      refine V_bipush dX12_join_356 (by decide) ?_
      refine V_callV (av := [vi x1, vi (-2)]) (stk := []) cvX12_275 rfl rfl rfl (by decide) (by simp [ctg]) dX12_join_358 h ?_
      rintro _ σ2 ⟨z2, rfl, h⟩
      exact V_ireturn (stk := []) rfl dX12_join_361 h
  · replace h := h.2 q
    refine V_aload_n dX12_join_205 rfl rfl ?_
    refine V_getR (k2 := 101) flX12_28 rfl rfl (by decide) dX12_join_206 ?_
    refine V_iload dX12_join_209 rfl ?_
    obtain ⟨r6, h⟩ := h
    refine V_iald (f := (σ 101 x4)) (rfl : shp[101]? = some (1, 60, 0)) r6 (rfl) dX12_join_211 ?_
    refine V_iload_n dX12_join_212 rfl rfl ?_
    obtain ⟨r7, h⟩ := h
    obtain ⟨r8, h⟩ := h
    refine V_icmp_ne (tgt := 257) dX12_join_213 rfl r7 r8 (fun q => ?_) (fun q => ?_)
    · replace h := h.1 q
      exact V.sub (SubL_s (SubL_s (SubL_s (SubL_n (SubL_s (SubL_0)))))) h
    · replace h := h.2 q
      refine V_aload_n dX12_join_216 rfl rfl ?_
      refine V_getR (k2 := 101) flX12_28 rfl rfl (by decide) dX12_join_217 ?_
      refine V_iload dX12_join_220 rfl ?_
      refine V_iload_n dX12_join_222 rfl rfl ?_
      refine V_iast (rfl : shp[101]? = some (1, 60, 0)) r6 dX12_join_223 ?_
      refine V_aload_n dX12_join_224 rfl rfl ?_
      refine V_getR (k2 := 102) flX12_31 rfl rfl (by decide) dX12_join_225 ?_
      refine V_iload dX12_join_228 rfl ?_
      refine V_aload_n dX12_join_230 rfl rfl ?_
      refine V_getR (k2 := 102) flX12_31 rfl rfl (by decide) dX12_join_231 ?_
      refine V_iload dX12_join_234 rfl ?_
      refine V_iald (f := (σ 102 x4)) (rfl : shp[102]? = some (1, 60, 0)) r6 (up_o (by omega)) dX12_join_236 ?_
      obtain ⟨r9, h⟩ := h
      refine V_if_ge (tgt := 244) dX12_join_237 rfl r9 (fun q => ?_) (fun q => ?_)
      · replace h := h.1 q
        refine V_aload_n dX12_join_244 rfl rfl ?_
        refine V_getR (k2 := 121) flX12_96 rfl rfl (by decide) dX12_join_245 ?_
        refine V_aload_n dX12_join_248 rfl rfl ?_
        refine V_getR (k2 := 102) flX12_31 rfl rfl (by decide) dX12_join_249 ?_
        refine V_iload dX12_join_252 rfl ?_
        refine V_iald (f := (σ 102 x4)) (rfl : shp[102]? = some (1, 60, 0)) r6 (up_o (by omega)) dX12_join_254 ?_
        obtain ⟨r10, h⟩ := h
        refine V_iald (f := (σ 121 (σ 102 x4))) (rfl : shp[121]? = some (1, 6, 0)) r10 (up_o (by omega)) dX12_join_255 ?_
        refine V_iast (rfl : shp[102]? = some (1, 60, 0)) r6 dX12_join_256 ?_
        exact V.sub (SubL_s (SubL_s (SubL_s (SubL_n (SubL_s (SubL_0)))))) h
      · replace h := h.2 q
        refine V_iconst dX12_join_240 ?_
        refine V_goto (tgt := 256) dX12_join_241 rfl ?_
        refine V_iast (rfl : shp[102]? = some (1, 60, 0)) r6 dX12_join_256 ?_
        exact V.sub (SubL_s (SubL_s (SubL_s (SubL_n (SubL_s (SubL_0)))))) h
set_option maxRecDepth 100000 in
theorem BX12_join_187 {σ : Sg} {post : Po} {x1 : Int} {x2 : Int} {x4 : Int} 
  (h : V mX12_join 105 [some (vr 94), some (vi x1), some (vi x2), none, some (vi (x4 + 1))] [] σ post) :
  V mX12_join 187 [some (vr 94), some (vi x1), some (vi x2), none, some (vi x4)] [] σ post := by
  refine V_iinc (L' := [some (vr 94), some (vi x1), some (vi x2), none, some (vi (x4 + 1))]) dX12_join_187 rfl (by decide) rfl ?_
  refine V_goto (tgt := 105) dX12_join_190 rfl ?_
  exact V.sub (SubL_s (SubL_s (SubL_s (SubL_n (SubL_s (SubL_0)))))) h
set_option maxRecDepth 100000 in
theorem BX12_join_257 {σ : Sg} {post : Po} {x1 : Int} {x2 : Int} {x4 : Int} 
  (h : V mX12_join 196 [some (vr 94), some (vi x1), some (vi x2), none, some (vi (x4 + 1))] [] σ post) :
  V mX12_join 257 [some (vr 94), some (vi x1), some (vi x2), none, some (vi x4)] [] σ post := by
  refine V_iinc (L' := [some (vr 94), some (vi x1), some (vi x2), none, some (vi (x4 + 1))]) dX12_join_257 rfl (by decide) rfl ?_
  refine V_goto (tgt := 196) dX12_join_260 rfl ?_
  exact V.sub (SubL_s (SubL_s (SubL_s (SubL_n (SubL_s (SubL_0)))))) h

set_option maxRecDepth 100000 in
theorem BX12_keepAt_0 {σ : Sg} {post : Po} {x1 : Int} 
  (h : (0 ≤ x1 ∧ x1 < 3) ∧ (V mX12_keepAt 12 [some (vr 94), some (vi x1), some (vi 0)] [] (up σ 122 x1 (σ 94 0)) post)) :
  V mX12_keepAt 0 [some (vr 94), some (vi x1), none] [] σ post := by
  refine V_aload_n dX12_keepAt_0 rfl rfl ?_
  refine V_getR (k2 := 122) flX12_99 rfl rfl (by decide) dX12_keepAt_1 ?_
  refine V_iload_n dX12_keepAt_4 rfl rfl ?_
  refine V_aload_n dX12_keepAt_5 rfl rfl ?_
  refine V_getI (f := (σ 94 0)) flX12_192 rfl (rfl) (by decide) dX12_keepAt_6 ?_
  obtain ⟨r1, h⟩ := h
  refine V_iast (rfl : shp[122]? = some (1, 3, 0)) r1 dX12_keepAt_9 ?_
  refine V_iconst dX12_keepAt_10 ?_
  refine V_istore_n (L' := [some (vr 94), some (vi x1), some (vi 0)]) dX12_keepAt_11 rfl (by decide) rfl ?_
  exact V.sub (SubL_s (SubL_s (SubL_s (SubL_0)))) h
set_option maxRecDepth 100000 in
theorem BX12_keepAt_12 {σ : Sg} {post : Po} {x1 : Int} {x2 : Int} 
  (h : (rng x2) ∧ ((16 ≤ x2 → V mX12_keepAt 94 [some (vr 94), some (vi x1), some (vi 0)] [] σ post) ∧ (¬ 16 ≤ x2 → (0 ≤ x2 ∧ x2 < 16) ∧ ((0 ≤ ((16 * x1) + x2) ∧ ((16 * x1) + x2) < 48) ∧ (V mX12_keepAt 12 [some (vr 94), some (vi x1), some (vi (x2 + 1))] [] (up (up (up (up σ 123 ((16 * x1) + x2) (σ 95 x2)) 126 ((16 * x1) + x2) (σ 98 x2)) 127 ((16 * x1) + x2) (σ 99 x2)) 128 ((16 * x1) + x2) (σ 100 x2)) post))))) :
  V mX12_keepAt 12 [some (vr 94), some (vi x1), some (vi x2)] [] σ post := by
  refine V_iload_n dX12_keepAt_12 rfl rfl ?_
  refine V_bipush dX12_keepAt_13 (by decide) ?_
  obtain ⟨r1, h⟩ := h
  refine V_icmp_ge (tgt := 92) dX12_keepAt_15 rfl r1 (by decide) (fun q => ?_) (fun q => ?_)
  · replace h := h.1 q
    refine V_iconst dX12_keepAt_92 ?_
    refine V_istore_n (L' := [some (vr 94), some (vi x1), some (vi 0)]) dX12_keepAt_93 rfl (by decide) rfl ?_
    exact V.sub (SubL_s (SubL_s (SubL_s (SubL_0)))) h
  · replace h := h.2 q
    refine V_aload_n dX12_keepAt_18 rfl rfl ?_
    refine V_getR (k2 := 123) flX12_102 rfl rfl (by decide) dX12_keepAt_19 ?_
    refine V_bipush dX12_keepAt_22 (by decide) ?_
    refine V_iload_n dX12_keepAt_24 rfl rfl ?_
    refine V_imul dX12_keepAt_25 ?_
    refine V_iload_n dX12_keepAt_26 rfl rfl ?_
    refine V_iadd dX12_keepAt_27 ?_
    refine V_aload_n dX12_keepAt_28 rfl rfl ?_
    refine V_getR (k2 := 95) flX12_7 rfl rfl (by decide) dX12_keepAt_29 ?_
    refine V_iload_n dX12_keepAt_32 rfl rfl ?_
    obtain ⟨r2, h⟩ := h
    refine V_iald (f := (σ 95 x2)) (rfl : shp[95]? = some (1, 16, 0)) r2 (rfl) dX12_keepAt_33 ?_
    obtain ⟨r3, h⟩ := h
    refine V_iast (rfl : shp[123]? = some (1, 48, 0)) r3 dX12_keepAt_34 ?_
    refine V_aload_n dX12_keepAt_35 rfl rfl ?_
    refine V_getR (k2 := 126) flX12_111 rfl rfl (by decide) dX12_keepAt_36 ?_
    refine V_bipush dX12_keepAt_39 (by decide) ?_
    refine V_iload_n dX12_keepAt_41 rfl rfl ?_
    refine V_imul dX12_keepAt_42 ?_
    refine V_iload_n dX12_keepAt_43 rfl rfl ?_
    refine V_iadd dX12_keepAt_44 ?_
    refine V_aload_n dX12_keepAt_45 rfl rfl ?_
    refine V_getR (k2 := 98) flX12_19 rfl rfl (by decide) dX12_keepAt_46 ?_
    refine V_iload_n dX12_keepAt_49 rfl rfl ?_
    refine V_iald (f := (σ 98 x2)) (rfl : shp[98]? = some (1, 16, 0)) r2 (up_o (by omega)) dX12_keepAt_50 ?_
    refine V_iast (rfl : shp[126]? = some (1, 48, 0)) r3 dX12_keepAt_51 ?_
    refine V_aload_n dX12_keepAt_52 rfl rfl ?_
    refine V_getR (k2 := 127) flX12_114 rfl rfl (by decide) dX12_keepAt_53 ?_
    refine V_bipush dX12_keepAt_56 (by decide) ?_
    refine V_iload_n dX12_keepAt_58 rfl rfl ?_
    refine V_imul dX12_keepAt_59 ?_
    refine V_iload_n dX12_keepAt_60 rfl rfl ?_
    refine V_iadd dX12_keepAt_61 ?_
    refine V_aload_n dX12_keepAt_62 rfl rfl ?_
    refine V_getR (k2 := 99) flX12_22 rfl rfl (by decide) dX12_keepAt_63 ?_
    refine V_iload_n dX12_keepAt_66 rfl rfl ?_
    refine V_iald (f := (σ 99 x2)) (rfl : shp[99]? = some (1, 16, 0)) r2 ((up_o (by omega)).trans (up_o (by omega))) dX12_keepAt_67 ?_
    refine V_iast (rfl : shp[127]? = some (1, 48, 0)) r3 dX12_keepAt_68 ?_
    refine V_aload_n dX12_keepAt_69 rfl rfl ?_
    refine V_getR (k2 := 128) flX12_117 rfl rfl (by decide) dX12_keepAt_70 ?_
    refine V_bipush dX12_keepAt_73 (by decide) ?_
    refine V_iload_n dX12_keepAt_75 rfl rfl ?_
    refine V_imul dX12_keepAt_76 ?_
    refine V_iload_n dX12_keepAt_77 rfl rfl ?_
    refine V_iadd dX12_keepAt_78 ?_
    refine V_aload_n dX12_keepAt_79 rfl rfl ?_
    refine V_getR (k2 := 100) flX12_25 rfl rfl (by decide) dX12_keepAt_80 ?_
    refine V_iload_n dX12_keepAt_83 rfl rfl ?_
    refine V_iald (f := (σ 100 x2)) (rfl : shp[100]? = some (1, 16, 0)) r2 ((up_o (by omega)).trans ((up_o (by omega)).trans (up_o (by omega)))) dX12_keepAt_84 ?_
    refine V_iast (rfl : shp[128]? = some (1, 48, 0)) r3 dX12_keepAt_85 ?_
    refine V_iinc (L' := [some (vr 94), some (vi x1), some (vi (x2 + 1))]) dX12_keepAt_86 rfl (by decide) rfl ?_
    refine V_goto (tgt := 12) dX12_keepAt_89 rfl ?_
    exact V.sub (SubL_s (SubL_s (SubL_s (SubL_0)))) h
set_option maxRecDepth 100000 in
theorem BX12_keepAt_94 {σ : Sg} {post : Po} {x1 : Int} {x2 : Int} 
  (h : (rng x2) ∧ ((112 ≤ x2 → V mX12_keepAt 125 [some (vr 94), some (vi x1), some (vi 0)] [] σ post) ∧ (¬ 112 ≤ x2 → (0 ≤ x2 ∧ x2 < 112) ∧ ((0 ≤ ((112 * x1) + x2) ∧ ((112 * x1) + x2) < 336) ∧ (V mX12_keepAt 94 [some (vr 94), some (vi x1), some (vi (x2 + 1))] [] (up σ 124 ((112 * x1) + x2) (σ 96 x2)) post))))) :
  V mX12_keepAt 94 [some (vr 94), some (vi x1), some (vi x2)] [] σ post := by
  refine V_iload_n dX12_keepAt_94 rfl rfl ?_
  refine V_bipush dX12_keepAt_95 (by decide) ?_
  obtain ⟨r1, h⟩ := h
  refine V_icmp_ge (tgt := 123) dX12_keepAt_97 rfl r1 (by decide) (fun q => ?_) (fun q => ?_)
  · replace h := h.1 q
    refine V_iconst dX12_keepAt_123 ?_
    refine V_istore_n (L' := [some (vr 94), some (vi x1), some (vi 0)]) dX12_keepAt_124 rfl (by decide) rfl ?_
    exact V.sub (SubL_s (SubL_s (SubL_s (SubL_0)))) h
  · replace h := h.2 q
    refine V_aload_n dX12_keepAt_100 rfl rfl ?_
    refine V_getR (k2 := 124) flX12_105 rfl rfl (by decide) dX12_keepAt_101 ?_
    refine V_bipush dX12_keepAt_104 (by decide) ?_
    refine V_iload_n dX12_keepAt_106 rfl rfl ?_
    refine V_imul dX12_keepAt_107 ?_
    refine V_iload_n dX12_keepAt_108 rfl rfl ?_
    refine V_iadd dX12_keepAt_109 ?_
    refine V_aload_n dX12_keepAt_110 rfl rfl ?_
    refine V_getR (k2 := 96) flX12_13 rfl rfl (by decide) dX12_keepAt_111 ?_
    refine V_iload_n dX12_keepAt_114 rfl rfl ?_
    obtain ⟨r2, h⟩ := h
    refine V_iald (f := (σ 96 x2)) (rfl : shp[96]? = some (1, 112, 0)) r2 (rfl) dX12_keepAt_115 ?_
    obtain ⟨r3, h⟩ := h
    refine V_iast (rfl : shp[124]? = some (1, 336, 0)) r3 dX12_keepAt_116 ?_
    refine V_iinc (L' := [some (vr 94), some (vi x1), some (vi (x2 + 1))]) dX12_keepAt_117 rfl (by decide) rfl ?_
    refine V_goto (tgt := 94) dX12_keepAt_120 rfl ?_
    exact V.sub (SubL_s (SubL_s (SubL_s (SubL_0)))) h
set_option maxRecDepth 100000 in
theorem BX12_keepAt_125 {σ : Sg} {post : Po} {x1 : Int} {x2 : Int} 
  (h : (rng x2) ∧ ((1344 ≤ x2 → (0 ≤ x1 ∧ x1 < 3) ∧ (V mX12_keepAt 168 [some (vr 94), some (vi x1), some (vi 0)] [] (up σ 129 x1 (σ 94 7)) post)) ∧ (¬ 1344 ≤ x2 → (0 ≤ x2 ∧ x2 < 1344) ∧ ((0 ≤ ((1344 * x1) + x2) ∧ ((1344 * x1) + x2) < 4032) ∧ (V mX12_keepAt 125 [some (vr 94), some (vi x1), some (vi (x2 + 1))] [] (up σ 125 ((1344 * x1) + x2) (σ 97 x2)) post))))) :
  V mX12_keepAt 125 [some (vr 94), some (vi x1), some (vi x2)] [] σ post := by
  refine V_iload_n dX12_keepAt_125 rfl rfl ?_
  refine V_sipush dX12_keepAt_126 (by decide) ?_
  obtain ⟨r1, h⟩ := h
  refine V_icmp_ge (tgt := 156) dX12_keepAt_129 rfl r1 (by decide) (fun q => ?_) (fun q => ?_)
  · replace h := h.1 q
    refine V_aload_n dX12_keepAt_156 rfl rfl ?_
    refine V_getR (k2 := 129) flX12_120 rfl rfl (by decide) dX12_keepAt_157 ?_
    refine V_iload_n dX12_keepAt_160 rfl rfl ?_
    refine V_aload_n dX12_keepAt_161 rfl rfl ?_
    refine V_getI (f := (σ 94 7)) flX12_210 rfl (rfl) (by decide) dX12_keepAt_162 ?_
    obtain ⟨r2, h⟩ := h
    refine V_iast (rfl : shp[129]? = some (1, 3, 0)) r2 dX12_keepAt_165 ?_
    refine V_iconst dX12_keepAt_166 ?_
    refine V_istore_n (L' := [some (vr 94), some (vi x1), some (vi 0)]) dX12_keepAt_167 rfl (by decide) rfl ?_
    exact V.sub (SubL_s (SubL_s (SubL_s (SubL_0)))) h
  · replace h := h.2 q
    refine V_aload_n dX12_keepAt_132 rfl rfl ?_
    refine V_getR (k2 := 125) flX12_108 rfl rfl (by decide) dX12_keepAt_133 ?_
    refine V_sipush dX12_keepAt_136 (by decide) ?_
    refine V_iload_n dX12_keepAt_139 rfl rfl ?_
    refine V_imul dX12_keepAt_140 ?_
    refine V_iload_n dX12_keepAt_141 rfl rfl ?_
    refine V_iadd dX12_keepAt_142 ?_
    refine V_aload_n dX12_keepAt_143 rfl rfl ?_
    refine V_getR (k2 := 97) flX12_16 rfl rfl (by decide) dX12_keepAt_144 ?_
    refine V_iload_n dX12_keepAt_147 rfl rfl ?_
    obtain ⟨r3, h⟩ := h
    refine V_iald (f := (σ 97 x2)) (rfl : shp[97]? = some (1, 1344, 0)) r3 (rfl) dX12_keepAt_148 ?_
    obtain ⟨r4, h⟩ := h
    refine V_iast (rfl : shp[125]? = some (1, 4032, 0)) r4 dX12_keepAt_149 ?_
    refine V_iinc (L' := [some (vr 94), some (vi x1), some (vi (x2 + 1))]) dX12_keepAt_150 rfl (by decide) rfl ?_
    refine V_goto (tgt := 125) dX12_keepAt_153 rfl ?_
    exact V.sub (SubL_s (SubL_s (SubL_s (SubL_0)))) h
set_option maxRecDepth 100000 in
theorem BX12_keepAt_168 {σ : Sg} {post : Po} {x1 : Int} {x2 : Int} 
  (h : (rng x2) ∧ ((rng (σ 94 7)) ∧ (((σ 94 7) ≤ x2 → (0 ≤ x1 ∧ x1 < 3) ∧ (post none (up σ 135 x1 1))) ∧ (¬ (σ 94 7) ≤ x2 → (0 ≤ x2 ∧ x2 < 60) ∧ ((0 ≤ ((60 * x1) + x2) ∧ ((60 * x1) + x2) < 180) ∧ (((σ 105 x2) = 0 ∨ (σ 105 x2) = 1) ∧ (V mX12_keepAt 168 [some (vr 94), some (vi x1), some (vi (x2 + 1))] [] (up (up (up (up (up σ 130 ((60 * x1) + x2) (σ 101 x2)) 131 ((60 * x1) + x2) (σ 102 x2)) 132 ((60 * x1) + x2) (σ 103 x2)) 133 ((60 * x1) + x2) (σ 104 x2)) 134 ((60 * x1) + x2) (σ 105 x2)) post))))))) :
  V mX12_keepAt 168 [some (vr 94), some (vi x1), some (vi x2)] [] σ post := by
  refine V_iload_n dX12_keepAt_168 rfl rfl ?_
  refine V_aload_n dX12_keepAt_169 rfl rfl ?_
  refine V_getI (f := (σ 94 7)) flX12_210 rfl (rfl) (by decide) dX12_keepAt_170 ?_
  obtain ⟨r1, h⟩ := h
  obtain ⟨r2, h⟩ := h
  refine V_icmp_ge (tgt := 267) dX12_keepAt_173 rfl r1 r2 (fun q => ?_) (fun q => ?_)
  · replace h := h.1 q
    refine V_aload_n dX12_keepAt_267 rfl rfl ?_
    refine V_getR (k2 := 135) flX12_138 rfl rfl (by decide) dX12_keepAt_268 ?_
    refine V_iload_n dX12_keepAt_271 rfl rfl ?_
    refine V_iconst dX12_keepAt_272 ?_
    obtain ⟨r3, h⟩ := h
    refine V_zast (rfl : shp[135]? = some (3, 3, 0)) r3 (by decide) dX12_keepAt_273 ?_
    exact V_return (stk := []) rfl dX12_keepAt_274 h
  · replace h := h.2 q
    refine V_aload_n dX12_keepAt_176 rfl rfl ?_
    refine V_getR (k2 := 130) flX12_123 rfl rfl (by decide) dX12_keepAt_177 ?_
    refine V_bipush dX12_keepAt_180 (by decide) ?_
    refine V_iload_n dX12_keepAt_182 rfl rfl ?_
    refine V_imul dX12_keepAt_183 ?_
    refine V_iload_n dX12_keepAt_184 rfl rfl ?_
    refine V_iadd dX12_keepAt_185 ?_
    refine V_aload_n dX12_keepAt_186 rfl rfl ?_
    refine V_getR (k2 := 101) flX12_28 rfl rfl (by decide) dX12_keepAt_187 ?_
    refine V_iload_n dX12_keepAt_190 rfl rfl ?_
    obtain ⟨r4, h⟩ := h
    refine V_iald (f := (σ 101 x2)) (rfl : shp[101]? = some (1, 60, 0)) r4 (rfl) dX12_keepAt_191 ?_
    obtain ⟨r5, h⟩ := h
    refine V_iast (rfl : shp[130]? = some (1, 180, 0)) r5 dX12_keepAt_192 ?_
    refine V_aload_n dX12_keepAt_193 rfl rfl ?_
    refine V_getR (k2 := 131) flX12_126 rfl rfl (by decide) dX12_keepAt_194 ?_
    refine V_bipush dX12_keepAt_197 (by decide) ?_
    refine V_iload_n dX12_keepAt_199 rfl rfl ?_
    refine V_imul dX12_keepAt_200 ?_
    refine V_iload_n dX12_keepAt_201 rfl rfl ?_
    refine V_iadd dX12_keepAt_202 ?_
    refine V_aload_n dX12_keepAt_203 rfl rfl ?_
    refine V_getR (k2 := 102) flX12_31 rfl rfl (by decide) dX12_keepAt_204 ?_
    refine V_iload_n dX12_keepAt_207 rfl rfl ?_
    refine V_iald (f := (σ 102 x2)) (rfl : shp[102]? = some (1, 60, 0)) r4 (up_o (by omega)) dX12_keepAt_208 ?_
    refine V_iast (rfl : shp[131]? = some (1, 180, 0)) r5 dX12_keepAt_209 ?_
    refine V_aload_n dX12_keepAt_210 rfl rfl ?_
    refine V_getR (k2 := 132) flX12_129 rfl rfl (by decide) dX12_keepAt_211 ?_
    refine V_bipush dX12_keepAt_214 (by decide) ?_
    refine V_iload_n dX12_keepAt_216 rfl rfl ?_
    refine V_imul dX12_keepAt_217 ?_
    refine V_iload_n dX12_keepAt_218 rfl rfl ?_
    refine V_iadd dX12_keepAt_219 ?_
    refine V_aload_n dX12_keepAt_220 rfl rfl ?_
    refine V_getR (k2 := 103) flX12_34 rfl rfl (by decide) dX12_keepAt_221 ?_
    refine V_iload_n dX12_keepAt_224 rfl rfl ?_
    refine V_iald (f := (σ 103 x2)) (rfl : shp[103]? = some (1, 60, 0)) r4 ((up_o (by omega)).trans (up_o (by omega))) dX12_keepAt_225 ?_
    refine V_iast (rfl : shp[132]? = some (1, 180, 0)) r5 dX12_keepAt_226 ?_
    refine V_aload_n dX12_keepAt_227 rfl rfl ?_
    refine V_getR (k2 := 133) flX12_132 rfl rfl (by decide) dX12_keepAt_228 ?_
    refine V_bipush dX12_keepAt_231 (by decide) ?_
    refine V_iload_n dX12_keepAt_233 rfl rfl ?_
    refine V_imul dX12_keepAt_234 ?_
    refine V_iload_n dX12_keepAt_235 rfl rfl ?_
    refine V_iadd dX12_keepAt_236 ?_
    refine V_aload_n dX12_keepAt_237 rfl rfl ?_
    refine V_getR (k2 := 104) flX12_37 rfl rfl (by decide) dX12_keepAt_238 ?_
    refine V_iload_n dX12_keepAt_241 rfl rfl ?_
    refine V_iald (f := (σ 104 x2)) (rfl : shp[104]? = some (1, 60, 0)) r4 ((up_o (by omega)).trans ((up_o (by omega)).trans (up_o (by omega)))) dX12_keepAt_242 ?_
    refine V_iast (rfl : shp[133]? = some (1, 180, 0)) r5 dX12_keepAt_243 ?_
    refine V_aload_n dX12_keepAt_244 rfl rfl ?_
    refine V_getR (k2 := 134) flX12_135 rfl rfl (by decide) dX12_keepAt_245 ?_
    refine V_bipush dX12_keepAt_248 (by decide) ?_
    refine V_iload_n dX12_keepAt_250 rfl rfl ?_
    refine V_imul dX12_keepAt_251 ?_
    refine V_iload_n dX12_keepAt_252 rfl rfl ?_
    refine V_iadd dX12_keepAt_253 ?_
    refine V_aload_n dX12_keepAt_254 rfl rfl ?_
    refine V_getR (k2 := 105) flX12_40 rfl rfl (by decide) dX12_keepAt_255 ?_
    refine V_iload_n dX12_keepAt_258 rfl rfl ?_
    refine V_zald (f := (σ 105 x2)) (rfl : shp[105]? = some (3, 60, 0)) r4 ((up_o (by omega)).trans ((up_o (by omega)).trans ((up_o (by omega)).trans (up_o (by omega))))) dX12_keepAt_259 ?_
    obtain ⟨r6, h⟩ := h
    refine V_zast (rfl : shp[134]? = some (3, 180, 0)) r5 r6 dX12_keepAt_260 ?_
    refine V_iinc (L' := [some (vr 94), some (vi x1), some (vi (x2 + 1))]) dX12_keepAt_261 rfl (by decide) rfl ?_
    refine V_goto (tgt := 168) dX12_keepAt_264 rfl ?_
    exact V.sub (SubL_s (SubL_s (SubL_s (SubL_0)))) h

set_option maxRecDepth 100000 in
theorem BX12_backTo_0 {σ : Sg} {post : Po} {x1 : Int} 
  (h : (0 ≤ x1 ∧ x1 < 3) ∧ (V mX12_backTo 12 [some (vr 94), some (vi x1), some (vi 0)] [] (up σ 94 0 (σ 122 x1)) post)) :
  V mX12_backTo 0 [some (vr 94), some (vi x1), none] [] σ post := by
  refine V_aload_n dX12_backTo_0 rfl rfl ?_
  refine V_aload_n dX12_backTo_1 rfl rfl ?_
  refine V_getR (k2 := 122) flX12_99 rfl rfl (by decide) dX12_backTo_2 ?_
  refine V_iload_n dX12_backTo_5 rfl rfl ?_
  obtain ⟨r1, h⟩ := h
  refine V_iald (f := (σ 122 x1)) (rfl : shp[122]? = some (1, 3, 0)) r1 (rfl) dX12_backTo_6 ?_
  refine V_putI flX12_192 rfl (by decide) dX12_backTo_7 ?_
  refine V_iconst dX12_backTo_10 ?_
  refine V_istore_n (L' := [some (vr 94), some (vi x1), some (vi 0)]) dX12_backTo_11 rfl (by decide) rfl ?_
  exact V.sub (SubL_s (SubL_s (SubL_s (SubL_0)))) h
set_option maxRecDepth 100000 in
theorem BX12_backTo_12 {σ : Sg} {post : Po} {x1 : Int} {x2 : Int} 
  (h : (rng x2) ∧ ((16 ≤ x2 → V mX12_backTo 94 [some (vr 94), some (vi x1), some (vi 0)] [] σ post) ∧ (¬ 16 ≤ x2 → (0 ≤ ((16 * x1) + x2) ∧ ((16 * x1) + x2) < 48) ∧ ((0 ≤ x2 ∧ x2 < 16) ∧ (V mX12_backTo 12 [some (vr 94), some (vi x1), some (vi (x2 + 1))] [] (up (up (up (up σ 95 x2 (σ 123 ((16 * x1) + x2))) 98 x2 (σ 126 ((16 * x1) + x2))) 99 x2 (σ 127 ((16 * x1) + x2))) 100 x2 (σ 128 ((16 * x1) + x2))) post))))) :
  V mX12_backTo 12 [some (vr 94), some (vi x1), some (vi x2)] [] σ post := by
  refine V_iload_n dX12_backTo_12 rfl rfl ?_
  refine V_bipush dX12_backTo_13 (by decide) ?_
  obtain ⟨r1, h⟩ := h
  refine V_icmp_ge (tgt := 92) dX12_backTo_15 rfl r1 (by decide) (fun q => ?_) (fun q => ?_)
  · replace h := h.1 q
    refine V_iconst dX12_backTo_92 ?_
    refine V_istore_n (L' := [some (vr 94), some (vi x1), some (vi 0)]) dX12_backTo_93 rfl (by decide) rfl ?_
    exact V.sub (SubL_s (SubL_s (SubL_s (SubL_0)))) h
  · replace h := h.2 q
    refine V_aload_n dX12_backTo_18 rfl rfl ?_
    refine V_getR (k2 := 95) flX12_7 rfl rfl (by decide) dX12_backTo_19 ?_
    refine V_iload_n dX12_backTo_22 rfl rfl ?_
    refine V_aload_n dX12_backTo_23 rfl rfl ?_
    refine V_getR (k2 := 123) flX12_102 rfl rfl (by decide) dX12_backTo_24 ?_
    refine V_bipush dX12_backTo_27 (by decide) ?_
    refine V_iload_n dX12_backTo_29 rfl rfl ?_
    refine V_imul dX12_backTo_30 ?_
    refine V_iload_n dX12_backTo_31 rfl rfl ?_
    refine V_iadd dX12_backTo_32 ?_
    obtain ⟨r2, h⟩ := h
    refine V_iald (f := (σ 123 ((16 * x1) + x2))) (rfl : shp[123]? = some (1, 48, 0)) r2 (rfl) dX12_backTo_33 ?_
    obtain ⟨r3, h⟩ := h
    refine V_iast (rfl : shp[95]? = some (1, 16, 0)) r3 dX12_backTo_34 ?_
    refine V_aload_n dX12_backTo_35 rfl rfl ?_
    refine V_getR (k2 := 98) flX12_19 rfl rfl (by decide) dX12_backTo_36 ?_
    refine V_iload_n dX12_backTo_39 rfl rfl ?_
    refine V_aload_n dX12_backTo_40 rfl rfl ?_
    refine V_getR (k2 := 126) flX12_111 rfl rfl (by decide) dX12_backTo_41 ?_
    refine V_bipush dX12_backTo_44 (by decide) ?_
    refine V_iload_n dX12_backTo_46 rfl rfl ?_
    refine V_imul dX12_backTo_47 ?_
    refine V_iload_n dX12_backTo_48 rfl rfl ?_
    refine V_iadd dX12_backTo_49 ?_
    refine V_iald (f := (σ 126 ((16 * x1) + x2))) (rfl : shp[126]? = some (1, 48, 0)) r2 (up_o (by omega)) dX12_backTo_50 ?_
    refine V_iast (rfl : shp[98]? = some (1, 16, 0)) r3 dX12_backTo_51 ?_
    refine V_aload_n dX12_backTo_52 rfl rfl ?_
    refine V_getR (k2 := 99) flX12_22 rfl rfl (by decide) dX12_backTo_53 ?_
    refine V_iload_n dX12_backTo_56 rfl rfl ?_
    refine V_aload_n dX12_backTo_57 rfl rfl ?_
    refine V_getR (k2 := 127) flX12_114 rfl rfl (by decide) dX12_backTo_58 ?_
    refine V_bipush dX12_backTo_61 (by decide) ?_
    refine V_iload_n dX12_backTo_63 rfl rfl ?_
    refine V_imul dX12_backTo_64 ?_
    refine V_iload_n dX12_backTo_65 rfl rfl ?_
    refine V_iadd dX12_backTo_66 ?_
    refine V_iald (f := (σ 127 ((16 * x1) + x2))) (rfl : shp[127]? = some (1, 48, 0)) r2 ((up_o (by omega)).trans (up_o (by omega))) dX12_backTo_67 ?_
    refine V_iast (rfl : shp[99]? = some (1, 16, 0)) r3 dX12_backTo_68 ?_
    refine V_aload_n dX12_backTo_69 rfl rfl ?_
    refine V_getR (k2 := 100) flX12_25 rfl rfl (by decide) dX12_backTo_70 ?_
    refine V_iload_n dX12_backTo_73 rfl rfl ?_
    refine V_aload_n dX12_backTo_74 rfl rfl ?_
    refine V_getR (k2 := 128) flX12_117 rfl rfl (by decide) dX12_backTo_75 ?_
    refine V_bipush dX12_backTo_78 (by decide) ?_
    refine V_iload_n dX12_backTo_80 rfl rfl ?_
    refine V_imul dX12_backTo_81 ?_
    refine V_iload_n dX12_backTo_82 rfl rfl ?_
    refine V_iadd dX12_backTo_83 ?_
    refine V_iald (f := (σ 128 ((16 * x1) + x2))) (rfl : shp[128]? = some (1, 48, 0)) r2 ((up_o (by omega)).trans ((up_o (by omega)).trans (up_o (by omega)))) dX12_backTo_84 ?_
    refine V_iast (rfl : shp[100]? = some (1, 16, 0)) r3 dX12_backTo_85 ?_
    refine V_iinc (L' := [some (vr 94), some (vi x1), some (vi (x2 + 1))]) dX12_backTo_86 rfl (by decide) rfl ?_
    refine V_goto (tgt := 12) dX12_backTo_89 rfl ?_
    exact V.sub (SubL_s (SubL_s (SubL_s (SubL_0)))) h
set_option maxRecDepth 100000 in
theorem BX12_backTo_94 {σ : Sg} {post : Po} {x1 : Int} {x2 : Int} 
  (h : (rng x2) ∧ ((112 ≤ x2 → V mX12_backTo 125 [some (vr 94), some (vi x1), some (vi 0)] [] σ post) ∧ (¬ 112 ≤ x2 → (0 ≤ ((112 * x1) + x2) ∧ ((112 * x1) + x2) < 336) ∧ ((0 ≤ x2 ∧ x2 < 112) ∧ (V mX12_backTo 94 [some (vr 94), some (vi x1), some (vi (x2 + 1))] [] (up σ 96 x2 (σ 124 ((112 * x1) + x2))) post))))) :
  V mX12_backTo 94 [some (vr 94), some (vi x1), some (vi x2)] [] σ post := by
  refine V_iload_n dX12_backTo_94 rfl rfl ?_
  refine V_bipush dX12_backTo_95 (by decide) ?_
  obtain ⟨r1, h⟩ := h
  refine V_icmp_ge (tgt := 123) dX12_backTo_97 rfl r1 (by decide) (fun q => ?_) (fun q => ?_)
  · replace h := h.1 q
    refine V_iconst dX12_backTo_123 ?_
    refine V_istore_n (L' := [some (vr 94), some (vi x1), some (vi 0)]) dX12_backTo_124 rfl (by decide) rfl ?_
    exact V.sub (SubL_s (SubL_s (SubL_s (SubL_0)))) h
  · replace h := h.2 q
    refine V_aload_n dX12_backTo_100 rfl rfl ?_
    refine V_getR (k2 := 96) flX12_13 rfl rfl (by decide) dX12_backTo_101 ?_
    refine V_iload_n dX12_backTo_104 rfl rfl ?_
    refine V_aload_n dX12_backTo_105 rfl rfl ?_
    refine V_getR (k2 := 124) flX12_105 rfl rfl (by decide) dX12_backTo_106 ?_
    refine V_bipush dX12_backTo_109 (by decide) ?_
    refine V_iload_n dX12_backTo_111 rfl rfl ?_
    refine V_imul dX12_backTo_112 ?_
    refine V_iload_n dX12_backTo_113 rfl rfl ?_
    refine V_iadd dX12_backTo_114 ?_
    obtain ⟨r2, h⟩ := h
    refine V_iald (f := (σ 124 ((112 * x1) + x2))) (rfl : shp[124]? = some (1, 336, 0)) r2 (rfl) dX12_backTo_115 ?_
    obtain ⟨r3, h⟩ := h
    refine V_iast (rfl : shp[96]? = some (1, 112, 0)) r3 dX12_backTo_116 ?_
    refine V_iinc (L' := [some (vr 94), some (vi x1), some (vi (x2 + 1))]) dX12_backTo_117 rfl (by decide) rfl ?_
    refine V_goto (tgt := 94) dX12_backTo_120 rfl ?_
    exact V.sub (SubL_s (SubL_s (SubL_s (SubL_0)))) h
set_option maxRecDepth 100000 in
theorem BX12_backTo_125 {σ : Sg} {post : Po} {x1 : Int} {x2 : Int} 
  (h : (rng x2) ∧ ((1344 ≤ x2 → (0 ≤ x1 ∧ x1 < 3) ∧ (V mX12_backTo 168 [some (vr 94), some (vi x1), some (vi 0)] [] (up σ 94 7 (σ 129 x1)) post)) ∧ (¬ 1344 ≤ x2 → (0 ≤ ((1344 * x1) + x2) ∧ ((1344 * x1) + x2) < 4032) ∧ ((0 ≤ x2 ∧ x2 < 1344) ∧ (V mX12_backTo 125 [some (vr 94), some (vi x1), some (vi (x2 + 1))] [] (up σ 97 x2 (σ 125 ((1344 * x1) + x2))) post))))) :
  V mX12_backTo 125 [some (vr 94), some (vi x1), some (vi x2)] [] σ post := by
  refine V_iload_n dX12_backTo_125 rfl rfl ?_
  refine V_sipush dX12_backTo_126 (by decide) ?_
  obtain ⟨r1, h⟩ := h
  refine V_icmp_ge (tgt := 156) dX12_backTo_129 rfl r1 (by decide) (fun q => ?_) (fun q => ?_)
  · replace h := h.1 q
    refine V_aload_n dX12_backTo_156 rfl rfl ?_
    refine V_aload_n dX12_backTo_157 rfl rfl ?_
    refine V_getR (k2 := 129) flX12_120 rfl rfl (by decide) dX12_backTo_158 ?_
    refine V_iload_n dX12_backTo_161 rfl rfl ?_
    obtain ⟨r2, h⟩ := h
    refine V_iald (f := (σ 129 x1)) (rfl : shp[129]? = some (1, 3, 0)) r2 (rfl) dX12_backTo_162 ?_
    refine V_putI flX12_210 rfl (by decide) dX12_backTo_163 ?_
    refine V_iconst dX12_backTo_166 ?_
    refine V_istore_n (L' := [some (vr 94), some (vi x1), some (vi 0)]) dX12_backTo_167 rfl (by decide) rfl ?_
    exact V.sub (SubL_s (SubL_s (SubL_s (SubL_0)))) h
  · replace h := h.2 q
    refine V_aload_n dX12_backTo_132 rfl rfl ?_
    refine V_getR (k2 := 97) flX12_16 rfl rfl (by decide) dX12_backTo_133 ?_
    refine V_iload_n dX12_backTo_136 rfl rfl ?_
    refine V_aload_n dX12_backTo_137 rfl rfl ?_
    refine V_getR (k2 := 125) flX12_108 rfl rfl (by decide) dX12_backTo_138 ?_
    refine V_sipush dX12_backTo_141 (by decide) ?_
    refine V_iload_n dX12_backTo_144 rfl rfl ?_
    refine V_imul dX12_backTo_145 ?_
    refine V_iload_n dX12_backTo_146 rfl rfl ?_
    refine V_iadd dX12_backTo_147 ?_
    obtain ⟨r3, h⟩ := h
    refine V_iald (f := (σ 125 ((1344 * x1) + x2))) (rfl : shp[125]? = some (1, 4032, 0)) r3 (rfl) dX12_backTo_148 ?_
    obtain ⟨r4, h⟩ := h
    refine V_iast (rfl : shp[97]? = some (1, 1344, 0)) r4 dX12_backTo_149 ?_
    refine V_iinc (L' := [some (vr 94), some (vi x1), some (vi (x2 + 1))]) dX12_backTo_150 rfl (by decide) rfl ?_
    refine V_goto (tgt := 125) dX12_backTo_153 rfl ?_
    exact V.sub (SubL_s (SubL_s (SubL_s (SubL_0)))) h
set_option maxRecDepth 100000 in
theorem BX12_backTo_168 {σ : Sg} {post : Po} {x1 : Int} {x2 : Int} 
  (h : (rng x2) ∧ ((rng (σ 94 7)) ∧ (((σ 94 7) ≤ x2 → post none σ) ∧ (¬ (σ 94 7) ≤ x2 → (0 ≤ ((60 * x1) + x2) ∧ ((60 * x1) + x2) < 180) ∧ ((0 ≤ x2 ∧ x2 < 60) ∧ (((σ 134 ((60 * x1) + x2)) = 0 ∨ (σ 134 ((60 * x1) + x2)) = 1) ∧ (V mX12_backTo 168 [some (vr 94), some (vi x1), some (vi (x2 + 1))] [] (up (up (up (up (up σ 101 x2 (σ 130 ((60 * x1) + x2))) 102 x2 (σ 131 ((60 * x1) + x2))) 103 x2 (σ 132 ((60 * x1) + x2))) 104 x2 (σ 133 ((60 * x1) + x2))) 105 x2 (σ 134 ((60 * x1) + x2))) post))))))) :
  V mX12_backTo 168 [some (vr 94), some (vi x1), some (vi x2)] [] σ post := by
  refine V_iload_n dX12_backTo_168 rfl rfl ?_
  refine V_aload_n dX12_backTo_169 rfl rfl ?_
  refine V_getI (f := (σ 94 7)) flX12_210 rfl (rfl) (by decide) dX12_backTo_170 ?_
  obtain ⟨r1, h⟩ := h
  obtain ⟨r2, h⟩ := h
  refine V_icmp_ge (tgt := 267) dX12_backTo_173 rfl r1 r2 (fun q => ?_) (fun q => ?_)
  · replace h := h.1 q
    exact V_return (stk := []) rfl dX12_backTo_267 h
  · replace h := h.2 q
    refine V_aload_n dX12_backTo_176 rfl rfl ?_
    refine V_getR (k2 := 101) flX12_28 rfl rfl (by decide) dX12_backTo_177 ?_
    refine V_iload_n dX12_backTo_180 rfl rfl ?_
    refine V_aload_n dX12_backTo_181 rfl rfl ?_
    refine V_getR (k2 := 130) flX12_123 rfl rfl (by decide) dX12_backTo_182 ?_
    refine V_bipush dX12_backTo_185 (by decide) ?_
    refine V_iload_n dX12_backTo_187 rfl rfl ?_
    refine V_imul dX12_backTo_188 ?_
    refine V_iload_n dX12_backTo_189 rfl rfl ?_
    refine V_iadd dX12_backTo_190 ?_
    obtain ⟨r3, h⟩ := h
    refine V_iald (f := (σ 130 ((60 * x1) + x2))) (rfl : shp[130]? = some (1, 180, 0)) r3 (rfl) dX12_backTo_191 ?_
    obtain ⟨r4, h⟩ := h
    refine V_iast (rfl : shp[101]? = some (1, 60, 0)) r4 dX12_backTo_192 ?_
    refine V_aload_n dX12_backTo_193 rfl rfl ?_
    refine V_getR (k2 := 102) flX12_31 rfl rfl (by decide) dX12_backTo_194 ?_
    refine V_iload_n dX12_backTo_197 rfl rfl ?_
    refine V_aload_n dX12_backTo_198 rfl rfl ?_
    refine V_getR (k2 := 131) flX12_126 rfl rfl (by decide) dX12_backTo_199 ?_
    refine V_bipush dX12_backTo_202 (by decide) ?_
    refine V_iload_n dX12_backTo_204 rfl rfl ?_
    refine V_imul dX12_backTo_205 ?_
    refine V_iload_n dX12_backTo_206 rfl rfl ?_
    refine V_iadd dX12_backTo_207 ?_
    refine V_iald (f := (σ 131 ((60 * x1) + x2))) (rfl : shp[131]? = some (1, 180, 0)) r3 (up_o (by omega)) dX12_backTo_208 ?_
    refine V_iast (rfl : shp[102]? = some (1, 60, 0)) r4 dX12_backTo_209 ?_
    refine V_aload_n dX12_backTo_210 rfl rfl ?_
    refine V_getR (k2 := 103) flX12_34 rfl rfl (by decide) dX12_backTo_211 ?_
    refine V_iload_n dX12_backTo_214 rfl rfl ?_
    refine V_aload_n dX12_backTo_215 rfl rfl ?_
    refine V_getR (k2 := 132) flX12_129 rfl rfl (by decide) dX12_backTo_216 ?_
    refine V_bipush dX12_backTo_219 (by decide) ?_
    refine V_iload_n dX12_backTo_221 rfl rfl ?_
    refine V_imul dX12_backTo_222 ?_
    refine V_iload_n dX12_backTo_223 rfl rfl ?_
    refine V_iadd dX12_backTo_224 ?_
    refine V_iald (f := (σ 132 ((60 * x1) + x2))) (rfl : shp[132]? = some (1, 180, 0)) r3 ((up_o (by omega)).trans (up_o (by omega))) dX12_backTo_225 ?_
    refine V_iast (rfl : shp[103]? = some (1, 60, 0)) r4 dX12_backTo_226 ?_
    refine V_aload_n dX12_backTo_227 rfl rfl ?_
    refine V_getR (k2 := 104) flX12_37 rfl rfl (by decide) dX12_backTo_228 ?_
    refine V_iload_n dX12_backTo_231 rfl rfl ?_
    refine V_aload_n dX12_backTo_232 rfl rfl ?_
    refine V_getR (k2 := 133) flX12_132 rfl rfl (by decide) dX12_backTo_233 ?_
    refine V_bipush dX12_backTo_236 (by decide) ?_
    refine V_iload_n dX12_backTo_238 rfl rfl ?_
    refine V_imul dX12_backTo_239 ?_
    refine V_iload_n dX12_backTo_240 rfl rfl ?_
    refine V_iadd dX12_backTo_241 ?_
    refine V_iald (f := (σ 133 ((60 * x1) + x2))) (rfl : shp[133]? = some (1, 180, 0)) r3 ((up_o (by omega)).trans ((up_o (by omega)).trans (up_o (by omega)))) dX12_backTo_242 ?_
    refine V_iast (rfl : shp[104]? = some (1, 60, 0)) r4 dX12_backTo_243 ?_
    refine V_aload_n dX12_backTo_244 rfl rfl ?_
    refine V_getR (k2 := 105) flX12_40 rfl rfl (by decide) dX12_backTo_245 ?_
    refine V_iload_n dX12_backTo_248 rfl rfl ?_
    refine V_aload_n dX12_backTo_249 rfl rfl ?_
    refine V_getR (k2 := 134) flX12_135 rfl rfl (by decide) dX12_backTo_250 ?_
    refine V_bipush dX12_backTo_253 (by decide) ?_
    refine V_iload_n dX12_backTo_255 rfl rfl ?_
    refine V_imul dX12_backTo_256 ?_
    refine V_iload_n dX12_backTo_257 rfl rfl ?_
    refine V_iadd dX12_backTo_258 ?_
    refine V_zald (f := (σ 134 ((60 * x1) + x2))) (rfl : shp[134]? = some (3, 180, 0)) r3 ((up_o (by omega)).trans ((up_o (by omega)).trans ((up_o (by omega)).trans (up_o (by omega))))) dX12_backTo_259 ?_
    obtain ⟨r5, h⟩ := h
    refine V_zast (rfl : shp[105]? = some (3, 60, 0)) r4 r5 dX12_backTo_260 ?_
    refine V_iinc (L' := [some (vr 94), some (vi x1), some (vi (x2 + 1))]) dX12_backTo_261 rfl (by decide) rfl ?_
    refine V_goto (tgt := 168) dX12_backTo_264 rfl ?_
    exact V.sub (SubL_s (SubL_s (SubL_s (SubL_0)))) h

set_option maxRecDepth 100000 in
theorem BX12_keep_0 {σ : Sg} {post : Po} {x1 : Int} 
  (h : (rng x1) ∧ (Cl mX12_in [vl x1, vl 0, vl 1] σ (pI fun z1 σ1 => (rng z1) ∧ ((¬ z1 = 0 → Cl mX12_keepAt [vr 94, vi x1] σ1 (pV fun σ2 => post (some (vi 1)) σ2)) ∧ (z1 = 0 → post (some (vi (-1001))) σ1))))) :
  V mX12_keep 0 [some (vr 94), some (vi x1)] [] σ post := by
  refine V_iload_n dX12_keep_0 rfl rfl ?_
  obtain ⟨r1, h⟩ := h
  refine V_i2l dX12_keep_1 r1 ?_
  refine V_lconst (z := 0) dX12_keep_2 rfl ?_
  refine V_lconst (z := 1) dX12_keep_3 rfl ?_
  refine V_callS (av := [vl x1, vl 0, vl 1]) (stk := []) cvX12_146 rfl rfl (by decide) (by simp [ctg]) dX12_keep_4 h ?_
  rintro _ σ1 ⟨z1, rfl, h⟩
  obtain ⟨r2, h⟩ := h
  refine V_if_ne (tgt := 14) dX12_keep_7 rfl r2 (fun q => ?_) (fun q => ?_)
  · replace h := h.1 q
    refine V_aload_n dX12_keep_14 rfl rfl ?_
    refine V_iload_n dX12_keep_15 rfl rfl ?_
    refine V_callV (av := [vi x1]) (stk := []) cvX12_256 rfl rfl rfl (by decide) (by simp [ctg]) dX12_keep_16 h ?_
    rintro _ σ2 ⟨rfl, h⟩
    refine V_iconst dX12_keep_19 ?_
    exact V_ireturn (stk := []) rfl dX12_keep_20 h
  · replace h := h.2 q
    refine V_sipush dX12_keep_10 (by decide) ?_
    exact V_ireturn (stk := []) rfl dX12_keep_13 h

set_option maxRecDepth 100000 in
theorem BX12_goBack_0 {σ : Sg} {post : Po} {x1 : Int} 
  (h : (rng x1) ∧ (Cl mX12_in [vl x1, vl 0, vl 1] σ (pI fun z1 σ1 => (rng z1) ∧ ((¬ z1 = 0 → (0 ≤ x1 ∧ x1 < 3) ∧ ((rng (σ1 135 x1)) ∧ ((¬ (σ1 135 x1) = 0 → Cl mX12_backTo [vr 94, vi x1] σ1 (pV fun σ2 => post (some (vi 1)) σ2)) ∧ ((σ1 135 x1) = 0 → post (some (vi (-1003))) σ1)))) ∧ (z1 = 0 → post (some (vi (-1001))) σ1))))) :
  V mX12_goBack 0 [some (vr 94), some (vi x1)] [] σ post := by
  refine V_iload_n dX12_goBack_0 rfl rfl ?_
  obtain ⟨r1, h⟩ := h
  refine V_i2l dX12_goBack_1 r1 ?_
  refine V_lconst (z := 0) dX12_goBack_2 rfl ?_
  refine V_lconst (z := 1) dX12_goBack_3 rfl ?_
  refine V_callS (av := [vl x1, vl 0, vl 1]) (stk := []) cvX12_146 rfl rfl (by decide) (by simp [ctg]) dX12_goBack_4 h ?_
  rintro _ σ1 ⟨z1, rfl, h⟩
  obtain ⟨r2, h⟩ := h
  refine V_if_ne (tgt := 14) dX12_goBack_7 rfl r2 (fun q => ?_) (fun q => ?_)
  · replace h := h.1 q
    refine V_aload_n dX12_goBack_14 rfl rfl ?_
    refine V_getR (k2 := 135) flX12_138 rfl rfl (by decide) dX12_goBack_15 ?_
    refine V_iload_n dX12_goBack_18 rfl rfl ?_
    obtain ⟨r3, h⟩ := h
    refine V_zald (f := (σ1 135 x1)) (rfl : shp[135]? = some (3, 3, 0)) r3 (rfl) dX12_goBack_19 ?_
    obtain ⟨r4, h⟩ := h
    refine V_if_ne (tgt := 27) dX12_goBack_20 rfl r4 (fun q => ?_) (fun q => ?_)
    · replace h := h.1 q
      refine V_aload_n dX12_goBack_27 rfl rfl ?_
      refine V_iload_n dX12_goBack_28 rfl rfl ?_
      refine V_callV (av := [vi x1]) (stk := []) cvX12_262 rfl rfl rfl (by decide) (by simp [ctg]) dX12_goBack_29 h ?_
      rintro _ σ2 ⟨rfl, h⟩
      refine V_iconst dX12_goBack_32 ?_
      exact V_ireturn (stk := []) rfl dX12_goBack_33 h
    · replace h := h.2 q
      refine V_sipush dX12_goBack_23 (by decide) ?_
      exact V_ireturn (stk := []) rfl dX12_goBack_26 h
  · replace h := h.2 q
    refine V_sipush dX12_goBack_10 (by decide) ?_
    exact V_ireturn (stk := []) rfl dX12_goBack_13 h

set_option maxRecDepth 100000 in
theorem BX12_isKeptWord_0 {σ : Sg} {post : Po} {x1 : Int} {x2 : Int} {x3 : Int} 
  (h : (0 ≤ ((112 * x1) + x2) ∧ ((112 * x1) + x2) < 336) ∧ ((0 ≤ x3 ∧ x3 < 112) ∧ ((rng (σ 124 ((112 * x1) + x2))) ∧ ((rng (σ 96 x3)) ∧ ((¬ (σ 124 ((112 * x1) + x2)) = (σ 96 x3) → V mX12_isKeptWord 30 [some (vr 94), some (vi x1), some (vi x2), some (vi x3), some (vi 0), some (vi 0)] [] σ post) ∧ ((σ 124 ((112 * x1) + x2)) = (σ 96 x3) → V mX12_isKeptWord 30 [some (vr 94), some (vi x1), some (vi x2), some (vi x3), some (vi 1), some (vi 0)] [] σ post)))))) :
  V mX12_isKeptWord 0 [some (vr 94), some (vi x1), some (vi x2), some (vi x3), none, none] [] σ post := by
  refine V_aload_n dX12_isKeptWord_0 rfl rfl ?_
  refine V_getR (k2 := 124) flX12_105 rfl rfl (by decide) dX12_isKeptWord_1 ?_
  refine V_bipush dX12_isKeptWord_4 (by decide) ?_
  refine V_iload_n dX12_isKeptWord_6 rfl rfl ?_
  refine V_imul dX12_isKeptWord_7 ?_
  refine V_iload_n dX12_isKeptWord_8 rfl rfl ?_
  refine V_iadd dX12_isKeptWord_9 ?_
  obtain ⟨r1, h⟩ := h
  refine V_iald (f := (σ 124 ((112 * x1) + x2))) (rfl : shp[124]? = some (1, 336, 0)) r1 (rfl) dX12_isKeptWord_10 ?_
  refine V_aload_n dX12_isKeptWord_11 rfl rfl ?_
  refine V_getR (k2 := 96) flX12_13 rfl rfl (by decide) dX12_isKeptWord_12 ?_
  refine V_iload_n dX12_isKeptWord_15 rfl rfl ?_
  obtain ⟨r2, h⟩ := h
  refine V_iald (f := (σ 96 x3)) (rfl : shp[96]? = some (1, 112, 0)) r2 (rfl) dX12_isKeptWord_16 ?_
  obtain ⟨r3, h⟩ := h
  obtain ⟨r4, h⟩ := h
  refine V_icmp_ne (tgt := 24) dX12_isKeptWord_17 rfl r3 r4 (fun q => ?_) (fun q => ?_)
  · replace h := h.1 q
    refine V_iconst dX12_isKeptWord_24 ?_
    refine V_istore (L' := [some (vr 94), some (vi x1), some (vi x2), some (vi x3), some (vi 0), none]) dX12_isKeptWord_25 (by decide) rfl ?_
    refine V_iconst dX12_isKeptWord_27 ?_
    refine V_istore (L' := [some (vr 94), some (vi x1), some (vi x2), some (vi x3), some (vi 0), some (vi 0)]) dX12_isKeptWord_28 (by decide) rfl ?_
    exact V.sub (SubL_s (SubL_s (SubL_s (SubL_s (SubL_s (SubL_s (SubL_0))))))) h
  · replace h := h.2 q
    refine V_iconst dX12_isKeptWord_20 ?_
    refine V_goto (tgt := 25) dX12_isKeptWord_21 rfl ?_
    refine V_istore (L' := [some (vr 94), some (vi x1), some (vi x2), some (vi x3), some (vi 1), none]) dX12_isKeptWord_25 (by decide) rfl ?_
    refine V_iconst dX12_isKeptWord_27 ?_
    refine V_istore (L' := [some (vr 94), some (vi x1), some (vi x2), some (vi x3), some (vi 1), some (vi 0)]) dX12_isKeptWord_28 (by decide) rfl ?_
    exact V.sub (SubL_s (SubL_s (SubL_s (SubL_s (SubL_s (SubL_s (SubL_0))))))) h
set_option maxRecDepth 100000 in
theorem BX12_isKeptWord_30 {σ : Sg} {post : Po} {x1 : Int} {x2 : Int} {x3 : Int} {x4 : Int} {x5 : Int} 
  (h : (0 ≤ x3 ∧ x3 < 112) ∧ ((rng x5) ∧ ((rng (σ 96 x3)) ∧ (((σ 96 x3) ≤ x5 → (x4 = 0 ∨ x4 = 1) ∧ (post (some (vi x4)) σ)) ∧ (¬ (σ 96 x3) ≤ x5 → (rng x4) ∧ ((x4 = 0 → (x4 = 0 ∨ x4 = 1) ∧ (post (some (vi x4)) σ)) ∧ (¬ x4 = 0 → (0 ≤ (((1344 * x1) + (12 * x2)) + x5) ∧ (((1344 * x1) + (12 * x2)) + x5) < 4032) ∧ ((0 ≤ ((12 * x3) + x5) ∧ ((12 * x3) + x5) < 1344) ∧ ((rng (σ 125 (((1344 * x1) + (12 * x2)) + x5))) ∧ ((rng (σ 97 ((12 * x3) + x5))) ∧ ((¬ (σ 125 (((1344 * x1) + (12 * x2)) + x5)) = (σ 97 ((12 * x3) + x5)) → V mX12_isKeptWord 30 [some (vr 94), some (vi x1), some (vi x2), some (vi x3), some (vi 0), some (vi (x5 + 1))] [] σ post) ∧ ((σ 125 (((1344 * x1) + (12 * x2)) + x5)) = (σ 97 ((12 * x3) + x5)) → V mX12_isKeptWord 30 [some (vr 94), some (vi x1), some (vi x2), some (vi x3), some (vi 1), some (vi (x5 + 1))] [] σ post)))))))))))) :
  V mX12_isKeptWord 30 [some (vr 94), some (vi x1), some (vi x2), some (vi x3), some (vi x4), some (vi x5)] [] σ post := by
  refine V_iload dX12_isKeptWord_30 rfl ?_
  refine V_aload_n dX12_isKeptWord_32 rfl rfl ?_
  refine V_getR (k2 := 96) flX12_13 rfl rfl (by decide) dX12_isKeptWord_33 ?_
  refine V_iload_n dX12_isKeptWord_36 rfl rfl ?_
  obtain ⟨r1, h⟩ := h
  refine V_iald (f := (σ 96 x3)) (rfl : shp[96]? = some (1, 112, 0)) r1 (rfl) dX12_isKeptWord_37 ?_
  obtain ⟨r2, h⟩ := h
  obtain ⟨r3, h⟩ := h
  refine V_icmp_ge (tgt := 92) dX12_isKeptWord_38 rfl r2 r3 (fun q => ?_) (fun q => ?_)
  · replace h := h.1 q
    refine V_iload dX12_isKeptWord_92 rfl ?_
    obtain ⟨r4, h⟩ := h
    exact V_zreturn (stk := []) rfl dX12_isKeptWord_94 r4 h
  · replace h := h.2 q
    refine V_iload dX12_isKeptWord_41 rfl ?_
    obtain ⟨r5, h⟩ := h
    refine V_if_eq (tgt := 92) dX12_isKeptWord_43 rfl r5 (fun q => ?_) (fun q => ?_)
    · replace h := h.1 q
      refine V_iload dX12_isKeptWord_92 rfl ?_
      obtain ⟨r6, h⟩ := h
      exact V_zreturn (stk := []) rfl dX12_isKeptWord_94 r6 h
    · replace h := h.2 q
      refine V_aload_n dX12_isKeptWord_46 rfl rfl ?_
      refine V_getR (k2 := 125) flX12_108 rfl rfl (by decide) dX12_isKeptWord_47 ?_
      refine V_sipush dX12_isKeptWord_50 (by decide) ?_
      refine V_iload_n dX12_isKeptWord_53 rfl rfl ?_
      refine V_imul dX12_isKeptWord_54 ?_
      refine V_bipush dX12_isKeptWord_55 (by decide) ?_
      refine V_iload_n dX12_isKeptWord_57 rfl rfl ?_
      refine V_imul dX12_isKeptWord_58 ?_
      refine V_iadd dX12_isKeptWord_59 ?_
      refine V_iload dX12_isKeptWord_60 rfl ?_
      refine V_iadd dX12_isKeptWord_62 ?_
      obtain ⟨r7, h⟩ := h
      refine V_iald (f := (σ 125 (((1344 * x1) + (12 * x2)) + x5))) (rfl : shp[125]? = some (1, 4032, 0)) r7 (rfl) dX12_isKeptWord_63 ?_
      refine V_aload_n dX12_isKeptWord_64 rfl rfl ?_
      refine V_getR (k2 := 97) flX12_16 rfl rfl (by decide) dX12_isKeptWord_65 ?_
      refine V_bipush dX12_isKeptWord_68 (by decide) ?_
      refine V_iload_n dX12_isKeptWord_70 rfl rfl ?_
      refine V_imul dX12_isKeptWord_71 ?_
      refine V_iload dX12_isKeptWord_72 rfl ?_
      refine V_iadd dX12_isKeptWord_74 ?_
      obtain ⟨r8, h⟩ := h
      refine V_iald (f := (σ 97 ((12 * x3) + x5))) (rfl : shp[97]? = some (1, 1344, 0)) r8 (rfl) dX12_isKeptWord_75 ?_
      obtain ⟨r9, h⟩ := h
      obtain ⟨r10, h⟩ := h
      refine V_icmp_ne (tgt := 83) dX12_isKeptWord_76 rfl r9 r10 (fun q => ?_) (fun q => ?_)
      · replace h := h.1 q
        refine V_iconst dX12_isKeptWord_83 ?_
        refine V_istore (L' := [some (vr 94), some (vi x1), some (vi x2), some (vi x3), some (vi 0), some (vi x5)]) dX12_isKeptWord_84 (by decide) rfl ?_
        refine V_iinc (L' := [some (vr 94), some (vi x1), some (vi x2), some (vi x3), some (vi 0), some (vi (x5 + 1))]) dX12_isKeptWord_86 rfl (by decide) rfl ?_
        refine V_goto (tgt := 30) dX12_isKeptWord_89 rfl ?_
        exact V.sub (SubL_s (SubL_s (SubL_s (SubL_s (SubL_s (SubL_s (SubL_0))))))) h
      · replace h := h.2 q
        refine V_iconst dX12_isKeptWord_79 ?_
        refine V_goto (tgt := 84) dX12_isKeptWord_80 rfl ?_
        refine V_istore (L' := [some (vr 94), some (vi x1), some (vi x2), some (vi x3), some (vi 1), some (vi x5)]) dX12_isKeptWord_84 (by decide) rfl ?_
        refine V_iinc (L' := [some (vr 94), some (vi x1), some (vi x2), some (vi x3), some (vi 1), some (vi (x5 + 1))]) dX12_isKeptWord_86 rfl (by decide) rfl ?_
        refine V_goto (tgt := 30) dX12_isKeptWord_89 rfl ?_
        exact V.sub (SubL_s (SubL_s (SubL_s (SubL_s (SubL_s (SubL_s (SubL_0))))))) h

set_option maxRecDepth 100000 in
theorem BX12_headLike_0 {σ : Sg} {post : Po} {x1 : Int} {x2 : Int} 
  (h : V mX12_headLike 2 [some (vr 94), some (vi x1), some (vi x2), some (vi 0)] [] σ post) :
  V mX12_headLike 0 [some (vr 94), some (vi x1), some (vi x2), none] [] σ post := by
  refine V_iconst dX12_headLike_0 ?_
  refine V_istore_n (L' := [some (vr 94), some (vi x1), some (vi x2), some (vi 0)]) dX12_headLike_1 rfl (by decide) rfl ?_
  exact V.sub (SubL_s (SubL_s (SubL_s (SubL_s (SubL_0))))) h
set_option maxRecDepth 100000 in
theorem BX12_headLike_2 {σ : Sg} {post : Po} {x1 : Int} {x2 : Int} {x3 : Int} 
  (h : (rng x3) ∧ ((rng (σ 94 0)) ∧ (((σ 94 0) ≤ x3 → post (some (vi (-1))) σ) ∧ (¬ (σ 94 0) ≤ x3 → Cl mX12_slot [vi x2, vi (-1)] σ (pI fun z1 σ1 => Cl mX12_slot [vi x3, vi (-1)] σ1 (pI fun z2 σ2 => Cl mX12_isKeptWord [vr 94, vi x1, vi z1, vi z2] σ2 (pI fun z3 σ3 => (rng z3) ∧ ((z3 = 0 → V mX12_headLike 2 [some (vr 94), some (vi x1), some (vi x2), some (vi (x3 + 1))] [] σ3 post) ∧ (¬ z3 = 0 → post (some (vi x3)) σ3))))))))) :
  V mX12_headLike 2 [some (vr 94), some (vi x1), some (vi x2), some (vi x3)] [] σ post := by
  refine V_iload_n dX12_headLike_2 rfl rfl ?_
  refine V_aload_n dX12_headLike_3 rfl rfl ?_
  refine V_getI (f := (σ 94 0)) flX12_192 rfl (rfl) (by decide) dX12_headLike_4 ?_
  obtain ⟨r1, h⟩ := h
  obtain ⟨r2, h⟩ := h
  refine V_icmp_ge (tgt := 36) dX12_headLike_7 rfl r1 r2 (fun q => ?_) (fun q => ?_)
  · replace h := h.1 q
    refine V_iconst dX12_headLike_36 ?_
    exact V_ireturn (stk := []) rfl dX12_headLike_37 h
  · replace h := h.2 q
    refine V_aload_n dX12_headLike_10 rfl rfl ?_
    refine V_iload_n dX12_headLike_11 rfl rfl ?_
    refine V_iload_n dX12_headLike_12 rfl rfl ?_
    refine V_iconst dX12_headLike_13 ?_
    refine V_callS (av := [vi x2, vi (-1)]) (stk := [vi x1, vr 94]) cvX12_195 rfl rfl (by decide) (by simp [ctg]) dX12_headLike_14 h ?_
    rintro _ σ1 ⟨z1, rfl, h⟩
    refine V_iload_n dX12_headLike_17 rfl rfl ?_
    refine V_iconst dX12_headLike_18 ?_
    refine V_callS (av := [vi x3, vi (-1)]) (stk := [vi z1, vi x1, vr 94]) cvX12_195 rfl rfl (by decide) (by simp [ctg]) dX12_headLike_19 h ?_
    rintro _ σ2 ⟨z2, rfl, h⟩
    refine V_callV (av := [vi x1, vi z1, vi z2]) (stk := []) cvX12_506 rfl rfl rfl (by decide) (by simp [ctg]) dX12_headLike_22 h ?_
    rintro _ σ3 ⟨z3, rfl, h⟩
    obtain ⟨r3, h⟩ := h
    refine V_if_eq (tgt := 30) dX12_headLike_25 rfl r3 (fun q => ?_) (fun q => ?_)
    · replace h := h.1 q
      refine V_iinc (L' := [some (vr 94), some (vi x1), some (vi x2), some (vi (x3 + 1))]) dX12_headLike_30 rfl (by decide) rfl ?_
      refine V_goto (tgt := 2) dX12_headLike_33 rfl ?_
      exact V.sub (SubL_s (SubL_s (SubL_s (SubL_s (SubL_0))))) h
    · replace h := h.2 q
      refine V_iload_n dX12_headLike_28 rfl rfl ?_
      exact V_ireturn (stk := []) rfl dX12_headLike_29 h

set_option maxRecDepth 100000 in
theorem BX12_subLike_0 {σ : Sg} {post : Po} {x1 : Int} {x2 : Int} {x3 : Int} {x4 : Int} 
  (h : V mX12_subLike 3 [some (vr 94), some (vi x1), some (vi x2), some (vi x3), some (vi x4), some (vi 0)] [] σ post) :
  V mX12_subLike 0 [some (vr 94), some (vi x1), some (vi x2), some (vi x3), some (vi x4), none] [] σ post := by
  refine V_iconst dX12_subLike_0 ?_
  refine V_istore (L' := [some (vr 94), some (vi x1), some (vi x2), some (vi x3), some (vi x4), some (vi 0)]) dX12_subLike_1 (by decide) rfl ?_
  exact V.sub (SubL_s (SubL_s (SubL_s (SubL_s (SubL_s (SubL_s (SubL_0))))))) h
set_option maxRecDepth 100000 in
theorem BX12_subLike_3 {σ : Sg} {post : Po} {x1 : Int} {x2 : Int} {x3 : Int} {x4 : Int} {x5 : Int} 
  (h : (0 ≤ x4 ∧ x4 < 16) ∧ ((rng x5) ∧ ((rng (σ 95 x4)) ∧ (((σ 95 x4) ≤ x5 → post (some (vi (-2))) σ) ∧ (¬ (σ 95 x4) ≤ x5 → Cl mX12_slot [vi x2, vi x3] σ (pI fun z1 σ1 => Cl mX12_slot [vi x4, vi x5] σ1 (pI fun z2 σ2 => Cl mX12_isKeptWord [vr 94, vi x1, vi z1, vi z2] σ2 (pI fun z3 σ3 => (rng z3) ∧ ((z3 = 0 → V mX12_subLike 3 [some (vr 94), some (vi x1), some (vi x2), some (vi x3), some (vi x4), some (vi (x5 + 1))] [] σ3 post) ∧ (¬ z3 = 0 → post (some (vi x5)) σ3)))))))))) :
  V mX12_subLike 3 [some (vr 94), some (vi x1), some (vi x2), some (vi x3), some (vi x4), some (vi x5)] [] σ post := by
  refine V_iload dX12_subLike_3 rfl ?_
  refine V_aload_n dX12_subLike_5 rfl rfl ?_
  refine V_getR (k2 := 95) flX12_7 rfl rfl (by decide) dX12_subLike_6 ?_
  refine V_iload dX12_subLike_9 rfl ?_
  obtain ⟨r1, h⟩ := h
  refine V_iald (f := (σ 95 x4)) (rfl : shp[95]? = some (1, 16, 0)) r1 (rfl) dX12_subLike_11 ?_
  obtain ⟨r2, h⟩ := h
  obtain ⟨r3, h⟩ := h
  refine V_icmp_ge (tgt := 44) dX12_subLike_12 rfl r2 r3 (fun q => ?_) (fun q => ?_)
  · replace h := h.1 q
    refine V_bipush dX12_subLike_44 (by decide) ?_
    exact V_ireturn (stk := []) rfl dX12_subLike_46 h
  · replace h := h.2 q
    refine V_aload_n dX12_subLike_15 rfl rfl ?_
    refine V_iload_n dX12_subLike_16 rfl rfl ?_
    refine V_iload_n dX12_subLike_17 rfl rfl ?_
    refine V_iload_n dX12_subLike_18 rfl rfl ?_
    refine V_callS (av := [vi x2, vi x3]) (stk := [vi x1, vr 94]) cvX12_195 rfl rfl (by decide) (by simp [ctg]) dX12_subLike_19 h ?_
    rintro _ σ1 ⟨z1, rfl, h⟩
    refine V_iload dX12_subLike_22 rfl ?_
    refine V_iload dX12_subLike_24 rfl ?_
    refine V_callS (av := [vi x4, vi x5]) (stk := [vi z1, vi x1, vr 94]) cvX12_195 rfl rfl (by decide) (by simp [ctg]) dX12_subLike_26 h ?_
    rintro _ σ2 ⟨z2, rfl, h⟩
    refine V_callV (av := [vi x1, vi z1, vi z2]) (stk := []) cvX12_506 rfl rfl rfl (by decide) (by simp [ctg]) dX12_subLike_29 h ?_
    rintro _ σ3 ⟨z3, rfl, h⟩
    obtain ⟨r4, h⟩ := h
    refine V_if_eq (tgt := 38) dX12_subLike_32 rfl r4 (fun q => ?_) (fun q => ?_)
    · replace h := h.1 q
      refine V_iinc (L' := [some (vr 94), some (vi x1), some (vi x2), some (vi x3), some (vi x4), some (vi (x5 + 1))]) dX12_subLike_38 rfl (by decide) rfl ?_
      refine V_goto (tgt := 3) dX12_subLike_41 rfl ?_
      exact V.sub (SubL_s (SubL_s (SubL_s (SubL_s (SubL_s (SubL_s (SubL_0))))))) h
    · replace h := h.2 q
      refine V_iload dX12_subLike_35 rfl ?_
      exact V_ireturn (stk := []) rfl dX12_subLike_37 h

set_option maxRecDepth 100000 in
theorem BX12_tickOld_0 {σ : Sg} {post : Po} {x1 : Int} {x2 : Int} {x3 : Int} 
  (h : V mX12_tickOld 3 [some (vr 94), some (vi x1), some (vi x2), some (vi x3), some (vi 0), none, none] [] σ post) :
  V mX12_tickOld 0 [some (vr 94), some (vi x1), some (vi x2), some (vi x3), none, none, none] [] σ post := by
  refine V_iconst dX12_tickOld_0 ?_
  refine V_istore (L' := [some (vr 94), some (vi x1), some (vi x2), some (vi x3), some (vi 0), none, none]) dX12_tickOld_1 (by decide) rfl ?_
  exact V.sub (SubL_s (SubL_s (SubL_s (SubL_s (SubL_s (SubL_n (SubL_n (SubL_0)))))))) h
set_option maxRecDepth 100000 in
theorem BX12_tickOld_3 {σ : Sg} {post : Po} {x1 : Int} {x2 : Int} {x3 : Int} {x4 : Int} 
  (h : (rng x4) ∧ ((102 ≤ x4 → V mX12_tickOld 30 [some (vr 94), some (vi x1), some (vi x2), some (vi x3), some (vi (60 * x1)), none, none] [] σ post) ∧ (¬ 102 ≤ x4 → (0 ≤ x4 ∧ x4 < 102) ∧ (V mX12_tickOld 3 [some (vr 94), some (vi x1), some (vi x2), some (vi x3), some (vi (x4 + 1)), none, none] [] (up σ 136 x4 0) post)))) :
  V mX12_tickOld 3 [some (vr 94), some (vi x1), some (vi x2), some (vi x3), some (vi x4), none, none] [] σ post := by
  refine V_iload dX12_tickOld_3 rfl ?_
  refine V_bipush dX12_tickOld_5 (by decide) ?_
  obtain ⟨r1, h⟩ := h
  refine V_icmp_ge (tgt := 24) dX12_tickOld_7 rfl r1 (by decide) (fun q => ?_) (fun q => ?_)
  · replace h := h.1 q
    refine V_bipush dX12_tickOld_24 (by decide) ?_
    refine V_iload_n dX12_tickOld_26 rfl rfl ?_
    refine V_imul dX12_tickOld_27 ?_
    refine V_istore (L' := [some (vr 94), some (vi x1), some (vi x2), some (vi x3), some (vi (60 * x1)), none, none]) dX12_tickOld_28 (by decide) rfl ?_
    exact V.sub (SubL_s (SubL_s (SubL_s (SubL_s (SubL_s (SubL_n (SubL_n (SubL_0)))))))) h
  · replace h := h.2 q
    refine V_aload_n dX12_tickOld_10 rfl rfl ?_
    refine V_getR (k2 := 136) flX12_141 rfl rfl (by decide) dX12_tickOld_11 ?_
    refine V_iload dX12_tickOld_14 rfl ?_
    refine V_iconst dX12_tickOld_16 ?_
    obtain ⟨r2, h⟩ := h
    refine V_iast (rfl : shp[136]? = some (1, 102, 0)) r2 dX12_tickOld_17 ?_
    refine V_iinc (L' := [some (vr 94), some (vi x1), some (vi x2), some (vi x3), some (vi (x4 + 1)), none, none]) dX12_tickOld_18 rfl (by decide) rfl ?_
    refine V_goto (tgt := 3) dX12_tickOld_21 rfl ?_
    exact V.sub (SubL_s (SubL_s (SubL_s (SubL_s (SubL_s (SubL_n (SubL_n (SubL_0)))))))) h
set_option maxRecDepth 100000 in
theorem BX12_tickOld_30 {σ : Sg} {post : Po} {x1 : Int} {x2 : Int} {x3 : Int} {x4 : Int} 
  (h : (0 ≤ x1 ∧ x1 < 3) ∧ ((rng x4) ∧ ((rng ((60 * x1) + (σ 129 x1))) ∧ ((((60 * x1) + (σ 129 x1)) ≤ x4 → post none σ) ∧ (¬ ((60 * x1) + (σ 129 x1)) ≤ x4 → (0 ≤ x4 ∧ x4 < 180) ∧ ((rng (σ 130 x4)) ∧ ((rng x2) ∧ ((¬ (σ 130 x4) = x2 → V mX12_tickOld 84 [some (vr 94), some (vi x1), some (vi x2), some (vi x3), some (vi x4), some (vi 0), some (vi (σ 132 x4))] [] σ post) ∧ ((σ 130 x4) = x2 → (rng (σ 131 x4)) ∧ ((rng x3) ∧ ((¬ (σ 131 x4) = x3 → V mX12_tickOld 84 [some (vr 94), some (vi x1), some (vi x2), some (vi x3), some (vi x4), some (vi 0), some (vi (σ 132 x4))] [] σ post) ∧ ((σ 131 x4) = x3 → V mX12_tickOld 84 [some (vr 94), some (vi x1), some (vi x2), some (vi x3), some (vi x4), some (vi 1), some (vi (σ 132 x4))] [] σ post)))))))))))) :
  V mX12_tickOld 30 [some (vr 94), some (vi x1), some (vi x2), some (vi x3), some (vi x4), none, none] [] σ post := by
  refine V_iload dX12_tickOld_30 rfl ?_
  refine V_bipush dX12_tickOld_32 (by decide) ?_
  refine V_iload_n dX12_tickOld_34 rfl rfl ?_
  refine V_imul dX12_tickOld_35 ?_
  refine V_aload_n dX12_tickOld_36 rfl rfl ?_
  refine V_getR (k2 := 129) flX12_120 rfl rfl (by decide) dX12_tickOld_37 ?_
  refine V_iload_n dX12_tickOld_40 rfl rfl ?_
  obtain ⟨r1, h⟩ := h
  refine V_iald (f := (σ 129 x1)) (rfl : shp[129]? = some (1, 3, 0)) r1 (rfl) dX12_tickOld_41 ?_
  refine V_iadd dX12_tickOld_42 ?_
  obtain ⟨r2, h⟩ := h
  obtain ⟨r3, h⟩ := h
  refine V_icmp_ge (tgt := 121) dX12_tickOld_43 rfl r2 r3 (fun q => ?_) (fun q => ?_)
  · replace h := h.1 q
    exact V_return (stk := []) rfl dX12_tickOld_121 h
  · replace h := h.2 q
    refine V_aload_n dX12_tickOld_46 rfl rfl ?_
    refine V_getR (k2 := 130) flX12_123 rfl rfl (by decide) dX12_tickOld_47 ?_
    refine V_iload dX12_tickOld_50 rfl ?_
    obtain ⟨r4, h⟩ := h
    refine V_iald (f := (σ 130 x4)) (rfl : shp[130]? = some (1, 180, 0)) r4 (rfl) dX12_tickOld_52 ?_
    refine V_iload_n dX12_tickOld_53 rfl rfl ?_
    obtain ⟨r5, h⟩ := h
    obtain ⟨r6, h⟩ := h
    refine V_icmp_ne (tgt := 72) dX12_tickOld_54 rfl r5 r6 (fun q => ?_) (fun q => ?_)
    · replace h := h.1 q
      refine V_iconst dX12_tickOld_72 ?_
      refine V_istore (L' := [some (vr 94), some (vi x1), some (vi x2), some (vi x3), some (vi x4), some (vi 0), none]) dX12_tickOld_73 (by decide) rfl ?_
      refine V_aload_n dX12_tickOld_75 rfl rfl ?_
      refine V_getR (k2 := 132) flX12_129 rfl rfl (by decide) dX12_tickOld_76 ?_
      refine V_iload dX12_tickOld_79 rfl ?_
      refine V_iald (f := (σ 132 x4)) (rfl : shp[132]? = some (1, 180, 0)) r4 (rfl) dX12_tickOld_81 ?_
      refine V_istore (L' := [some (vr 94), some (vi x1), some (vi x2), some (vi x3), some (vi x4), some (vi 0), some (vi (σ 132 x4))]) dX12_tickOld_82 (by decide) rfl ?_
      exact V.sub (SubL_s (SubL_s (SubL_s (SubL_s (SubL_s (SubL_s (SubL_s (SubL_0)))))))) h
    · replace h := h.2 q
      refine V_aload_n dX12_tickOld_57 rfl rfl ?_
      refine V_getR (k2 := 131) flX12_126 rfl rfl (by decide) dX12_tickOld_58 ?_
      refine V_iload dX12_tickOld_61 rfl ?_
      refine V_iald (f := (σ 131 x4)) (rfl : shp[131]? = some (1, 180, 0)) r4 (rfl) dX12_tickOld_63 ?_
      refine V_iload_n dX12_tickOld_64 rfl rfl ?_
      obtain ⟨r7, h⟩ := h
      obtain ⟨r8, h⟩ := h
      refine V_icmp_ne (tgt := 72) dX12_tickOld_65 rfl r7 r8 (fun q => ?_) (fun q => ?_)
      · replace h := h.1 q
        refine V_iconst dX12_tickOld_72 ?_
        refine V_istore (L' := [some (vr 94), some (vi x1), some (vi x2), some (vi x3), some (vi x4), some (vi 0), none]) dX12_tickOld_73 (by decide) rfl ?_
        refine V_aload_n dX12_tickOld_75 rfl rfl ?_
        refine V_getR (k2 := 132) flX12_129 rfl rfl (by decide) dX12_tickOld_76 ?_
        refine V_iload dX12_tickOld_79 rfl ?_
        refine V_iald (f := (σ 132 x4)) (rfl : shp[132]? = some (1, 180, 0)) r4 (rfl) dX12_tickOld_81 ?_
        refine V_istore (L' := [some (vr 94), some (vi x1), some (vi x2), some (vi x3), some (vi x4), some (vi 0), some (vi (σ 132 x4))]) dX12_tickOld_82 (by decide) rfl ?_
        exact V.sub (SubL_s (SubL_s (SubL_s (SubL_s (SubL_s (SubL_s (SubL_s (SubL_0)))))))) h
      · replace h := h.2 q
        refine V_iconst dX12_tickOld_68 ?_
        refine V_goto (tgt := 73) dX12_tickOld_69 rfl ?_
        refine V_istore (L' := [some (vr 94), some (vi x1), some (vi x2), some (vi x3), some (vi x4), some (vi 1), none]) dX12_tickOld_73 (by decide) rfl ?_
        refine V_aload_n dX12_tickOld_75 rfl rfl ?_
        refine V_getR (k2 := 132) flX12_129 rfl rfl (by decide) dX12_tickOld_76 ?_
        refine V_iload dX12_tickOld_79 rfl ?_
        refine V_iald (f := (σ 132 x4)) (rfl : shp[132]? = some (1, 180, 0)) r4 (rfl) dX12_tickOld_81 ?_
        refine V_istore (L' := [some (vr 94), some (vi x1), some (vi x2), some (vi x3), some (vi x4), some (vi 1), some (vi (σ 132 x4))]) dX12_tickOld_82 (by decide) rfl ?_
        exact V.sub (SubL_s (SubL_s (SubL_s (SubL_s (SubL_s (SubL_s (SubL_s (SubL_0)))))))) h
set_option maxRecDepth 100000 in
theorem BX12_tickOld_84 {σ : Sg} {post : Po} {x1 : Int} {x2 : Int} {x3 : Int} {x4 : Int} {x5 : Int} {x6 : Int} 
  (h : (0 ≤ x4 ∧ x4 < 180) ∧ ((rng x6) ∧ ((rng (σ 133 x4)) ∧ (((σ 133 x4) < x6 → V mX12_tickOld 30 [some (vr 94), some (vi x1), some (vi x2), some (vi x3), some (vi (x4 + 1)), none, none] [] σ post) ∧ (¬ (σ 133 x4) < x6 → (rng x5) ∧ ((x5 = 0 → V mX12_tickOld 30 [some (vr 94), some (vi x1), some (vi x2), some (vi x3), some (vi (x4 + 1)), none, none] [] σ post) ∧ (¬ x5 = 0 → (0 ≤ x6 ∧ x6 < 102) ∧ (V mX12_tickOld 84 [some (vr 94), some (vi x1), some (vi x2), some (vi x3), some (vi x4), some (vi x5), some (vi (x6 + 1))] [] (up σ 136 x6 1) post)))))))) :
  V mX12_tickOld 84 [some (vr 94), some (vi x1), some (vi x2), some (vi x3), some (vi x4), some (vi x5), some (vi x6)] [] σ post := by
  refine V_iload dX12_tickOld_84 rfl ?_
  refine V_aload_n dX12_tickOld_86 rfl rfl ?_
  refine V_getR (k2 := 133) flX12_132 rfl rfl (by decide) dX12_tickOld_87 ?_
  refine V_iload dX12_tickOld_90 rfl ?_
  obtain ⟨r1, h⟩ := h
  refine V_iald (f := (σ 133 x4)) (rfl : shp[133]? = some (1, 180, 0)) r1 (rfl) dX12_tickOld_92 ?_
  obtain ⟨r2, h⟩ := h
  obtain ⟨r3, h⟩ := h
  refine V_icmp_gt (tgt := 115) dX12_tickOld_93 rfl r2 r3 (fun q => ?_) (fun q => ?_)
  · replace h := h.1 q
    refine V_iinc (L' := [some (vr 94), some (vi x1), some (vi x2), some (vi x3), some (vi (x4 + 1)), some (vi x5), some (vi x6)]) dX12_tickOld_115 rfl (by decide) rfl ?_
    refine V_goto (tgt := 30) dX12_tickOld_118 rfl ?_
    exact V.sub (SubL_s (SubL_s (SubL_s (SubL_s (SubL_s (SubL_n (SubL_n (SubL_0)))))))) h
  · replace h := h.2 q
    refine V_iload dX12_tickOld_96 rfl ?_
    obtain ⟨r4, h⟩ := h
    refine V_if_eq (tgt := 115) dX12_tickOld_98 rfl r4 (fun q => ?_) (fun q => ?_)
    · replace h := h.1 q
      refine V_iinc (L' := [some (vr 94), some (vi x1), some (vi x2), some (vi x3), some (vi (x4 + 1)), some (vi x5), some (vi x6)]) dX12_tickOld_115 rfl (by decide) rfl ?_
      refine V_goto (tgt := 30) dX12_tickOld_118 rfl ?_
      exact V.sub (SubL_s (SubL_s (SubL_s (SubL_s (SubL_s (SubL_n (SubL_n (SubL_0)))))))) h
    · replace h := h.2 q
      refine V_aload_n dX12_tickOld_101 rfl rfl ?_
      refine V_getR (k2 := 136) flX12_141 rfl rfl (by decide) dX12_tickOld_102 ?_
      refine V_iload dX12_tickOld_105 rfl ?_
      refine V_iconst dX12_tickOld_107 ?_
      obtain ⟨r5, h⟩ := h
      refine V_iast (rfl : shp[136]? = some (1, 102, 0)) r5 dX12_tickOld_108 ?_
      refine V_iinc (L' := [some (vr 94), some (vi x1), some (vi x2), some (vi x3), some (vi x4), some (vi x5), some (vi (x6 + 1))]) dX12_tickOld_109 rfl (by decide) rfl ?_
      refine V_goto (tgt := 84) dX12_tickOld_112 rfl ?_
      exact V.sub (SubL_s (SubL_s (SubL_s (SubL_s (SubL_s (SubL_s (SubL_s (SubL_0)))))))) h

set_option maxRecDepth 100000 in
theorem BX12_staleRuns_0 {σ : Sg} {post : Po}  
  (h : V mX12_staleRuns 4 [some (vr 94), some (vi 0), some (vi 1), none, none, none] [] σ post) :
  V mX12_staleRuns 0 [some (vr 94), none, none, none, none, none] [] σ post := by
  refine V_iconst dX12_staleRuns_0 ?_
  refine V_istore_n (L' := [some (vr 94), some (vi 0), none, none, none, none]) dX12_staleRuns_1 rfl (by decide) rfl ?_
  refine V_iconst dX12_staleRuns_2 ?_
  refine V_istore_n (L' := [some (vr 94), some (vi 0), some (vi 1), none, none, none]) dX12_staleRuns_3 rfl (by decide) rfl ?_
  exact V.sub (SubL_s (SubL_s (SubL_s (SubL_n (SubL_n (SubL_n (SubL_0))))))) h
set_option maxRecDepth 100000 in
theorem BX12_staleRuns_4 {σ : Sg} {post : Po} {x1 : Int} {x2 : Int} 
  (h : (rng x2) ∧ ((99 < x2 → post (some (vi x1)) σ) ∧ (¬ 99 < x2 → V mX12_staleRuns 12 [some (vr 94), some (vi x1), some (vi x2), some (vi x2), none, none] [] σ post))) :
  V mX12_staleRuns 4 [some (vr 94), some (vi x1), some (vi x2), none, none, none] [] σ post := by
  refine V_iload_n dX12_staleRuns_4 rfl rfl ?_
  refine V_bipush dX12_staleRuns_5 (by decide) ?_
  obtain ⟨r1, h⟩ := h
  refine V_icmp_gt (tgt := 119) dX12_staleRuns_7 rfl r1 (by decide) (fun q => ?_) (fun q => ?_)
  · replace h := h.1 q
    refine V_iload_n dX12_staleRuns_119 rfl rfl ?_
    exact V_ireturn (stk := []) rfl dX12_staleRuns_120 h
  · replace h := h.2 q
    refine V_iload_n dX12_staleRuns_10 rfl rfl ?_
    refine V_istore_n (L' := [some (vr 94), some (vi x1), some (vi x2), some (vi x2), none, none]) dX12_staleRuns_11 rfl (by decide) rfl ?_
    exact V.sub (SubL_s (SubL_s (SubL_s (SubL_s (SubL_n (SubL_n (SubL_0))))))) h
set_option maxRecDepth 100000 in
theorem BX12_staleRuns_12 {σ : Sg} {post : Po} {x1 : Int} {x2 : Int} {x3 : Int} 
  (h : (0 ≤ x3 ∧ x3 < 102) ∧ ((rng (σ 136 x3)) ∧ (((σ 136 x3) ≤ 0 → (0 ≤ (x2 - 1) ∧ (x2 - 1) < 102) ∧ ((rng (σ 107 (x2 - 1))) ∧ ((¬ (σ 107 (x2 - 1)) = 0 → V mX12_staleRuns 57 [some (vr 94), some (vi x1), some (vi x2), some (vi x3), some (vi 0), some (vi x2)] [] σ post) ∧ ((σ 107 (x2 - 1)) = 0 → (rng (σ 107 x3)) ∧ ((¬ (σ 107 x3) = 0 → V mX12_staleRuns 57 [some (vr 94), some (vi x1), some (vi x2), some (vi x3), some (vi 0), some (vi x2)] [] σ post) ∧ ((σ 107 x3) = 0 → V mX12_staleRuns 57 [some (vr 94), some (vi x1), some (vi x2), some (vi x3), some (vi 1), some (vi x2)] [] σ post)))))) ∧ (¬ (σ 136 x3) ≤ 0 → V mX12_staleRuns 12 [some (vr 94), some (vi x1), some (vi x2), some (vi (x3 + 1)), none, none] [] σ post)))) :
  V mX12_staleRuns 12 [some (vr 94), some (vi x1), some (vi x2), some (vi x3), none, none] [] σ post := by
  refine V_aload_n dX12_staleRuns_12 rfl rfl ?_
  refine V_getR (k2 := 136) flX12_141 rfl rfl (by decide) dX12_staleRuns_13 ?_
  refine V_iload_n dX12_staleRuns_16 rfl rfl ?_
  obtain ⟨r1, h⟩ := h
  refine V_iald (f := (σ 136 x3)) (rfl : shp[136]? = some (1, 102, 0)) r1 (rfl) dX12_staleRuns_17 ?_
  obtain ⟨r2, h⟩ := h
  refine V_if_le (tgt := 27) dX12_staleRuns_18 rfl r2 (fun q => ?_) (fun q => ?_)
  · replace h := h.1 q
    refine V_aload_n dX12_staleRuns_27 rfl rfl ?_
    refine V_getR (k2 := 107) flX12_51 rfl rfl (by decide) dX12_staleRuns_28 ?_
    refine V_iload_n dX12_staleRuns_31 rfl rfl ?_
    refine V_iconst dX12_staleRuns_32 ?_
    refine V_isub dX12_staleRuns_33 ?_
    obtain ⟨r3, h⟩ := h
    refine V_iald (f := (σ 107 (x2 - 1))) (rfl : shp[107]? = some (1, 102, 0)) r3 (rfl) dX12_staleRuns_34 ?_
    obtain ⟨r4, h⟩ := h
    refine V_if_ne (tgt := 51) dX12_staleRuns_35 rfl r4 (fun q => ?_) (fun q => ?_)
    · replace h := h.1 q
      refine V_iconst dX12_staleRuns_51 ?_
      refine V_istore (L' := [some (vr 94), some (vi x1), some (vi x2), some (vi x3), some (vi 0), none]) dX12_staleRuns_52 (by decide) rfl ?_
      refine V_iload_n dX12_staleRuns_54 rfl rfl ?_
      refine V_istore (L' := [some (vr 94), some (vi x1), some (vi x2), some (vi x3), some (vi 0), some (vi x2)]) dX12_staleRuns_55 (by decide) rfl ?_
      exact V.sub (SubL_s (SubL_s (SubL_s (SubL_s (SubL_s (SubL_s (SubL_0))))))) h
    · replace h := h.2 q
      refine V_aload_n dX12_staleRuns_38 rfl rfl ?_
      refine V_getR (k2 := 107) flX12_51 rfl rfl (by decide) dX12_staleRuns_39 ?_
      refine V_iload_n dX12_staleRuns_42 rfl rfl ?_
      refine V_iald (f := (σ 107 x3)) (rfl : shp[107]? = some (1, 102, 0)) r1 (rfl) dX12_staleRuns_43 ?_
      obtain ⟨r5, h⟩ := h
      refine V_if_ne (tgt := 51) dX12_staleRuns_44 rfl r5 (fun q => ?_) (fun q => ?_)
      · replace h := h.1 q
        refine V_iconst dX12_staleRuns_51 ?_
        refine V_istore (L' := [some (vr 94), some (vi x1), some (vi x2), some (vi x3), some (vi 0), none]) dX12_staleRuns_52 (by decide) rfl ?_
        refine V_iload_n dX12_staleRuns_54 rfl rfl ?_
        refine V_istore (L' := [some (vr 94), some (vi x1), some (vi x2), some (vi x3), some (vi 0), some (vi x2)]) dX12_staleRuns_55 (by decide) rfl ?_
        exact V.sub (SubL_s (SubL_s (SubL_s (SubL_s (SubL_s (SubL_s (SubL_0))))))) h
      · replace h := h.2 q
        refine V_iconst dX12_staleRuns_47 ?_
        refine V_goto (tgt := 52) dX12_staleRuns_48 rfl ?_
        refine V_istore (L' := [some (vr 94), some (vi x1), some (vi x2), some (vi x3), some (vi 1), none]) dX12_staleRuns_52 (by decide) rfl ?_
        refine V_iload_n dX12_staleRuns_54 rfl rfl ?_
        refine V_istore (L' := [some (vr 94), some (vi x1), some (vi x2), some (vi x3), some (vi 1), some (vi x2)]) dX12_staleRuns_55 (by decide) rfl ?_
        exact V.sub (SubL_s (SubL_s (SubL_s (SubL_s (SubL_s (SubL_s (SubL_0))))))) h
  · replace h := h.2 q
    refine V_iinc (L' := [some (vr 94), some (vi x1), some (vi x2), some (vi (x3 + 1)), none, none]) dX12_staleRuns_21 rfl (by decide) rfl ?_
    refine V_goto (tgt := 12) dX12_staleRuns_24 rfl ?_
    exact V.sub (SubL_s (SubL_s (SubL_s (SubL_s (SubL_n (SubL_n (SubL_0))))))) h
set_option maxRecDepth 100000 in
theorem BX12_staleRuns_57 {σ : Sg} {post : Po} {x1 : Int} {x2 : Int} {x3 : Int} {x4 : Int} {x5 : Int} 
  (h : (rng x5) ∧ ((rng x3) ∧ ((x3 ≤ x5 → (rng x2) ∧ ((x3 ≤ x2 → Cl mX12_one [vi 0] σ (pI fun z1 σ1 => V mX12_staleRuns 4 [some (vr 94), some (vi (x1 + z1)), some (vi (x3 + 1)), none, none, none] [] σ1 post)) ∧ (¬ x3 ≤ x2 → (rng x4) ∧ ((¬ x4 = 0 → Cl mX12_one [vi 0] σ (pI fun z2 σ2 => V mX12_staleRuns 4 [some (vr 94), some (vi (x1 + z2)), some (vi (x3 + 1)), none, none, none] [] σ2 post)) ∧ (x4 = 0 → Cl mX12_one [vi 1] σ (pI fun z3 σ3 => V mX12_staleRuns 4 [some (vr 94), some (vi (x1 + z3)), some (vi (x3 + 1)), none, none, none] [] σ3 post)))))) ∧ (¬ x3 ≤ x5 → (rng x4) ∧ ((x4 = 0 → V mX12_staleRuns 57 [some (vr 94), some (vi x1), some (vi x2), some (vi x3), some (vi 0), some (vi (x5 + 1))] [] σ post) ∧ (¬ x4 = 0 → (0 ≤ x5 ∧ x5 < 102) ∧ ((rng (σ 107 x5)) ∧ (((σ 107 x5) ≤ 0 → V mX12_staleRuns 57 [some (vr 94), some (vi x1), some (vi x2), some (vi x3), some (vi 0), some (vi (x5 + 1))] [] σ post) ∧ (¬ (σ 107 x5) ≤ 0 → V mX12_staleRuns 57 [some (vr 94), some (vi x1), some (vi x2), some (vi x3), some (vi 1), some (vi (x5 + 1))] [] σ post))))))))) :
  V mX12_staleRuns 57 [some (vr 94), some (vi x1), some (vi x2), some (vi x3), some (vi x4), some (vi x5)] [] σ post := by
  refine V_iload dX12_staleRuns_57 rfl ?_
  refine V_iload_n dX12_staleRuns_59 rfl rfl ?_
  obtain ⟨r1, h⟩ := h
  obtain ⟨r2, h⟩ := h
  refine V_icmp_ge (tgt := 91) dX12_staleRuns_60 rfl r1 r2 (fun q => ?_) (fun q => ?_)
  · replace h := h.1 q
    refine V_iload_n dX12_staleRuns_91 rfl rfl ?_
    refine V_iload_n dX12_staleRuns_92 rfl rfl ?_
    refine V_iload_n dX12_staleRuns_93 rfl rfl ?_
    obtain ⟨r3, h⟩ := h
    refine V_icmp_le (tgt := 106) dX12_staleRuns_94 rfl r2 r3 (fun q => ?_) (fun q => ?_)
    · replace h := h.1 q
      refine V_iconst dX12_staleRuns_106 ?_
      refine V_callS (av := [vi 0]) (stk := [vi x1]) cvX12_271 rfl rfl (by decide) (by simp [ctg]) dX12_staleRuns_107 h ?_
      rintro _ σ1 ⟨z1, rfl, h⟩
      refine V_iadd dX12_staleRuns_110 ?_
      refine V_istore_n (L' := [some (vr 94), some (vi (x1 + z1)), some (vi x2), some (vi x3), some (vi x4), some (vi x5)]) dX12_staleRuns_111 rfl (by decide) rfl ?_
      refine V_iload_n dX12_staleRuns_112 rfl rfl ?_
      refine V_iconst dX12_staleRuns_113 ?_
      refine V_iadd dX12_staleRuns_114 ?_
      refine V_istore_n (L' := [some (vr 94), some (vi (x1 + z1)), some (vi (x3 + 1)), some (vi x3), some (vi x4), some (vi x5)]) dX12_staleRuns_115 rfl (by decide) rfl ?_
      refine V_goto (tgt := 4) dX12_staleRuns_116 rfl ?_
      exact V.sub (SubL_s (SubL_s (SubL_s (SubL_n (SubL_n (SubL_n (SubL_0))))))) h
    · replace h := h.2 q
      refine V_iload dX12_staleRuns_97 rfl ?_
      obtain ⟨r4, h⟩ := h
      refine V_if_ne (tgt := 106) dX12_staleRuns_99 rfl r4 (fun q => ?_) (fun q => ?_)
      · replace h := h.1 q
        refine V_iconst dX12_staleRuns_106 ?_
        refine V_callS (av := [vi 0]) (stk := [vi x1]) cvX12_271 rfl rfl (by decide) (by simp [ctg]) dX12_staleRuns_107 h ?_
        rintro _ σ2 ⟨z2, rfl, h⟩
        refine V_iadd dX12_staleRuns_110 ?_
        refine V_istore_n (L' := [some (vr 94), some (vi (x1 + z2)), some (vi x2), some (vi x3), some (vi x4), some (vi x5)]) dX12_staleRuns_111 rfl (by decide) rfl ?_
        refine V_iload_n dX12_staleRuns_112 rfl rfl ?_
        refine V_iconst dX12_staleRuns_113 ?_
        refine V_iadd dX12_staleRuns_114 ?_
        refine V_istore_n (L' := [some (vr 94), some (vi (x1 + z2)), some (vi (x3 + 1)), some (vi x3), some (vi x4), some (vi x5)]) dX12_staleRuns_115 rfl (by decide) rfl ?_
        refine V_goto (tgt := 4) dX12_staleRuns_116 rfl ?_
        exact V.sub (SubL_s (SubL_s (SubL_s (SubL_n (SubL_n (SubL_n (SubL_0))))))) h
      · replace h := h.2 q
        refine V_iconst dX12_staleRuns_102 ?_
        refine V_goto (tgt := 107) dX12_staleRuns_103 rfl ?_
        refine V_callS (av := [vi 1]) (stk := [vi x1]) cvX12_271 rfl rfl (by decide) (by simp [ctg]) dX12_staleRuns_107 h ?_
        rintro _ σ3 ⟨z3, rfl, h⟩
        refine V_iadd dX12_staleRuns_110 ?_
        refine V_istore_n (L' := [some (vr 94), some (vi (x1 + z3)), some (vi x2), some (vi x3), some (vi x4), some (vi x5)]) dX12_staleRuns_111 rfl (by decide) rfl ?_
        refine V_iload_n dX12_staleRuns_112 rfl rfl ?_
        refine V_iconst dX12_staleRuns_113 ?_
        refine V_iadd dX12_staleRuns_114 ?_
        refine V_istore_n (L' := [some (vr 94), some (vi (x1 + z3)), some (vi (x3 + 1)), some (vi x3), some (vi x4), some (vi x5)]) dX12_staleRuns_115 rfl (by decide) rfl ?_
        refine V_goto (tgt := 4) dX12_staleRuns_116 rfl ?_
        exact V.sub (SubL_s (SubL_s (SubL_s (SubL_n (SubL_n (SubL_n (SubL_0))))))) h
  · replace h := h.2 q
    refine V_iload dX12_staleRuns_63 rfl ?_
    obtain ⟨r5, h⟩ := h
    refine V_if_eq (tgt := 82) dX12_staleRuns_65 rfl r5 (fun q => ?_) (fun q => ?_)
    · replace h := h.1 q
      refine V_iconst dX12_staleRuns_82 ?_
      refine V_istore (L' := [some (vr 94), some (vi x1), some (vi x2), some (vi x3), some (vi 0), some (vi x5)]) dX12_staleRuns_83 (by decide) rfl ?_
      refine V_iinc (L' := [some (vr 94), some (vi x1), some (vi x2), some (vi x3), some (vi 0), some (vi (x5 + 1))]) dX12_staleRuns_85 rfl (by decide) rfl ?_
      refine V_goto (tgt := 57) dX12_staleRuns_88 rfl ?_
      exact V.sub (SubL_s (SubL_s (SubL_s (SubL_s (SubL_s (SubL_s (SubL_0))))))) h
    · replace h := h.2 q
      refine V_aload_n dX12_staleRuns_68 rfl rfl ?_
      refine V_getR (k2 := 107) flX12_51 rfl rfl (by decide) dX12_staleRuns_69 ?_
      refine V_iload dX12_staleRuns_72 rfl ?_
      obtain ⟨r6, h⟩ := h
      refine V_iald (f := (σ 107 x5)) (rfl : shp[107]? = some (1, 102, 0)) r6 (rfl) dX12_staleRuns_74 ?_
      obtain ⟨r7, h⟩ := h
      refine V_if_le (tgt := 82) dX12_staleRuns_75 rfl r7 (fun q => ?_) (fun q => ?_)
      · replace h := h.1 q
        refine V_iconst dX12_staleRuns_82 ?_
        refine V_istore (L' := [some (vr 94), some (vi x1), some (vi x2), some (vi x3), some (vi 0), some (vi x5)]) dX12_staleRuns_83 (by decide) rfl ?_
        refine V_iinc (L' := [some (vr 94), some (vi x1), some (vi x2), some (vi x3), some (vi 0), some (vi (x5 + 1))]) dX12_staleRuns_85 rfl (by decide) rfl ?_
        refine V_goto (tgt := 57) dX12_staleRuns_88 rfl ?_
        exact V.sub (SubL_s (SubL_s (SubL_s (SubL_s (SubL_s (SubL_s (SubL_0))))))) h
      · replace h := h.2 q
        refine V_iconst dX12_staleRuns_78 ?_
        refine V_goto (tgt := 83) dX12_staleRuns_79 rfl ?_
        refine V_istore (L' := [some (vr 94), some (vi x1), some (vi x2), some (vi x3), some (vi 1), some (vi x5)]) dX12_staleRuns_83 (by decide) rfl ?_
        refine V_iinc (L' := [some (vr 94), some (vi x1), some (vi x2), some (vi x3), some (vi 1), some (vi (x5 + 1))]) dX12_staleRuns_85 rfl (by decide) rfl ?_
        refine V_goto (tgt := 57) dX12_staleRuns_88 rfl ?_
        exact V.sub (SubL_s (SubL_s (SubL_s (SubL_s (SubL_s (SubL_s (SubL_0))))))) h

set_option maxRecDepth 100000 in
theorem BX12_stale_0 {σ : Sg} {post : Po} {x1 : Int} 
  (h : (rng x1) ∧ (Cl mX12_in [vl x1, vl 0, vl 1] σ (pI fun z1 σ1 => (rng z1) ∧ ((¬ z1 = 0 → (0 ≤ x1 ∧ x1 < 3) ∧ ((rng (σ1 135 x1)) ∧ ((¬ (σ1 135 x1) = 0 → V mX12_stale 31 [some (vr 94), some (vi x1), some (vi 0), some (vi 0), none, none, none] [] σ1 post) ∧ ((σ1 135 x1) = 0 → post (some (vi (-1003))) σ1)))) ∧ (z1 = 0 → post (some (vi (-1001))) σ1))))) :
  V mX12_stale 0 [some (vr 94), some (vi x1), none, none, none, none, none] [] σ post := by
  refine V_iload_n dX12_stale_0 rfl rfl ?_
  obtain ⟨r1, h⟩ := h
  refine V_i2l dX12_stale_1 r1 ?_
  refine V_lconst (z := 0) dX12_stale_2 rfl ?_
  refine V_lconst (z := 1) dX12_stale_3 rfl ?_
  refine V_callS (av := [vl x1, vl 0, vl 1]) (stk := []) cvX12_146 rfl rfl (by decide) (by simp [ctg]) dX12_stale_4 h ?_
  rintro _ σ1 ⟨z1, rfl, h⟩
  obtain ⟨r2, h⟩ := h
  refine V_if_ne (tgt := 14) dX12_stale_7 rfl r2 (fun q => ?_) (fun q => ?_)
  · replace h := h.1 q
    refine V_aload_n dX12_stale_14 rfl rfl ?_
    refine V_getR (k2 := 135) flX12_138 rfl rfl (by decide) dX12_stale_15 ?_
    refine V_iload_n dX12_stale_18 rfl rfl ?_
    obtain ⟨r3, h⟩ := h
    refine V_zald (f := (σ1 135 x1)) (rfl : shp[135]? = some (3, 3, 0)) r3 (rfl) dX12_stale_19 ?_
    obtain ⟨r4, h⟩ := h
    refine V_if_ne (tgt := 27) dX12_stale_20 rfl r4 (fun q => ?_) (fun q => ?_)
    · replace h := h.1 q
      refine V_iconst dX12_stale_27 ?_
      refine V_istore_n (L' := [some (vr 94), some (vi x1), some (vi 0), none, none, none, none]) dX12_stale_28 rfl (by decide) rfl ?_
      refine V_iconst dX12_stale_29 ?_
      refine V_istore_n (L' := [some (vr 94), some (vi x1), some (vi 0), some (vi 0), none, none, none]) dX12_stale_30 rfl (by decide) rfl ?_
      exact V.sub (SubL_s (SubL_s (SubL_s (SubL_s (SubL_n (SubL_n (SubL_n (SubL_0)))))))) h
    · replace h := h.2 q
      refine V_sipush dX12_stale_23 (by decide) ?_
      exact V_ireturn (stk := []) rfl dX12_stale_26 h
  · replace h := h.2 q
    refine V_sipush dX12_stale_10 (by decide) ?_
    exact V_ireturn (stk := []) rfl dX12_stale_13 h
set_option maxRecDepth 100000 in
theorem BX12_stale_31 {σ : Sg} {post : Po} {x1 : Int} {x2 : Int} {x3 : Int} 
  (h : (0 ≤ x1 ∧ x1 < 3) ∧ ((rng x3) ∧ ((rng (σ 122 x1)) ∧ (((σ 122 x1) ≤ x3 → post (some (vi x2)) σ) ∧ (¬ (σ 122 x1) ≤ x3 → Cl mX12_headLike [vr 94, vi x1, vi x3] σ (pI fun z1 σ1 => V mX12_stale 52 [some (vr 94), some (vi x1), some (vi x2), some (vi x3), some (vi z1), some (vi (-1)), none] [] σ1 post)))))) :
  V mX12_stale 31 [some (vr 94), some (vi x1), some (vi x2), some (vi x3), none, none, none] [] σ post := by
  refine V_iload_n dX12_stale_31 rfl rfl ?_
  refine V_aload_n dX12_stale_32 rfl rfl ?_
  refine V_getR (k2 := 122) flX12_99 rfl rfl (by decide) dX12_stale_33 ?_
  refine V_iload_n dX12_stale_36 rfl rfl ?_
  obtain ⟨r1, h⟩ := h
  refine V_iald (f := (σ 122 x1)) (rfl : shp[122]? = some (1, 3, 0)) r1 (rfl) dX12_stale_37 ?_
  obtain ⟨r2, h⟩ := h
  obtain ⟨r3, h⟩ := h
  refine V_icmp_ge (tgt := 150) dX12_stale_38 rfl r2 r3 (fun q => ?_) (fun q => ?_)
  · replace h := h.1 q
    refine V_iload_n dX12_stale_150 rfl rfl ?_
    exact V_ireturn (stk := []) rfl dX12_stale_151 h
  · replace h := h.2 q
    refine V_aload_n dX12_stale_41 rfl rfl ?_
    refine V_iload_n dX12_stale_42 rfl rfl ?_
    refine V_iload_n dX12_stale_43 rfl rfl ?_
    refine V_callV (av := [vi x1, vi x3]) (stk := []) cvX12_509 rfl rfl rfl (by decide) (by simp [ctg]) dX12_stale_44 h ?_
    rintro _ σ1 ⟨z1, rfl, h⟩
    refine V_istore (L' := [some (vr 94), some (vi x1), some (vi x2), some (vi x3), some (vi z1), none, none]) dX12_stale_47 (by decide) rfl ?_
    refine V_iconst dX12_stale_49 ?_
    refine V_istore (L' := [some (vr 94), some (vi x1), some (vi x2), some (vi x3), some (vi z1), some (vi (-1)), none]) dX12_stale_50 (by decide) rfl ?_
    exact V.sub (SubL_s (SubL_s (SubL_s (SubL_s (SubL_s (SubL_s (SubL_n (SubL_0)))))))) h
set_option maxRecDepth 100000 in
theorem BX12_stale_52 {σ : Sg} {post : Po} {x1 : Int} {x2 : Int} {x3 : Int} {x4 : Int} {x5 : Int} 
  (h : (0 ≤ ((16 * x1) + x3) ∧ ((16 * x1) + x3) < 48) ∧ ((rng x5) ∧ ((rng (σ 123 ((16 * x1) + x3))) ∧ (((σ 123 ((16 * x1) + x3)) ≤ x5 → V mX12_stale 31 [some (vr 94), some (vi x1), some (vi x2), some (vi (x3 + 1)), none, none, none] [] σ post) ∧ (¬ (σ 123 ((16 * x1) + x3)) ≤ x5 → (rng x4) ∧ ((0 ≤ x4 → (0 ≤ x5 → Cl mX12_subLike [vr 94, vi x1, vi x3, vi x5, vi x4] σ (pI fun z1 σ1 => (x4 < 0 → Cl mX12_tick [vr 94, vi (-1), vi z1] σ1 (pV fun σ2 => Cl mX12_tickOld [vr 94, vi x1, vi x3, vi x5] σ2 (pV fun σ3 => Cl mX12_staleRuns [vr 94] σ3 (pI fun z4 σ4 => V mX12_stale 52 [some (vr 94), some (vi x1), some (vi (x2 + z4)), some (vi x3), some (vi x4), some (vi (x5 + 1)), none] [] σ4 post)))) ∧ (¬ x4 < 0 → (rng z1) ∧ ((¬ z1 = (-2) → Cl mX12_tick [vr 94, vi x4, vi z1] σ1 (pV fun σ5 => Cl mX12_tickOld [vr 94, vi x1, vi x3, vi x5] σ5 (pV fun σ6 => Cl mX12_staleRuns [vr 94] σ6 (pI fun z7 σ7 => V mX12_stale 52 [some (vr 94), some (vi x1), some (vi (x2 + z7)), some (vi x3), some (vi x4), some (vi (x5 + 1)), none] [] σ7 post)))) ∧ (z1 = (-2) → Cl mX12_tick [vr 94, vi (-1), vi z1] σ1 (pV fun σ8 => Cl mX12_tickOld [vr 94, vi x1, vi x3, vi x5] σ8 (pV fun σ9 => Cl mX12_staleRuns [vr 94] σ9 (pI fun z10 σ10 => V mX12_stale 52 [some (vr 94), some (vi x1), some (vi (x2 + z10)), some (vi x3), some (vi x4), some (vi (x5 + 1)), none] [] σ10 post)))))))) ∧ (¬ 0 ≤ x5 → (x4 < 0 → Cl mX12_tick [vr 94, vi (-1), vi (-1)] σ (pV fun σ11 => Cl mX12_tickOld [vr 94, vi x1, vi x3, vi x5] σ11 (pV fun σ12 => Cl mX12_staleRuns [vr 94] σ12 (pI fun z13 σ13 => V mX12_stale 52 [some (vr 94), some (vi x1), some (vi (x2 + z13)), some (vi x3), some (vi x4), some (vi (x5 + 1)), none] [] σ13 post)))) ∧ (¬ x4 < 0 → Cl mX12_tick [vr 94, vi x4, vi (-1)] σ (pV fun σ14 => Cl mX12_tickOld [vr 94, vi x1, vi x3, vi x5] σ14 (pV fun σ15 => Cl mX12_staleRuns [vr 94] σ15 (pI fun z16 σ16 => V mX12_stale 52 [some (vr 94), some (vi x1), some (vi (x2 + z16)), some (vi x3), some (vi x4), some (vi (x5 + 1)), none] [] σ16 post)))))) ∧ (¬ 0 ≤ x4 → (x4 < 0 → Cl mX12_tick [vr 94, vi (-1), vi (-2)] σ (pV fun σ17 => Cl mX12_tickOld [vr 94, vi x1, vi x3, vi x5] σ17 (pV fun σ18 => Cl mX12_staleRuns [vr 94] σ18 (pI fun z19 σ19 => V mX12_stale 52 [some (vr 94), some (vi x1), some (vi (x2 + z19)), some (vi x3), some (vi x4), some (vi (x5 + 1)), none] [] σ19 post)))) ∧ (¬ x4 < 0 → Cl mX12_tick [vr 94, vi (-1), vi (-2)] σ (pV fun σ20 => Cl mX12_tickOld [vr 94, vi x1, vi x3, vi x5] σ20 (pV fun σ21 => Cl mX12_staleRuns [vr 94] σ21 (pI fun z22 σ22 => V mX12_stale 52 [some (vr 94), some (vi x1), some (vi (x2 + z22)), some (vi x3), some (vi x4), some (vi (x5 + 1)), none] [] σ22 post))))))))))) :
  V mX12_stale 52 [some (vr 94), some (vi x1), some (vi x2), some (vi x3), some (vi x4), some (vi x5), none] [] σ post := by
  refine V_iload dX12_stale_52 rfl ?_
  refine V_aload_n dX12_stale_54 rfl rfl ?_
  refine V_getR (k2 := 123) flX12_102 rfl rfl (by decide) dX12_stale_55 ?_
  refine V_bipush dX12_stale_58 (by decide) ?_
  refine V_iload_n dX12_stale_60 rfl rfl ?_
  refine V_imul dX12_stale_61 ?_
  refine V_iload_n dX12_stale_62 rfl rfl ?_
  refine V_iadd dX12_stale_63 ?_
  obtain ⟨r1, h⟩ := h
  refine V_iald (f := (σ 123 ((16 * x1) + x3))) (rfl : shp[123]? = some (1, 48, 0)) r1 (rfl) dX12_stale_64 ?_
  obtain ⟨r2, h⟩ := h
  obtain ⟨r3, h⟩ := h
  refine V_icmp_ge (tgt := 144) dX12_stale_65 rfl r2 r3 (fun q => ?_) (fun q => ?_)
  · replace h := h.1 q
    refine V_iinc (L' := [some (vr 94), some (vi x1), some (vi x2), some (vi (x3 + 1)), some (vi x4), some (vi x5), none]) dX12_stale_144 rfl (by decide) rfl ?_
    refine V_goto (tgt := 31) dX12_stale_147 rfl ?_
    exact V.sub (SubL_s (SubL_s (SubL_s (SubL_s (SubL_n (SubL_n (SubL_n (SubL_0)))))))) h
  · replace h := h.2 q
    refine V_iload dX12_stale_68 rfl ?_
    obtain ⟨r4, h⟩ := h
    refine V_if_ge (tgt := 78) dX12_stale_70 rfl r4 (fun q => ?_) (fun q => ?_)
    · replace h := h.1 q
      refine V_iload dX12_stale_78 rfl ?_
      refine V_if_ge (tgt := 87) dX12_stale_80 rfl r2 (fun q => ?_) (fun q => ?_)
      · replace h := h.1 q
        refine V_aload_n dX12_stale_87 rfl rfl ?_
        refine V_iload_n dX12_stale_88 rfl rfl ?_
        refine V_iload_n dX12_stale_89 rfl rfl ?_
        refine V_iload dX12_stale_90 rfl ?_
        refine V_iload dX12_stale_92 rfl ?_
        refine V_callV (av := [vi x1, vi x3, vi x5, vi x4]) (stk := []) cvX12_512 rfl rfl rfl (by decide) (by simp [ctg]) dX12_stale_94 h ?_
        rintro _ σ1 ⟨z1, rfl, h⟩
        refine V_istore (L' := [some (vr 94), some (vi x1), some (vi x2), some (vi x3), some (vi x4), some (vi x5), some (vi z1)]) dX12_stale_97 (by decide) rfl ?_
        refine V_aload_n dX12_stale_99 rfl rfl ?_
        refine V_iload dX12_stale_100 rfl ?_
        refine V_if_lt (tgt := 112) dX12_stale_102 rfl r4 (fun q => ?_) (fun q => ?_)
        · replace h := h.1 q
          refine V_iconst dX12_stale_112 ?_
          refine V_goto (tgt := 118) dX12_stale_113 rfl ?_
          refine V_iload dX12_stale_118 rfl ?_
          refine V_callV (av := [vi (-1), vi z1]) (stk := []) cvX12_296 rfl rfl rfl (by decide) (by simp [ctg]) dX12_stale_120 h ?_
          rintro _ σ2 ⟨rfl, h⟩
          refine V_aload_n dX12_stale_123 rfl rfl ?_
          refine V_iload_n dX12_stale_124 rfl rfl ?_
          refine V_iload_n dX12_stale_125 rfl rfl ?_
          refine V_iload dX12_stale_126 rfl ?_
          refine V_callV (av := [vi x1, vi x3, vi x5]) (stk := []) cvX12_515 rfl rfl rfl (by decide) (by simp [ctg]) dX12_stale_128 h ?_
          rintro _ σ3 ⟨rfl, h⟩
          refine V_iload_n dX12_stale_131 rfl rfl ?_
          refine V_aload_n dX12_stale_132 rfl rfl ?_
          refine V_callV (av := []) (stk := [vi x2]) cvX12_519 rfl rfl rfl (by decide) (by simp [ctg]) dX12_stale_133 h ?_
          rintro _ σ4 ⟨z4, rfl, h⟩
          refine V_iadd dX12_stale_136 ?_
          refine V_istore_n (L' := [some (vr 94), some (vi x1), some (vi (x2 + z4)), some (vi x3), some (vi x4), some (vi x5), some (vi z1)]) dX12_stale_137 rfl (by decide) rfl ?_
          refine V_iinc (L' := [some (vr 94), some (vi x1), some (vi (x2 + z4)), some (vi x3), some (vi x4), some (vi (x5 + 1)), some (vi z1)]) dX12_stale_138 rfl (by decide) rfl ?_
          refine V_goto (tgt := 52) dX12_stale_141 rfl ?_
          exact V.sub (SubL_s (SubL_s (SubL_s (SubL_s (SubL_s (SubL_s (SubL_n (SubL_0)))))))) h
        · replace h := h.2 q
          refine V_iload dX12_stale_105 rfl ?_
          refine V_bipush dX12_stale_107 (by decide) ?_
          obtain ⟨r5, h⟩ := h
          refine V_icmp_ne (tgt := 116) dX12_stale_109 rfl r5 (by decide) (fun q => ?_) (fun q => ?_)
          · replace h := h.1 q
            refine V_iload dX12_stale_116 rfl ?_
            refine V_iload dX12_stale_118 rfl ?_
            refine V_callV (av := [vi x4, vi z1]) (stk := []) cvX12_296 rfl rfl rfl (by decide) (by simp [ctg]) dX12_stale_120 h ?_
            rintro _ σ5 ⟨rfl, h⟩
            refine V_aload_n dX12_stale_123 rfl rfl ?_
            refine V_iload_n dX12_stale_124 rfl rfl ?_
            refine V_iload_n dX12_stale_125 rfl rfl ?_
            refine V_iload dX12_stale_126 rfl ?_
            refine V_callV (av := [vi x1, vi x3, vi x5]) (stk := []) cvX12_515 rfl rfl rfl (by decide) (by simp [ctg]) dX12_stale_128 h ?_
            rintro _ σ6 ⟨rfl, h⟩
            refine V_iload_n dX12_stale_131 rfl rfl ?_
            refine V_aload_n dX12_stale_132 rfl rfl ?_
            refine V_callV (av := []) (stk := [vi x2]) cvX12_519 rfl rfl rfl (by decide) (by simp [ctg]) dX12_stale_133 h ?_
            rintro _ σ7 ⟨z7, rfl, h⟩
            refine V_iadd dX12_stale_136 ?_
            refine V_istore_n (L' := [some (vr 94), some (vi x1), some (vi (x2 + z7)), some (vi x3), some (vi x4), some (vi x5), some (vi z1)]) dX12_stale_137 rfl (by decide) rfl ?_
            refine V_iinc (L' := [some (vr 94), some (vi x1), some (vi (x2 + z7)), some (vi x3), some (vi x4), some (vi (x5 + 1)), some (vi z1)]) dX12_stale_138 rfl (by decide) rfl ?_
            refine V_goto (tgt := 52) dX12_stale_141 rfl ?_
            exact V.sub (SubL_s (SubL_s (SubL_s (SubL_s (SubL_s (SubL_s (SubL_n (SubL_0)))))))) h
          · replace h := h.2 q
            refine V_iconst dX12_stale_112 ?_
            refine V_goto (tgt := 118) dX12_stale_113 rfl ?_
            refine V_iload dX12_stale_118 rfl ?_
            refine V_callV (av := [vi (-1), vi z1]) (stk := []) cvX12_296 rfl rfl rfl (by decide) (by simp [ctg]) dX12_stale_120 h ?_
            rintro _ σ8 ⟨rfl, h⟩
            refine V_aload_n dX12_stale_123 rfl rfl ?_
            refine V_iload_n dX12_stale_124 rfl rfl ?_
            refine V_iload_n dX12_stale_125 rfl rfl ?_
            refine V_iload dX12_stale_126 rfl ?_
            refine V_callV (av := [vi x1, vi x3, vi x5]) (stk := []) cvX12_515 rfl rfl rfl (by decide) (by simp [ctg]) dX12_stale_128 h ?_
            rintro _ σ9 ⟨rfl, h⟩
            refine V_iload_n dX12_stale_131 rfl rfl ?_
            refine V_aload_n dX12_stale_132 rfl rfl ?_
            refine V_callV (av := []) (stk := [vi x2]) cvX12_519 rfl rfl rfl (by decide) (by simp [ctg]) dX12_stale_133 h ?_
            rintro _ σ10 ⟨z10, rfl, h⟩
            refine V_iadd dX12_stale_136 ?_
            refine V_istore_n (L' := [some (vr 94), some (vi x1), some (vi (x2 + z10)), some (vi x3), some (vi x4), some (vi x5), some (vi z1)]) dX12_stale_137 rfl (by decide) rfl ?_
            refine V_iinc (L' := [some (vr 94), some (vi x1), some (vi (x2 + z10)), some (vi x3), some (vi x4), some (vi (x5 + 1)), some (vi z1)]) dX12_stale_138 rfl (by decide) rfl ?_
            refine V_goto (tgt := 52) dX12_stale_141 rfl ?_
            exact V.sub (SubL_s (SubL_s (SubL_s (SubL_s (SubL_s (SubL_s (SubL_n (SubL_0)))))))) h
      · replace h := h.2 q
        refine V_iconst dX12_stale_83 ?_
        refine V_goto (tgt := 97) dX12_stale_84 rfl ?_
        refine V_istore (L' := [some (vr 94), some (vi x1), some (vi x2), some (vi x3), some (vi x4), some (vi x5), some (vi (-1))]) dX12_stale_97 (by decide) rfl ?_
        refine V_aload_n dX12_stale_99 rfl rfl ?_
        refine V_iload dX12_stale_100 rfl ?_
        refine V_if_lt (tgt := 112) dX12_stale_102 rfl r4 (fun q => ?_) (fun q => ?_)
        · replace h := h.1 q
          refine V_iconst dX12_stale_112 ?_
          refine V_goto (tgt := 118) dX12_stale_113 rfl ?_
          refine V_iload dX12_stale_118 rfl ?_
          refine V_callV (av := [vi (-1), vi (-1)]) (stk := []) cvX12_296 rfl rfl rfl (by decide) (by simp [ctg]) dX12_stale_120 h ?_
          rintro _ σ11 ⟨rfl, h⟩
          refine V_aload_n dX12_stale_123 rfl rfl ?_
          refine V_iload_n dX12_stale_124 rfl rfl ?_
          refine V_iload_n dX12_stale_125 rfl rfl ?_
          refine V_iload dX12_stale_126 rfl ?_
          refine V_callV (av := [vi x1, vi x3, vi x5]) (stk := []) cvX12_515 rfl rfl rfl (by decide) (by simp [ctg]) dX12_stale_128 h ?_
          rintro _ σ12 ⟨rfl, h⟩
          refine V_iload_n dX12_stale_131 rfl rfl ?_
          refine V_aload_n dX12_stale_132 rfl rfl ?_
          refine V_callV (av := []) (stk := [vi x2]) cvX12_519 rfl rfl rfl (by decide) (by simp [ctg]) dX12_stale_133 h ?_
          rintro _ σ13 ⟨z13, rfl, h⟩
          refine V_iadd dX12_stale_136 ?_
          refine V_istore_n (L' := [some (vr 94), some (vi x1), some (vi (x2 + z13)), some (vi x3), some (vi x4), some (vi x5), some (vi (-1))]) dX12_stale_137 rfl (by decide) rfl ?_
          refine V_iinc (L' := [some (vr 94), some (vi x1), some (vi (x2 + z13)), some (vi x3), some (vi x4), some (vi (x5 + 1)), some (vi (-1))]) dX12_stale_138 rfl (by decide) rfl ?_
          refine V_goto (tgt := 52) dX12_stale_141 rfl ?_
          exact V.sub (SubL_s (SubL_s (SubL_s (SubL_s (SubL_s (SubL_s (SubL_n (SubL_0)))))))) h
        · replace h := h.2 q
          refine V_iload dX12_stale_105 rfl ?_
          refine V_bipush dX12_stale_107 (by decide) ?_
          refine V_icmp_ne (tgt := 116) dX12_stale_109 rfl (by decide) (by decide) (fun q => ?_) (fun q => absurd q (by decide))
          refine V_iload dX12_stale_116 rfl ?_
          refine V_iload dX12_stale_118 rfl ?_
          refine V_callV (av := [vi x4, vi (-1)]) (stk := []) cvX12_296 rfl rfl rfl (by decide) (by simp [ctg]) dX12_stale_120 h ?_
          rintro _ σ14 ⟨rfl, h⟩
          refine V_aload_n dX12_stale_123 rfl rfl ?_
          refine V_iload_n dX12_stale_124 rfl rfl ?_
          refine V_iload_n dX12_stale_125 rfl rfl ?_
          refine V_iload dX12_stale_126 rfl ?_
          refine V_callV (av := [vi x1, vi x3, vi x5]) (stk := []) cvX12_515 rfl rfl rfl (by decide) (by simp [ctg]) dX12_stale_128 h ?_
          rintro _ σ15 ⟨rfl, h⟩
          refine V_iload_n dX12_stale_131 rfl rfl ?_
          refine V_aload_n dX12_stale_132 rfl rfl ?_
          refine V_callV (av := []) (stk := [vi x2]) cvX12_519 rfl rfl rfl (by decide) (by simp [ctg]) dX12_stale_133 h ?_
          rintro _ σ16 ⟨z16, rfl, h⟩
          refine V_iadd dX12_stale_136 ?_
          refine V_istore_n (L' := [some (vr 94), some (vi x1), some (vi (x2 + z16)), some (vi x3), some (vi x4), some (vi x5), some (vi (-1))]) dX12_stale_137 rfl (by decide) rfl ?_
          refine V_iinc (L' := [some (vr 94), some (vi x1), some (vi (x2 + z16)), some (vi x3), some (vi x4), some (vi (x5 + 1)), some (vi (-1))]) dX12_stale_138 rfl (by decide) rfl ?_
          refine V_goto (tgt := 52) dX12_stale_141 rfl ?_
          exact V.sub (SubL_s (SubL_s (SubL_s (SubL_s (SubL_s (SubL_s (SubL_n (SubL_0)))))))) h
    · replace h := h.2 q
      refine V_bipush dX12_stale_73 (by decide) ?_
      refine V_goto (tgt := 97) dX12_stale_75 rfl ?_
      refine V_istore (L' := [some (vr 94), some (vi x1), some (vi x2), some (vi x3), some (vi x4), some (vi x5), some (vi (-2))]) dX12_stale_97 (by decide) rfl ?_
      refine V_aload_n dX12_stale_99 rfl rfl ?_
      refine V_iload dX12_stale_100 rfl ?_
      refine V_if_lt (tgt := 112) dX12_stale_102 rfl r4 (fun q => ?_) (fun q => ?_)
      · replace h := h.1 q
        refine V_iconst dX12_stale_112 ?_
        refine V_goto (tgt := 118) dX12_stale_113 rfl ?_
        refine V_iload dX12_stale_118 rfl ?_
        refine V_callV (av := [vi (-1), vi (-2)]) (stk := []) cvX12_296 rfl rfl rfl (by decide) (by simp [ctg]) dX12_stale_120 h ?_
        rintro _ σ17 ⟨rfl, h⟩
        refine V_aload_n dX12_stale_123 rfl rfl ?_
        refine V_iload_n dX12_stale_124 rfl rfl ?_
        refine V_iload_n dX12_stale_125 rfl rfl ?_
        refine V_iload dX12_stale_126 rfl ?_
        refine V_callV (av := [vi x1, vi x3, vi x5]) (stk := []) cvX12_515 rfl rfl rfl (by decide) (by simp [ctg]) dX12_stale_128 h ?_
        rintro _ σ18 ⟨rfl, h⟩
        refine V_iload_n dX12_stale_131 rfl rfl ?_
        refine V_aload_n dX12_stale_132 rfl rfl ?_
        refine V_callV (av := []) (stk := [vi x2]) cvX12_519 rfl rfl rfl (by decide) (by simp [ctg]) dX12_stale_133 h ?_
        rintro _ σ19 ⟨z19, rfl, h⟩
        refine V_iadd dX12_stale_136 ?_
        refine V_istore_n (L' := [some (vr 94), some (vi x1), some (vi (x2 + z19)), some (vi x3), some (vi x4), some (vi x5), some (vi (-2))]) dX12_stale_137 rfl (by decide) rfl ?_
        refine V_iinc (L' := [some (vr 94), some (vi x1), some (vi (x2 + z19)), some (vi x3), some (vi x4), some (vi (x5 + 1)), some (vi (-2))]) dX12_stale_138 rfl (by decide) rfl ?_
        refine V_goto (tgt := 52) dX12_stale_141 rfl ?_
        exact V.sub (SubL_s (SubL_s (SubL_s (SubL_s (SubL_s (SubL_s (SubL_n (SubL_0)))))))) h
      · replace h := h.2 q
        refine V_iload dX12_stale_105 rfl ?_
        refine V_bipush dX12_stale_107 (by decide) ?_
        refine V_icmp_ne (tgt := 116) dX12_stale_109 rfl (by decide) (by decide) (fun q => absurd q (by decide)) (fun q => ?_)
        refine V_iconst dX12_stale_112 ?_
        refine V_goto (tgt := 118) dX12_stale_113 rfl ?_
        refine V_iload dX12_stale_118 rfl ?_
        refine V_callV (av := [vi (-1), vi (-2)]) (stk := []) cvX12_296 rfl rfl rfl (by decide) (by simp [ctg]) dX12_stale_120 h ?_
        rintro _ σ20 ⟨rfl, h⟩
        refine V_aload_n dX12_stale_123 rfl rfl ?_
        refine V_iload_n dX12_stale_124 rfl rfl ?_
        refine V_iload_n dX12_stale_125 rfl rfl ?_
        refine V_iload dX12_stale_126 rfl ?_
        refine V_callV (av := [vi x1, vi x3, vi x5]) (stk := []) cvX12_515 rfl rfl rfl (by decide) (by simp [ctg]) dX12_stale_128 h ?_
        rintro _ σ21 ⟨rfl, h⟩
        refine V_iload_n dX12_stale_131 rfl rfl ?_
        refine V_aload_n dX12_stale_132 rfl rfl ?_
        refine V_callV (av := []) (stk := [vi x2]) cvX12_519 rfl rfl rfl (by decide) (by simp [ctg]) dX12_stale_133 h ?_
        rintro _ σ22 ⟨z22, rfl, h⟩
        refine V_iadd dX12_stale_136 ?_
        refine V_istore_n (L' := [some (vr 94), some (vi x1), some (vi (x2 + z22)), some (vi x3), some (vi x4), some (vi x5), some (vi (-2))]) dX12_stale_137 rfl (by decide) rfl ?_
        refine V_iinc (L' := [some (vr 94), some (vi x1), some (vi (x2 + z22)), some (vi x3), some (vi x4), some (vi (x5 + 1)), some (vi (-2))]) dX12_stale_138 rfl (by decide) rfl ?_
        refine V_goto (tgt := 52) dX12_stale_141 rfl ?_
        exact V.sub (SubL_s (SubL_s (SubL_s (SubL_s (SubL_s (SubL_s (SubL_n (SubL_0)))))))) h

