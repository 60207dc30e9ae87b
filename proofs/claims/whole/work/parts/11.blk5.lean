/-! ===== blocks: X11 (printed by wip/whole/gen/mkblk.py) ===== -/
set_option maxRecDepth 100000 in
theorem BX11_feed_0 {σ : Sg} {post : Po} {x1 : Int} {x2 : Int} 
  (h : (rng x1) ∧ ((x1 < 1 → post (some (vi (-1002))) σ) ∧ (¬ x1 < 1 → (x1 ≤ 8 → (rng ((σ 3 0) + x1)) ∧ ((((σ 3 0) + x1) ≤ 600 → Cl mX5_takeBytes [vr 3, vi x1, vl x2] σ (pI fun z1 σ1 => post (some (vi z1)) σ1)) ∧ (¬ ((σ 3 0) + x1) ≤ 600 → post (some (vi (-1004))) σ))) ∧ (¬ x1 ≤ 8 → post (some (vi (-1002))) σ)))) :
  V mX11_feed 0 [some (vr 0), some (vi x1), some (vl x2), none] [] σ post := by
  refine V_iload_n dX11_feed_0 rfl rfl ?_
  refine V_iconst dX11_feed_1 ?_
  obtain ⟨r1, h⟩ := h
  refine V_icmp_lt (tgt := 11) dX11_feed_2 rfl r1 (by decide) (fun q => ?_) (fun q => ?_)
  · replace h := h.1 q
    refine V_sipush dX11_feed_11 (by decide) ?_
    exact V_ireturn (stk := []) rfl dX11_feed_14 h
  · replace h := h.2 q
    refine V_iload_n dX11_feed_5 rfl rfl ?_
    refine V_bipush dX11_feed_6 (by decide) ?_
    refine V_icmp_le (tgt := 15) dX11_feed_8 rfl r1 (by decide) (fun q => ?_) (fun q => ?_)
    · replace h := h.1 q
      refine V_aload_n dX11_feed_15 rfl rfl ?_
      refine V_getR (k2 := 3) flX11_10 rfl rfl (by decide) dX11_feed_16 ?_
      refine V_getI (f := (σ 3 0)) flX11_99 rfl (rfl) (by decide) dX11_feed_19 ?_
      refine V_iload_n dX11_feed_22 rfl rfl ?_
      refine V_iadd dX11_feed_23 ?_
      refine V_sipush dX11_feed_24 (by decide) ?_
      obtain ⟨r2, h⟩ := h
      refine V_icmp_le (tgt := 34) dX11_feed_27 rfl r2 (by decide) (fun q => ?_) (fun q => ?_)
      · replace h := h.1 q
        refine V_aload_n dX11_feed_34 rfl rfl ?_
        refine V_getR (k2 := 3) flX11_10 rfl rfl (by decide) dX11_feed_35 ?_
        refine V_iload_n dX11_feed_38 rfl rfl ?_
        refine V_lload_n dX11_feed_39 rfl rfl ?_
        refine V_callV (av := [vi x1, vl x2]) (stk := []) cvX11_102 rfl rfl rfl (by decide) (by simp [ctg]) dX11_feed_40 h ?_
        rintro _ σ1 ⟨z1, rfl, h⟩
        exact V_ireturn (stk := []) rfl dX11_feed_43 h
      · replace h := h.2 q
        refine V_sipush dX11_feed_30 (by decide) ?_
        exact V_ireturn (stk := []) rfl dX11_feed_33 h
    · replace h := h.2 q
      refine V_sipush dX11_feed_11 (by decide) ?_
      exact V_ireturn (stk := []) rfl dX11_feed_14 h

set_option maxRecDepth 100000 in
theorem BX11_read_0 {σ : Sg} {post : Po}  
  (h : Cl mX5_begin [vr 3] σ (pV fun σ1 => V mX11_read 9 [some (vr 0), some (vi 0)] [] σ1 post)) :
  V mX11_read 0 [some (vr 0), none] [] σ post := by
  refine V_aload_n dX11_read_0 rfl rfl ?_
  refine V_getR (k2 := 3) flX11_10 rfl rfl (by decide) dX11_read_1 ?_
  refine V_callV (av := []) (stk := []) cvX11_106 rfl rfl rfl (by decide) (by simp [ctg]) dX11_read_4 h ?_
  rintro _ σ1 ⟨rfl, h⟩
  refine V_iconst dX11_read_7 ?_
  refine V_istore_n (L' := [some (vr 0), some (vi 0)]) dX11_read_8 rfl (by decide) rfl ?_
  exact V.sub (SubL_s (SubL_s (SubL_0))) h
set_option maxRecDepth 100000 in
theorem BX11_read_9 {σ : Sg} {post : Po} {x1 : Int} 
  (h : (rng x1) ∧ ((600 ≤ x1 → (rng (σ 3 1)) ∧ (((σ 3 1) = 0 → ((σ 0 1) = 5) ∧ (Cl mX5_changeBook [vr 3, vr 5] (up σ 3 0 0) (pR fun q1 σ1 => shp[q1]? = some (0, 0, 14) ∧ post (some (vi ((up (up σ1 0 1 ((q1 : Nat) : Int)) 0 9 0) q1 0))) (up (up σ1 0 1 ((q1 : Nat) : Int)) 0 9 0)))) ∧ (¬ (σ 3 1) = 0 → post (some (vi ((-10) - (σ 3 1)))) (up σ 3 0 0)))) ∧ (¬ 600 ≤ x1 → Cl mX5_hasMore [vr 3] σ (pI fun z2 σ2 => (rng z2) ∧ ((z2 = 0 → (rng (σ2 3 1)) ∧ (((σ2 3 1) = 0 → ((σ2 0 1) = 5) ∧ (Cl mX5_changeBook [vr 3, vr 5] (up σ2 3 0 0) (pR fun q3 σ3 => shp[q3]? = some (0, 0, 14) ∧ post (some (vi ((up (up σ3 0 1 ((q3 : Nat) : Int)) 0 9 0) q3 0))) (up (up σ3 0 1 ((q3 : Nat) : Int)) 0 9 0)))) ∧ (¬ (σ2 3 1) = 0 → post (some (vi ((-10) - (σ2 3 1)))) (up σ2 3 0 0)))) ∧ (¬ z2 = 0 → Cl mX5_readClause [vr 3] σ2 (pV fun σ4 => V mX11_read 9 [some (vr 0), some (vi (x1 + 1))] [] σ4 post))))))) :
  V mX11_read 9 [some (vr 0), some (vi x1)] [] σ post := by
  refine V_iload_n dX11_read_9 rfl rfl ?_
  refine V_sipush dX11_read_10 (by decide) ?_
  obtain ⟨r1, h⟩ := h
  refine V_icmp_ge (tgt := 39) dX11_read_13 rfl r1 (by decide) (fun q => ?_) (fun q => ?_)
  · replace h := h.1 q
    refine V_aload_n dX11_read_39 rfl rfl ?_
    refine V_getR (k2 := 3) flX11_10 rfl rfl (by decide) dX11_read_40 ?_
    refine V_iconst dX11_read_43 ?_
    refine V_putI flX11_99 rfl (by decide) dX11_read_44 ?_
    refine V_aload_n dX11_read_47 rfl rfl ?_
    refine V_getR (k2 := 3) flX11_10 rfl rfl (by decide) dX11_read_48 ?_
    refine V_getI (f := (σ 3 1)) flX11_116 rfl (up_f (by omega)) (by decide) dX11_read_51 ?_
    obtain ⟨r2, h⟩ := h
    refine V_if_eq (tgt := 68) dX11_read_54 rfl r2 (fun q => ?_) (fun q => ?_)
    · replace h := h.1 q
      refine V_aload_n dX11_read_68 rfl rfl ?_
      refine V_aload_n dX11_read_69 rfl rfl ?_
      refine V_getR (k2 := 3) flX11_10 rfl rfl (by decide) dX11_read_70 ?_
      refine V_aload_n dX11_read_73 rfl rfl ?_
      obtain ⟨r3, h⟩ := h
      refine V_getM (k2 := 5) flX11_19 rfl ((up_o (by omega)).trans r3) (by decide) dX11_read_74 ?_
      refine V_callV (av := [vr 5]) (stk := [vr 0]) cvX11_119 rfl rfl rfl (by decide) (by simp [ctg]) dX11_read_77 h ?_
      rintro _ σ1 ⟨q1, rfl, hq1, h⟩
      refine V_putM flX11_19 rfl (by decide) dX11_read_80 ?_
      refine V_aload_n dX11_read_83 rfl rfl ?_
      refine V_iconst dX11_read_84 ?_
      refine V_putZ flX11_57 rfl (by decide) (by decide) dX11_read_85 ?_
      refine V_aload_n dX11_read_88 rfl rfl ?_
      refine V_getM (k2 := q1) flX11_19 rfl ((up_f (by omega)).trans (up_s)) (by decide) dX11_read_89 ?_
      refine V_getI (f := ((up (up σ1 0 1 ((q1 : Nat) : Int)) 0 9 0) q1 0)) flX11_123 hq1 (rfl) (by decide) dX11_read_92 ?_
      exact V_ireturn (stk := []) rfl dX11_read_95 h
    · replace h := h.2 q
      refine V_bipush dX11_read_57 (by decide) ?_
      refine V_aload_n dX11_read_59 rfl rfl ?_
      refine V_getR (k2 := 3) flX11_10 rfl rfl (by decide) dX11_read_60 ?_
      refine V_getI (f := (σ 3 1)) flX11_116 rfl (up_f (by omega)) (by decide) dX11_read_63 ?_
      refine V_isub dX11_read_66 ?_
      exact V_ireturn (stk := []) rfl dX11_read_67 h
  · replace h := h.2 q
    refine V_aload_n dX11_read_16 rfl rfl ?_
    refine V_getR (k2 := 3) flX11_10 rfl rfl (by decide) dX11_read_17 ?_
    refine V_callV (av := []) (stk := []) cvX11_109 rfl rfl rfl (by decide) (by simp [ctg]) dX11_read_20 h ?_
    rintro _ σ2 ⟨z2, rfl, h⟩
    obtain ⟨r4, h⟩ := h
    refine V_if_eq (tgt := 39) dX11_read_23 rfl r4 (fun q => ?_) (fun q => ?_)
    · replace h := h.1 q
      refine V_aload_n dX11_read_39 rfl rfl ?_
      refine V_getR (k2 := 3) flX11_10 rfl rfl (by decide) dX11_read_40 ?_
      refine V_iconst dX11_read_43 ?_
      refine V_putI flX11_99 rfl (by decide) dX11_read_44 ?_
      refine V_aload_n dX11_read_47 rfl rfl ?_
      refine V_getR (k2 := 3) flX11_10 rfl rfl (by decide) dX11_read_48 ?_
      refine V_getI (f := (σ2 3 1)) flX11_116 rfl (up_f (by omega)) (by decide) dX11_read_51 ?_
      obtain ⟨r5, h⟩ := h
      refine V_if_eq (tgt := 68) dX11_read_54 rfl r5 (fun q => ?_) (fun q => ?_)
      · replace h := h.1 q
        refine V_aload_n dX11_read_68 rfl rfl ?_
        refine V_aload_n dX11_read_69 rfl rfl ?_
        refine V_getR (k2 := 3) flX11_10 rfl rfl (by decide) dX11_read_70 ?_
        refine V_aload_n dX11_read_73 rfl rfl ?_
        obtain ⟨r6, h⟩ := h
        refine V_getM (k2 := 5) flX11_19 rfl ((up_o (by omega)).trans r6) (by decide) dX11_read_74 ?_
        refine V_callV (av := [vr 5]) (stk := [vr 0]) cvX11_119 rfl rfl rfl (by decide) (by simp [ctg]) dX11_read_77 h ?_
        rintro _ σ3 ⟨q3, rfl, hq3, h⟩
        refine V_putM flX11_19 rfl (by decide) dX11_read_80 ?_
        refine V_aload_n dX11_read_83 rfl rfl ?_
        refine V_iconst dX11_read_84 ?_
        refine V_putZ flX11_57 rfl (by decide) (by decide) dX11_read_85 ?_
        refine V_aload_n dX11_read_88 rfl rfl ?_
        refine V_getM (k2 := q3) flX11_19 rfl ((up_f (by omega)).trans (up_s)) (by decide) dX11_read_89 ?_
        refine V_getI (f := ((up (up σ3 0 1 ((q3 : Nat) : Int)) 0 9 0) q3 0)) flX11_123 hq3 (rfl) (by decide) dX11_read_92 ?_
        exact V_ireturn (stk := []) rfl dX11_read_95 h
      · replace h := h.2 q
        refine V_bipush dX11_read_57 (by decide) ?_
        refine V_aload_n dX11_read_59 rfl rfl ?_
        refine V_getR (k2 := 3) flX11_10 rfl rfl (by decide) dX11_read_60 ?_
        refine V_getI (f := (σ2 3 1)) flX11_116 rfl (up_f (by omega)) (by decide) dX11_read_63 ?_
        refine V_isub dX11_read_66 ?_
        exact V_ireturn (stk := []) rfl dX11_read_67 h
    · replace h := h.2 q
      refine V_aload_n dX11_read_26 rfl rfl ?_
      refine V_getR (k2 := 3) flX11_10 rfl rfl (by decide) dX11_read_27 ?_
      refine V_callV (av := []) (stk := []) cvX11_113 rfl rfl rfl (by decide) (by simp [ctg]) dX11_read_30 h ?_
      rintro _ σ4 ⟨rfl, h⟩
      refine V_iinc (L' := [some (vr 0), some (vi (x1 + 1))]) dX11_read_33 rfl (by decide) rfl ?_
      refine V_goto (tgt := 9) dX11_read_36 rfl ?_
      exact V.sub (SubL_s (SubL_s (SubL_0))) h

set_option maxRecDepth 100000 in
theorem BX11_fault_0 {σ : Sg} {post : Po}  
  (h : post (some (vi (σ 3 2))) σ) :
  V mX11_fault 0 [some (vr 0)] [] σ post := by
  refine V_aload_n dX11_fault_0 rfl rfl ?_
  refine V_getR (k2 := 3) flX11_10 rfl rfl (by decide) dX11_fault_1 ?_
  refine V_getI (f := (σ 3 2)) flX11_126 rfl (rfl) (by decide) dX11_fault_4 ?_
  exact V_ireturn (stk := []) rfl dX11_fault_7 h

set_option maxRecDepth 100000 in
theorem BX11_count_0 {σ : Sg} {post : Po} {x1 : Int} 
  (h : (rng x1) ∧ ((x1 < 0 ∨ 6 < x1 → post (some (vi (-1002))) σ) ∧ (x1 = 0 → ((σ 0 1) = 5) ∧ (post (some (vi (σ 5 0))) σ)) ∧ (x1 = 1 → ((σ 0 1) = 5) ∧ (post (some (vi (σ 5 7))) σ)) ∧ (x1 = 2 → post (some (vi (σ 3 0))) σ) ∧ (x1 = 3 → post (some (vi (σ 90 0))) σ) ∧ (x1 = 4 → Cl mX11_printAll [vr 0] σ (pV fun σ1 => post (some (vi (σ1 64 2))) σ1)) ∧ (x1 = 5 → Cl mX11_printAll [vr 0] σ (pV fun σ2 => post (some (vi (σ2 64 1))) σ2)) ∧ (x1 = 6 → ((σ 0 1) = 5) ∧ (Cl mX0_filledHeads [vr 5] σ (pI fun z3 σ3 => Cl mJ6_bitCount_0f7a4 [vi z3] σ3 (pI fun z4 σ4 => post (some (vi z4)) σ4)))))) :
  V mX11_count 0 [some (vr 0), some (vi x1)] [] σ post := by
  refine V_iload_n dX11_count_0 rfl rfl ?_
  obtain ⟨r1, h⟩ := h
  refine V_tsw (dt := 111) dX11_count_1 r1 rfl rfl (fun q => ?_) (fun j off tgt hx ho ht hp => ?_) (by decide)
  · replace h := h.1 q
    refine V_sipush dX11_count_111 (by decide) ?_
    exact V_ireturn (stk := []) rfl dX11_count_114 h
  · rcases j with _ | _ | _ | _ | _ | _ | _ | j
    · have e9 : off = 43 := (Option.some.inj (show some (43 : Int) = some off from ho)).symm
      subst e9
      obtain rfl : tgt = 44 := by omega
      replace h := h.2.1 (by omega)
      refine V_aload_n dX11_count_44 rfl rfl ?_
      obtain ⟨r2, h⟩ := h
      refine V_getM (k2 := 5) flX11_19 rfl (r2) (by decide) dX11_count_45 ?_
      refine V_getI (f := (σ 5 0)) flX11_123 rfl (rfl) (by decide) dX11_count_48 ?_
      exact V_ireturn (stk := []) rfl dX11_count_51 h
    · have e9 : off = 51 := (Option.some.inj (show some (51 : Int) = some off from ho)).symm
      subst e9
      obtain rfl : tgt = 52 := by omega
      replace h := h.2.2.1 (by omega)
      refine V_aload_n dX11_count_52 rfl rfl ?_
      obtain ⟨r3, h⟩ := h
      refine V_getM (k2 := 5) flX11_19 rfl (r3) (by decide) dX11_count_53 ?_
      refine V_getI (f := (σ 5 7)) flX11_129 rfl (rfl) (by decide) dX11_count_56 ?_
      exact V_ireturn (stk := []) rfl dX11_count_59 h
    · have e9 : off = 59 := (Option.some.inj (show some (59 : Int) = some off from ho)).symm
      subst e9
      obtain rfl : tgt = 60 := by omega
      replace h := h.2.2.2.1 (by omega)
      refine V_aload_n dX11_count_60 rfl rfl ?_
      refine V_getR (k2 := 3) flX11_10 rfl rfl (by decide) dX11_count_61 ?_
      refine V_getI (f := (σ 3 0)) flX11_99 rfl (rfl) (by decide) dX11_count_64 ?_
      exact V_ireturn (stk := []) rfl dX11_count_67 h
    · have e9 : off = 67 := (Option.some.inj (show some (67 : Int) = some off from ho)).symm
      subst e9
      obtain rfl : tgt = 68 := by omega
      replace h := h.2.2.2.2.1 (by omega)
      refine V_aload_n dX11_count_68 rfl rfl ?_
      refine V_getR (k2 := 90) flX11_95 rfl rfl (by decide) dX11_count_69 ?_
      refine V_getI (f := (σ 90 0)) flX11_132 rfl (rfl) (by decide) dX11_count_72 ?_
      exact V_ireturn (stk := []) rfl dX11_count_75 h
    · have e9 : off = 75 := (Option.some.inj (show some (75 : Int) = some off from ho)).symm
      subst e9
      obtain rfl : tgt = 76 := by omega
      replace h := h.2.2.2.2.2.1 (by omega)
      refine V_aload_n dX11_count_76 rfl rfl ?_
      refine V_callV (av := []) (stk := []) cvX11_135 rfl rfl rfl (by decide) (by simp [ctg]) dX11_count_77 h ?_
      rintro _ σ1 ⟨rfl, h⟩
      refine V_aload_n dX11_count_80 rfl rfl ?_
      refine V_getR (k2 := 64) flX11_46 rfl rfl (by decide) dX11_count_81 ?_
      refine V_getI (f := (σ1 64 2)) flX11_138 rfl (rfl) (by decide) dX11_count_84 ?_
      exact V_ireturn (stk := []) rfl dX11_count_87 h
    · have e9 : off = 87 := (Option.some.inj (show some (87 : Int) = some off from ho)).symm
      subst e9
      obtain rfl : tgt = 88 := by omega
      replace h := h.2.2.2.2.2.2.1 (by omega)
      refine V_aload_n dX11_count_88 rfl rfl ?_
      refine V_callV (av := []) (stk := []) cvX11_135 rfl rfl rfl (by decide) (by simp [ctg]) dX11_count_89 h ?_
      rintro _ σ2 ⟨rfl, h⟩
      refine V_aload_n dX11_count_92 rfl rfl ?_
      refine V_getR (k2 := 64) flX11_46 rfl rfl (by decide) dX11_count_93 ?_
      refine V_getI (f := (σ2 64 1)) flX11_141 rfl (rfl) (by decide) dX11_count_96 ?_
      exact V_ireturn (stk := []) rfl dX11_count_99 h
    · have e9 : off = 99 := (Option.some.inj (show some (99 : Int) = some off from ho)).symm
      subst e9
      obtain rfl : tgt = 100 := by omega
      replace h := h.2.2.2.2.2.2.2 (by omega)
      refine V_aload_n dX11_count_100 rfl rfl ?_
      obtain ⟨r4, h⟩ := h
      refine V_getM (k2 := 5) flX11_19 rfl (r4) (by decide) dX11_count_101 ?_
      refine V_callV (av := []) (stk := []) cvX11_142 rfl rfl rfl (by decide) (by simp [ctg]) dX11_count_104 h ?_
      rintro _ σ3 ⟨z3, rfl, h⟩
      refine V_callS (av := [vi z3]) (stk := []) cvX11_146 rfl rfl (by decide) (by simp [ctg]) dX11_count_107 h ?_
      rintro _ σ4 ⟨z4, rfl, h⟩
      exact V_ireturn (stk := []) rfl dX11_count_110 h
    · exact absurd ho (by simp)

set_option maxRecDepth 100000 in
theorem BX11_head_0 {σ : Sg} {post : Po} {x1 : Int} {x2 : Int} 
  (h : ((σ 0 1) = 5) ∧ (Cl mX0_hasHead [vr 5, vi x1] σ (pI fun z1 σ1 => (rng z1) ∧ ((¬ z1 = 0 → (rng x2) ∧ ((x2 < 0 ∨ 6 < x2 → post (some (vi (-1002))) σ1) ∧ (x2 = 0 → ((σ1 0 1) = 5) ∧ ((0 ≤ x1 ∧ x1 < 16) ∧ (post (some (vi (σ1 7 x1))) σ1))) ∧ (x2 = 1 → ((σ1 0 1) = 5) ∧ (Cl mX0_gatherRuns [vr 5, vi x1, vi (-1), vr 70] σ1 (pV fun σ2 => post (some (vi (σ2 70 0))) σ2))) ∧ (x2 = 2 → ((σ1 0 1) = 5) ∧ ((0 ≤ x1 ∧ x1 < 16) ∧ (post (some (vi (σ1 9 x1))) σ1))) ∧ (x2 = 3 → ((σ1 0 1) = 5) ∧ ((0 ≤ x1 ∧ x1 < 16) ∧ (post (some (vi (σ1 10 x1))) σ1))) ∧ (x2 = 4 → ((σ1 0 1) = 5) ∧ ((0 ≤ x1 ∧ x1 < 16) ∧ (post (some (vi (σ1 11 x1))) σ1))) ∧ (x2 = 5 → ((σ1 0 1) = 5) ∧ (Cl mX0_filledHeads [vr 5] σ1 (pI fun z3 σ3 => Cl mX11_isIn [vi z3, vi x1] σ3 (pI fun z4 σ4 => (rng z4) ∧ ((z4 = 0 → post (some (vi 0)) σ4) ∧ (¬ z4 = 0 → post (some (vi 1)) σ4)))))) ∧ (x2 = 6 → Cl mX11_printAll [vr 0] σ1 (pV fun σ5 => (0 ≤ x1 ∧ x1 < 16) ∧ (post (some (vi (σ5 1 x1))) σ5))))) ∧ (z1 = 0 → post (some (vi (-1001))) σ1))))) :
  V mX11_head 0 [some (vr 0), some (vi x1), some (vi x2)] [] σ post := by
  refine V_aload_n dX11_head_0 rfl rfl ?_
  obtain ⟨r1, h⟩ := h
  refine V_getM (k2 := 5) flX11_19 rfl (r1) (by decide) dX11_head_1 ?_
  refine V_iload_n dX11_head_4 rfl rfl ?_
  refine V_callV (av := [vi x1]) (stk := []) cvX11_152 rfl rfl rfl (by decide) (by simp [ctg]) dX11_head_5 h ?_
  rintro _ σ1 ⟨z1, rfl, h⟩
  obtain ⟨r2, h⟩ := h
  refine V_if_ne (tgt := 15) dX11_head_8 rfl r2 (fun q => ?_) (fun q => ?_)
  · replace h := h.1 q
    refine V_iload_n dX11_head_15 rfl rfl ?_
    obtain ⟨r3, h⟩ := h
    refine V_tsw (dt := 152) dX11_head_16 r3 rfl rfl (fun q => ?_) (fun j off tgt hx ho ht hp => ?_) (by decide)
    · replace h := h.1 q
      refine V_sipush dX11_head_152 (by decide) ?_
      exact V_ireturn (stk := []) rfl dX11_head_155 h
    · rcases j with _ | _ | _ | _ | _ | _ | _ | j
      · have e9 : off = 44 := (Option.some.inj (show some (44 : Int) = some off from ho)).symm
        subst e9
        obtain rfl : tgt = 60 := by omega
        replace h := h.2.1 (by omega)
        refine V_aload_n dX11_head_60 rfl rfl ?_
        obtain ⟨r4, h⟩ := h
        refine V_getM (k2 := 5) flX11_19 rfl (r4) (by decide) dX11_head_61 ?_
        refine V_getR (k2 := 7) flX11_156 rfl rfl (by decide) dX11_head_64 ?_
        refine V_iload_n dX11_head_67 rfl rfl ?_
        obtain ⟨r5, h⟩ := h
        refine V_iald (f := (σ1 7 x1)) (rfl : shp[7]? = some (1, 16, 0)) r5 (rfl) dX11_head_68 ?_
        exact V_ireturn (stk := []) rfl dX11_head_69 h
      · have e9 : off = 54 := (Option.some.inj (show some (54 : Int) = some off from ho)).symm
        subst e9
        obtain rfl : tgt = 70 := by omega
        replace h := h.2.2.1 (by omega)
        refine V_aload_n dX11_head_70 rfl rfl ?_
        obtain ⟨r6, h⟩ := h
        refine V_getM (k2 := 5) flX11_19 rfl (r6) (by decide) dX11_head_71 ?_
        refine V_iload_n dX11_head_74 rfl rfl ?_
        refine V_iconst dX11_head_75 ?_
        refine V_aload_n dX11_head_76 rfl rfl ?_
        refine V_getR (k2 := 70) flX11_64 rfl rfl (by decide) dX11_head_77 ?_
        refine V_callV (av := [vi x1, vi (-1), vr 70]) (stk := []) cvX11_159 rfl rfl rfl (by decide) (by simp [ctg]) dX11_head_80 h ?_
        rintro _ σ2 ⟨rfl, h⟩
        refine V_aload_n dX11_head_83 rfl rfl ?_
        refine V_getR (k2 := 70) flX11_64 rfl rfl (by decide) dX11_head_84 ?_
        refine V_getI (f := (σ2 70 0)) flX11_163 rfl (rfl) (by decide) dX11_head_87 ?_
        exact V_ireturn (stk := []) rfl dX11_head_90 h
      · have e9 : off = 75 := (Option.some.inj (show some (75 : Int) = some off from ho)).symm
        subst e9
        obtain rfl : tgt = 91 := by omega
        replace h := h.2.2.2.1 (by omega)
        refine V_aload_n dX11_head_91 rfl rfl ?_
        obtain ⟨r7, h⟩ := h
        refine V_getM (k2 := 5) flX11_19 rfl (r7) (by decide) dX11_head_92 ?_
        refine V_getR (k2 := 9) flX11_164 rfl rfl (by decide) dX11_head_95 ?_
        refine V_iload_n dX11_head_98 rfl rfl ?_
        obtain ⟨r8, h⟩ := h
        refine V_iald (f := (σ1 9 x1)) (rfl : shp[9]? = some (1, 16, 0)) r8 (rfl) dX11_head_99 ?_
        exact V_ireturn (stk := []) rfl dX11_head_100 h
      · have e9 : off = 85 := (Option.some.inj (show some (85 : Int) = some off from ho)).symm
        subst e9
        obtain rfl : tgt = 101 := by omega
        replace h := h.2.2.2.2.1 (by omega)
        refine V_aload_n dX11_head_101 rfl rfl ?_
        obtain ⟨r9, h⟩ := h
        refine V_getM (k2 := 5) flX11_19 rfl (r9) (by decide) dX11_head_102 ?_
        refine V_getR (k2 := 10) flX11_167 rfl rfl (by decide) dX11_head_105 ?_
        refine V_iload_n dX11_head_108 rfl rfl ?_
        obtain ⟨r10, h⟩ := h
        refine V_iald (f := (σ1 10 x1)) (rfl : shp[10]? = some (1, 16, 0)) r10 (rfl) dX11_head_109 ?_
        exact V_ireturn (stk := []) rfl dX11_head_110 h
      · have e9 : off = 95 := (Option.some.inj (show some (95 : Int) = some off from ho)).symm
        subst e9
        obtain rfl : tgt = 111 := by omega
        replace h := h.2.2.2.2.2.1 (by omega)
        refine V_aload_n dX11_head_111 rfl rfl ?_
        obtain ⟨r11, h⟩ := h
        refine V_getM (k2 := 5) flX11_19 rfl (r11) (by decide) dX11_head_112 ?_
        refine V_getR (k2 := 11) flX11_170 rfl rfl (by decide) dX11_head_115 ?_
        refine V_iload_n dX11_head_118 rfl rfl ?_
        obtain ⟨r12, h⟩ := h
        refine V_iald (f := (σ1 11 x1)) (rfl : shp[11]? = some (1, 16, 0)) r12 (rfl) dX11_head_119 ?_
        exact V_ireturn (stk := []) rfl dX11_head_120 h
      · have e9 : off = 105 := (Option.some.inj (show some (105 : Int) = some off from ho)).symm
        subst e9
        obtain rfl : tgt = 121 := by omega
        replace h := h.2.2.2.2.2.2.1 (by omega)
        refine V_aload_n dX11_head_121 rfl rfl ?_
        obtain ⟨r13, h⟩ := h
        refine V_getM (k2 := 5) flX11_19 rfl (r13) (by decide) dX11_head_122 ?_
        refine V_callV (av := []) (stk := []) cvX11_142 rfl rfl rfl (by decide) (by simp [ctg]) dX11_head_125 h ?_
        rintro _ σ3 ⟨z3, rfl, h⟩
        refine V_iload_n dX11_head_128 rfl rfl ?_
        refine V_callS (av := [vi z3, vi x1]) (stk := []) cvX11_173 rfl rfl (by decide) (by simp [ctg]) dX11_head_129 h ?_
        rintro _ σ4 ⟨z4, rfl, h⟩
        obtain ⟨r14, h⟩ := h
        refine V_if_eq (tgt := 139) dX11_head_132 rfl r14 (fun q => ?_) (fun q => ?_)
        · replace h := h.1 q
          refine V_iconst dX11_head_139 ?_
          exact V_ireturn (stk := []) rfl dX11_head_140 h
        · replace h := h.2 q
          refine V_iconst dX11_head_135 ?_
          refine V_goto (tgt := 140) dX11_head_136 rfl ?_
          exact V_ireturn (stk := []) rfl dX11_head_140 h
      · have e9 : off = 125 := (Option.some.inj (show some (125 : Int) = some off from ho)).symm
        subst e9
        obtain rfl : tgt = 141 := by omega
        replace h := h.2.2.2.2.2.2.2 (by omega)
        refine V_aload_n dX11_head_141 rfl rfl ?_
        refine V_callV (av := []) (stk := []) cvX11_135 rfl rfl rfl (by decide) (by simp [ctg]) dX11_head_142 h ?_
        rintro _ σ5 ⟨rfl, h⟩
        refine V_aload_n dX11_head_145 rfl rfl ?_
        refine V_getR (k2 := 1) flX11_53 rfl rfl (by decide) dX11_head_146 ?_
        refine V_iload_n dX11_head_149 rfl rfl ?_
        obtain ⟨r15, h⟩ := h
        refine V_iald (f := (σ5 1 x1)) (rfl : shp[1]? = some (1, 16, 0)) r15 (rfl) dX11_head_150 ?_
        exact V_ireturn (stk := []) rfl dX11_head_151 h
      · exact absurd ho (by simp)
  · replace h := h.2 q
    refine V_sipush dX11_head_11 (by decide) ?_
    exact V_ireturn (stk := []) rfl dX11_head_14 h

set_option maxRecDepth 100000 in
theorem BX11_name_0 {σ : Sg} {post : Po} {x1 : Int} {x2 : Int} {x3 : Int} 
  (h : ((σ 0 1) = 5) ∧ (Cl mX0_hasEntry [vr 5, vi x1, vi x2] σ (pI fun z1 σ1 => (rng z1) ∧ ((¬ z1 = 0 → ((σ1 0 1) = 5) ∧ (Cl mX0_wordOf [vr 5, vi x1, vi x2] σ1 (pL fun z2 σ2 => (rng x3) ∧ ((¬ x3 = (-1) → Cl mX10_byteOf [vl z2, vi x3] σ2 (pI fun z3 σ3 => post (some (vi z3)) σ3)) ∧ (x3 = (-1) → Cl mX10_lengthOf [vl z2] σ2 (pI fun z4 σ4 => post (some (vi z4)) σ4)))))) ∧ (z1 = 0 → post (some (vi (-1001))) σ1))))) :
  V mX11_name 0 [some (vr 0), some (vi x1), some (vi x2), some (vi x3), none, none] [] σ post := by
  refine V_aload_n dX11_name_0 rfl rfl ?_
  obtain ⟨r1, h⟩ := h
  refine V_getM (k2 := 5) flX11_19 rfl (r1) (by decide) dX11_name_1 ?_
  refine V_iload_n dX11_name_4 rfl rfl ?_
  refine V_iload_n dX11_name_5 rfl rfl ?_
  refine V_callV (av := [vi x1, vi x2]) (stk := []) cvX11_177 rfl rfl rfl (by decide) (by simp [ctg]) dX11_name_6 h ?_
  rintro _ σ1 ⟨z1, rfl, h⟩
  obtain ⟨r2, h⟩ := h
  refine V_if_ne (tgt := 16) dX11_name_9 rfl r2 (fun q => ?_) (fun q => ?_)
  · replace h := h.1 q
    refine V_aload_n dX11_name_16 rfl rfl ?_
    obtain ⟨r3, h⟩ := h
    refine V_getM (k2 := 5) flX11_19 rfl (r3) (by decide) dX11_name_17 ?_
    refine V_iload_n dX11_name_20 rfl rfl ?_
    refine V_iload_n dX11_name_21 rfl rfl ?_
    refine V_callV (av := [vi x1, vi x2]) (stk := []) cvX11_180 rfl rfl rfl (by decide) (by simp [ctg]) dX11_name_22 h ?_
    rintro _ σ2 ⟨z2, rfl, h⟩
    refine V_lstore (L' := [some (vr 0), some (vi x1), some (vi x2), some (vi x3), some (vl z2), none]) dX11_name_25 (by decide) rfl ?_
    refine V_iload_n dX11_name_27 rfl rfl ?_
    refine V_iconst dX11_name_28 ?_
    obtain ⟨r4, h⟩ := h
    refine V_icmp_ne (tgt := 40) dX11_name_29 rfl r4 (by decide) (fun q => ?_) (fun q => ?_)
    · replace h := h.1 q
      refine V_lload dX11_name_40 rfl ?_
      refine V_iload_n dX11_name_42 rfl rfl ?_
      refine V_callS (av := [vl z2, vi x3]) (stk := []) cvX11_190 rfl rfl (by decide) (by simp [ctg]) dX11_name_43 h ?_
      rintro _ σ3 ⟨z3, rfl, h⟩
      exact V_ireturn (stk := []) rfl dX11_name_46 h
    · replace h := h.2 q
      refine V_lload dX11_name_32 rfl ?_
      refine V_callS (av := [vl z2]) (stk := []) cvX11_184 rfl rfl (by decide) (by simp [ctg]) dX11_name_34 h ?_
      rintro _ σ4 ⟨z4, rfl, h⟩
      refine V_goto (tgt := 46) dX11_name_37 rfl ?_
      exact V_ireturn (stk := []) rfl dX11_name_46 h
  · replace h := h.2 q
    refine V_sipush dX11_name_12 (by decide) ?_
    exact V_ireturn (stk := []) rfl dX11_name_15 h

set_option maxRecDepth 100000 in
theorem BX11_mark_0 {σ : Sg} {post : Po} {x1 : Int} {x2 : Int} 
  (h : ((σ 0 1) = 5) ∧ (Cl mX0_hasMark [vr 5, vi x1] σ (pI fun z1 σ1 => (rng z1) ∧ ((¬ z1 = 0 → (rng x2) ∧ ((x2 < 0 ∨ 4 < x2 → post (some (vi (-1002))) σ1) ∧ (x2 = 0 → ((σ1 0 1) = 5) ∧ ((0 ≤ x1 ∧ x1 < 60) ∧ (post (some (vi (σ1 12 x1))) σ1))) ∧ (x2 = 1 → ((σ1 0 1) = 5) ∧ ((0 ≤ x1 ∧ x1 < 60) ∧ (post (some (vi (σ1 13 x1))) σ1))) ∧ (x2 = 2 → ((σ1 0 1) = 5) ∧ ((0 ≤ x1 ∧ x1 < 60) ∧ (post (some (vi (σ1 14 x1))) σ1))) ∧ (x2 = 3 → ((σ1 0 1) = 5) ∧ ((0 ≤ x1 ∧ x1 < 60) ∧ (post (some (vi (σ1 15 x1))) σ1))) ∧ (x2 = 4 → ((σ1 0 1) = 5) ∧ ((0 ≤ x1 ∧ x1 < 60) ∧ ((rng (σ1 16 x1)) ∧ (((σ1 16 x1) = 0 → post (some (vi 0)) σ1) ∧ (¬ (σ1 16 x1) = 0 → post (some (vi 1)) σ1))))))) ∧ (z1 = 0 → post (some (vi (-1001))) σ1))))) :
  V mX11_mark 0 [some (vr 0), some (vi x1), some (vi x2)] [] σ post := by
  refine V_aload_n dX11_mark_0 rfl rfl ?_
  obtain ⟨r1, h⟩ := h
  refine V_getM (k2 := 5) flX11_19 rfl (r1) (by decide) dX11_mark_1 ?_
  refine V_iload_n dX11_mark_4 rfl rfl ?_
  refine V_callV (av := [vi x1]) (stk := []) cvX11_194 rfl rfl rfl (by decide) (by simp [ctg]) dX11_mark_5 h ?_
  rintro _ σ1 ⟨z1, rfl, h⟩
  obtain ⟨r2, h⟩ := h
  refine V_if_ne (tgt := 15) dX11_mark_8 rfl r2 (fun q => ?_) (fun q => ?_)
  · replace h := h.1 q
    refine V_iload_n dX11_mark_15 rfl rfl ?_
    obtain ⟨r3, h⟩ := h
    refine V_tsw (dt := 110) dX11_mark_16 r3 rfl rfl (fun q => ?_) (fun j off tgt hx ho ht hp => ?_) (by decide)
    · replace h := h.1 q
      refine V_sipush dX11_mark_110 (by decide) ?_
      exact V_ireturn (stk := []) rfl dX11_mark_113 h
    · rcases j with _ | _ | _ | _ | _ | j
      · have e9 : off = 36 := (Option.some.inj (show some (36 : Int) = some off from ho)).symm
        subst e9
        obtain rfl : tgt = 52 := by omega
        replace h := h.2.1 (by omega)
        refine V_aload_n dX11_mark_52 rfl rfl ?_
        obtain ⟨r4, h⟩ := h
        refine V_getM (k2 := 5) flX11_19 rfl (r4) (by decide) dX11_mark_53 ?_
        refine V_getR (k2 := 12) flX11_197 rfl rfl (by decide) dX11_mark_56 ?_
        refine V_iload_n dX11_mark_59 rfl rfl ?_
        obtain ⟨r5, h⟩ := h
        refine V_iald (f := (σ1 12 x1)) (rfl : shp[12]? = some (1, 60, 0)) r5 (rfl) dX11_mark_60 ?_
        exact V_ireturn (stk := []) rfl dX11_mark_61 h
      · have e9 : off = 46 := (Option.some.inj (show some (46 : Int) = some off from ho)).symm
        subst e9
        obtain rfl : tgt = 62 := by omega
        replace h := h.2.2.1 (by omega)
        refine V_aload_n dX11_mark_62 rfl rfl ?_
        obtain ⟨r6, h⟩ := h
        refine V_getM (k2 := 5) flX11_19 rfl (r6) (by decide) dX11_mark_63 ?_
        refine V_getR (k2 := 13) flX11_200 rfl rfl (by decide) dX11_mark_66 ?_
        refine V_iload_n dX11_mark_69 rfl rfl ?_
        obtain ⟨r7, h⟩ := h
        refine V_iald (f := (σ1 13 x1)) (rfl : shp[13]? = some (1, 60, 0)) r7 (rfl) dX11_mark_70 ?_
        exact V_ireturn (stk := []) rfl dX11_mark_71 h
      · have e9 : off = 56 := (Option.some.inj (show some (56 : Int) = some off from ho)).symm
        subst e9
        obtain rfl : tgt = 72 := by omega
        replace h := h.2.2.2.1 (by omega)
        refine V_aload_n dX11_mark_72 rfl rfl ?_
        obtain ⟨r8, h⟩ := h
        refine V_getM (k2 := 5) flX11_19 rfl (r8) (by decide) dX11_mark_73 ?_
        refine V_getR (k2 := 14) flX11_203 rfl rfl (by decide) dX11_mark_76 ?_
        refine V_iload_n dX11_mark_79 rfl rfl ?_
        obtain ⟨r9, h⟩ := h
        refine V_iald (f := (σ1 14 x1)) (rfl : shp[14]? = some (1, 60, 0)) r9 (rfl) dX11_mark_80 ?_
        exact V_ireturn (stk := []) rfl dX11_mark_81 h
      · have e9 : off = 66 := (Option.some.inj (show some (66 : Int) = some off from ho)).symm
        subst e9
        obtain rfl : tgt = 82 := by omega
        replace h := h.2.2.2.2.1 (by omega)
        refine V_aload_n dX11_mark_82 rfl rfl ?_
        obtain ⟨r10, h⟩ := h
        refine V_getM (k2 := 5) flX11_19 rfl (r10) (by decide) dX11_mark_83 ?_
        refine V_getR (k2 := 15) flX11_206 rfl rfl (by decide) dX11_mark_86 ?_
        refine V_iload_n dX11_mark_89 rfl rfl ?_
        obtain ⟨r11, h⟩ := h
        refine V_iald (f := (σ1 15 x1)) (rfl : shp[15]? = some (1, 60, 0)) r11 (rfl) dX11_mark_90 ?_
        exact V_ireturn (stk := []) rfl dX11_mark_91 h
      · have e9 : off = 76 := (Option.some.inj (show some (76 : Int) = some off from ho)).symm
        subst e9
        obtain rfl : tgt = 92 := by omega
        replace h := h.2.2.2.2.2 (by omega)
        refine V_aload_n dX11_mark_92 rfl rfl ?_
        obtain ⟨r12, h⟩ := h
        refine V_getM (k2 := 5) flX11_19 rfl (r12) (by decide) dX11_mark_93 ?_
        refine V_getR (k2 := 16) flX11_209 rfl rfl (by decide) dX11_mark_96 ?_
        refine V_iload_n dX11_mark_99 rfl rfl ?_
        obtain ⟨r13, h⟩ := h
        refine V_zald (f := (σ1 16 x1)) (rfl : shp[16]? = some (3, 60, 0)) r13 (rfl) dX11_mark_100 ?_
        obtain ⟨r14, h⟩ := h
        refine V_if_eq (tgt := 108) dX11_mark_101 rfl r14 (fun q => ?_) (fun q => ?_)
        · replace h := h.1 q
          refine V_iconst dX11_mark_108 ?_
          exact V_ireturn (stk := []) rfl dX11_mark_109 h
        · replace h := h.2 q
          refine V_iconst dX11_mark_104 ?_
          refine V_goto (tgt := 109) dX11_mark_105 rfl ?_
          exact V_ireturn (stk := []) rfl dX11_mark_109 h
      · exact absurd ho (by simp)
  · replace h := h.2 q
    refine V_sipush dX11_mark_11 (by decide) ?_
    exact V_ireturn (stk := []) rfl dX11_mark_14 h

set_option maxRecDepth 100000 in
theorem BX11_add_0 {σ : Sg} {post : Po} {x1 : Int} {x2 : Int} {x3 : Int} {x4 : Int} {x5 : Int} 
  (h : ((σ 0 1) = 5) ∧ (Cl mX0_hasEntry [vr 5, vi x1, vi x2] σ (pI fun z1 σ1 => (rng z1) ∧ ((¬ z1 = 0 → Cl mX11_isPage [vi x3] σ1 (pI fun z2 σ2 => (rng z2) ∧ ((z2 = 0 → post (some (vi (-1002))) σ2) ∧ (¬ z2 = 0 → Cl mX11_isPage [vi x4] σ2 (pI fun z3 σ3 => (rng z3) ∧ ((z3 = 0 → post (some (vi (-1002))) σ3) ∧ (¬ z3 = 0 → (rng x4) ∧ ((rng x3) ∧ ((x3 ≤ x4 → ((σ3 0 1) = 5) ∧ ((rng (σ3 5 7)) ∧ (((σ3 5 7) < 60 → Cl mX0_putMark [vr 5, vi x1, vi x2, vi x3, vi x4, vi x5] (up σ3 0 9 0) (pI fun z4 σ4 => post (some (vi z4)) σ4)) ∧ (¬ (σ3 5 7) < 60 → post (some (vi (-1004))) σ3)))) ∧ (¬ x3 ≤ x4 → post (some (vi (-1002))) σ3)))))))))) ∧ (z1 = 0 → post (some (vi (-1001))) σ1))))) :
  V mX11_add 0 [some (vr 0), some (vi x1), some (vi x2), some (vi x3), some (vi x4), some (vi x5)] [] σ post := by
  refine V_aload_n dX11_add_0 rfl rfl ?_
  obtain ⟨r1, h⟩ := h
  refine V_getM (k2 := 5) flX11_19 rfl (r1) (by decide) dX11_add_1 ?_
  refine V_iload_n dX11_add_4 rfl rfl ?_
  refine V_iload_n dX11_add_5 rfl rfl ?_
  refine V_callV (av := [vi x1, vi x2]) (stk := []) cvX11_177 rfl rfl rfl (by decide) (by simp [ctg]) dX11_add_6 h ?_
  rintro _ σ1 ⟨z1, rfl, h⟩
  obtain ⟨r2, h⟩ := h
  refine V_if_ne (tgt := 16) dX11_add_9 rfl r2 (fun q => ?_) (fun q => ?_)
  · replace h := h.1 q
    refine V_iload_n dX11_add_16 rfl rfl ?_
    refine V_callS (av := [vi x3]) (stk := []) cvX11_213 rfl rfl (by decide) (by simp [ctg]) dX11_add_17 h ?_
    rintro _ σ2 ⟨z2, rfl, h⟩
    obtain ⟨r3, h⟩ := h
    refine V_if_eq (tgt := 37) dX11_add_20 rfl r3 (fun q => ?_) (fun q => ?_)
    · replace h := h.1 q
      refine V_sipush dX11_add_37 (by decide) ?_
      exact V_ireturn (stk := []) rfl dX11_add_40 h
    · replace h := h.2 q
      refine V_iload dX11_add_23 rfl ?_
      refine V_callS (av := [vi x4]) (stk := []) cvX11_213 rfl rfl (by decide) (by simp [ctg]) dX11_add_25 h ?_
      rintro _ σ3 ⟨z3, rfl, h⟩
      obtain ⟨r4, h⟩ := h
      refine V_if_eq (tgt := 37) dX11_add_28 rfl r4 (fun q => ?_) (fun q => ?_)
      · replace h := h.1 q
        refine V_sipush dX11_add_37 (by decide) ?_
        exact V_ireturn (stk := []) rfl dX11_add_40 h
      · replace h := h.2 q
        refine V_iload dX11_add_31 rfl ?_
        refine V_iload_n dX11_add_33 rfl rfl ?_
        obtain ⟨r5, h⟩ := h
        obtain ⟨r6, h⟩ := h
        refine V_icmp_ge (tgt := 41) dX11_add_34 rfl r5 r6 (fun q => ?_) (fun q => ?_)
        · replace h := h.1 q
          refine V_aload_n dX11_add_41 rfl rfl ?_
          obtain ⟨r7, h⟩ := h
          refine V_getM (k2 := 5) flX11_19 rfl (r7) (by decide) dX11_add_42 ?_
          refine V_getI (f := (σ3 5 7)) flX11_129 rfl (rfl) (by decide) dX11_add_45 ?_
          refine V_bipush dX11_add_48 (by decide) ?_
          obtain ⟨r8, h⟩ := h
          refine V_icmp_lt (tgt := 57) dX11_add_50 rfl r8 (by decide) (fun q => ?_) (fun q => ?_)
          · replace h := h.1 q
            refine V_aload_n dX11_add_57 rfl rfl ?_
            refine V_iconst dX11_add_58 ?_
            refine V_putZ flX11_57 rfl (by decide) (by decide) dX11_add_59 ?_
            refine V_aload_n dX11_add_62 rfl rfl ?_
            refine V_getM (k2 := 5) flX11_19 rfl ((up_f (by omega)).trans r7) (by decide) dX11_add_63 ?_
            refine V_iload_n dX11_add_66 rfl rfl ?_
            refine V_iload_n dX11_add_67 rfl rfl ?_
            refine V_iload_n dX11_add_68 rfl rfl ?_
            refine V_iload dX11_add_69 rfl ?_
            refine V_iload dX11_add_71 rfl ?_
            refine V_callV (av := [vi x1, vi x2, vi x3, vi x4, vi x5]) (stk := []) cvX11_216 rfl rfl rfl (by decide) (by simp [ctg]) dX11_add_73 h ?_
            rintro _ σ4 ⟨z4, rfl, h⟩
            exact V_ireturn (stk := []) rfl dX11_add_76 h
          · replace h := h.2 q
            refine V_sipush dX11_add_53 (by decide) ?_
            exact V_ireturn (stk := []) rfl dX11_add_56 h
        · replace h := h.2 q
          refine V_sipush dX11_add_37 (by decide) ?_
          exact V_ireturn (stk := []) rfl dX11_add_40 h
  · replace h := h.2 q
    refine V_sipush dX11_add_12 (by decide) ?_
    exact V_ireturn (stk := []) rfl dX11_add_15 h

set_option maxRecDepth 100000 in
theorem BX11_drop_0 {σ : Sg} {post : Po} {x1 : Int} 
  (h : ((σ 0 1) = 5) ∧ (Cl mX0_hasMark [vr 5, vi x1] σ (pI fun z1 σ1 => (rng z1) ∧ ((¬ z1 = 0 → ((σ1 0 1) = 5) ∧ (Cl mX0_removeMark [vr 5, vi x1] σ1 (pV fun σ2 => ((σ2 0 1) = 5) ∧ (post (some (vi (σ2 5 7))) (up σ2 0 9 0))))) ∧ (z1 = 0 → post (some (vi (-1001))) σ1))))) :
  V mX11_drop 0 [some (vr 0), some (vi x1)] [] σ post := by
  refine V_aload_n dX11_drop_0 rfl rfl ?_
  obtain ⟨r1, h⟩ := h
  refine V_getM (k2 := 5) flX11_19 rfl (r1) (by decide) dX11_drop_1 ?_
  refine V_iload_n dX11_drop_4 rfl rfl ?_
  refine V_callV (av := [vi x1]) (stk := []) cvX11_194 rfl rfl rfl (by decide) (by simp [ctg]) dX11_drop_5 h ?_
  rintro _ σ1 ⟨z1, rfl, h⟩
  obtain ⟨r2, h⟩ := h
  refine V_if_ne (tgt := 15) dX11_drop_8 rfl r2 (fun q => ?_) (fun q => ?_)
  · replace h := h.1 q
    refine V_aload_n dX11_drop_15 rfl rfl ?_
    obtain ⟨r3, h⟩ := h
    refine V_getM (k2 := 5) flX11_19 rfl (r3) (by decide) dX11_drop_16 ?_
    refine V_iload_n dX11_drop_19 rfl rfl ?_
    refine V_callV (av := [vi x1]) (stk := []) cvX11_220 rfl rfl rfl (by decide) (by simp [ctg]) dX11_drop_20 h ?_
    rintro _ σ2 ⟨rfl, h⟩
    refine V_aload_n dX11_drop_23 rfl rfl ?_
    refine V_iconst dX11_drop_24 ?_
    refine V_putZ flX11_57 rfl (by decide) (by decide) dX11_drop_25 ?_
    refine V_aload_n dX11_drop_28 rfl rfl ?_
    obtain ⟨r4, h⟩ := h
    refine V_getM (k2 := 5) flX11_19 rfl ((up_f (by omega)).trans r4) (by decide) dX11_drop_29 ?_
    refine V_getI (f := (σ2 5 7)) flX11_129 rfl (up_o (by omega)) (by decide) dX11_drop_32 ?_
    exact V_ireturn (stk := []) rfl dX11_drop_35 h
  · replace h := h.2 q
    refine V_sipush dX11_drop_11 (by decide) ?_
    exact V_ireturn (stk := []) rfl dX11_drop_14 h

set_option maxRecDepth 100000 in
theorem BX11_asked_0 {σ : Sg} {post : Po} {x1 : Int} {x2 : Int} 
  (h : ((σ 0 1) = 5) ∧ (Cl mX0_hasHead [vr 5, vi x1] σ (pI fun z1 σ1 => (rng z1) ∧ ((¬ z1 = 0 → (rng x2) ∧ ((x2 < 0 → post (some (vi (-1002))) σ1) ∧ (¬ x2 < 0 → (x2 ≤ 99 → ((σ1 0 1) = 5) ∧ ((0 ≤ x1 ∧ x1 < 16) ∧ (post (some (vi (σ1 11 x1))) (up σ1 11 x1 x2)))) ∧ (¬ x2 ≤ 99 → post (some (vi (-1002))) σ1)))) ∧ (z1 = 0 → post (some (vi (-1001))) σ1))))) :
  V mX11_asked 0 [some (vr 0), some (vi x1), some (vi x2), none] [] σ post := by
  refine V_aload_n dX11_asked_0 rfl rfl ?_
  obtain ⟨r1, h⟩ := h
  refine V_getM (k2 := 5) flX11_19 rfl (r1) (by decide) dX11_asked_1 ?_
  refine V_iload_n dX11_asked_4 rfl rfl ?_
  refine V_callV (av := [vi x1]) (stk := []) cvX11_152 rfl rfl rfl (by decide) (by simp [ctg]) dX11_asked_5 h ?_
  rintro _ σ1 ⟨z1, rfl, h⟩
  obtain ⟨r2, h⟩ := h
  refine V_if_ne (tgt := 15) dX11_asked_8 rfl r2 (fun q => ?_) (fun q => ?_)
  · replace h := h.1 q
    refine V_iload_n dX11_asked_15 rfl rfl ?_
    obtain ⟨r3, h⟩ := h
    refine V_if_lt (tgt := 25) dX11_asked_16 rfl r3 (fun q => ?_) (fun q => ?_)
    · replace h := h.1 q
      refine V_sipush dX11_asked_25 (by decide) ?_
      exact V_ireturn (stk := []) rfl dX11_asked_28 h
    · replace h := h.2 q
      refine V_iload_n dX11_asked_19 rfl rfl ?_
      refine V_bipush dX11_asked_20 (by decide) ?_
      refine V_icmp_le (tgt := 29) dX11_asked_22 rfl r3 (by decide) (fun q => ?_) (fun q => ?_)
      · replace h := h.1 q
        refine V_aload_n dX11_asked_29 rfl rfl ?_
        obtain ⟨r4, h⟩ := h
        refine V_getM (k2 := 5) flX11_19 rfl (r4) (by decide) dX11_asked_30 ?_
        refine V_getR (k2 := 11) flX11_170 rfl rfl (by decide) dX11_asked_33 ?_
        refine V_iload_n dX11_asked_36 rfl rfl ?_
        obtain ⟨r5, h⟩ := h
        refine V_iald (f := (σ1 11 x1)) (rfl : shp[11]? = some (1, 16, 0)) r5 (rfl) dX11_asked_37 ?_
        refine V_istore_n (L' := [some (vr 0), some (vi x1), some (vi x2), some (vi (σ1 11 x1))]) dX11_asked_38 rfl (by decide) rfl ?_
        refine V_aload_n dX11_asked_39 rfl rfl ?_
        refine V_getM (k2 := 5) flX11_19 rfl (r4) (by decide) dX11_asked_40 ?_
        refine V_getR (k2 := 11) flX11_170 rfl rfl (by decide) dX11_asked_43 ?_
        refine V_iload_n dX11_asked_46 rfl rfl ?_
        refine V_iload_n dX11_asked_47 rfl rfl ?_
        refine V_iast (rfl : shp[11]? = some (1, 16, 0)) r5 dX11_asked_48 ?_
        refine V_iload_n dX11_asked_49 rfl rfl ?_
        exact V_ireturn (stk := []) rfl dX11_asked_50 h
      · replace h := h.2 q
        refine V_sipush dX11_asked_25 (by decide) ?_
        exact V_ireturn (stk := []) rfl dX11_asked_28 h
  · replace h := h.2 q
    refine V_sipush dX11_asked_11 (by decide) ?_
    exact V_ireturn (stk := []) rfl dX11_asked_14 h

set_option maxRecDepth 100000 in
theorem BX11_run_0 {σ : Sg} {post : Po} {x1 : Int} {x2 : Int} {x3 : Int} {x4 : Int} 
  (h : ((σ 0 1) = 5) ∧ (Cl mX0_hasEntry [vr 5, vi x1, vi x2] σ (pI fun z1 σ1 => (rng z1) ∧ ((¬ z1 = 0 → (rng x4) ∧ ((x4 < 0 → post (some (vi (-1002))) σ1) ∧ (¬ x4 < 0 → (x4 ≤ 2 → ((σ1 0 1) = 5) ∧ (Cl mX0_gatherRuns [vr 5, vi x1, vi x2, vr 70] σ1 (pV fun σ2 => (rng x3) ∧ ((¬ x3 = (-1) → (x3 < 0 → post (some (vi (-1))) σ2) ∧ (¬ x3 < 0 → (rng (σ2 70 0)) ∧ ((x3 < (σ2 70 0) → (¬ x4 = 0 → (¬ x4 = 1 → (0 ≤ x3 ∧ x3 < 60) ∧ ((rng (σ2 73 x3)) ∧ (((σ2 73 x3) = 0 → post (some (vi 0)) σ2) ∧ (¬ (σ2 73 x3) = 0 → post (some (vi 1)) σ2)))) ∧ (x4 = 1 → (0 ≤ x3 ∧ x3 < 60) ∧ (post (some (vi (σ2 72 x3))) σ2))) ∧ (x4 = 0 → (0 ≤ x3 ∧ x3 < 60) ∧ (post (some (vi (σ2 71 x3))) σ2))) ∧ (¬ x3 < (σ2 70 0) → post (some (vi (-1))) σ2)))) ∧ (x3 = (-1) → post (some (vi (σ2 70 0))) σ2))))) ∧ (¬ x4 ≤ 2 → post (some (vi (-1002))) σ1)))) ∧ (z1 = 0 → post (some (vi (-1001))) σ1))))) :
  V mX11_run 0 [some (vr 0), some (vi x1), some (vi x2), some (vi x3), some (vi x4)] [] σ post := by
  refine V_aload_n dX11_run_0 rfl rfl ?_
  obtain ⟨r1, h⟩ := h
  refine V_getM (k2 := 5) flX11_19 rfl (r1) (by decide) dX11_run_1 ?_
  refine V_iload_n dX11_run_4 rfl rfl ?_
  refine V_iload_n dX11_run_5 rfl rfl ?_
  refine V_callV (av := [vi x1, vi x2]) (stk := []) cvX11_177 rfl rfl rfl (by decide) (by simp [ctg]) dX11_run_6 h ?_
  rintro _ σ1 ⟨z1, rfl, h⟩
  obtain ⟨r2, h⟩ := h
  refine V_if_ne (tgt := 16) dX11_run_9 rfl r2 (fun q => ?_) (fun q => ?_)
  · replace h := h.1 q
    refine V_iload dX11_run_16 rfl ?_
    obtain ⟨r3, h⟩ := h
    refine V_if_lt (tgt := 27) dX11_run_18 rfl r3 (fun q => ?_) (fun q => ?_)
    · replace h := h.1 q
      refine V_sipush dX11_run_27 (by decide) ?_
      exact V_ireturn (stk := []) rfl dX11_run_30 h
    · replace h := h.2 q
      refine V_iload dX11_run_21 rfl ?_
      refine V_iconst dX11_run_23 ?_
      refine V_icmp_le (tgt := 31) dX11_run_24 rfl r3 (by decide) (fun q => ?_) (fun q => ?_)
      · replace h := h.1 q
        refine V_aload_n dX11_run_31 rfl rfl ?_
        obtain ⟨r4, h⟩ := h
        refine V_getM (k2 := 5) flX11_19 rfl (r4) (by decide) dX11_run_32 ?_
        refine V_iload_n dX11_run_35 rfl rfl ?_
        refine V_iload_n dX11_run_36 rfl rfl ?_
        refine V_aload_n dX11_run_37 rfl rfl ?_
        refine V_getR (k2 := 70) flX11_64 rfl rfl (by decide) dX11_run_38 ?_
        refine V_callV (av := [vi x1, vi x2, vr 70]) (stk := []) cvX11_159 rfl rfl rfl (by decide) (by simp [ctg]) dX11_run_41 h ?_
        rintro _ σ2 ⟨rfl, h⟩
        refine V_iload_n dX11_run_44 rfl rfl ?_
        refine V_iconst dX11_run_45 ?_
        obtain ⟨r5, h⟩ := h
        refine V_icmp_ne (tgt := 57) dX11_run_46 rfl r5 (by decide) (fun q => ?_) (fun q => ?_)
        · replace h := h.1 q
          refine V_iload_n dX11_run_57 rfl rfl ?_
          refine V_if_lt (tgt := 72) dX11_run_58 rfl r5 (fun q => ?_) (fun q => ?_)
          · replace h := h.1 q
            refine V_iconst dX11_run_72 ?_
            exact V_ireturn (stk := []) rfl dX11_run_73 h
          · replace h := h.2 q
            refine V_iload_n dX11_run_61 rfl rfl ?_
            refine V_aload_n dX11_run_62 rfl rfl ?_
            refine V_getR (k2 := 70) flX11_64 rfl rfl (by decide) dX11_run_63 ?_
            refine V_getI (f := (σ2 70 0)) flX11_163 rfl (rfl) (by decide) dX11_run_66 ?_
            obtain ⟨r6, h⟩ := h
            refine V_icmp_lt (tgt := 74) dX11_run_69 rfl r5 r6 (fun q => ?_) (fun q => ?_)
            · replace h := h.1 q
              refine V_iload dX11_run_74 rfl ?_
              refine V_if_ne (tgt := 89) dX11_run_76 rfl r3 (fun q => ?_) (fun q => ?_)
              · replace h := h.1 q
                refine V_iload dX11_run_89 rfl ?_
                refine V_iconst dX11_run_91 ?_
                refine V_icmp_ne (tgt := 105) dX11_run_92 rfl r3 (by decide) (fun q => ?_) (fun q => ?_)
                · replace h := h.1 q
                  refine V_aload_n dX11_run_105 rfl rfl ?_
                  refine V_getR (k2 := 70) flX11_64 rfl rfl (by decide) dX11_run_106 ?_
                  refine V_getR (k2 := 73) flX11_229 rfl rfl (by decide) dX11_run_109 ?_
                  refine V_iload_n dX11_run_112 rfl rfl ?_
                  obtain ⟨r7, h⟩ := h
                  refine V_zald (f := (σ2 73 x3)) (rfl : shp[73]? = some (3, 60, 0)) r7 (rfl) dX11_run_113 ?_
                  obtain ⟨r8, h⟩ := h
                  refine V_if_eq (tgt := 121) dX11_run_114 rfl r8 (fun q => ?_) (fun q => ?_)
                  · replace h := h.1 q
                    refine V_iconst dX11_run_121 ?_
                    exact V_ireturn (stk := []) rfl dX11_run_122 h
                  · replace h := h.2 q
                    refine V_iconst dX11_run_117 ?_
                    refine V_goto (tgt := 122) dX11_run_118 rfl ?_
                    exact V_ireturn (stk := []) rfl dX11_run_122 h
                · replace h := h.2 q
                  refine V_aload_n dX11_run_95 rfl rfl ?_
                  refine V_getR (k2 := 70) flX11_64 rfl rfl (by decide) dX11_run_96 ?_
                  refine V_getR (k2 := 72) flX11_226 rfl rfl (by decide) dX11_run_99 ?_
                  refine V_iload_n dX11_run_102 rfl rfl ?_
                  obtain ⟨r9, h⟩ := h
                  refine V_iald (f := (σ2 72 x3)) (rfl : shp[72]? = some (1, 60, 0)) r9 (rfl) dX11_run_103 ?_
                  exact V_ireturn (stk := []) rfl dX11_run_104 h
              · replace h := h.2 q
                refine V_aload_n dX11_run_79 rfl rfl ?_
                refine V_getR (k2 := 70) flX11_64 rfl rfl (by decide) dX11_run_80 ?_
                refine V_getR (k2 := 71) flX11_223 rfl rfl (by decide) dX11_run_83 ?_
                refine V_iload_n dX11_run_86 rfl rfl ?_
                obtain ⟨r10, h⟩ := h
                refine V_iald (f := (σ2 71 x3)) (rfl : shp[71]? = some (1, 60, 0)) r10 (rfl) dX11_run_87 ?_
                exact V_ireturn (stk := []) rfl dX11_run_88 h
            · replace h := h.2 q
              refine V_iconst dX11_run_72 ?_
              exact V_ireturn (stk := []) rfl dX11_run_73 h
        · replace h := h.2 q
          refine V_aload_n dX11_run_49 rfl rfl ?_
          refine V_getR (k2 := 70) flX11_64 rfl rfl (by decide) dX11_run_50 ?_
          refine V_getI (f := (σ2 70 0)) flX11_163 rfl (rfl) (by decide) dX11_run_53 ?_
          exact V_ireturn (stk := []) rfl dX11_run_56 h
      · replace h := h.2 q
        refine V_sipush dX11_run_27 (by decide) ?_
        exact V_ireturn (stk := []) rfl dX11_run_30 h
  · replace h := h.2 q
    refine V_sipush dX11_run_12 (by decide) ?_
    exact V_ireturn (stk := []) rfl dX11_run_15 h

set_option maxRecDepth 100000 in
theorem BX11_order_0 {σ : Sg} {post : Po} {x1 : Int} 
  (h : (rng x1) ∧ ((x1 < 0 → post (some (vi (-1002))) σ) ∧ (¬ x1 < 0 → (x1 ≤ 1 → post (some (vi (σ 0 3))) (up (up σ 0 3 x1) 0 9 0)) ∧ (¬ x1 ≤ 1 → post (some (vi (-1002))) σ)))) :
  V mX11_order 0 [some (vr 0), some (vi x1), none] [] σ post := by
  refine V_iload_n dX11_order_0 rfl rfl ?_
  obtain ⟨r1, h⟩ := h
  refine V_if_lt (tgt := 9) dX11_order_1 rfl r1 (fun q => ?_) (fun q => ?_)
  · replace h := h.1 q
    refine V_sipush dX11_order_9 (by decide) ?_
    exact V_ireturn (stk := []) rfl dX11_order_12 h
  · replace h := h.2 q
    refine V_iload_n dX11_order_4 rfl rfl ?_
    refine V_iconst dX11_order_5 ?_
    refine V_icmp_le (tgt := 13) dX11_order_6 rfl r1 (by decide) (fun q => ?_) (fun q => ?_)
    · replace h := h.1 q
      refine V_aload_n dX11_order_13 rfl rfl ?_
      refine V_getI (f := (σ 0 3)) flX11_27 rfl (rfl) (by decide) dX11_order_14 ?_
      refine V_istore_n (L' := [some (vr 0), some (vi x1), some (vi (σ 0 3))]) dX11_order_17 rfl (by decide) rfl ?_
      refine V_aload_n dX11_order_18 rfl rfl ?_
      refine V_iload_n dX11_order_19 rfl rfl ?_
      refine V_putI flX11_27 rfl (by decide) dX11_order_20 ?_
      refine V_aload_n dX11_order_23 rfl rfl ?_
      refine V_iconst dX11_order_24 ?_
      refine V_putZ flX11_57 rfl (by decide) (by decide) dX11_order_25 ?_
      refine V_iload_n dX11_order_28 rfl rfl ?_
      exact V_ireturn (stk := []) rfl dX11_order_29 h
    · replace h := h.2 q
      refine V_sipush dX11_order_9 (by decide) ?_
      exact V_ireturn (stk := []) rfl dX11_order_12 h

set_option maxRecDepth 100000 in
theorem BX11_at_0 {σ : Sg} {post : Po} {x1 : Int} 
  (h : ((σ 0 1) = 5) ∧ (Cl mX0_hasHead [vr 5, vi x1] σ (pI fun z1 σ1 => (rng z1) ∧ ((¬ z1 = 0 → ((σ1 0 1) = 5) ∧ (Cl mX4_arrange [vr 53, vr 5, vi (σ1 0 3)] σ1 (pV fun σ2 => (0 ≤ x1 ∧ x1 < 16) ∧ (post (some (vi (σ2 55 x1))) σ2)))) ∧ (z1 = 0 → post (some (vi (-1))) σ1))))) :
  V mX11_at 0 [some (vr 0), some (vi x1)] [] σ post := by
  refine V_aload_n dX11_at_0 rfl rfl ?_
  obtain ⟨r1, h⟩ := h
  refine V_getM (k2 := 5) flX11_19 rfl (r1) (by decide) dX11_at_1 ?_
  refine V_iload_n dX11_at_4 rfl rfl ?_
  refine V_callV (av := [vi x1]) (stk := []) cvX11_152 rfl rfl rfl (by decide) (by simp [ctg]) dX11_at_5 h ?_
  rintro _ σ1 ⟨z1, rfl, h⟩
  obtain ⟨r2, h⟩ := h
  refine V_if_ne (tgt := 13) dX11_at_8 rfl r2 (fun q => ?_) (fun q => ?_)
  · replace h := h.1 q
    refine V_aload_n dX11_at_13 rfl rfl ?_
    refine V_getR (k2 := 53) flX11_37 rfl rfl (by decide) dX11_at_14 ?_
    refine V_aload_n dX11_at_17 rfl rfl ?_
    obtain ⟨r3, h⟩ := h
    refine V_getM (k2 := 5) flX11_19 rfl (r3) (by decide) dX11_at_18 ?_
    refine V_aload_n dX11_at_21 rfl rfl ?_
    refine V_getI (f := (σ1 0 3)) flX11_27 rfl (rfl) (by decide) dX11_at_22 ?_
    refine V_callV (av := [vr 5, vi (σ1 0 3)]) (stk := []) cvX11_232 rfl rfl rfl (by decide) (by simp [ctg]) dX11_at_25 h ?_
    rintro _ σ2 ⟨rfl, h⟩
    refine V_aload_n dX11_at_28 rfl rfl ?_
    refine V_getR (k2 := 53) flX11_37 rfl rfl (by decide) dX11_at_29 ?_
    refine V_getR (k2 := 54) flX11_236 rfl rfl (by decide) dX11_at_32 ?_
    refine V_getR (k2 := 55) flX11_240 rfl rfl (by decide) dX11_at_35 ?_
    refine V_iload_n dX11_at_38 rfl rfl ?_
    obtain ⟨r4, h⟩ := h
    refine V_iald (f := (σ2 55 x1)) (rfl : shp[55]? = some (1, 16, 0)) r4 (rfl) dX11_at_39 ?_
    exact V_ireturn (stk := []) rfl dX11_at_40 h
  · replace h := h.2 q
    refine V_iconst dX11_at_11 ?_
    exact V_ireturn (stk := []) rfl dX11_at_12 h

set_option maxRecDepth 100000 in
theorem BX11_subAt_0 {σ : Sg} {post : Po} {x1 : Int} {x2 : Int} 
  (h : ((σ 0 1) = 5) ∧ (Cl mX0_hasHead [vr 5, vi x1] σ (pI fun z1 σ1 => (rng z1) ∧ ((¬ z1 = 0 → (rng x2) ∧ ((x2 < 0 → post (some (vi (-1))) σ1) ∧ (¬ x2 < 0 → ((σ1 0 1) = 5) ∧ ((0 ≤ x1 ∧ x1 < 16) ∧ ((rng (σ1 7 x1)) ∧ ((x2 < (σ1 7 x1) → Cl mX4_arrangeSubs [vr 53, vr 5, vi x1, vi (σ1 0 3)] σ1 (pV fun σ2 => (0 ≤ x2 ∧ x2 < 16) ∧ (post (some (vi (σ2 58 x2))) σ2))) ∧ (¬ x2 < (σ1 7 x1) → post (some (vi (-1))) σ1))))))) ∧ (z1 = 0 → post (some (vi (-1001))) σ1))))) :
  V mX11_subAt 0 [some (vr 0), some (vi x1), some (vi x2)] [] σ post := by
  refine V_aload_n dX11_subAt_0 rfl rfl ?_
  obtain ⟨r1, h⟩ := h
  refine V_getM (k2 := 5) flX11_19 rfl (r1) (by decide) dX11_subAt_1 ?_
  refine V_iload_n dX11_subAt_4 rfl rfl ?_
  refine V_callV (av := [vi x1]) (stk := []) cvX11_152 rfl rfl rfl (by decide) (by simp [ctg]) dX11_subAt_5 h ?_
  rintro _ σ1 ⟨z1, rfl, h⟩
  obtain ⟨r2, h⟩ := h
  refine V_if_ne (tgt := 15) dX11_subAt_8 rfl r2 (fun q => ?_) (fun q => ?_)
  · replace h := h.1 q
    refine V_iload_n dX11_subAt_15 rfl rfl ?_
    obtain ⟨r3, h⟩ := h
    refine V_if_lt (tgt := 32) dX11_subAt_16 rfl r3 (fun q => ?_) (fun q => ?_)
    · replace h := h.1 q
      refine V_iconst dX11_subAt_32 ?_
      exact V_ireturn (stk := []) rfl dX11_subAt_33 h
    · replace h := h.2 q
      refine V_iload_n dX11_subAt_19 rfl rfl ?_
      refine V_aload_n dX11_subAt_20 rfl rfl ?_
      obtain ⟨r4, h⟩ := h
      refine V_getM (k2 := 5) flX11_19 rfl (r4) (by decide) dX11_subAt_21 ?_
      refine V_getR (k2 := 7) flX11_156 rfl rfl (by decide) dX11_subAt_24 ?_
      refine V_iload_n dX11_subAt_27 rfl rfl ?_
      obtain ⟨r5, h⟩ := h
      refine V_iald (f := (σ1 7 x1)) (rfl : shp[7]? = some (1, 16, 0)) r5 (rfl) dX11_subAt_28 ?_
      obtain ⟨r6, h⟩ := h
      refine V_icmp_lt (tgt := 34) dX11_subAt_29 rfl r3 r6 (fun q => ?_) (fun q => ?_)
      · replace h := h.1 q
        refine V_aload_n dX11_subAt_34 rfl rfl ?_
        refine V_getR (k2 := 53) flX11_37 rfl rfl (by decide) dX11_subAt_35 ?_
        refine V_aload_n dX11_subAt_38 rfl rfl ?_
        refine V_getM (k2 := 5) flX11_19 rfl (r4) (by decide) dX11_subAt_39 ?_
        refine V_iload_n dX11_subAt_42 rfl rfl ?_
        refine V_aload_n dX11_subAt_43 rfl rfl ?_
        refine V_getI (f := (σ1 0 3)) flX11_27 rfl (rfl) (by decide) dX11_subAt_44 ?_
        refine V_callV (av := [vr 5, vi x1, vi (σ1 0 3)]) (stk := []) cvX11_245 rfl rfl rfl (by decide) (by simp [ctg]) dX11_subAt_47 h ?_
        rintro _ σ2 ⟨rfl, h⟩
        refine V_aload_n dX11_subAt_50 rfl rfl ?_
        refine V_getR (k2 := 53) flX11_37 rfl rfl (by decide) dX11_subAt_51 ?_
        refine V_getR (k2 := 57) flX11_249 rfl rfl (by decide) dX11_subAt_54 ?_
        refine V_getR (k2 := 58) flX11_240 rfl rfl (by decide) dX11_subAt_57 ?_
        refine V_iload_n dX11_subAt_60 rfl rfl ?_
        obtain ⟨r7, h⟩ := h
        refine V_iald (f := (σ2 58 x2)) (rfl : shp[58]? = some (1, 16, 0)) r7 (rfl) dX11_subAt_61 ?_
        exact V_ireturn (stk := []) rfl dX11_subAt_62 h
      · replace h := h.2 q
        refine V_iconst dX11_subAt_32 ?_
        exact V_ireturn (stk := []) rfl dX11_subAt_33 h
  · replace h := h.2 q
    refine V_sipush dX11_subAt_11 (by decide) ?_
    exact V_ireturn (stk := []) rfl dX11_subAt_14 h

set_option maxRecDepth 100000 in
theorem BX11_width_0 {σ : Sg} {post : Po} {x1 : Int} 
  (h : (rng x1) ∧ ((x1 < 20 → post (some (vi (-1002))) σ) ∧ (¬ x1 < 20 → (x1 ≤ 80 → post (some (vi (σ 0 4))) (up (up σ 0 4 x1) 0 9 0)) ∧ (¬ x1 ≤ 80 → post (some (vi (-1002))) σ)))) :
  V mX11_width 0 [some (vr 0), some (vi x1), none] [] σ post := by
  refine V_iload_n dX11_width_0 rfl rfl ?_
  refine V_bipush dX11_width_1 (by decide) ?_
  obtain ⟨r1, h⟩ := h
  refine V_icmp_lt (tgt := 12) dX11_width_3 rfl r1 (by decide) (fun q => ?_) (fun q => ?_)
  · replace h := h.1 q
    refine V_sipush dX11_width_12 (by decide) ?_
    exact V_ireturn (stk := []) rfl dX11_width_15 h
  · replace h := h.2 q
    refine V_iload_n dX11_width_6 rfl rfl ?_
    refine V_bipush dX11_width_7 (by decide) ?_
    refine V_icmp_le (tgt := 16) dX11_width_9 rfl r1 (by decide) (fun q => ?_) (fun q => ?_)
    · replace h := h.1 q
      refine V_aload_n dX11_width_16 rfl rfl ?_
      refine V_getI (f := (σ 0 4)) flX11_31 rfl (rfl) (by decide) dX11_width_17 ?_
      refine V_istore_n (L' := [some (vr 0), some (vi x1), some (vi (σ 0 4))]) dX11_width_20 rfl (by decide) rfl ?_
      refine V_aload_n dX11_width_21 rfl rfl ?_
      refine V_iload_n dX11_width_22 rfl rfl ?_
      refine V_putI flX11_31 rfl (by decide) dX11_width_23 ?_
      refine V_aload_n dX11_width_26 rfl rfl ?_
      refine V_iconst dX11_width_27 ?_
      refine V_putZ flX11_57 rfl (by decide) (by decide) dX11_width_28 ?_
      refine V_iload_n dX11_width_31 rfl rfl ?_
      exact V_ireturn (stk := []) rfl dX11_width_32 h
    · replace h := h.2 q
      refine V_sipush dX11_width_12 (by decide) ?_
      exact V_ireturn (stk := []) rfl dX11_width_15 h

set_option maxRecDepth 100000 in
theorem BX11_print_0 {σ : Sg} {post : Po} {x1 : Int} 
  (h : Cl mX11_printAll [vr 0] σ (pV fun σ1 => (rng x1) ∧ ((x1 < 0 → post (some (vi (-1))) σ1) ∧ (¬ x1 < 0 → (rng (σ1 64 1)) ∧ (((σ1 64 1) ≤ x1 → post (some (vi (-1))) σ1) ∧ (¬ (σ1 64 1) ≤ x1 → (x1 < 3072 → (0 ≤ x1 ∧ x1 < 3072) ∧ (post (some (vi (σ1 65 x1))) σ1)) ∧ (¬ x1 < 3072 → post (some (vi (-1))) σ1))))))) :
  V mX11_print 0 [some (vr 0), some (vi x1)] [] σ post := by
  refine V_aload_n dX11_print_0 rfl rfl ?_
  refine V_callV (av := []) (stk := []) cvX11_135 rfl rfl rfl (by decide) (by simp [ctg]) dX11_print_1 h ?_
  rintro _ σ1 ⟨rfl, h⟩
  refine V_iload_n dX11_print_4 rfl rfl ?_
  obtain ⟨r1, h⟩ := h
  refine V_if_lt (tgt := 31) dX11_print_5 rfl r1 (fun q => ?_) (fun q => ?_)
  · replace h := h.1 q
    refine V_iconst dX11_print_31 ?_
    exact V_ireturn (stk := []) rfl dX11_print_32 h
  · replace h := h.2 q
    refine V_iload_n dX11_print_8 rfl rfl ?_
    refine V_aload_n dX11_print_9 rfl rfl ?_
    refine V_getR (k2 := 64) flX11_46 rfl rfl (by decide) dX11_print_10 ?_
    refine V_getI (f := (σ1 64 1)) flX11_141 rfl (rfl) (by decide) dX11_print_13 ?_
    obtain ⟨r2, h⟩ := h
    refine V_icmp_ge (tgt := 31) dX11_print_16 rfl r1 r2 (fun q => ?_) (fun q => ?_)
    · replace h := h.1 q
      refine V_iconst dX11_print_31 ?_
      exact V_ireturn (stk := []) rfl dX11_print_32 h
    · replace h := h.2 q
      refine V_iload_n dX11_print_19 rfl rfl ?_
      refine V_aload_n dX11_print_20 rfl rfl ?_
      refine V_getR (k2 := 64) flX11_46 rfl rfl (by decide) dX11_print_21 ?_
      refine V_getR (k2 := 65) flX11_252 rfl rfl (by decide) dX11_print_24 ?_
      refine V_alen2 (z := 3072) (rfl : shp[65]? = some (2, 3072, 0)) rfl dX11_print_27 ?_
      refine V_icmp_lt (tgt := 33) dX11_print_28 rfl r1 (by decide) (fun q => ?_) (fun q => ?_)
      · replace h := h.1 q
        refine V_aload_n dX11_print_33 rfl rfl ?_
        refine V_getR (k2 := 64) flX11_46 rfl rfl (by decide) dX11_print_34 ?_
        refine V_getR (k2 := 65) flX11_252 rfl rfl (by decide) dX11_print_37 ?_
        refine V_iload_n dX11_print_40 rfl rfl ?_
        obtain ⟨r3, h⟩ := h
        refine V_bald (f := (σ1 65 x1)) (rfl : shp[65]? = some (2, 3072, 0)) r3 (rfl) dX11_print_41 ?_
        exact V_ireturn (stk := []) rfl dX11_print_42 h
      · replace h := h.2 q
        refine V_iconst dX11_print_31 ?_
        exact V_ireturn (stk := []) rfl dX11_print_32 h

set_option maxRecDepth 100000 in
theorem BX11_printAll_0 {σ : Sg} {post : Po}  
  (h : (rng (σ 0 9)) ∧ (((σ 0 9) = 0 → ((σ 0 1) = 5) ∧ (Cl mX4_arrange [vr 53, vr 5, vi (σ 0 3)] σ (pV fun σ1 => Cl mX8_clear [vr 64, vi (σ1 0 4)] σ1 (pV fun σ2 => V mX11_printAll 36 [some (vr 0), some (vi 0), none] [] σ2 post)))) ∧ (¬ (σ 0 9) = 0 → post none σ))) :
  V mX11_printAll 0 [some (vr 0), none, none] [] σ post := by
  refine V_aload_n dX11_printAll_0 rfl rfl ?_
  refine V_getI (f := (σ 0 9)) flX11_57 rfl (rfl) (by decide) dX11_printAll_1 ?_
  obtain ⟨r1, h⟩ := h
  refine V_if_eq (tgt := 8) dX11_printAll_4 rfl r1 (fun q => ?_) (fun q => ?_)
  · replace h := h.1 q
    refine V_aload_n dX11_printAll_8 rfl rfl ?_
    refine V_getR (k2 := 53) flX11_37 rfl rfl (by decide) dX11_printAll_9 ?_
    refine V_aload_n dX11_printAll_12 rfl rfl ?_
    obtain ⟨r2, h⟩ := h
    refine V_getM (k2 := 5) flX11_19 rfl (r2) (by decide) dX11_printAll_13 ?_
    refine V_aload_n dX11_printAll_16 rfl rfl ?_
    refine V_getI (f := (σ 0 3)) flX11_27 rfl (rfl) (by decide) dX11_printAll_17 ?_
    refine V_callV (av := [vr 5, vi (σ 0 3)]) (stk := []) cvX11_232 rfl rfl rfl (by decide) (by simp [ctg]) dX11_printAll_20 h ?_
    rintro _ σ1 ⟨rfl, h⟩
    refine V_aload_n dX11_printAll_23 rfl rfl ?_
    refine V_getR (k2 := 64) flX11_46 rfl rfl (by decide) dX11_printAll_24 ?_
    refine V_aload_n dX11_printAll_27 rfl rfl ?_
    refine V_getI (f := (σ1 0 4)) flX11_31 rfl (rfl) (by decide) dX11_printAll_28 ?_
    refine V_callV (av := [vi (σ1 0 4)]) (stk := []) cvX11_256 rfl rfl rfl (by decide) (by simp [ctg]) dX11_printAll_31 h ?_
    rintro _ σ2 ⟨rfl, h⟩
    refine V_iconst dX11_printAll_34 ?_
    refine V_istore_n (L' := [some (vr 0), some (vi 0), none]) dX11_printAll_35 rfl (by decide) rfl ?_
    exact V.sub (SubL_s (SubL_s (SubL_n (SubL_0)))) h
  · replace h := h.2 q
    exact V_return (stk := []) rfl dX11_printAll_7 h
set_option maxRecDepth 100000 in
theorem BX11_printAll_36 {σ : Sg} {post : Po} {x1 : Int} 
  (h : ((σ 0 1) = 5) ∧ ((rng x1) ∧ ((rng (σ 5 0)) ∧ (((σ 5 0) ≤ x1 → post none (up σ 0 9 1)) ∧ (¬ (σ 5 0) ≤ x1 → (0 ≤ x1 ∧ x1 < 16) ∧ (Cl mX4_setHead [vr 53, vr 64, vr 5, vi (σ 55 x1), vi (σ 55 x1), vi 0] σ (pI fun z1 σ1 => (0 ≤ (σ 55 x1) ∧ (σ 55 x1) < 16) ∧ (V mX11_printAll 36 [some (vr 0), some (vi (x1 + 1)), none] [] (up σ1 1 (σ 55 x1) z1) post)))))))) :
  V mX11_printAll 36 [some (vr 0), some (vi x1), none] [] σ post := by
  refine V_iload_n dX11_printAll_36 rfl rfl ?_
  refine V_aload_n dX11_printAll_37 rfl rfl ?_
  obtain ⟨r1, h⟩ := h
  refine V_getM (k2 := 5) flX11_19 rfl (r1) (by decide) dX11_printAll_38 ?_
  refine V_getI (f := (σ 5 0)) flX11_123 rfl (rfl) (by decide) dX11_printAll_41 ?_
  obtain ⟨r2, h⟩ := h
  obtain ⟨r3, h⟩ := h
  refine V_icmp_ge (tgt := 90) dX11_printAll_44 rfl r2 r3 (fun q => ?_) (fun q => ?_)
  · replace h := h.1 q
    refine V_aload_n dX11_printAll_90 rfl rfl ?_
    refine V_iconst dX11_printAll_91 ?_
    refine V_putZ flX11_57 rfl (by decide) (by decide) dX11_printAll_92 ?_
    exact V_return (stk := []) rfl dX11_printAll_95 h
  · replace h := h.2 q
    refine V_aload_n dX11_printAll_47 rfl rfl ?_
    refine V_getR (k2 := 53) flX11_37 rfl rfl (by decide) dX11_printAll_48 ?_
    refine V_getR (k2 := 54) flX11_236 rfl rfl (by decide) dX11_printAll_51 ?_
    refine V_getR (k2 := 55) flX11_240 rfl rfl (by decide) dX11_printAll_54 ?_
    refine V_iload_n dX11_printAll_57 rfl rfl ?_
    obtain ⟨r4, h⟩ := h
    refine V_iald (f := (σ 55 x1)) (rfl : shp[55]? = some (1, 16, 0)) r4 (rfl) dX11_printAll_58 ?_
    refine V_istore_n (L' := [some (vr 0), some (vi x1), some (vi (σ 55 x1))]) dX11_printAll_59 rfl (by decide) rfl ?_
    refine V_aload_n dX11_printAll_60 rfl rfl ?_
    refine V_getR (k2 := 1) flX11_53 rfl rfl (by decide) dX11_printAll_61 ?_
    refine V_iload_n dX11_printAll_64 rfl rfl ?_
    refine V_aload_n dX11_printAll_65 rfl rfl ?_
    refine V_getR (k2 := 53) flX11_37 rfl rfl (by decide) dX11_printAll_66 ?_
    refine V_aload_n dX11_printAll_69 rfl rfl ?_
    refine V_getR (k2 := 64) flX11_46 rfl rfl (by decide) dX11_printAll_70 ?_
    refine V_aload_n dX11_printAll_73 rfl rfl ?_
    refine V_getM (k2 := 5) flX11_19 rfl (r1) (by decide) dX11_printAll_74 ?_
    refine V_iload_n dX11_printAll_77 rfl rfl ?_
    refine V_iload_n dX11_printAll_78 rfl rfl ?_
    refine V_iconst dX11_printAll_79 ?_
    refine V_callV (av := [vr 64, vr 5, vi (σ 55 x1), vi (σ 55 x1), vi 0]) (stk := [vi (σ 55 x1), vr 1]) cvX11_259 rfl rfl rfl (by decide) (by simp [ctg]) dX11_printAll_80 h ?_
    rintro _ σ1 ⟨z1, rfl, h⟩
    obtain ⟨r5, h⟩ := h
    refine V_iast (rfl : shp[1]? = some (1, 16, 0)) r5 dX11_printAll_83 ?_
    refine V_iinc (L' := [some (vr 0), some (vi (x1 + 1)), some (vi (σ 55 x1))]) dX11_printAll_84 rfl (by decide) rfl ?_
    refine V_goto (tgt := 36) dX11_printAll_87 rfl ?_
    exact V.sub (SubL_s (SubL_s (SubL_n (SubL_0)))) h

set_option maxRecDepth 100000 in
theorem BX11_look_0 {σ : Sg} {post : Po} {x1 : Int} {x2 : Int} 
  (h : ((σ 0 1) = 5) ∧ (Cl mX0_hasHead [vr 5, vi x1] σ (pI fun z1 σ1 => (rng z1) ∧ ((¬ z1 = 0 → (rng x2) ∧ ((x2 < 0 → post (some (vi (-1002))) σ1) ∧ (¬ x2 < 0 → (x2 ≤ 1 → ((σ1 0 1) = 5) ∧ (Cl mX0_filledHeads [vr 5] σ1 (pI fun z2 σ2 => Cl mX0_stepsToFilled [vr 5, vi x1, vi z2] σ2 (pI fun z3 σ3 => (x2 = 1 → post (some (vi z3)) σ3) ∧ (¬ x2 = 1 → (rng z3) ∧ ((¬ z3 = (-1) → ((σ3 0 1) = 5) ∧ (Cl mX0_headAfter [vr 5, vi x1, vi z3] σ3 (pI fun z4 σ4 => post (some (vi z4)) σ4))) ∧ (z3 = (-1) → post (some (vi z3)) σ3))))))) ∧ (¬ x2 ≤ 1 → post (some (vi (-1002))) σ1)))) ∧ (z1 = 0 → post (some (vi (-1001))) σ1))))) :
  V mX11_look 0 [some (vr 0), some (vi x1), some (vi x2), none] [] σ post := by
  refine V_aload_n dX11_look_0 rfl rfl ?_
  obtain ⟨r1, h⟩ := h
  refine V_getM (k2 := 5) flX11_19 rfl (r1) (by decide) dX11_look_1 ?_
  refine V_iload_n dX11_look_4 rfl rfl ?_
  refine V_callV (av := [vi x1]) (stk := []) cvX11_152 rfl rfl rfl (by decide) (by simp [ctg]) dX11_look_5 h ?_
  rintro _ σ1 ⟨z1, rfl, h⟩
  obtain ⟨r2, h⟩ := h
  refine V_if_ne (tgt := 15) dX11_look_8 rfl r2 (fun q => ?_) (fun q => ?_)
  · replace h := h.1 q
    refine V_iload_n dX11_look_15 rfl rfl ?_
    obtain ⟨r3, h⟩ := h
    refine V_if_lt (tgt := 24) dX11_look_16 rfl r3 (fun q => ?_) (fun q => ?_)
    · replace h := h.1 q
      refine V_sipush dX11_look_24 (by decide) ?_
      exact V_ireturn (stk := []) rfl dX11_look_27 h
    · replace h := h.2 q
      refine V_iload_n dX11_look_19 rfl rfl ?_
      refine V_iconst dX11_look_20 ?_
      refine V_icmp_le (tgt := 28) dX11_look_21 rfl r3 (by decide) (fun q => ?_) (fun q => ?_)
      · replace h := h.1 q
        refine V_aload_n dX11_look_28 rfl rfl ?_
        obtain ⟨r4, h⟩ := h
        refine V_getM (k2 := 5) flX11_19 rfl (r4) (by decide) dX11_look_29 ?_
        refine V_iload_n dX11_look_32 rfl rfl ?_
        refine V_aload_n dX11_look_33 rfl rfl ?_
        refine V_getM (k2 := 5) flX11_19 rfl (r4) (by decide) dX11_look_34 ?_
        refine V_callV (av := []) (stk := [vi x1, vr 5]) cvX11_142 rfl rfl rfl (by decide) (by simp [ctg]) dX11_look_37 h ?_
        rintro _ σ2 ⟨z2, rfl, h⟩
        refine V_callV (av := [vi x1, vi z2]) (stk := []) cvX11_263 rfl rfl rfl (by decide) (by simp [ctg]) dX11_look_40 h ?_
        rintro _ σ3 ⟨z3, rfl, h⟩
        refine V_istore_n (L' := [some (vr 0), some (vi x1), some (vi x2), some (vi z3)]) dX11_look_43 rfl (by decide) rfl ?_
        refine V_iload_n dX11_look_44 rfl rfl ?_
        refine V_iconst dX11_look_45 ?_
        refine V_icmp_eq (tgt := 54) dX11_look_46 rfl r3 (by decide) (fun q => ?_) (fun q => ?_)
        · replace h := h.1 q
          refine V_iload_n dX11_look_54 rfl rfl ?_
          refine V_goto (tgt := 67) dX11_look_55 rfl ?_
          exact V_ireturn (stk := []) rfl dX11_look_67 h
        · replace h := h.2 q
          refine V_iload_n dX11_look_49 rfl rfl ?_
          refine V_iconst dX11_look_50 ?_
          obtain ⟨r5, h⟩ := h
          refine V_icmp_ne (tgt := 58) dX11_look_51 rfl r5 (by decide) (fun q => ?_) (fun q => ?_)
          · replace h := h.1 q
            refine V_aload_n dX11_look_58 rfl rfl ?_
            obtain ⟨r6, h⟩ := h
            refine V_getM (k2 := 5) flX11_19 rfl (r6) (by decide) dX11_look_59 ?_
            refine V_iload_n dX11_look_62 rfl rfl ?_
            refine V_iload_n dX11_look_63 rfl rfl ?_
            refine V_callV (av := [vi x1, vi z3]) (stk := []) cvX11_267 rfl rfl rfl (by decide) (by simp [ctg]) dX11_look_64 h ?_
            rintro _ σ4 ⟨z4, rfl, h⟩
            exact V_ireturn (stk := []) rfl dX11_look_67 h
          · replace h := h.2 q
            refine V_iload_n dX11_look_54 rfl rfl ?_
            refine V_goto (tgt := 67) dX11_look_55 rfl ?_
            exact V_ireturn (stk := []) rfl dX11_look_67 h
      · replace h := h.2 q
        refine V_sipush dX11_look_24 (by decide) ?_
        exact V_ireturn (stk := []) rfl dX11_look_27 h
  · replace h := h.2 q
    refine V_sipush dX11_look_11 (by decide) ?_
    exact V_ireturn (stk := []) rfl dX11_look_14 h

set_option maxRecDepth 100000 in
theorem BX11_steps_0 {σ : Sg} {post : Po} {x1 : Int} {x2 : Int} 
  (h : ((σ 0 1) = 5) ∧ (Cl mX0_hasHead [vr 5, vi x1] σ (pI fun z1 σ1 => (rng z1) ∧ ((¬ z1 = 0 → Cl mX11_isPage [vi x2] σ1 (pI fun z2 σ2 => (rng z2) ∧ ((¬ z2 = 0 → ((σ2 0 1) = 5) ∧ (Cl mX0_headsWith [vr 5, vi x2] σ2 (pI fun z3 σ3 => V mX11_steps 43 [some (vr 0), none, none, some (vi z3), some (vi (iShl 1 x1)), some (vi 0)] [] σ3 post))) ∧ (z2 = 0 → post (some (vi (-1002))) σ2)))) ∧ (z1 = 0 → post (some (vi (-1001))) σ1))))) :
  V mX11_steps 0 [some (vr 0), some (vi x1), some (vi x2), none, none, none] [] σ post := by
  refine V_aload_n dX11_steps_0 rfl rfl ?_
  obtain ⟨r1, h⟩ := h
  refine V_getM (k2 := 5) flX11_19 rfl (r1) (by decide) dX11_steps_1 ?_
  refine V_iload_n dX11_steps_4 rfl rfl ?_
  refine V_callV (av := [vi x1]) (stk := []) cvX11_152 rfl rfl rfl (by decide) (by simp [ctg]) dX11_steps_5 h ?_
  rintro _ σ1 ⟨z1, rfl, h⟩
  obtain ⟨r2, h⟩ := h
  refine V_if_ne (tgt := 15) dX11_steps_8 rfl r2 (fun q => ?_) (fun q => ?_)
  · replace h := h.1 q
    refine V_iload_n dX11_steps_15 rfl rfl ?_
    refine V_callS (av := [vi x2]) (stk := []) cvX11_213 rfl rfl (by decide) (by simp [ctg]) dX11_steps_16 h ?_
    rintro _ σ2 ⟨z2, rfl, h⟩
    obtain ⟨r3, h⟩ := h
    refine V_if_ne (tgt := 26) dX11_steps_19 rfl r3 (fun q => ?_) (fun q => ?_)
    · replace h := h.1 q
      refine V_aload_n dX11_steps_26 rfl rfl ?_
      obtain ⟨r4, h⟩ := h
      refine V_getM (k2 := 5) flX11_19 rfl (r4) (by decide) dX11_steps_27 ?_
      refine V_iload_n dX11_steps_30 rfl rfl ?_
      refine V_callV (av := [vi x2]) (stk := []) cvX11_270 rfl rfl rfl (by decide) (by simp [ctg]) dX11_steps_31 h ?_
      rintro _ σ3 ⟨z3, rfl, h⟩
      refine V_istore_n (L' := [some (vr 0), some (vi x1), some (vi x2), some (vi z3), none, none]) dX11_steps_34 rfl (by decide) rfl ?_
      refine V_iconst dX11_steps_35 ?_
      refine V_iload_n dX11_steps_36 rfl rfl ?_
      refine V_ishl dX11_steps_37 ?_
      refine V_istore (L' := [some (vr 0), some (vi x1), some (vi x2), some (vi z3), some (vi (iShl 1 x1)), none]) dX11_steps_38 (by decide) rfl ?_
      refine V_iconst dX11_steps_40 ?_
      refine V_istore (L' := [some (vr 0), some (vi x1), some (vi x2), some (vi z3), some (vi (iShl 1 x1)), some (vi 0)]) dX11_steps_41 (by decide) rfl ?_
      exact V.sub (SubL_s (SubL_n (SubL_n (SubL_s (SubL_s (SubL_s (SubL_0))))))) h
    · replace h := h.2 q
      refine V_sipush dX11_steps_22 (by decide) ?_
      exact V_ireturn (stk := []) rfl dX11_steps_25 h
  · replace h := h.2 q
    refine V_sipush dX11_steps_11 (by decide) ?_
    exact V_ireturn (stk := []) rfl dX11_steps_14 h
set_option maxRecDepth 100000 in
theorem BX11_steps_43 {σ : Sg} {post : Po} {x3 : Int} {x4 : Int} {x5 : Int} 
  (h : (rng x5) ∧ ((16 < x5 → post (some (vi (-1))) σ) ∧ (¬ 16 < x5 → ((iAnd x4 x3) = 0 → ((σ 0 1) = 5) ∧ (Cl mX0_oneStepOn [vr 5, vi x4] σ (pI fun z1 σ1 => V mX11_steps 43 [some (vr 0), none, none, some (vi x3), some (vi z1), some (vi (x5 + 1))] [] σ1 post))) ∧ (¬ (iAnd x4 x3) = 0 → post (some (vi x5)) σ)))) :
  V mX11_steps 43 [some (vr 0), none, none, some (vi x3), some (vi x4), some (vi x5)] [] σ post := by
  refine V_iload dX11_steps_43 rfl ?_
  refine V_bipush dX11_steps_45 (by decide) ?_
  obtain ⟨r1, h⟩ := h
  refine V_icmp_gt (tgt := 77) dX11_steps_47 rfl r1 (by decide) (fun q => ?_) (fun q => ?_)
  · replace h := h.1 q
    refine V_iconst dX11_steps_77 ?_
    exact V_ireturn (stk := []) rfl dX11_steps_78 h
  · replace h := h.2 q
    refine V_iload dX11_steps_50 rfl ?_
    refine V_iload_n dX11_steps_52 rfl rfl ?_
    refine V_iand dX11_steps_53 ?_
    refine V_if_eq (tgt := 60) dX11_steps_54 rfl (rng_of _) (fun q => ?_) (fun q => ?_)
    · replace h := h.1 q
      refine V_aload_n dX11_steps_60 rfl rfl ?_
      obtain ⟨r2, h⟩ := h
      refine V_getM (k2 := 5) flX11_19 rfl (r2) (by decide) dX11_steps_61 ?_
      refine V_iload dX11_steps_64 rfl ?_
      refine V_callV (av := [vi x4]) (stk := []) cvX11_273 rfl rfl rfl (by decide) (by simp [ctg]) dX11_steps_66 h ?_
      rintro _ σ1 ⟨z1, rfl, h⟩
      refine V_istore (L' := [some (vr 0), none, none, some (vi x3), some (vi z1), some (vi x5)]) dX11_steps_69 (by decide) rfl ?_
      refine V_iinc (L' := [some (vr 0), none, none, some (vi x3), some (vi z1), some (vi (x5 + 1))]) dX11_steps_71 rfl (by decide) rfl ?_
      refine V_goto (tgt := 43) dX11_steps_74 rfl ?_
      exact V.sub (SubL_s (SubL_n (SubL_n (SubL_s (SubL_s (SubL_s (SubL_0))))))) h
    · replace h := h.2 q
      refine V_iload dX11_steps_57 rfl ?_
      exact V_ireturn (stk := []) rfl dX11_steps_59 h

set_option maxRecDepth 100000 in
theorem BX11_finds_0 {σ : Sg} {post : Po} {x1 : Int} {x2 : Int} 
  (h : ((σ 0 1) = 5) ∧ (Cl mX0_hasHead [vr 5, vi x1] σ (pI fun z1 σ1 => (rng z1) ∧ ((¬ z1 = 0 → (rng x2) ∧ ((x2 < 0 → post (some (vi (-1002))) σ1) ∧ (¬ x2 < 0 → (x2 ≤ 9 → V mX11_finds 36 [some (vr 0), none, some (vi x2), some (vi (iShl 1 x1)), some (vi 0)] [] σ1 post) ∧ (¬ x2 ≤ 9 → post (some (vi (-1002))) σ1)))) ∧ (z1 = 0 → post (some (vi (-1001))) σ1))))) :
  V mX11_finds 0 [some (vr 0), some (vi x1), some (vi x2), none, none] [] σ post := by
  refine V_aload_n dX11_finds_0 rfl rfl ?_
  obtain ⟨r1, h⟩ := h
  refine V_getM (k2 := 5) flX11_19 rfl (r1) (by decide) dX11_finds_1 ?_
  refine V_iload_n dX11_finds_4 rfl rfl ?_
  refine V_callV (av := [vi x1]) (stk := []) cvX11_152 rfl rfl rfl (by decide) (by simp [ctg]) dX11_finds_5 h ?_
  rintro _ σ1 ⟨z1, rfl, h⟩
  obtain ⟨r2, h⟩ := h
  refine V_if_ne (tgt := 15) dX11_finds_8 rfl r2 (fun q => ?_) (fun q => ?_)
  · replace h := h.1 q
    refine V_iload_n dX11_finds_15 rfl rfl ?_
    obtain ⟨r3, h⟩ := h
    refine V_if_lt (tgt := 25) dX11_finds_16 rfl r3 (fun q => ?_) (fun q => ?_)
    · replace h := h.1 q
      refine V_sipush dX11_finds_25 (by decide) ?_
      exact V_ireturn (stk := []) rfl dX11_finds_28 h
    · replace h := h.2 q
      refine V_iload_n dX11_finds_19 rfl rfl ?_
      refine V_bipush dX11_finds_20 (by decide) ?_
      refine V_icmp_le (tgt := 29) dX11_finds_22 rfl r3 (by decide) (fun q => ?_) (fun q => ?_)
      · replace h := h.1 q
        refine V_iconst dX11_finds_29 ?_
        refine V_iload_n dX11_finds_30 rfl rfl ?_
        refine V_ishl dX11_finds_31 ?_
        refine V_istore_n (L' := [some (vr 0), some (vi x1), some (vi x2), some (vi (iShl 1 x1)), none]) dX11_finds_32 rfl (by decide) rfl ?_
        refine V_iconst dX11_finds_33 ?_
        refine V_istore (L' := [some (vr 0), some (vi x1), some (vi x2), some (vi (iShl 1 x1)), some (vi 0)]) dX11_finds_34 (by decide) rfl ?_
        exact V.sub (SubL_s (SubL_n (SubL_s (SubL_s (SubL_s (SubL_0)))))) h
      · replace h := h.2 q
        refine V_sipush dX11_finds_25 (by decide) ?_
        exact V_ireturn (stk := []) rfl dX11_finds_28 h
  · replace h := h.2 q
    refine V_sipush dX11_finds_11 (by decide) ?_
    exact V_ireturn (stk := []) rfl dX11_finds_14 h
set_option maxRecDepth 100000 in
theorem BX11_finds_36 {σ : Sg} {post : Po} {x2 : Int} {x3 : Int} {x4 : Int} 
  (h : (rng x4) ∧ ((rng x2) ∧ ((x2 ≤ x4 → ((σ 0 1) = 5) ∧ (Cl mX2_gather [vr 78, vr 5] σ (pV fun σ1 => Cl mX2_sizeOf [vr 78, vi x3] σ1 (pI fun z2 σ2 => post (some (vi z2)) σ2)))) ∧ (¬ x2 ≤ x4 → ((σ 0 1) = 5) ∧ (Cl mX0_oneStepOn [vr 5, vi x3] σ (pI fun z3 σ3 => V mX11_finds 36 [some (vr 0), none, some (vi x2), some (vi z3), some (vi (x4 + 1))] [] σ3 post)))))) :
  V mX11_finds 36 [some (vr 0), none, some (vi x2), some (vi x3), some (vi x4)] [] σ post := by
  refine V_iload dX11_finds_36 rfl ?_
  refine V_iload_n dX11_finds_38 rfl rfl ?_
  obtain ⟨r1, h⟩ := h
  obtain ⟨r2, h⟩ := h
  refine V_icmp_ge (tgt := 57) dX11_finds_39 rfl r1 r2 (fun q => ?_) (fun q => ?_)
  · replace h := h.1 q
    refine V_aload_n dX11_finds_57 rfl rfl ?_
    refine V_getR (k2 := 78) flX11_74 rfl rfl (by decide) dX11_finds_58 ?_
    refine V_aload_n dX11_finds_61 rfl rfl ?_
    obtain ⟨r3, h⟩ := h
    refine V_getM (k2 := 5) flX11_19 rfl (r3) (by decide) dX11_finds_62 ?_
    refine V_callV (av := [vr 5]) (stk := []) cvX11_276 rfl rfl rfl (by decide) (by simp [ctg]) dX11_finds_65 h ?_
    rintro _ σ1 ⟨rfl, h⟩
    refine V_aload_n dX11_finds_68 rfl rfl ?_
    refine V_getR (k2 := 78) flX11_74 rfl rfl (by decide) dX11_finds_69 ?_
    refine V_iload_n dX11_finds_72 rfl rfl ?_
    refine V_callV (av := [vi x3]) (stk := []) cvX11_280 rfl rfl rfl (by decide) (by simp [ctg]) dX11_finds_73 h ?_
    rintro _ σ2 ⟨z2, rfl, h⟩
    exact V_ireturn (stk := []) rfl dX11_finds_76 h
  · replace h := h.2 q
    refine V_aload_n dX11_finds_42 rfl rfl ?_
    obtain ⟨r4, h⟩ := h
    refine V_getM (k2 := 5) flX11_19 rfl (r4) (by decide) dX11_finds_43 ?_
    refine V_iload_n dX11_finds_46 rfl rfl ?_
    refine V_callV (av := [vi x3]) (stk := []) cvX11_273 rfl rfl rfl (by decide) (by simp [ctg]) dX11_finds_47 h ?_
    rintro _ σ3 ⟨z3, rfl, h⟩
    refine V_istore_n (L' := [some (vr 0), none, some (vi x2), some (vi z3), some (vi x4)]) dX11_finds_50 rfl (by decide) rfl ?_
    refine V_iinc (L' := [some (vr 0), none, some (vi x2), some (vi z3), some (vi (x4 + 1))]) dX11_finds_51 rfl (by decide) rfl ?_
    refine V_goto (tgt := 36) dX11_finds_54 rfl ?_
    exact V.sub (SubL_s (SubL_n (SubL_s (SubL_s (SubL_s (SubL_0)))))) h

set_option maxRecDepth 100000 in
theorem BX11_trouble_0 {σ : Sg} {post : Po} {x1 : Int} {x2 : Int} 
  (h : (rng x1) ∧ ((x1 < 0 → post (some (vi (-1002))) σ) ∧ (¬ x1 < 0 → (6 < x1 → post (some (vi (-1002))) σ) ∧ (¬ 6 < x1 → (rng x2) ∧ ((x2 < 0 → post (some (vi (-1002))) σ) ∧ (¬ x2 < 0 → (x2 ≤ 20 → ((σ 0 1) = 5) ∧ (Cl mX2_gather [vr 78, vr 5] σ (pV fun σ1 => ((σ1 0 1) = 5) ∧ (Cl mX0_filledHeads [vr 5] σ1 (pI fun z2 σ2 => V mX11_trouble 49 [some (vr 0), some (vi x1), some (vi x2), some (vi z2), some (vi 0), some (vi 0)] [] σ2 post))))) ∧ (¬ x2 ≤ 20 → post (some (vi (-1002))) σ))))))) :
  V mX11_trouble 0 [some (vr 0), some (vi x1), some (vi x2), none, none, none] [] σ post := by
  refine V_iload_n dX11_trouble_0 rfl rfl ?_
  obtain ⟨r1, h⟩ := h
  refine V_if_lt (tgt := 20) dX11_trouble_1 rfl r1 (fun q => ?_) (fun q => ?_)
  · replace h := h.1 q
    refine V_sipush dX11_trouble_20 (by decide) ?_
    exact V_ireturn (stk := []) rfl dX11_trouble_23 h
  · replace h := h.2 q
    refine V_iload_n dX11_trouble_4 rfl rfl ?_
    refine V_bipush dX11_trouble_5 (by decide) ?_
    refine V_icmp_gt (tgt := 20) dX11_trouble_7 rfl r1 (by decide) (fun q => ?_) (fun q => ?_)
    · replace h := h.1 q
      refine V_sipush dX11_trouble_20 (by decide) ?_
      exact V_ireturn (stk := []) rfl dX11_trouble_23 h
    · replace h := h.2 q
      refine V_iload_n dX11_trouble_10 rfl rfl ?_
      obtain ⟨r2, h⟩ := h
      refine V_if_lt (tgt := 20) dX11_trouble_11 rfl r2 (fun q => ?_) (fun q => ?_)
      · replace h := h.1 q
        refine V_sipush dX11_trouble_20 (by decide) ?_
        exact V_ireturn (stk := []) rfl dX11_trouble_23 h
      · replace h := h.2 q
        refine V_iload_n dX11_trouble_14 rfl rfl ?_
        refine V_bipush dX11_trouble_15 (by decide) ?_
        refine V_icmp_le (tgt := 24) dX11_trouble_17 rfl r2 (by decide) (fun q => ?_) (fun q => ?_)
        · replace h := h.1 q
          refine V_aload_n dX11_trouble_24 rfl rfl ?_
          refine V_getR (k2 := 78) flX11_74 rfl rfl (by decide) dX11_trouble_25 ?_
          refine V_aload_n dX11_trouble_28 rfl rfl ?_
          obtain ⟨r3, h⟩ := h
          refine V_getM (k2 := 5) flX11_19 rfl (r3) (by decide) dX11_trouble_29 ?_
          refine V_callV (av := [vr 5]) (stk := []) cvX11_276 rfl rfl rfl (by decide) (by simp [ctg]) dX11_trouble_32 h ?_
          rintro _ σ1 ⟨rfl, h⟩
          refine V_aload_n dX11_trouble_35 rfl rfl ?_
          obtain ⟨r4, h⟩ := h
          refine V_getM (k2 := 5) flX11_19 rfl (r4) (by decide) dX11_trouble_36 ?_
          refine V_callV (av := []) (stk := []) cvX11_142 rfl rfl rfl (by decide) (by simp [ctg]) dX11_trouble_39 h ?_
          rintro _ σ2 ⟨z2, rfl, h⟩
          refine V_istore_n (L' := [some (vr 0), some (vi x1), some (vi x2), some (vi z2), none, none]) dX11_trouble_42 rfl (by decide) rfl ?_
          refine V_iconst dX11_trouble_43 ?_
          refine V_istore (L' := [some (vr 0), some (vi x1), some (vi x2), some (vi z2), some (vi 0), none]) dX11_trouble_44 (by decide) rfl ?_
          refine V_iconst dX11_trouble_46 ?_
          refine V_istore (L' := [some (vr 0), some (vi x1), some (vi x2), some (vi z2), some (vi 0), some (vi 0)]) dX11_trouble_47 (by decide) rfl ?_
          exact V.sub (SubL_s (SubL_s (SubL_s (SubL_s (SubL_s (SubL_s (SubL_0))))))) h
        · replace h := h.2 q
          refine V_sipush dX11_trouble_20 (by decide) ?_
          exact V_ireturn (stk := []) rfl dX11_trouble_23 h
set_option maxRecDepth 100000 in
theorem BX11_trouble_49 {σ : Sg} {post : Po} {x1 : Int} {x2 : Int} {x3 : Int} {x4 : Int} {x5 : Int} 
  (h : ((σ 0 1) = 5) ∧ ((rng x5) ∧ ((rng (σ 5 0)) ∧ (((σ 5 0) ≤ x5 → post (some (vi x4)) σ) ∧ (¬ (σ 5 0) ≤ x5 → Cl mX11_hasTrouble [vr 0, vi x1, vi x2, vi x5, vi x3] σ (pI fun z1 σ1 => (rng z1) ∧ ((z1 = 0 → V mX11_trouble 49 [some (vr 0), some (vi x1), some (vi x2), some (vi x3), some (vi x4), some (vi (x5 + 1))] [] σ1 post) ∧ (¬ z1 = 0 → V mX11_trouble 49 [some (vr 0), some (vi x1), some (vi x2), some (vi x3), some (vi (iOr x4 (iShl 1 x5))), some (vi (x5 + 1))] [] σ1 post)))))))) :
  V mX11_trouble 49 [some (vr 0), some (vi x1), some (vi x2), some (vi x3), some (vi x4), some (vi x5)] [] σ post := by
  refine V_iload dX11_trouble_49 rfl ?_
  refine V_aload_n dX11_trouble_51 rfl rfl ?_
  obtain ⟨r1, h⟩ := h
  refine V_getM (k2 := 5) flX11_19 rfl (r1) (by decide) dX11_trouble_52 ?_
  refine V_getI (f := (σ 5 0)) flX11_123 rfl (rfl) (by decide) dX11_trouble_55 ?_
  obtain ⟨r2, h⟩ := h
  obtain ⟨r3, h⟩ := h
  refine V_icmp_ge (tgt := 88) dX11_trouble_58 rfl r2 r3 (fun q => ?_) (fun q => ?_)
  · replace h := h.1 q
    refine V_iload dX11_trouble_88 rfl ?_
    exact V_ireturn (stk := []) rfl dX11_trouble_90 h
  · replace h := h.2 q
    refine V_aload_n dX11_trouble_61 rfl rfl ?_
    refine V_iload_n dX11_trouble_62 rfl rfl ?_
    refine V_iload_n dX11_trouble_63 rfl rfl ?_
    refine V_iload dX11_trouble_64 rfl ?_
    refine V_iload_n dX11_trouble_66 rfl rfl ?_
    refine V_callV (av := [vi x1, vi x2, vi x5, vi x3]) (stk := []) cvX11_283 rfl rfl rfl (by decide) (by simp [ctg]) dX11_trouble_67 h ?_
    rintro _ σ1 ⟨z1, rfl, h⟩
    obtain ⟨r4, h⟩ := h
    refine V_if_eq (tgt := 82) dX11_trouble_70 rfl r4 (fun q => ?_) (fun q => ?_)
    · replace h := h.1 q
      refine V_iinc (L' := [some (vr 0), some (vi x1), some (vi x2), some (vi x3), some (vi x4), some (vi (x5 + 1))]) dX11_trouble_82 rfl (by decide) rfl ?_
      refine V_goto (tgt := 49) dX11_trouble_85 rfl ?_
      exact V.sub (SubL_s (SubL_s (SubL_s (SubL_s (SubL_s (SubL_s (SubL_0))))))) h
    · replace h := h.2 q
      refine V_iload dX11_trouble_73 rfl ?_
      refine V_iconst dX11_trouble_75 ?_
      refine V_iload dX11_trouble_76 rfl ?_
      refine V_ishl dX11_trouble_78 ?_
      refine V_ior dX11_trouble_79 ?_
      refine V_istore (L' := [some (vr 0), some (vi x1), some (vi x2), some (vi x3), some (vi (iOr x4 (iShl 1 x5))), some (vi x5)]) dX11_trouble_80 (by decide) rfl ?_
      refine V_iinc (L' := [some (vr 0), some (vi x1), some (vi x2), some (vi x3), some (vi (iOr x4 (iShl 1 x5))), some (vi (x5 + 1))]) dX11_trouble_82 rfl (by decide) rfl ?_
      refine V_goto (tgt := 49) dX11_trouble_85 rfl ?_
      exact V.sub (SubL_s (SubL_s (SubL_s (SubL_s (SubL_s (SubL_s (SubL_0))))))) h

set_option maxRecDepth 100000 in
theorem BX11_hasTrouble_0 {σ : Sg} {post : Po} {x1 : Int} {x2 : Int} {x3 : Int} {x4 : Int} 
  (h : Cl mX11_isIn [vi x4, vi x3] σ (pI fun z1 σ1 => (rng x1) ∧ ((x1 < 0 ∨ 5 < x1 → (rng z1) ∧ ((z1 = 0 → post (some (vi 0)) σ1) ∧ (¬ z1 = 0 → ((σ1 0 1) = 5) ∧ (Cl mX2_hasTwin [vr 78, vi x3, vi (σ1 5 0)] σ1 (pI fun z2 σ2 => (rng z2) ∧ ((z2 = 0 → post (some (vi 0)) σ2) ∧ (¬ z2 = 0 → post (some (vi 1)) σ2))))))) ∧ (x1 = 0 → (rng z1) ∧ ((¬ z1 = 0 → post (some (vi 0)) σ1) ∧ (z1 = 0 → ((σ1 0 1) = 5) ∧ (Cl mX0_stepsToFilled [vr 5, vi x3, vi x4] σ1 (pI fun z3 σ3 => (rng z3) ∧ ((¬ z3 = (-1) → post (some (vi 0)) σ3) ∧ (z3 = (-1) → post (some (vi 1)) σ3))))))) ∧ (x1 = 1 → ((σ1 0 1) = 5) ∧ (Cl mX0_goesRound [vr 5, vi x3] σ1 (pI fun z4 σ4 => (z4 = 0 ∨ z4 = 1) ∧ (post (some (vi z4)) σ4)))) ∧ (x1 = 2 → (rng z1) ∧ ((z1 = 0 → post (some (vi 0)) σ1) ∧ (¬ z1 = 0 → ((σ1 0 1) = 5) ∧ ((0 ≤ x3 ∧ x3 < 16) ∧ ((rng (σ1 9 x3)) ∧ (((σ1 9 x3) = (-1) → post (some (vi 0)) σ1) ∧ (¬ (σ1 9 x3) = (-1) → post (some (vi 1)) σ1))))))) ∧ (x1 = 3 → ((σ1 0 1) = 5) ∧ (Cl mX0_gatherRuns [vr 5, vi x3, vi (-1), vr 70] σ1 (pV fun σ5 => (rng (σ5 70 0)) ∧ ((rng x2) ∧ (((σ5 70 0) ≤ x2 → post (some (vi 0)) σ5) ∧ (¬ (σ5 70 0) ≤ x2 → ((σ5 0 1) = 5) ∧ (Cl mX0_markedSubs [vr 5, vi x3] σ5 (pI fun z6 σ6 => (rng z6) ∧ ((¬ z6 = 0 → post (some (vi 0)) σ6) ∧ (z6 = 0 → post (some (vi 1)) σ6)))))))))) ∧ (x1 = 4 → ((σ1 0 1) = 5) ∧ (Cl mX0_markedSubs [vr 5, vi x3] σ1 (pI fun z7 σ7 => Cl mJ6_bitCount_0f7a4 [vi z7] σ7 (pI fun z8 σ8 => (rng z8) ∧ ((¬ z8 = 1 → post (some (vi 0)) σ8) ∧ (z8 = 1 → post (some (vi 1)) σ8)))))) ∧ (x1 = 5 → ((σ1 0 1) = 5) ∧ ((0 ≤ x3 ∧ x3 < 16) ∧ (((iAnd (σ1 10 x3) (iXor x4 (-1))) = 0 → post (some (vi 0)) σ1) ∧ (¬ (iAnd (σ1 10 x3) (iXor x4 (-1))) = 0 → post (some (vi 1)) σ1))))))) :
  V mX11_hasTrouble 0 [some (vr 0), some (vi x1), some (vi x2), some (vi x3), some (vi x4), none] [] σ post := by
  refine V_iload dX11_hasTrouble_0 rfl ?_
  refine V_iload_n dX11_hasTrouble_2 rfl rfl ?_
  refine V_callS (av := [vi x4, vi x3]) (stk := []) cvX11_173 rfl rfl (by decide) (by simp [ctg]) dX11_hasTrouble_3 h ?_
  rintro _ σ1 ⟨z1, rfl, h⟩
  refine V_istore (L' := [some (vr 0), some (vi x1), some (vi x2), some (vi x3), some (vi x4), some (vi z1)]) dX11_hasTrouble_6 (by decide) rfl ?_
  refine V_iload_n dX11_hasTrouble_8 rfl rfl ?_
  obtain ⟨r1, h⟩ := h
  refine V_tsw (dt := 191) dX11_hasTrouble_9 r1 rfl rfl (fun q => ?_) (fun j off tgt hx ho ht hp => ?_) (by decide)
  · replace h := h.1 q
    refine V_iload dX11_hasTrouble_191 rfl ?_
    obtain ⟨r2, h⟩ := h
    refine V_if_eq (tgt := 218) dX11_hasTrouble_193 rfl r2 (fun q => ?_) (fun q => ?_)
    · replace h := h.1 q
      refine V_iconst dX11_hasTrouble_218 ?_
      exact V_zreturn (stk := []) rfl dX11_hasTrouble_219 (by decide) h
    · replace h := h.2 q
      refine V_aload_n dX11_hasTrouble_196 rfl rfl ?_
      refine V_getR (k2 := 78) flX11_74 rfl rfl (by decide) dX11_hasTrouble_197 ?_
      refine V_iload_n dX11_hasTrouble_200 rfl rfl ?_
      refine V_aload_n dX11_hasTrouble_201 rfl rfl ?_
      obtain ⟨r3, h⟩ := h
      refine V_getM (k2 := 5) flX11_19 rfl (r3) (by decide) dX11_hasTrouble_202 ?_
      refine V_getI (f := (σ1 5 0)) flX11_123 rfl (rfl) (by decide) dX11_hasTrouble_205 ?_
      refine V_callV (av := [vi x3, vi (σ1 5 0)]) (stk := []) cvX11_293 rfl rfl rfl (by decide) (by simp [ctg]) dX11_hasTrouble_208 h ?_
      rintro _ σ2 ⟨z2, rfl, h⟩
      obtain ⟨r4, h⟩ := h
      refine V_if_eq (tgt := 218) dX11_hasTrouble_211 rfl r4 (fun q => ?_) (fun q => ?_)
      · replace h := h.1 q
        refine V_iconst dX11_hasTrouble_218 ?_
        exact V_zreturn (stk := []) rfl dX11_hasTrouble_219 (by decide) h
      · replace h := h.2 q
        refine V_iconst dX11_hasTrouble_214 ?_
        refine V_goto (tgt := 219) dX11_hasTrouble_215 rfl ?_
        exact V_zreturn (stk := []) rfl dX11_hasTrouble_219 (by decide) h
  · rcases j with _ | _ | _ | _ | _ | _ | j
    · have e9 : off = 39 := (Option.some.inj (show some (39 : Int) = some off from ho)).symm
      subst e9
      obtain rfl : tgt = 48 := by omega
      replace h := h.2.1 (by omega)
      refine V_iload dX11_hasTrouble_48 rfl ?_
      obtain ⟨r5, h⟩ := h
      refine V_if_ne (tgt := 71) dX11_hasTrouble_50 rfl r5 (fun q => ?_) (fun q => ?_)
      · replace h := h.1 q
        refine V_iconst dX11_hasTrouble_71 ?_
        exact V_zreturn (stk := []) rfl dX11_hasTrouble_72 (by decide) h
      · replace h := h.2 q
        refine V_aload_n dX11_hasTrouble_53 rfl rfl ?_
        obtain ⟨r6, h⟩ := h
        refine V_getM (k2 := 5) flX11_19 rfl (r6) (by decide) dX11_hasTrouble_54 ?_
        refine V_iload_n dX11_hasTrouble_57 rfl rfl ?_
        refine V_iload dX11_hasTrouble_58 rfl ?_
        refine V_callV (av := [vi x3, vi x4]) (stk := []) cvX11_263 rfl rfl rfl (by decide) (by simp [ctg]) dX11_hasTrouble_60 h ?_
        rintro _ σ3 ⟨z3, rfl, h⟩
        refine V_iconst dX11_hasTrouble_63 ?_
        obtain ⟨r7, h⟩ := h
        refine V_icmp_ne (tgt := 71) dX11_hasTrouble_64 rfl r7 (by decide) (fun q => ?_) (fun q => ?_)
        · replace h := h.1 q
          refine V_iconst dX11_hasTrouble_71 ?_
          exact V_zreturn (stk := []) rfl dX11_hasTrouble_72 (by decide) h
        · replace h := h.2 q
          refine V_iconst dX11_hasTrouble_67 ?_
          refine V_goto (tgt := 72) dX11_hasTrouble_68 rfl ?_
          exact V_zreturn (stk := []) rfl dX11_hasTrouble_72 (by decide) h
    · have e9 : off = 64 := (Option.some.inj (show some (64 : Int) = some off from ho)).symm
      subst e9
      obtain rfl : tgt = 73 := by omega
      replace h := h.2.2.1 (by omega)
      refine V_aload_n dX11_hasTrouble_73 rfl rfl ?_
      obtain ⟨r8, h⟩ := h
      refine V_getM (k2 := 5) flX11_19 rfl (r8) (by decide) dX11_hasTrouble_74 ?_
      refine V_iload_n dX11_hasTrouble_77 rfl rfl ?_
      refine V_callV (av := [vi x3]) (stk := []) cvX11_287 rfl rfl rfl (by decide) (by simp [ctg]) dX11_hasTrouble_78 h ?_
      rintro _ σ4 ⟨z4, rfl, h⟩
      obtain ⟨r9, h⟩ := h
      exact V_zreturn (stk := []) rfl dX11_hasTrouble_81 r9 h
    · have e9 : off = 73 := (Option.some.inj (show some (73 : Int) = some off from ho)).symm
      subst e9
      obtain rfl : tgt = 82 := by omega
      replace h := h.2.2.2.1 (by omega)
      refine V_iload dX11_hasTrouble_82 rfl ?_
      obtain ⟨r10, h⟩ := h
      refine V_if_eq (tgt := 104) dX11_hasTrouble_84 rfl r10 (fun q => ?_) (fun q => ?_)
      · replace h := h.1 q
        refine V_iconst dX11_hasTrouble_104 ?_
        exact V_zreturn (stk := []) rfl dX11_hasTrouble_105 (by decide) h
      · replace h := h.2 q
        refine V_aload_n dX11_hasTrouble_87 rfl rfl ?_
        obtain ⟨r11, h⟩ := h
        refine V_getM (k2 := 5) flX11_19 rfl (r11) (by decide) dX11_hasTrouble_88 ?_
        refine V_getR (k2 := 9) flX11_164 rfl rfl (by decide) dX11_hasTrouble_91 ?_
        refine V_iload_n dX11_hasTrouble_94 rfl rfl ?_
        obtain ⟨r12, h⟩ := h
        refine V_iald (f := (σ1 9 x3)) (rfl : shp[9]? = some (1, 16, 0)) r12 (rfl) dX11_hasTrouble_95 ?_
        refine V_iconst dX11_hasTrouble_96 ?_
        obtain ⟨r13, h⟩ := h
        refine V_icmp_eq (tgt := 104) dX11_hasTrouble_97 rfl r13 (by decide) (fun q => ?_) (fun q => ?_)
        · replace h := h.1 q
          refine V_iconst dX11_hasTrouble_104 ?_
          exact V_zreturn (stk := []) rfl dX11_hasTrouble_105 (by decide) h
        · replace h := h.2 q
          refine V_iconst dX11_hasTrouble_100 ?_
          refine V_goto (tgt := 105) dX11_hasTrouble_101 rfl ?_
          exact V_zreturn (stk := []) rfl dX11_hasTrouble_105 (by decide) h
    · have e9 : off = 97 := (Option.some.inj (show some (97 : Int) = some off from ho)).symm
      subst e9
      obtain rfl : tgt = 106 := by omega
      replace h := h.2.2.2.2.1 (by omega)
      refine V_aload_n dX11_hasTrouble_106 rfl rfl ?_
      obtain ⟨r14, h⟩ := h
      refine V_getM (k2 := 5) flX11_19 rfl (r14) (by decide) dX11_hasTrouble_107 ?_
      refine V_iload_n dX11_hasTrouble_110 rfl rfl ?_
      refine V_iconst dX11_hasTrouble_111 ?_
      refine V_aload_n dX11_hasTrouble_112 rfl rfl ?_
      refine V_getR (k2 := 70) flX11_64 rfl rfl (by decide) dX11_hasTrouble_113 ?_
      refine V_callV (av := [vi x3, vi (-1), vr 70]) (stk := []) cvX11_159 rfl rfl rfl (by decide) (by simp [ctg]) dX11_hasTrouble_116 h ?_
      rintro _ σ5 ⟨rfl, h⟩
      refine V_aload_n dX11_hasTrouble_119 rfl rfl ?_
      refine V_getR (k2 := 70) flX11_64 rfl rfl (by decide) dX11_hasTrouble_120 ?_
      refine V_getI (f := (σ5 70 0)) flX11_163 rfl (rfl) (by decide) dX11_hasTrouble_123 ?_
      refine V_iload_n dX11_hasTrouble_126 rfl rfl ?_
      obtain ⟨r15, h⟩ := h
      obtain ⟨r16, h⟩ := h
      refine V_icmp_le (tgt := 145) dX11_hasTrouble_127 rfl r15 r16 (fun q => ?_) (fun q => ?_)
      · replace h := h.1 q
        refine V_iconst dX11_hasTrouble_145 ?_
        exact V_zreturn (stk := []) rfl dX11_hasTrouble_146 (by decide) h
      · replace h := h.2 q
        refine V_aload_n dX11_hasTrouble_130 rfl rfl ?_
        obtain ⟨r17, h⟩ := h
        refine V_getM (k2 := 5) flX11_19 rfl (r17) (by decide) dX11_hasTrouble_131 ?_
        refine V_iload_n dX11_hasTrouble_134 rfl rfl ?_
        refine V_callV (av := [vi x3]) (stk := []) cvX11_290 rfl rfl rfl (by decide) (by simp [ctg]) dX11_hasTrouble_135 h ?_
        rintro _ σ6 ⟨z6, rfl, h⟩
        obtain ⟨r18, h⟩ := h
        refine V_if_ne (tgt := 145) dX11_hasTrouble_138 rfl r18 (fun q => ?_) (fun q => ?_)
        · replace h := h.1 q
          refine V_iconst dX11_hasTrouble_145 ?_
          exact V_zreturn (stk := []) rfl dX11_hasTrouble_146 (by decide) h
        · replace h := h.2 q
          refine V_iconst dX11_hasTrouble_141 ?_
          refine V_goto (tgt := 146) dX11_hasTrouble_142 rfl ?_
          exact V_zreturn (stk := []) rfl dX11_hasTrouble_146 (by decide) h
    · have e9 : off = 138 := (Option.some.inj (show some (138 : Int) = some off from ho)).symm
      subst e9
      obtain rfl : tgt = 147 := by omega
      replace h := h.2.2.2.2.2.1 (by omega)
      refine V_aload_n dX11_hasTrouble_147 rfl rfl ?_
      obtain ⟨r19, h⟩ := h
      refine V_getM (k2 := 5) flX11_19 rfl (r19) (by decide) dX11_hasTrouble_148 ?_
      refine V_iload_n dX11_hasTrouble_151 rfl rfl ?_
      refine V_callV (av := [vi x3]) (stk := []) cvX11_290 rfl rfl rfl (by decide) (by simp [ctg]) dX11_hasTrouble_152 h ?_
      rintro _ σ7 ⟨z7, rfl, h⟩
      refine V_callS (av := [vi z7]) (stk := []) cvX11_146 rfl rfl (by decide) (by simp [ctg]) dX11_hasTrouble_155 h ?_
      rintro _ σ8 ⟨z8, rfl, h⟩
      refine V_iconst dX11_hasTrouble_158 ?_
      obtain ⟨r20, h⟩ := h
      refine V_icmp_ne (tgt := 166) dX11_hasTrouble_159 rfl r20 (by decide) (fun q => ?_) (fun q => ?_)
      · replace h := h.1 q
        refine V_iconst dX11_hasTrouble_166 ?_
        exact V_zreturn (stk := []) rfl dX11_hasTrouble_167 (by decide) h
      · replace h := h.2 q
        refine V_iconst dX11_hasTrouble_162 ?_
        refine V_goto (tgt := 167) dX11_hasTrouble_163 rfl ?_
        exact V_zreturn (stk := []) rfl dX11_hasTrouble_167 (by decide) h
    · have e9 : off = 159 := (Option.some.inj (show some (159 : Int) = some off from ho)).symm
      subst e9
      obtain rfl : tgt = 168 := by omega
      replace h := h.2.2.2.2.2.2 (by omega)
      refine V_aload_n dX11_hasTrouble_168 rfl rfl ?_
      obtain ⟨r21, h⟩ := h
      refine V_getM (k2 := 5) flX11_19 rfl (r21) (by decide) dX11_hasTrouble_169 ?_
      refine V_getR (k2 := 10) flX11_167 rfl rfl (by decide) dX11_hasTrouble_172 ?_
      refine V_iload_n dX11_hasTrouble_175 rfl rfl ?_
      obtain ⟨r22, h⟩ := h
      refine V_iald (f := (σ1 10 x3)) (rfl : shp[10]? = some (1, 16, 0)) r22 (rfl) dX11_hasTrouble_176 ?_
      refine V_iload dX11_hasTrouble_177 rfl ?_
      refine V_iconst dX11_hasTrouble_179 ?_
      refine V_ixor dX11_hasTrouble_180 ?_
      refine V_iand dX11_hasTrouble_181 ?_
      refine V_if_eq (tgt := 189) dX11_hasTrouble_182 rfl (rng_of _) (fun q => ?_) (fun q => ?_)
      · replace h := h.1 q
        refine V_iconst dX11_hasTrouble_189 ?_
        exact V_zreturn (stk := []) rfl dX11_hasTrouble_190 (by decide) h
      · replace h := h.2 q
        refine V_iconst dX11_hasTrouble_185 ?_
        refine V_goto (tgt := 190) dX11_hasTrouble_186 rfl ?_
        exact V_zreturn (stk := []) rfl dX11_hasTrouble_190 (by decide) h
    · exact absurd ho (by simp)

set_option maxRecDepth 100000 in
theorem BX11_posted_0 {σ : Sg} {post : Po} {x1 : Int} 
  (h : ((σ 0 1) = 5) ∧ (((iAnd x1 (iXor ((iShl 1 (σ 5 0)) - 1) (-1))) = 0 → Cl mX3_postable [vr 81, vr 5] σ (pI fun z1 σ1 => ((iAnd x1 (iXor z1 (-1))) = 0 → Cl mX11_printAll [vr 0] σ1 (pV fun σ2 => Cl mX8_clear [vr 67, vi (σ2 0 4)] σ2 (pV fun σ3 => ((σ3 0 1) = 5) ∧ (Cl mX0_filledHeads [vr 5] σ3 (pI fun z4 σ4 => V mX11_posted 75 [some (vr 0), some (vi x1), none, some (vi z4), some (vi 0), some (vi 0)] [] σ4 post))))) ∧ (¬ (iAnd x1 (iXor z1 (-1))) = 0 → post (some (vi (-1003))) σ1))) ∧ (¬ (iAnd x1 (iXor ((iShl 1 (σ 5 0)) - 1) (-1))) = 0 → post (some (vi (-1001))) σ))) :
  V mX11_posted 0 [some (vr 0), some (vi x1), none, none, none, none] [] σ post := by
  refine V_iconst dX11_posted_0 ?_
  refine V_aload_n dX11_posted_1 rfl rfl ?_
  obtain ⟨r1, h⟩ := h
  refine V_getM (k2 := 5) flX11_19 rfl (r1) (by decide) dX11_posted_2 ?_
  refine V_getI (f := (σ 5 0)) flX11_123 rfl (rfl) (by decide) dX11_posted_5 ?_
  refine V_ishl dX11_posted_8 ?_
  refine V_iconst dX11_posted_9 ?_
  refine V_isub dX11_posted_10 ?_
  refine V_istore_n (L' := [some (vr 0), some (vi x1), some (vi ((iShl 1 (σ 5 0)) - 1)), none, none, none]) dX11_posted_11 rfl (by decide) rfl ?_
  refine V_iload_n dX11_posted_12 rfl rfl ?_
  refine V_iload_n dX11_posted_13 rfl rfl ?_
  refine V_iconst dX11_posted_14 ?_
  refine V_ixor dX11_posted_15 ?_
  refine V_iand dX11_posted_16 ?_
  refine V_if_eq (tgt := 24) dX11_posted_17 rfl (rng_of _) (fun q => ?_) (fun q => ?_)
  · replace h := h.1 q
    refine V_iload_n dX11_posted_24 rfl rfl ?_
    refine V_aload_n dX11_posted_25 rfl rfl ?_
    refine V_getR (k2 := 81) flX11_81 rfl rfl (by decide) dX11_posted_26 ?_
    refine V_aload_n dX11_posted_29 rfl rfl ?_
    refine V_getM (k2 := 5) flX11_19 rfl (r1) (by decide) dX11_posted_30 ?_
    refine V_callV (av := [vr 5]) (stk := [vi x1]) cvX11_296 rfl rfl rfl (by decide) (by simp [ctg]) dX11_posted_33 h ?_
    rintro _ σ1 ⟨z1, rfl, h⟩
    refine V_iconst dX11_posted_36 ?_
    refine V_ixor dX11_posted_37 ?_
    refine V_iand dX11_posted_38 ?_
    refine V_if_eq (tgt := 46) dX11_posted_39 rfl (rng_of _) (fun q => ?_) (fun q => ?_)
    · replace h := h.1 q
      refine V_aload_n dX11_posted_46 rfl rfl ?_
      refine V_callV (av := []) (stk := []) cvX11_135 rfl rfl rfl (by decide) (by simp [ctg]) dX11_posted_47 h ?_
      rintro _ σ2 ⟨rfl, h⟩
      refine V_aload_n dX11_posted_50 rfl rfl ?_
      refine V_getR (k2 := 67) flX11_50 rfl rfl (by decide) dX11_posted_51 ?_
      refine V_aload_n dX11_posted_54 rfl rfl ?_
      refine V_getI (f := (σ2 0 4)) flX11_31 rfl (rfl) (by decide) dX11_posted_55 ?_
      refine V_callV (av := [vi (σ2 0 4)]) (stk := []) cvX11_256 rfl rfl rfl (by decide) (by simp [ctg]) dX11_posted_58 h ?_
      rintro _ σ3 ⟨rfl, h⟩
      refine V_aload_n dX11_posted_61 rfl rfl ?_
      obtain ⟨r2, h⟩ := h
      refine V_getM (k2 := 5) flX11_19 rfl (r2) (by decide) dX11_posted_62 ?_
      refine V_callV (av := []) (stk := []) cvX11_142 rfl rfl rfl (by decide) (by simp [ctg]) dX11_posted_65 h ?_
      rintro _ σ4 ⟨z4, rfl, h⟩
      refine V_istore_n (L' := [some (vr 0), some (vi x1), some (vi ((iShl 1 (σ 5 0)) - 1)), some (vi z4), none, none]) dX11_posted_68 rfl (by decide) rfl ?_
      refine V_iconst dX11_posted_69 ?_
      refine V_istore (L' := [some (vr 0), some (vi x1), some (vi ((iShl 1 (σ 5 0)) - 1)), some (vi z4), some (vi 0), none]) dX11_posted_70 (by decide) rfl ?_
      refine V_iconst dX11_posted_72 ?_
      refine V_istore (L' := [some (vr 0), some (vi x1), some (vi ((iShl 1 (σ 5 0)) - 1)), some (vi z4), some (vi 0), some (vi 0)]) dX11_posted_73 (by decide) rfl ?_
      exact V.sub (SubL_s (SubL_s (SubL_n (SubL_s (SubL_s (SubL_s (SubL_0))))))) h
    · replace h := h.2 q
      refine V_sipush dX11_posted_42 (by decide) ?_
      exact V_ireturn (stk := []) rfl dX11_posted_45 h
  · replace h := h.2 q
    refine V_sipush dX11_posted_20 (by decide) ?_
    exact V_ireturn (stk := []) rfl dX11_posted_23 h
set_option maxRecDepth 100000 in
theorem BX11_posted_75 {σ : Sg} {post : Po} {x1 : Int} {x3 : Int} {x4 : Int} {x5 : Int} 
  (h : ((σ 0 1) = 5) ∧ ((rng x5) ∧ ((rng (σ 5 0)) ∧ (((σ 5 0) ≤ x5 → post (some (vi x4)) σ) ∧ (¬ (σ 5 0) ≤ x5 → Cl mX11_isIn [vi x1, vi x5] σ (pI fun z1 σ1 => (rng z1) ∧ ((z1 = 0 → (0 ≤ x5 ∧ x5 < 16) ∧ (V mX11_posted 75 [some (vr 0), some (vi x1), none, some (vi x3), some (vi (x4 + (σ1 1 x5))), some (vi (x5 + 1))] [] σ1 post)) ∧ (¬ z1 = 0 → ((σ1 0 1) = 5) ∧ (Cl mX11_sourceOf [vr 0, vi x5, vi x3] σ1 (pI fun z2 σ2 => Cl mX4_setHead [vr 53, vr 67, vr 5, vi x5, vi z2, vi 0] σ2 (pI fun z3 σ3 => V mX11_posted 75 [some (vr 0), some (vi x1), none, some (vi x3), some (vi (x4 + z3)), some (vi (x5 + 1))] [] σ3 post))))))))))) :
  V mX11_posted 75 [some (vr 0), some (vi x1), none, some (vi x3), some (vi x4), some (vi x5)] [] σ post := by
  refine V_iload dX11_posted_75 rfl ?_
  refine V_aload_n dX11_posted_77 rfl rfl ?_
  obtain ⟨r1, h⟩ := h
  refine V_getM (k2 := 5) flX11_19 rfl (r1) (by decide) dX11_posted_78 ?_
  refine V_getI (f := (σ 5 0)) flX11_123 rfl (rfl) (by decide) dX11_posted_81 ?_
  obtain ⟨r2, h⟩ := h
  obtain ⟨r3, h⟩ := h
  refine V_icmp_ge (tgt := 142) dX11_posted_84 rfl r2 r3 (fun q => ?_) (fun q => ?_)
  · replace h := h.1 q
    refine V_iload dX11_posted_142 rfl ?_
    exact V_ireturn (stk := []) rfl dX11_posted_144 h
  · replace h := h.2 q
    refine V_iload dX11_posted_87 rfl ?_
    refine V_iload_n dX11_posted_89 rfl rfl ?_
    refine V_iload dX11_posted_90 rfl ?_
    refine V_callS (av := [vi x1, vi x5]) (stk := [vi x4]) cvX11_173 rfl rfl (by decide) (by simp [ctg]) dX11_posted_92 h ?_
    rintro _ σ1 ⟨z1, rfl, h⟩
    obtain ⟨r4, h⟩ := h
    refine V_if_eq (tgt := 126) dX11_posted_95 rfl r4 (fun q => ?_) (fun q => ?_)
    · replace h := h.1 q
      refine V_aload_n dX11_posted_126 rfl rfl ?_
      refine V_getR (k2 := 1) flX11_53 rfl rfl (by decide) dX11_posted_127 ?_
      refine V_iload dX11_posted_130 rfl ?_
      obtain ⟨r5, h⟩ := h
      refine V_iald (f := (σ1 1 x5)) (rfl : shp[1]? = some (1, 16, 0)) r5 (rfl) dX11_posted_132 ?_
      refine V_iadd dX11_posted_133 ?_
      refine V_istore (L' := [some (vr 0), some (vi x1), none, some (vi x3), some (vi (x4 + (σ1 1 x5))), some (vi x5)]) dX11_posted_134 (by decide) rfl ?_
      refine V_iinc (L' := [some (vr 0), some (vi x1), none, some (vi x3), some (vi (x4 + (σ1 1 x5))), some (vi (x5 + 1))]) dX11_posted_136 rfl (by decide) rfl ?_
      refine V_goto (tgt := 75) dX11_posted_139 rfl ?_
      exact V.sub (SubL_s (SubL_s (SubL_n (SubL_s (SubL_s (SubL_s (SubL_0))))))) h
    · replace h := h.2 q
      refine V_aload_n dX11_posted_98 rfl rfl ?_
      refine V_getR (k2 := 53) flX11_37 rfl rfl (by decide) dX11_posted_99 ?_
      refine V_aload_n dX11_posted_102 rfl rfl ?_
      refine V_getR (k2 := 67) flX11_50 rfl rfl (by decide) dX11_posted_103 ?_
      refine V_aload_n dX11_posted_106 rfl rfl ?_
      obtain ⟨r6, h⟩ := h
      refine V_getM (k2 := 5) flX11_19 rfl (r6) (by decide) dX11_posted_107 ?_
      refine V_iload dX11_posted_110 rfl ?_
      refine V_aload_n dX11_posted_112 rfl rfl ?_
      refine V_iload dX11_posted_113 rfl ?_
      refine V_iload_n dX11_posted_115 rfl rfl ?_
      refine V_callV (av := [vi x5, vi x3]) (stk := [vi x5, vr 5, vr 67, vr 53, vi x4]) cvX11_300 rfl rfl rfl (by decide) (by simp [ctg]) dX11_posted_116 h ?_
      rintro _ σ2 ⟨z2, rfl, h⟩
      refine V_iconst dX11_posted_119 ?_
      refine V_callV (av := [vr 67, vr 5, vi x5, vi z2, vi 0]) (stk := [vi x4]) cvX11_259 rfl rfl rfl (by decide) (by simp [ctg]) dX11_posted_120 h ?_
      rintro _ σ3 ⟨z3, rfl, h⟩
      refine V_goto (tgt := 133) dX11_posted_123 rfl ?_
      refine V_iadd dX11_posted_133 ?_
      refine V_istore (L' := [some (vr 0), some (vi x1), none, some (vi x3), some (vi (x4 + z3)), some (vi x5)]) dX11_posted_134 (by decide) rfl ?_
      refine V_iinc (L' := [some (vr 0), some (vi x1), none, some (vi x3), some (vi (x4 + z3)), some (vi (x5 + 1))]) dX11_posted_136 rfl (by decide) rfl ?_
      refine V_goto (tgt := 75) dX11_posted_139 rfl ?_
      exact V.sub (SubL_s (SubL_s (SubL_n (SubL_s (SubL_s (SubL_s (SubL_0))))))) h

set_option maxRecDepth 100000 in
theorem BX11_sourceOf_0 {σ : Sg} {post : Po} {x1 : Int} {x2 : Int} 
  (h : ((σ 0 1) = 5) ∧ (Cl mX0_stepsToFilled [vr 5, vi x1, vi x2] σ (pI fun z1 σ1 => Cl mX0_headAfter [vr 5, vi x1, vi z1] σ1 (pI fun z2 σ2 => post (some (vi z2)) σ2)))) :
  V mX11_sourceOf 0 [some (vr 0), some (vi x1), some (vi x2)] [] σ post := by
  refine V_aload_n dX11_sourceOf_0 rfl rfl ?_
  obtain ⟨r1, h⟩ := h
  refine V_getM (k2 := 5) flX11_19 rfl (r1) (by decide) dX11_sourceOf_1 ?_
  refine V_iload_n dX11_sourceOf_4 rfl rfl ?_
  refine V_aload_n dX11_sourceOf_5 rfl rfl ?_
  refine V_getM (k2 := 5) flX11_19 rfl (r1) (by decide) dX11_sourceOf_6 ?_
  refine V_iload_n dX11_sourceOf_9 rfl rfl ?_
  refine V_iload_n dX11_sourceOf_10 rfl rfl ?_
  refine V_callV (av := [vi x1, vi x2]) (stk := [vi x1, vr 5]) cvX11_263 rfl rfl rfl (by decide) (by simp [ctg]) dX11_sourceOf_11 h ?_
  rintro _ σ1 ⟨z1, rfl, h⟩
  refine V_callV (av := [vi x1, vi z1]) (stk := []) cvX11_267 rfl rfl rfl (by decide) (by simp [ctg]) dX11_sourceOf_14 h ?_
  rintro _ σ2 ⟨z2, rfl, h⟩
  exact V_ireturn (stk := []) rfl dX11_sourceOf_17 h

set_option maxRecDepth 100000 in
theorem BX11_posting_0 {σ : Sg} {post : Po} {x1 : Int} {x2 : Int} 
  (h : (rng x1) ∧ ((x1 < 0 → post (some (vi (-1002))) σ) ∧ (¬ x1 < 0 → (999 < x1 → post (some (vi (-1002))) σ) ∧ (¬ 999 < x1 → (rng x2) ∧ ((x2 < 0 → post (some (vi (-1002))) σ) ∧ (¬ x2 < 0 → (x2 ≤ 2 → Cl mX11_printAll [vr 0] σ (pV fun σ1 => (rng (σ1 64 2)) ∧ (((σ1 64 2) ≤ x1 → Cl mX11_offerPosts [vr 0] σ1 (pV fun σ2 => Cl mX3_choose [vr 81, vi (σ2 64 2), vi x1] σ2 (pV fun σ3 => (¬ x2 = 0 → (¬ x2 = 1 → post (some (vi (σ3 81 2))) σ3) ∧ (x2 = 1 → post (some (vi (σ3 81 1))) σ3)) ∧ (x2 = 0 → post (some (vi (σ3 81 0))) σ3)))) ∧ (¬ (σ1 64 2) ≤ x1 → post (some (vi (-1))) σ1)))) ∧ (¬ x2 ≤ 2 → post (some (vi (-1002))) σ))))))) :
  V mX11_posting 0 [some (vr 0), some (vi x1), some (vi x2)] [] σ post := by
  refine V_iload_n dX11_posting_0 rfl rfl ?_
  obtain ⟨r1, h⟩ := h
  refine V_if_lt (tgt := 20) dX11_posting_1 rfl r1 (fun q => ?_) (fun q => ?_)
  · replace h := h.1 q
    refine V_sipush dX11_posting_20 (by decide) ?_
    exact V_ireturn (stk := []) rfl dX11_posting_23 h
  · replace h := h.2 q
    refine V_iload_n dX11_posting_4 rfl rfl ?_
    refine V_sipush dX11_posting_5 (by decide) ?_
    refine V_icmp_gt (tgt := 20) dX11_posting_8 rfl r1 (by decide) (fun q => ?_) (fun q => ?_)
    · replace h := h.1 q
      refine V_sipush dX11_posting_20 (by decide) ?_
      exact V_ireturn (stk := []) rfl dX11_posting_23 h
    · replace h := h.2 q
      refine V_iload_n dX11_posting_11 rfl rfl ?_
      obtain ⟨r2, h⟩ := h
      refine V_if_lt (tgt := 20) dX11_posting_12 rfl r2 (fun q => ?_) (fun q => ?_)
      · replace h := h.1 q
        refine V_sipush dX11_posting_20 (by decide) ?_
        exact V_ireturn (stk := []) rfl dX11_posting_23 h
      · replace h := h.2 q
        refine V_iload_n dX11_posting_15 rfl rfl ?_
        refine V_iconst dX11_posting_16 ?_
        refine V_icmp_le (tgt := 24) dX11_posting_17 rfl r2 (by decide) (fun q => ?_) (fun q => ?_)
        · replace h := h.1 q
          refine V_aload_n dX11_posting_24 rfl rfl ?_
          refine V_callV (av := []) (stk := []) cvX11_135 rfl rfl rfl (by decide) (by simp [ctg]) dX11_posting_25 h ?_
          rintro _ σ1 ⟨rfl, h⟩
          refine V_aload_n dX11_posting_28 rfl rfl ?_
          refine V_getR (k2 := 64) flX11_46 rfl rfl (by decide) dX11_posting_29 ?_
          refine V_getI (f := (σ1 64 2)) flX11_138 rfl (rfl) (by decide) dX11_posting_32 ?_
          refine V_iload_n dX11_posting_35 rfl rfl ?_
          obtain ⟨r3, h⟩ := h
          refine V_icmp_le (tgt := 41) dX11_posting_36 rfl r3 r1 (fun q => ?_) (fun q => ?_)
          · replace h := h.1 q
            refine V_aload_n dX11_posting_41 rfl rfl ?_
            refine V_callV (av := []) (stk := []) cvX11_303 rfl rfl rfl (by decide) (by simp [ctg]) dX11_posting_42 h ?_
            rintro _ σ2 ⟨rfl, h⟩
            refine V_aload_n dX11_posting_45 rfl rfl ?_
            refine V_getR (k2 := 81) flX11_81 rfl rfl (by decide) dX11_posting_46 ?_
            refine V_aload_n dX11_posting_49 rfl rfl ?_
            refine V_getR (k2 := 64) flX11_46 rfl rfl (by decide) dX11_posting_50 ?_
            refine V_getI (f := (σ2 64 2)) flX11_138 rfl (rfl) (by decide) dX11_posting_53 ?_
            refine V_iload_n dX11_posting_56 rfl rfl ?_
            refine V_callV (av := [vi (σ2 64 2), vi x1]) (stk := []) cvX11_306 rfl rfl rfl (by decide) (by simp [ctg]) dX11_posting_57 h ?_
            rintro _ σ3 ⟨rfl, h⟩
            refine V_iload_n dX11_posting_60 rfl rfl ?_
            refine V_if_ne (tgt := 72) dX11_posting_61 rfl r2 (fun q => ?_) (fun q => ?_)
            · replace h := h.1 q
              refine V_iload_n dX11_posting_72 rfl rfl ?_
              refine V_iconst dX11_posting_73 ?_
              refine V_icmp_ne (tgt := 87) dX11_posting_74 rfl r2 (by decide) (fun q => ?_) (fun q => ?_)
              · replace h := h.1 q
                refine V_aload_n dX11_posting_87 rfl rfl ?_
                refine V_getR (k2 := 81) flX11_81 rfl rfl (by decide) dX11_posting_88 ?_
                refine V_getI (f := (σ3 81 2)) flX11_316 rfl (rfl) (by decide) dX11_posting_91 ?_
                exact V_ireturn (stk := []) rfl dX11_posting_94 h
              · replace h := h.2 q
                refine V_aload_n dX11_posting_77 rfl rfl ?_
                refine V_getR (k2 := 81) flX11_81 rfl rfl (by decide) dX11_posting_78 ?_
                refine V_getI (f := (σ3 81 1)) flX11_313 rfl (rfl) (by decide) dX11_posting_81 ?_
                refine V_goto (tgt := 94) dX11_posting_84 rfl ?_
                exact V_ireturn (stk := []) rfl dX11_posting_94 h
            · replace h := h.2 q
              refine V_aload_n dX11_posting_64 rfl rfl ?_
              refine V_getR (k2 := 81) flX11_81 rfl rfl (by decide) dX11_posting_65 ?_
              refine V_getI (f := (σ3 81 0)) flX11_310 rfl (rfl) (by decide) dX11_posting_68 ?_
              exact V_ireturn (stk := []) rfl dX11_posting_71 h
          · replace h := h.2 q
            refine V_iconst dX11_posting_39 ?_
            exact V_ireturn (stk := []) rfl dX11_posting_40 h
        · replace h := h.2 q
          refine V_sipush dX11_posting_20 (by decide) ?_
          exact V_ireturn (stk := []) rfl dX11_posting_23 h

set_option maxRecDepth 100000 in
theorem BX11_offerPosts_0 {σ : Sg} {post : Po}  
  (h : ((σ 0 1) = 5) ∧ (Cl mX0_filledHeads [vr 5] σ (pI fun z1 σ1 => ((σ1 0 1) = 5) ∧ (Cl mX3_postable [vr 81, vr 5] σ1 (pI fun z2 σ2 => Cl mX8_clear [vr 67, vi (σ2 0 4)] σ2 (pV fun σ3 => Cl mX3_clear [vr 81] σ3 (pV fun σ4 => V mX11_offerPosts 40 [some (vr 0), some (vi z1), some (vi z2), some (vi 0), none, none] [] σ4 post))))))) :
  V mX11_offerPosts 0 [some (vr 0), none, none, none, none, none] [] σ post := by
  refine V_aload_n dX11_offerPosts_0 rfl rfl ?_
  obtain ⟨r1, h⟩ := h
  refine V_getM (k2 := 5) flX11_19 rfl (r1) (by decide) dX11_offerPosts_1 ?_
  refine V_callV (av := []) (stk := []) cvX11_142 rfl rfl rfl (by decide) (by simp [ctg]) dX11_offerPosts_4 h ?_
  rintro _ σ1 ⟨z1, rfl, h⟩
  refine V_istore_n (L' := [some (vr 0), some (vi z1), none, none, none, none]) dX11_offerPosts_7 rfl (by decide) rfl ?_
  refine V_aload_n dX11_offerPosts_8 rfl rfl ?_
  refine V_getR (k2 := 81) flX11_81 rfl rfl (by decide) dX11_offerPosts_9 ?_
  refine V_aload_n dX11_offerPosts_12 rfl rfl ?_
  obtain ⟨r2, h⟩ := h
  refine V_getM (k2 := 5) flX11_19 rfl (r2) (by decide) dX11_offerPosts_13 ?_
  refine V_callV (av := [vr 5]) (stk := []) cvX11_296 rfl rfl rfl (by decide) (by simp [ctg]) dX11_offerPosts_16 h ?_
  rintro _ σ2 ⟨z2, rfl, h⟩
  refine V_istore_n (L' := [some (vr 0), some (vi z1), some (vi z2), none, none, none]) dX11_offerPosts_19 rfl (by decide) rfl ?_
  refine V_aload_n dX11_offerPosts_20 rfl rfl ?_
  refine V_getR (k2 := 67) flX11_50 rfl rfl (by decide) dX11_offerPosts_21 ?_
  refine V_aload_n dX11_offerPosts_24 rfl rfl ?_
  refine V_getI (f := (σ2 0 4)) flX11_31 rfl (rfl) (by decide) dX11_offerPosts_25 ?_
  refine V_callV (av := [vi (σ2 0 4)]) (stk := []) cvX11_256 rfl rfl rfl (by decide) (by simp [ctg]) dX11_offerPosts_28 h ?_
  rintro _ σ3 ⟨rfl, h⟩
  refine V_aload_n dX11_offerPosts_31 rfl rfl ?_
  refine V_getR (k2 := 81) flX11_81 rfl rfl (by decide) dX11_offerPosts_32 ?_
  refine V_callV (av := []) (stk := []) cvX11_319 rfl rfl rfl (by decide) (by simp [ctg]) dX11_offerPosts_35 h ?_
  rintro _ σ4 ⟨rfl, h⟩
  refine V_iconst dX11_offerPosts_38 ?_
  refine V_istore_n (L' := [some (vr 0), some (vi z1), some (vi z2), some (vi 0), none, none]) dX11_offerPosts_39 rfl (by decide) rfl ?_
  exact V.sub (SubL_s (SubL_s (SubL_s (SubL_s (SubL_n (SubL_n (SubL_0))))))) h
set_option maxRecDepth 100000 in
theorem BX11_offerPosts_40 {σ : Sg} {post : Po} {x1 : Int} {x2 : Int} {x3 : Int} 
  (h : ((σ 0 1) = 5) ∧ ((rng x3) ∧ ((rng (σ 5 0)) ∧ (((σ 5 0) ≤ x3 → post none σ) ∧ (¬ (σ 5 0) ≤ x3 → Cl mX11_isIn [vi x2, vi x3] σ (pI fun z1 σ1 => (rng z1) ∧ ((z1 = 0 → V mX11_offerPosts 40 [some (vr 0), some (vi x1), some (vi x2), some (vi (x3 + 1)), none, none] [] σ1 post) ∧ (¬ z1 = 0 → ((σ1 0 1) = 5) ∧ ((0 ≤ x3 ∧ x3 < 16) ∧ (Cl mX0_stepsToFilled [vr 5, vi x3, vi x1] σ1 (pI fun z2 σ2 => ((σ2 0 1) = 5) ∧ (Cl mX11_sourceOf [vr 0, vi x3, vi x1] σ2 (pI fun z3 σ3 => Cl mX4_setHead [vr 53, vr 67, vr 5, vi x3, vi z3, vi 0] σ3 (pI fun z4 σ4 => Cl mX3_offer [vr 81, vi (iShl 1 x3), vi ((σ1 11 x3) * z2), vi (z4 - (σ4 1 x3))] σ4 (pV fun σ5 => V mX11_offerPosts 40 [some (vr 0), some (vi x1), some (vi x2), some (vi (x3 + 1)), none, none] [] σ5 post))))))))))))))) :
  V mX11_offerPosts 40 [some (vr 0), some (vi x1), some (vi x2), some (vi x3), none, none] [] σ post := by
  refine V_iload_n dX11_offerPosts_40 rfl rfl ?_
  refine V_aload_n dX11_offerPosts_41 rfl rfl ?_
  obtain ⟨r1, h⟩ := h
  refine V_getM (k2 := 5) flX11_19 rfl (r1) (by decide) dX11_offerPosts_42 ?_
  refine V_getI (f := (σ 5 0)) flX11_123 rfl (rfl) (by decide) dX11_offerPosts_45 ?_
  obtain ⟨r2, h⟩ := h
  obtain ⟨r3, h⟩ := h
  refine V_icmp_ge (tgt := 132) dX11_offerPosts_48 rfl r2 r3 (fun q => ?_) (fun q => ?_)
  · replace h := h.1 q
    exact V_return (stk := []) rfl dX11_offerPosts_132 h
  · replace h := h.2 q
    refine V_iload_n dX11_offerPosts_51 rfl rfl ?_
    refine V_iload_n dX11_offerPosts_52 rfl rfl ?_
    refine V_callS (av := [vi x2, vi x3]) (stk := []) cvX11_173 rfl rfl (by decide) (by simp [ctg]) dX11_offerPosts_53 h ?_
    rintro _ σ1 ⟨z1, rfl, h⟩
    obtain ⟨r4, h⟩ := h
    refine V_if_eq (tgt := 126) dX11_offerPosts_56 rfl r4 (fun q => ?_) (fun q => ?_)
    · replace h := h.1 q
      refine V_iinc (L' := [some (vr 0), some (vi x1), some (vi x2), some (vi (x3 + 1)), none, none]) dX11_offerPosts_126 rfl (by decide) rfl ?_
      refine V_goto (tgt := 40) dX11_offerPosts_129 rfl ?_
      exact V.sub (SubL_s (SubL_s (SubL_s (SubL_s (SubL_n (SubL_n (SubL_0))))))) h
    · replace h := h.2 q
      refine V_aload_n dX11_offerPosts_59 rfl rfl ?_
      obtain ⟨r5, h⟩ := h
      refine V_getM (k2 := 5) flX11_19 rfl (r5) (by decide) dX11_offerPosts_60 ?_
      refine V_getR (k2 := 11) flX11_170 rfl rfl (by decide) dX11_offerPosts_63 ?_
      refine V_iload_n dX11_offerPosts_66 rfl rfl ?_
      obtain ⟨r6, h⟩ := h
      refine V_iald (f := (σ1 11 x3)) (rfl : shp[11]? = some (1, 16, 0)) r6 (rfl) dX11_offerPosts_67 ?_
      refine V_aload_n dX11_offerPosts_68 rfl rfl ?_
      refine V_getM (k2 := 5) flX11_19 rfl (r5) (by decide) dX11_offerPosts_69 ?_
      refine V_iload_n dX11_offerPosts_72 rfl rfl ?_
      refine V_iload_n dX11_offerPosts_73 rfl rfl ?_
      refine V_callV (av := [vi x3, vi x1]) (stk := [vi (σ1 11 x3)]) cvX11_263 rfl rfl rfl (by decide) (by simp [ctg]) dX11_offerPosts_74 h ?_
      rintro _ σ2 ⟨z2, rfl, h⟩
      refine V_imul dX11_offerPosts_77 ?_
      refine V_istore (L' := [some (vr 0), some (vi x1), some (vi x2), some (vi x3), some (vi ((σ1 11 x3) * z2)), none]) dX11_offerPosts_78 (by decide) rfl ?_
      refine V_aload_n dX11_offerPosts_80 rfl rfl ?_
      refine V_getR (k2 := 53) flX11_37 rfl rfl (by decide) dX11_offerPosts_81 ?_
      refine V_aload_n dX11_offerPosts_84 rfl rfl ?_
      refine V_getR (k2 := 67) flX11_50 rfl rfl (by decide) dX11_offerPosts_85 ?_
      refine V_aload_n dX11_offerPosts_88 rfl rfl ?_
      obtain ⟨r7, h⟩ := h
      refine V_getM (k2 := 5) flX11_19 rfl (r7) (by decide) dX11_offerPosts_89 ?_
      refine V_iload_n dX11_offerPosts_92 rfl rfl ?_
      refine V_aload_n dX11_offerPosts_93 rfl rfl ?_
      refine V_iload_n dX11_offerPosts_94 rfl rfl ?_
      refine V_iload_n dX11_offerPosts_95 rfl rfl ?_
      refine V_callV (av := [vi x3, vi x1]) (stk := [vi x3, vr 5, vr 67, vr 53]) cvX11_300 rfl rfl rfl (by decide) (by simp [ctg]) dX11_offerPosts_96 h ?_
      rintro _ σ3 ⟨z3, rfl, h⟩
      refine V_iconst dX11_offerPosts_99 ?_
      refine V_callV (av := [vr 67, vr 5, vi x3, vi z3, vi 0]) (stk := []) cvX11_259 rfl rfl rfl (by decide) (by simp [ctg]) dX11_offerPosts_100 h ?_
      rintro _ σ4 ⟨z4, rfl, h⟩
      refine V_istore (L' := [some (vr 0), some (vi x1), some (vi x2), some (vi x3), some (vi ((σ1 11 x3) * z2)), some (vi z4)]) dX11_offerPosts_103 (by decide) rfl ?_
      refine V_aload_n dX11_offerPosts_105 rfl rfl ?_
      refine V_getR (k2 := 81) flX11_81 rfl rfl (by decide) dX11_offerPosts_106 ?_
      refine V_iconst dX11_offerPosts_109 ?_
      refine V_iload_n dX11_offerPosts_110 rfl rfl ?_
      refine V_ishl dX11_offerPosts_111 ?_
      refine V_iload dX11_offerPosts_112 rfl ?_
      refine V_iload dX11_offerPosts_114 rfl ?_
      refine V_aload_n dX11_offerPosts_116 rfl rfl ?_
      refine V_getR (k2 := 1) flX11_53 rfl rfl (by decide) dX11_offerPosts_117 ?_
      refine V_iload_n dX11_offerPosts_120 rfl rfl ?_
      refine V_iald (f := (σ4 1 x3)) (rfl : shp[1]? = some (1, 16, 0)) r6 (rfl) dX11_offerPosts_121 ?_
      refine V_isub dX11_offerPosts_122 ?_
      refine V_callV (av := [vi (iShl 1 x3), vi ((σ1 11 x3) * z2), vi (z4 - (σ4 1 x3))]) (stk := []) cvX11_321 rfl rfl rfl (by decide) (by simp [ctg]) dX11_offerPosts_123 h ?_
      rintro _ σ5 ⟨rfl, h⟩
      refine V_iinc (L' := [some (vr 0), some (vi x1), some (vi x2), some (vi (x3 + 1)), some (vi ((σ1 11 x3) * z2)), some (vi z4)]) dX11_offerPosts_126 rfl (by decide) rfl ?_
      refine V_goto (tgt := 40) dX11_offerPosts_129 rfl ?_
      exact V.sub (SubL_s (SubL_s (SubL_s (SubL_s (SubL_n (SubL_n (SubL_0))))))) h

set_option maxRecDepth 100000 in
theorem BX11_fit_0 {σ : Sg} {post : Po} {x1 : Int} {x2 : Int} 
  (h : (rng x2) ∧ ((x2 = (-1) → (rng x1) ∧ ((x1 < 0 → post (some (vi (-1002))) σ) ∧ (¬ x1 < 0 → (x1 ≤ 200 → Cl mX11_printAll [vr 0] σ (pV fun σ1 => Cl mX11_offerFits [vr 0] σ1 (pV fun σ2 => ((σ2 0 1) = 5) ∧ (Cl mX1_choose [vr 85, vi (σ2 5 0), vi x1] σ2 (pV fun σ3 => (¬ x2 = (-1) → (0 ≤ x2 ∧ x2 < 16) ∧ (post (some (vi (σ3 86 x2))) σ3)) ∧ (x2 = (-1) → post (some (vi (σ3 85 0))) σ3)))))) ∧ (¬ x1 ≤ 200 → post (some (vi (-1002))) σ)))) ∧ (¬ x2 = (-1) → ((σ 0 1) = 5) ∧ (Cl mX0_hasHead [vr 5, vi x2] σ (pI fun z4 σ4 => (rng z4) ∧ ((¬ z4 = 0 → (rng x1) ∧ ((x1 < 0 → post (some (vi (-1002))) σ4) ∧ (¬ x1 < 0 → (x1 ≤ 200 → Cl mX11_printAll [vr 0] σ4 (pV fun σ5 => Cl mX11_offerFits [vr 0] σ5 (pV fun σ6 => ((σ6 0 1) = 5) ∧ (Cl mX1_choose [vr 85, vi (σ6 5 0), vi x1] σ6 (pV fun σ7 => (¬ x2 = (-1) → (0 ≤ x2 ∧ x2 < 16) ∧ (post (some (vi (σ7 86 x2))) σ7)) ∧ (x2 = (-1) → post (some (vi (σ7 85 0))) σ7)))))) ∧ (¬ x1 ≤ 200 → post (some (vi (-1002))) σ4)))) ∧ (z4 = 0 → post (some (vi (-1001))) σ4))))))) :
  V mX11_fit 0 [some (vr 0), some (vi x1), some (vi x2)] [] σ post := by
  refine V_iload_n dX11_fit_0 rfl rfl ?_
  refine V_iconst dX11_fit_1 ?_
  obtain ⟨r1, h⟩ := h
  refine V_icmp_eq (tgt := 20) dX11_fit_2 rfl r1 (by decide) (fun q => ?_) (fun q => ?_)
  · replace h := h.1 q
    refine V_iload_n dX11_fit_20 rfl rfl ?_
    obtain ⟨r2, h⟩ := h
    refine V_if_lt (tgt := 31) dX11_fit_21 rfl r2 (fun q => ?_) (fun q => ?_)
    · replace h := h.1 q
      refine V_sipush dX11_fit_31 (by decide) ?_
      exact V_ireturn (stk := []) rfl dX11_fit_34 h
    · replace h := h.2 q
      refine V_iload_n dX11_fit_24 rfl rfl ?_
      refine V_sipush dX11_fit_25 (by decide) ?_
      refine V_icmp_le (tgt := 35) dX11_fit_28 rfl r2 (by decide) (fun q => ?_) (fun q => ?_)
      · replace h := h.1 q
        refine V_aload_n dX11_fit_35 rfl rfl ?_
        refine V_callV (av := []) (stk := []) cvX11_135 rfl rfl rfl (by decide) (by simp [ctg]) dX11_fit_36 h ?_
        rintro _ σ1 ⟨rfl, h⟩
        refine V_aload_n dX11_fit_39 rfl rfl ?_
        refine V_callV (av := []) (stk := []) cvX11_325 rfl rfl rfl (by decide) (by simp [ctg]) dX11_fit_40 h ?_
        rintro _ σ2 ⟨rfl, h⟩
        refine V_aload_n dX11_fit_43 rfl rfl ?_
        refine V_getR (k2 := 85) flX11_88 rfl rfl (by decide) dX11_fit_44 ?_
        refine V_aload_n dX11_fit_47 rfl rfl ?_
        obtain ⟨r3, h⟩ := h
        refine V_getM (k2 := 5) flX11_19 rfl (r3) (by decide) dX11_fit_48 ?_
        refine V_getI (f := (σ2 5 0)) flX11_123 rfl (rfl) (by decide) dX11_fit_51 ?_
        refine V_iload_n dX11_fit_54 rfl rfl ?_
        refine V_callV (av := [vi (σ2 5 0), vi x1]) (stk := []) cvX11_328 rfl rfl rfl (by decide) (by simp [ctg]) dX11_fit_55 h ?_
        rintro _ σ3 ⟨rfl, h⟩
        refine V_iload_n dX11_fit_58 rfl rfl ?_
        refine V_iconst dX11_fit_59 ?_
        refine V_icmp_ne (tgt := 73) dX11_fit_60 rfl r1 (by decide) (fun q => ?_) (fun q => ?_)
        · replace h := h.1 q
          refine V_aload_n dX11_fit_73 rfl rfl ?_
          refine V_getR (k2 := 85) flX11_88 rfl rfl (by decide) dX11_fit_74 ?_
          refine V_getR (k2 := 86) flX11_332 rfl rfl (by decide) dX11_fit_77 ?_
          refine V_iload_n dX11_fit_80 rfl rfl ?_
          obtain ⟨r4, h⟩ := h
          refine V_iald (f := (σ3 86 x2)) (rfl : shp[86]? = some (1, 16, 0)) r4 (rfl) dX11_fit_81 ?_
          exact V_ireturn (stk := []) rfl dX11_fit_82 h
        · replace h := h.2 q
          refine V_aload_n dX11_fit_63 rfl rfl ?_
          refine V_getR (k2 := 85) flX11_88 rfl rfl (by decide) dX11_fit_64 ?_
          refine V_getI (f := (σ3 85 0)) flX11_329 rfl (rfl) (by decide) dX11_fit_67 ?_
          refine V_goto (tgt := 82) dX11_fit_70 rfl ?_
          exact V_ireturn (stk := []) rfl dX11_fit_82 h
      · replace h := h.2 q
        refine V_sipush dX11_fit_31 (by decide) ?_
        exact V_ireturn (stk := []) rfl dX11_fit_34 h
  · replace h := h.2 q
    refine V_aload_n dX11_fit_5 rfl rfl ?_
    obtain ⟨r5, h⟩ := h
    refine V_getM (k2 := 5) flX11_19 rfl (r5) (by decide) dX11_fit_6 ?_
    refine V_iload_n dX11_fit_9 rfl rfl ?_
    refine V_callV (av := [vi x2]) (stk := []) cvX11_152 rfl rfl rfl (by decide) (by simp [ctg]) dX11_fit_10 h ?_
    rintro _ σ4 ⟨z4, rfl, h⟩
    obtain ⟨r6, h⟩ := h
    refine V_if_ne (tgt := 20) dX11_fit_13 rfl r6 (fun q => ?_) (fun q => ?_)
    · replace h := h.1 q
      refine V_iload_n dX11_fit_20 rfl rfl ?_
      obtain ⟨r7, h⟩ := h
      refine V_if_lt (tgt := 31) dX11_fit_21 rfl r7 (fun q => ?_) (fun q => ?_)
      · replace h := h.1 q
        refine V_sipush dX11_fit_31 (by decide) ?_
        exact V_ireturn (stk := []) rfl dX11_fit_34 h
      · replace h := h.2 q
        refine V_iload_n dX11_fit_24 rfl rfl ?_
        refine V_sipush dX11_fit_25 (by decide) ?_
        refine V_icmp_le (tgt := 35) dX11_fit_28 rfl r7 (by decide) (fun q => ?_) (fun q => ?_)
        · replace h := h.1 q
          refine V_aload_n dX11_fit_35 rfl rfl ?_
          refine V_callV (av := []) (stk := []) cvX11_135 rfl rfl rfl (by decide) (by simp [ctg]) dX11_fit_36 h ?_
          rintro _ σ5 ⟨rfl, h⟩
          refine V_aload_n dX11_fit_39 rfl rfl ?_
          refine V_callV (av := []) (stk := []) cvX11_325 rfl rfl rfl (by decide) (by simp [ctg]) dX11_fit_40 h ?_
          rintro _ σ6 ⟨rfl, h⟩
          refine V_aload_n dX11_fit_43 rfl rfl ?_
          refine V_getR (k2 := 85) flX11_88 rfl rfl (by decide) dX11_fit_44 ?_
          refine V_aload_n dX11_fit_47 rfl rfl ?_
          obtain ⟨r8, h⟩ := h
          refine V_getM (k2 := 5) flX11_19 rfl (r8) (by decide) dX11_fit_48 ?_
          refine V_getI (f := (σ6 5 0)) flX11_123 rfl (rfl) (by decide) dX11_fit_51 ?_
          refine V_iload_n dX11_fit_54 rfl rfl ?_
          refine V_callV (av := [vi (σ6 5 0), vi x1]) (stk := []) cvX11_328 rfl rfl rfl (by decide) (by simp [ctg]) dX11_fit_55 h ?_
          rintro _ σ7 ⟨rfl, h⟩
          refine V_iload_n dX11_fit_58 rfl rfl ?_
          refine V_iconst dX11_fit_59 ?_
          refine V_icmp_ne (tgt := 73) dX11_fit_60 rfl r1 (by decide) (fun q => ?_) (fun q => ?_)
          · replace h := h.1 q
            refine V_aload_n dX11_fit_73 rfl rfl ?_
            refine V_getR (k2 := 85) flX11_88 rfl rfl (by decide) dX11_fit_74 ?_
            refine V_getR (k2 := 86) flX11_332 rfl rfl (by decide) dX11_fit_77 ?_
            refine V_iload_n dX11_fit_80 rfl rfl ?_
            obtain ⟨r9, h⟩ := h
            refine V_iald (f := (σ7 86 x2)) (rfl : shp[86]? = some (1, 16, 0)) r9 (rfl) dX11_fit_81 ?_
            exact V_ireturn (stk := []) rfl dX11_fit_82 h
          · replace h := h.2 q
            refine V_aload_n dX11_fit_63 rfl rfl ?_
            refine V_getR (k2 := 85) flX11_88 rfl rfl (by decide) dX11_fit_64 ?_
            refine V_getI (f := (σ7 85 0)) flX11_329 rfl (rfl) (by decide) dX11_fit_67 ?_
            refine V_goto (tgt := 82) dX11_fit_70 rfl ?_
            exact V_ireturn (stk := []) rfl dX11_fit_82 h
        · replace h := h.2 q
          refine V_sipush dX11_fit_31 (by decide) ?_
          exact V_ireturn (stk := []) rfl dX11_fit_34 h
    · replace h := h.2 q
      refine V_sipush dX11_fit_16 (by decide) ?_
      exact V_ireturn (stk := []) rfl dX11_fit_19 h

set_option maxRecDepth 100000 in
theorem BX11_offerFits_0 {σ : Sg} {post : Po}  
  (h : Cl mX8_clear [vr 67, vi (σ 0 4)] σ (pV fun σ1 => V mX11_offerFits 13 [some (vr 0), some (vi 0), none, none] [] σ1 post)) :
  V mX11_offerFits 0 [some (vr 0), none, none, none] [] σ post := by
  refine V_aload_n dX11_offerFits_0 rfl rfl ?_
  refine V_getR (k2 := 67) flX11_50 rfl rfl (by decide) dX11_offerFits_1 ?_
  refine V_aload_n dX11_offerFits_4 rfl rfl ?_
  refine V_getI (f := (σ 0 4)) flX11_31 rfl (rfl) (by decide) dX11_offerFits_5 ?_
  refine V_callV (av := [vi (σ 0 4)]) (stk := []) cvX11_256 rfl rfl rfl (by decide) (by simp [ctg]) dX11_offerFits_8 h ?_
  rintro _ σ1 ⟨rfl, h⟩
  refine V_iconst dX11_offerFits_11 ?_
  refine V_istore_n (L' := [some (vr 0), some (vi 0), none, none]) dX11_offerFits_12 rfl (by decide) rfl ?_
  exact V.sub (SubL_s (SubL_s (SubL_n (SubL_n (SubL_0))))) h
set_option maxRecDepth 100000 in
theorem BX11_offerFits_13 {σ : Sg} {post : Po} {x1 : Int} 
  (h : ((σ 0 1) = 5) ∧ ((rng x1) ∧ ((rng (σ 5 0)) ∧ (((σ 5 0) ≤ x1 → post none σ) ∧ (¬ (σ 5 0) ≤ x1 → Cl mX1_clear [vr 85, vi x1] σ (pV fun σ1 => (0 ≤ x1 ∧ x1 < 16) ∧ (Cl mX1_offer [vr 85, vi x1, vi 0, vi (σ1 1 x1), vi 0] σ1 (pV fun σ2 => (rng (σ2 1 x1)) ∧ (((σ2 1 x1) ≤ 0 → V mX11_offerFits 13 [some (vr 0), some (vi (x1 + 1)), none, none] [] σ2 post) ∧ (¬ (σ2 1 x1) ≤ 0 → ((σ2 0 1) = 5) ∧ (Cl mX0_markedSubs [vr 5, vi x1] σ2 (pI fun z3 σ3 => Cl mJ6_bitCount_0f7a4 [vi z3] σ3 (pI fun z4 σ4 => (rng z4) ∧ ((z4 ≤ 0 → Cl mX1_offer [vr 85, vi x1, vi 2, vi 0, vi (((σ2 11 x1) + 1) * 20)] σ4 (pV fun σ5 => V mX11_offerFits 13 [some (vr 0), some (vi (x1 + 1)), none, none] [] σ5 post)) ∧ (¬ z4 ≤ 0 → ((σ4 0 1) = 5) ∧ (Cl mX4_setHead [vr 53, vr 67, vr 5, vi x1, vi x1, vi 1] σ4 (pI fun z6 σ6 => Cl mX1_offer [vr 85, vi x1, vi 1, vi z6, vi (((σ2 11 x1) + 1) * z4)] σ6 (pV fun σ7 => Cl mX1_offer [vr 85, vi x1, vi 2, vi 0, vi (((σ2 11 x1) + 1) * 20)] σ7 (pV fun σ8 => V mX11_offerFits 13 [some (vr 0), some (vi (x1 + 1)), none, none] [] σ8 post))))))))))))))))))) :
  V mX11_offerFits 13 [some (vr 0), some (vi x1), none, none] [] σ post := by
  refine V_iload_n dX11_offerFits_13 rfl rfl ?_
  refine V_aload_n dX11_offerFits_14 rfl rfl ?_
  obtain ⟨r1, h⟩ := h
  refine V_getM (k2 := 5) flX11_19 rfl (r1) (by decide) dX11_offerFits_15 ?_
  refine V_getI (f := (σ 5 0)) flX11_123 rfl (rfl) (by decide) dX11_offerFits_18 ?_
  obtain ⟨r2, h⟩ := h
  obtain ⟨r3, h⟩ := h
  refine V_icmp_ge (tgt := 135) dX11_offerFits_21 rfl r2 r3 (fun q => ?_) (fun q => ?_)
  · replace h := h.1 q
    exact V_return (stk := []) rfl dX11_offerFits_135 h
  · replace h := h.2 q
    refine V_aload_n dX11_offerFits_24 rfl rfl ?_
    refine V_getR (k2 := 85) flX11_88 rfl rfl (by decide) dX11_offerFits_25 ?_
    refine V_iload_n dX11_offerFits_28 rfl rfl ?_
    refine V_callV (av := [vi x1]) (stk := []) cvX11_335 rfl rfl rfl (by decide) (by simp [ctg]) dX11_offerFits_29 h ?_
    rintro _ σ1 ⟨rfl, h⟩
    refine V_aload_n dX11_offerFits_32 rfl rfl ?_
    refine V_getR (k2 := 85) flX11_88 rfl rfl (by decide) dX11_offerFits_33 ?_
    refine V_iload_n dX11_offerFits_36 rfl rfl ?_
    refine V_iconst dX11_offerFits_37 ?_
    refine V_aload_n dX11_offerFits_38 rfl rfl ?_
    refine V_getR (k2 := 1) flX11_53 rfl rfl (by decide) dX11_offerFits_39 ?_
    refine V_iload_n dX11_offerFits_42 rfl rfl ?_
    obtain ⟨r4, h⟩ := h
    refine V_iald (f := (σ1 1 x1)) (rfl : shp[1]? = some (1, 16, 0)) r4 (rfl) dX11_offerFits_43 ?_
    refine V_iconst dX11_offerFits_44 ?_
    refine V_callV (av := [vi x1, vi 0, vi (σ1 1 x1), vi 0]) (stk := []) cvX11_336 rfl rfl rfl (by decide) (by simp [ctg]) dX11_offerFits_45 h ?_
    rintro _ σ2 ⟨rfl, h⟩
    refine V_aload_n dX11_offerFits_48 rfl rfl ?_
    refine V_getR (k2 := 1) flX11_53 rfl rfl (by decide) dX11_offerFits_49 ?_
    refine V_iload_n dX11_offerFits_52 rfl rfl ?_
    refine V_iald (f := (σ2 1 x1)) (rfl : shp[1]? = some (1, 16, 0)) r4 (rfl) dX11_offerFits_53 ?_
    obtain ⟨r5, h⟩ := h
    refine V_if_le (tgt := 129) dX11_offerFits_54 rfl r5 (fun q => ?_) (fun q => ?_)
    · replace h := h.1 q
      refine V_iinc (L' := [some (vr 0), some (vi (x1 + 1)), none, none]) dX11_offerFits_129 rfl (by decide) rfl ?_
      refine V_goto (tgt := 13) dX11_offerFits_132 rfl ?_
      exact V.sub (SubL_s (SubL_s (SubL_n (SubL_n (SubL_0))))) h
    · replace h := h.2 q
      refine V_aload_n dX11_offerFits_57 rfl rfl ?_
      obtain ⟨r6, h⟩ := h
      refine V_getM (k2 := 5) flX11_19 rfl (r6) (by decide) dX11_offerFits_58 ?_
      refine V_getR (k2 := 11) flX11_170 rfl rfl (by decide) dX11_offerFits_61 ?_
      refine V_iload_n dX11_offerFits_64 rfl rfl ?_
      refine V_iald (f := (σ2 11 x1)) (rfl : shp[11]? = some (1, 16, 0)) r4 (rfl) dX11_offerFits_65 ?_
      refine V_iconst dX11_offerFits_66 ?_
      refine V_iadd dX11_offerFits_67 ?_
      refine V_istore_n (L' := [some (vr 0), some (vi x1), some (vi ((σ2 11 x1) + 1)), none]) dX11_offerFits_68 rfl (by decide) rfl ?_
      refine V_aload_n dX11_offerFits_69 rfl rfl ?_
      refine V_getM (k2 := 5) flX11_19 rfl (r6) (by decide) dX11_offerFits_70 ?_
      refine V_iload_n dX11_offerFits_73 rfl rfl ?_
      refine V_callV (av := [vi x1]) (stk := []) cvX11_290 rfl rfl rfl (by decide) (by simp [ctg]) dX11_offerFits_74 h ?_
      rintro _ σ3 ⟨z3, rfl, h⟩
      refine V_callS (av := [vi z3]) (stk := []) cvX11_146 rfl rfl (by decide) (by simp [ctg]) dX11_offerFits_77 h ?_
      rintro _ σ4 ⟨z4, rfl, h⟩
      refine V_istore_n (L' := [some (vr 0), some (vi x1), some (vi ((σ2 11 x1) + 1)), some (vi z4)]) dX11_offerFits_80 rfl (by decide) rfl ?_
      refine V_iload_n dX11_offerFits_81 rfl rfl ?_
      obtain ⟨r7, h⟩ := h
      refine V_if_le (tgt := 115) dX11_offerFits_82 rfl r7 (fun q => ?_) (fun q => ?_)
      · replace h := h.1 q
        refine V_aload_n dX11_offerFits_115 rfl rfl ?_
        refine V_getR (k2 := 85) flX11_88 rfl rfl (by decide) dX11_offerFits_116 ?_
        refine V_iload_n dX11_offerFits_119 rfl rfl ?_
        refine V_iconst dX11_offerFits_120 ?_
        refine V_iconst dX11_offerFits_121 ?_
        refine V_iload_n dX11_offerFits_122 rfl rfl ?_
        refine V_bipush dX11_offerFits_123 (by decide) ?_
        refine V_imul dX11_offerFits_125 ?_
        refine V_callV (av := [vi x1, vi 2, vi 0, vi (((σ2 11 x1) + 1) * 20)]) (stk := []) cvX11_336 rfl rfl rfl (by decide) (by simp [ctg]) dX11_offerFits_126 h ?_
        rintro _ σ5 ⟨rfl, h⟩
        refine V_iinc (L' := [some (vr 0), some (vi (x1 + 1)), some (vi ((σ2 11 x1) + 1)), some (vi z4)]) dX11_offerFits_129 rfl (by decide) rfl ?_
        refine V_goto (tgt := 13) dX11_offerFits_132 rfl ?_
        exact V.sub (SubL_s (SubL_s (SubL_n (SubL_n (SubL_0))))) h
      · replace h := h.2 q
        refine V_aload_n dX11_offerFits_85 rfl rfl ?_
        refine V_getR (k2 := 85) flX11_88 rfl rfl (by decide) dX11_offerFits_86 ?_
        refine V_iload_n dX11_offerFits_89 rfl rfl ?_
        refine V_iconst dX11_offerFits_90 ?_
        refine V_aload_n dX11_offerFits_91 rfl rfl ?_
        refine V_getR (k2 := 53) flX11_37 rfl rfl (by decide) dX11_offerFits_92 ?_
        refine V_aload_n dX11_offerFits_95 rfl rfl ?_
        refine V_getR (k2 := 67) flX11_50 rfl rfl (by decide) dX11_offerFits_96 ?_
        refine V_aload_n dX11_offerFits_99 rfl rfl ?_
        obtain ⟨r8, h⟩ := h
        refine V_getM (k2 := 5) flX11_19 rfl (r8) (by decide) dX11_offerFits_100 ?_
        refine V_iload_n dX11_offerFits_103 rfl rfl ?_
        refine V_iload_n dX11_offerFits_104 rfl rfl ?_
        refine V_iconst dX11_offerFits_105 ?_
        refine V_callV (av := [vr 67, vr 5, vi x1, vi x1, vi 1]) (stk := [vi 1, vi x1, vr 85]) cvX11_259 rfl rfl rfl (by decide) (by simp [ctg]) dX11_offerFits_106 h ?_
        rintro _ σ6 ⟨z6, rfl, h⟩
        refine V_iload_n dX11_offerFits_109 rfl rfl ?_
        refine V_iload_n dX11_offerFits_110 rfl rfl ?_
        refine V_imul dX11_offerFits_111 ?_
        refine V_callV (av := [vi x1, vi 1, vi z6, vi (((σ2 11 x1) + 1) * z4)]) (stk := []) cvX11_336 rfl rfl rfl (by decide) (by simp [ctg]) dX11_offerFits_112 h ?_
        rintro _ σ7 ⟨rfl, h⟩
        refine V_aload_n dX11_offerFits_115 rfl rfl ?_
        refine V_getR (k2 := 85) flX11_88 rfl rfl (by decide) dX11_offerFits_116 ?_
        refine V_iload_n dX11_offerFits_119 rfl rfl ?_
        refine V_iconst dX11_offerFits_120 ?_
        refine V_iconst dX11_offerFits_121 ?_
        refine V_iload_n dX11_offerFits_122 rfl rfl ?_
        refine V_bipush dX11_offerFits_123 (by decide) ?_
        refine V_imul dX11_offerFits_125 ?_
        refine V_callV (av := [vi x1, vi 2, vi 0, vi (((σ2 11 x1) + 1) * 20)]) (stk := []) cvX11_336 rfl rfl rfl (by decide) (by simp [ctg]) dX11_offerFits_126 h ?_
        rintro _ σ8 ⟨rfl, h⟩
        refine V_iinc (L' := [some (vr 0), some (vi (x1 + 1)), some (vi ((σ2 11 x1) + 1)), some (vi z4)]) dX11_offerFits_129 rfl (by decide) rfl ?_
        refine V_goto (tgt := 13) dX11_offerFits_132 rfl ?_
        exact V.sub (SubL_s (SubL_s (SubL_n (SubL_n (SubL_0))))) h

set_option maxRecDepth 100000 in
theorem BX11_putIn_0 {σ : Sg} {post : Po} {x1 : Int} {x2 : Int} 
  (h : (rng x1) ∧ ((x1 < 0 → post (some (vi (-1002))) σ) ∧ (¬ x1 < 0 → (99 < x1 → post (some (vi (-1002))) σ) ∧ (¬ 99 < x1 → (rng x2) ∧ ((x2 < 1 → post (some (vi (-1002))) σ) ∧ (¬ x2 < 1 → (x2 ≤ 9 → ((σ 0 1) = 5) ∧ (Cl mX0_lastPageAbove [vr 5, vi x1] σ (pI fun z1 σ1 => (rng (z1 + x2)) ∧ (((z1 + x2) ≤ 99 → ((σ1 0 1) = 5) ∧ (Cl mX0_pushPages [vr 5, vi x1, vi x2] (up σ1 0 9 0) (pI fun z2 σ2 => post (some (vi z2)) σ2))) ∧ (¬ (z1 + x2) ≤ 99 → post (some (vi (-1003))) σ1))))) ∧ (¬ x2 ≤ 9 → post (some (vi (-1002))) σ))))))) :
  V mX11_putIn 0 [some (vr 0), some (vi x1), some (vi x2)] [] σ post := by
  refine V_iload_n dX11_putIn_0 rfl rfl ?_
  obtain ⟨r1, h⟩ := h
  refine V_if_lt (tgt := 21) dX11_putIn_1 rfl r1 (fun q => ?_) (fun q => ?_)
  · replace h := h.1 q
    refine V_sipush dX11_putIn_21 (by decide) ?_
    exact V_ireturn (stk := []) rfl dX11_putIn_24 h
  · replace h := h.2 q
    refine V_iload_n dX11_putIn_4 rfl rfl ?_
    refine V_bipush dX11_putIn_5 (by decide) ?_
    refine V_icmp_gt (tgt := 21) dX11_putIn_7 rfl r1 (by decide) (fun q => ?_) (fun q => ?_)
    · replace h := h.1 q
      refine V_sipush dX11_putIn_21 (by decide) ?_
      exact V_ireturn (stk := []) rfl dX11_putIn_24 h
    · replace h := h.2 q
      refine V_iload_n dX11_putIn_10 rfl rfl ?_
      refine V_iconst dX11_putIn_11 ?_
      obtain ⟨r2, h⟩ := h
      refine V_icmp_lt (tgt := 21) dX11_putIn_12 rfl r2 (by decide) (fun q => ?_) (fun q => ?_)
      · replace h := h.1 q
        refine V_sipush dX11_putIn_21 (by decide) ?_
        exact V_ireturn (stk := []) rfl dX11_putIn_24 h
      · replace h := h.2 q
        refine V_iload_n dX11_putIn_15 rfl rfl ?_
        refine V_bipush dX11_putIn_16 (by decide) ?_
        refine V_icmp_le (tgt := 25) dX11_putIn_18 rfl r2 (by decide) (fun q => ?_) (fun q => ?_)
        · replace h := h.1 q
          refine V_aload_n dX11_putIn_25 rfl rfl ?_
          obtain ⟨r3, h⟩ := h
          refine V_getM (k2 := 5) flX11_19 rfl (r3) (by decide) dX11_putIn_26 ?_
          refine V_iload_n dX11_putIn_29 rfl rfl ?_
          refine V_callV (av := [vi x1]) (stk := []) cvX11_339 rfl rfl rfl (by decide) (by simp [ctg]) dX11_putIn_30 h ?_
          rintro _ σ1 ⟨z1, rfl, h⟩
          refine V_iload_n dX11_putIn_33 rfl rfl ?_
          refine V_iadd dX11_putIn_34 ?_
          refine V_bipush dX11_putIn_35 (by decide) ?_
          obtain ⟨r4, h⟩ := h
          refine V_icmp_le (tgt := 44) dX11_putIn_37 rfl r4 (by decide) (fun q => ?_) (fun q => ?_)
          · replace h := h.1 q
            refine V_aload_n dX11_putIn_44 rfl rfl ?_
            refine V_iconst dX11_putIn_45 ?_
            refine V_putZ flX11_57 rfl (by decide) (by decide) dX11_putIn_46 ?_
            refine V_aload_n dX11_putIn_49 rfl rfl ?_
            obtain ⟨r5, h⟩ := h
            refine V_getM (k2 := 5) flX11_19 rfl ((up_f (by omega)).trans r5) (by decide) dX11_putIn_50 ?_
            refine V_iload_n dX11_putIn_53 rfl rfl ?_
            refine V_iload_n dX11_putIn_54 rfl rfl ?_
            refine V_callV (av := [vi x1, vi x2]) (stk := []) cvX11_342 rfl rfl rfl (by decide) (by simp [ctg]) dX11_putIn_55 h ?_
            rintro _ σ2 ⟨z2, rfl, h⟩
            exact V_ireturn (stk := []) rfl dX11_putIn_58 h
          · replace h := h.2 q
            refine V_sipush dX11_putIn_40 (by decide) ?_
            exact V_ireturn (stk := []) rfl dX11_putIn_43 h
        · replace h := h.2 q
          refine V_sipush dX11_putIn_21 (by decide) ?_
          exact V_ireturn (stk := []) rfl dX11_putIn_24 h

set_option maxRecDepth 100000 in
theorem BX11_takeOut_0 {σ : Sg} {post : Po} {x1 : Int} {x2 : Int} 
  (h : Cl mX11_isPage [vi x1] σ (pI fun z1 σ1 => (rng z1) ∧ ((z1 = 0 → post (some (vi (-1002))) σ1) ∧ (¬ z1 = 0 → Cl mX11_isPage [vi x2] σ1 (pI fun z2 σ2 => (rng z2) ∧ ((z2 = 0 → post (some (vi (-1002))) σ2) ∧ (¬ z2 = 0 → (rng x2) ∧ ((rng x1) ∧ ((x1 ≤ x2 → ((σ2 0 1) = 5) ∧ (Cl mX0_cutPages [vr 5, vi x1, vi x2] (up σ2 0 9 0) (pI fun z3 σ3 => post (some (vi z3)) σ3))) ∧ (¬ x1 ≤ x2 → post (some (vi (-1002))) σ2)))))))))) :
  V mX11_takeOut 0 [some (vr 0), some (vi x1), some (vi x2)] [] σ post := by
  refine V_iload_n dX11_takeOut_0 rfl rfl ?_
  refine V_callS (av := [vi x1]) (stk := []) cvX11_213 rfl rfl (by decide) (by simp [ctg]) dX11_takeOut_1 h ?_
  rintro _ σ1 ⟨z1, rfl, h⟩
  obtain ⟨r1, h⟩ := h
  refine V_if_eq (tgt := 19) dX11_takeOut_4 rfl r1 (fun q => ?_) (fun q => ?_)
  · replace h := h.1 q
    refine V_sipush dX11_takeOut_19 (by decide) ?_
    exact V_ireturn (stk := []) rfl dX11_takeOut_22 h
  · replace h := h.2 q
    refine V_iload_n dX11_takeOut_7 rfl rfl ?_
    refine V_callS (av := [vi x2]) (stk := []) cvX11_213 rfl rfl (by decide) (by simp [ctg]) dX11_takeOut_8 h ?_
    rintro _ σ2 ⟨z2, rfl, h⟩
    obtain ⟨r2, h⟩ := h
    refine V_if_eq (tgt := 19) dX11_takeOut_11 rfl r2 (fun q => ?_) (fun q => ?_)
    · replace h := h.1 q
      refine V_sipush dX11_takeOut_19 (by decide) ?_
      exact V_ireturn (stk := []) rfl dX11_takeOut_22 h
    · replace h := h.2 q
      refine V_iload_n dX11_takeOut_14 rfl rfl ?_
      refine V_iload_n dX11_takeOut_15 rfl rfl ?_
      obtain ⟨r3, h⟩ := h
      obtain ⟨r4, h⟩ := h
      refine V_icmp_ge (tgt := 23) dX11_takeOut_16 rfl r3 r4 (fun q => ?_) (fun q => ?_)
      · replace h := h.1 q
        refine V_aload_n dX11_takeOut_23 rfl rfl ?_
        refine V_iconst dX11_takeOut_24 ?_
        refine V_putZ flX11_57 rfl (by decide) (by decide) dX11_takeOut_25 ?_
        refine V_aload_n dX11_takeOut_28 rfl rfl ?_
        obtain ⟨r5, h⟩ := h
        refine V_getM (k2 := 5) flX11_19 rfl ((up_f (by omega)).trans r5) (by decide) dX11_takeOut_29 ?_
        refine V_iload_n dX11_takeOut_32 rfl rfl ?_
        refine V_iload_n dX11_takeOut_33 rfl rfl ?_
        refine V_callV (av := [vi x1, vi x2]) (stk := []) cvX11_345 rfl rfl rfl (by decide) (by simp [ctg]) dX11_takeOut_34 h ?_
        rintro _ σ3 ⟨z3, rfl, h⟩
        exact V_ireturn (stk := []) rfl dX11_takeOut_37 h
      · replace h := h.2 q
        refine V_sipush dX11_takeOut_19 (by decide) ?_
        exact V_ireturn (stk := []) rfl dX11_takeOut_22 h

set_option maxRecDepth 100000 in
theorem BX11_stale_0 {σ : Sg} {post : Po} {x1 : Int} 
  (h : Cl mX11_isImage [vi x1] σ (pI fun z1 σ1 => (rng z1) ∧ ((¬ z1 = 0 → (0 ≤ x1 ∧ x1 < 2) ∧ ((rng (σ1 (imT (x1).toNat) 13)) ∧ ((¬ (σ1 (imT (x1).toNat) 13) = 0 → V mX11_stale 39 [some (vr 0), none, some (vr (imT (x1).toNat)), some (vi 0), some (vi 0), none, none, none] [] σ1 post) ∧ ((σ1 (imT (x1).toNat) 13) = 0 → post (some (vi (-1003))) σ1)))) ∧ (z1 = 0 → post (some (vi (-1001))) σ1)))) :
  V mX11_stale 0 [some (vr 0), some (vi x1), none, none, none, none, none, none] [] σ post := by
  refine V_iload_n dX11_stale_0 rfl rfl ?_
  refine V_callS (av := [vi x1]) (stk := []) cvX11_348 rfl rfl (by decide) (by simp [ctg]) dX11_stale_1 h ?_
  rintro _ σ1 ⟨z1, rfl, h⟩
  obtain ⟨r1, h⟩ := h
  refine V_if_ne (tgt := 11) dX11_stale_4 rfl r1 (fun q => ?_) (fun q => ?_)
  · replace h := h.1 q
    refine V_aload_n dX11_stale_11 rfl rfl ?_
    refine V_getR (k2 := 2) flX11_23 rfl rfl (by decide) dX11_stale_12 ?_
    refine V_iload_n dX11_stale_15 rfl rfl ?_
    obtain ⟨r2, h⟩ := h
    refine V_aald (k2 := (imT (x1).toNat)) (rfl : shp[2]? = some (5, 2, 0)) r2 rfl dX11_stale_16 ?_
    refine V_getI (f := (σ1 (imT (x1).toNat) 13)) flX11_351 (imT_sh _) (rfl) (by decide) dX11_stale_17 ?_
    obtain ⟨r3, h⟩ := h
    refine V_if_ne (tgt := 27) dX11_stale_20 rfl r3 (fun q => ?_) (fun q => ?_)
    · replace h := h.1 q
      refine V_aload_n dX11_stale_27 rfl rfl ?_
      refine V_getR (k2 := 2) flX11_23 rfl rfl (by decide) dX11_stale_28 ?_
      refine V_iload_n dX11_stale_31 rfl rfl ?_
      refine V_aald (k2 := (imT (x1).toNat)) (rfl : shp[2]? = some (5, 2, 0)) r2 rfl dX11_stale_32 ?_
      refine V_astore_n (L' := [some (vr 0), some (vi x1), some (vr (imT (x1).toNat)), none, none, none, none, none]) dX11_stale_33 rfl (by decide) rfl ?_
      refine V_iconst dX11_stale_34 ?_
      refine V_istore_n (L' := [some (vr 0), some (vi x1), some (vr (imT (x1).toNat)), some (vi 0), none, none, none, none]) dX11_stale_35 rfl (by decide) rfl ?_
      refine V_iconst dX11_stale_36 ?_
      refine V_istore (L' := [some (vr 0), some (vi x1), some (vr (imT (x1).toNat)), some (vi 0), some (vi 0), none, none, none]) dX11_stale_37 (by decide) rfl ?_
      exact V.sub (SubL_s (SubL_n (SubL_s (SubL_s (SubL_s (SubL_n (SubL_n (SubL_n (SubL_0))))))))) h
    · replace h := h.2 q
      refine V_sipush dX11_stale_23 (by decide) ?_
      exact V_ireturn (stk := []) rfl dX11_stale_26 h
  · replace h := h.2 q
    refine V_sipush dX11_stale_7 (by decide) ?_
    exact V_ireturn (stk := []) rfl dX11_stale_10 h
set_option maxRecDepth 100000 in
theorem BX11_stale_39 {σ : Sg} {post : Po} {k2 : Nat} {x3 : Int} {x4 : Int} (hk2 : shp[k2]? = some (0, 0, 14))
  (h : (rng x4) ∧ ((rng (σ k2 0)) ∧ (((σ k2 0) ≤ x4 → post (some (vi x3)) σ) ∧ (¬ (σ k2 0) ≤ x4 → ((σ 0 1) = 5) ∧ ((0 ≤ x4 ∧ x4 < 16) ∧ (Cl mX0_findHead [vr 5, vl (σ (k2 + 1) x4)] σ (pI fun z1 σ1 => Cl mX11_staleRuns [vr 0, vr k2, vi x4, vi (-1), vi z1, vi (-1)] σ1 (pI fun z2 σ2 => V mX11_stale 81 [some (vr 0), none, some (vr k2), some (vi (x3 + z2)), some (vi x4), some (vi z1), some (vi 0), none] [] σ2 post)))))))) :
  V mX11_stale 39 [some (vr 0), none, some (vr k2), some (vi x3), some (vi x4), none, none, none] [] σ post := by
  refine V_iload dX11_stale_39 rfl ?_
  refine V_aload_n dX11_stale_41 rfl rfl ?_
  refine V_getI (f := (σ k2 0)) flX11_123 hk2 (rfl) (by decide) dX11_stale_42 ?_
  obtain ⟨r1, h⟩ := h
  obtain ⟨r2, h⟩ := h
  refine V_icmp_ge (tgt := 150) dX11_stale_45 rfl r1 r2 (fun q => ?_) (fun q => ?_)
  · replace h := h.1 q
    refine V_iload_n dX11_stale_150 rfl rfl ?_
    exact V_ireturn (stk := []) rfl dX11_stale_151 h
  · replace h := h.2 q
    refine V_aload_n dX11_stale_48 rfl rfl ?_
    obtain ⟨r3, h⟩ := h
    refine V_getM (k2 := 5) flX11_19 rfl (r3) (by decide) dX11_stale_49 ?_
    refine V_aload_n dX11_stale_52 rfl rfl ?_
    refine V_getR (k2 := (k2 + 1)) flX11_354 hk2 rfl (by decide) dX11_stale_53 ?_
    refine V_iload dX11_stale_56 rfl ?_
    obtain ⟨r4, h⟩ := h
    refine V_lald (f := (σ (k2 + 1) x4)) (sh0_1 hk2) r4 (rfl) dX11_stale_58 ?_
    refine V_callV (av := [vl (σ (k2 + 1) x4)]) (stk := []) cvX11_358 rfl rfl rfl (by decide) (by simp [ctg]) dX11_stale_59 h ?_
    rintro _ σ1 ⟨z1, rfl, h⟩
    refine V_istore (L' := [some (vr 0), none, some (vr k2), some (vi x3), some (vi x4), some (vi z1), none, none]) dX11_stale_62 (by decide) rfl ?_
    refine V_iload_n dX11_stale_64 rfl rfl ?_
    refine V_aload_n dX11_stale_65 rfl rfl ?_
    refine V_aload_n dX11_stale_66 rfl rfl ?_
    refine V_iload dX11_stale_67 rfl ?_
    refine V_iconst dX11_stale_69 ?_
    refine V_iload dX11_stale_70 rfl ?_
    refine V_iconst dX11_stale_72 ?_
    refine V_callV (av := [vr k2, vi x4, vi (-1), vi z1, vi (-1)]) (stk := [vi x3]) cvX11_361 rfl rfl rfl (by decide) (by simp [ctg]) dX11_stale_73 h ?_
    rintro _ σ2 ⟨z2, rfl, h⟩
    refine V_iadd dX11_stale_76 ?_
    refine V_istore_n (L' := [some (vr 0), none, some (vr k2), some (vi (x3 + z2)), some (vi x4), some (vi z1), none, none]) dX11_stale_77 rfl (by decide) rfl ?_
    refine V_iconst dX11_stale_78 ?_
    refine V_istore (L' := [some (vr 0), none, some (vr k2), some (vi (x3 + z2)), some (vi x4), some (vi z1), some (vi 0), none]) dX11_stale_79 (by decide) rfl ?_
    exact V.sub (SubL_s (SubL_n (SubL_s (SubL_s (SubL_s (SubL_s (SubL_s (SubL_n (SubL_0))))))))) h
set_option maxRecDepth 100000 in
theorem BX11_stale_81 {σ : Sg} {post : Po} {k2 : Nat} {x3 : Int} {x4 : Int} {x5 : Int} {x6 : Int} (hk2 : shp[k2]? = some (0, 0, 14))
  (h : (0 ≤ x4 ∧ x4 < 16) ∧ ((rng x6) ∧ ((rng (σ (k2 + 2) x4)) ∧ (((σ (k2 + 2) x4) ≤ x6 → V mX11_stale 39 [some (vr 0), none, some (vr k2), some (vi x3), some (vi (x4 + 1)), none, none, none] [] σ post) ∧ (¬ (σ (k2 + 2) x4) ≤ x6 → ((σ 0 1) = 5) ∧ (Cl mX0_wordOf [vr k2, vi x4, vi x6] σ (pL fun z1 σ1 => Cl mX0_findSub [vr 5, vi x5, vl z1] σ1 (pI fun z2 σ2 => (rng z2) ∧ ((¬ z2 = (-1) → Cl mX11_staleRuns [vr 0, vr k2, vi x4, vi x6, vi x5, vi z2] σ2 (pI fun z3 σ3 => V mX11_stale 81 [some (vr 0), none, some (vr k2), some (vi (x3 + z3)), some (vi x4), some (vi x5), some (vi (x6 + 1)), none] [] σ3 post)) ∧ (z2 = (-1) → Cl mX11_staleRuns [vr 0, vr k2, vi x4, vi x6, vi (-1), vi z2] σ2 (pI fun z4 σ4 => V mX11_stale 81 [some (vr 0), none, some (vr k2), some (vi (x3 + z4)), some (vi x4), some (vi x5), some (vi (x6 + 1)), none] [] σ4 post))))))))))) :
  V mX11_stale 81 [some (vr 0), none, some (vr k2), some (vi x3), some (vi x4), some (vi x5), some (vi x6), none] [] σ post := by
  refine V_iload dX11_stale_81 rfl ?_
  refine V_aload_n dX11_stale_83 rfl rfl ?_
  refine V_getR (k2 := (k2 + 2)) flX11_156 hk2 rfl (by decide) dX11_stale_84 ?_
  refine V_iload dX11_stale_87 rfl ?_
  obtain ⟨r1, h⟩ := h
  refine V_iald (f := (σ (k2 + 2) x4)) (sh0_2 hk2) r1 (rfl) dX11_stale_89 ?_
  obtain ⟨r2, h⟩ := h
  obtain ⟨r3, h⟩ := h
  refine V_icmp_ge (tgt := 144) dX11_stale_90 rfl r2 r3 (fun q => ?_) (fun q => ?_)
  · replace h := h.1 q
    refine V_iinc (L' := [some (vr 0), none, some (vr k2), some (vi x3), some (vi (x4 + 1)), some (vi x5), some (vi x6), none]) dX11_stale_144 rfl (by decide) rfl ?_
    refine V_goto (tgt := 39) dX11_stale_147 rfl ?_
    exact V.sub (SubL_s (SubL_n (SubL_s (SubL_s (SubL_s (SubL_n (SubL_n (SubL_n (SubL_0))))))))) h
  · replace h := h.2 q
    refine V_aload_n dX11_stale_93 rfl rfl ?_
    obtain ⟨r4, h⟩ := h
    refine V_getM (k2 := 5) flX11_19 rfl (r4) (by decide) dX11_stale_94 ?_
    refine V_iload dX11_stale_97 rfl ?_
    refine V_aload_n dX11_stale_99 rfl rfl ?_
    refine V_iload dX11_stale_100 rfl ?_
    refine V_iload dX11_stale_102 rfl ?_
    refine V_callV (av := [vi x4, vi x6]) (stk := [vi x5, vr 5]) cvX11_180 hk2 rfl rfl (by decide) (by simp [ctg]) dX11_stale_104 h ?_
    rintro _ σ1 ⟨z1, rfl, h⟩
    refine V_callV (av := [vi x5, vl z1]) (stk := []) cvX11_365 rfl rfl rfl (by decide) (by simp [ctg]) dX11_stale_107 h ?_
    rintro _ σ2 ⟨z2, rfl, h⟩
    refine V_istore (L' := [some (vr 0), none, some (vr k2), some (vi x3), some (vi x4), some (vi x5), some (vi x6), some (vi z2)]) dX11_stale_110 (by decide) rfl ?_
    refine V_iload_n dX11_stale_112 rfl rfl ?_
    refine V_aload_n dX11_stale_113 rfl rfl ?_
    refine V_aload_n dX11_stale_114 rfl rfl ?_
    refine V_iload dX11_stale_115 rfl ?_
    refine V_iload dX11_stale_117 rfl ?_
    refine V_iload dX11_stale_119 rfl ?_
    refine V_iconst dX11_stale_121 ?_
    obtain ⟨r5, h⟩ := h
    refine V_icmp_ne (tgt := 129) dX11_stale_122 rfl r5 (by decide) (fun q => ?_) (fun q => ?_)
    · replace h := h.1 q
      refine V_iload dX11_stale_129 rfl ?_
      refine V_iload dX11_stale_131 rfl ?_
      refine V_callV (av := [vr k2, vi x4, vi x6, vi x5, vi z2]) (stk := [vi x3]) cvX11_361 rfl rfl rfl (by decide) (by simp [ctg]) dX11_stale_133 h ?_
      rintro _ σ3 ⟨z3, rfl, h⟩
      refine V_iadd dX11_stale_136 ?_
      refine V_istore_n (L' := [some (vr 0), none, some (vr k2), some (vi (x3 + z3)), some (vi x4), some (vi x5), some (vi x6), some (vi z2)]) dX11_stale_137 rfl (by decide) rfl ?_
      refine V_iinc (L' := [some (vr 0), none, some (vr k2), some (vi (x3 + z3)), some (vi x4), some (vi x5), some (vi (x6 + 1)), some (vi z2)]) dX11_stale_138 rfl (by decide) rfl ?_
      refine V_goto (tgt := 81) dX11_stale_141 rfl ?_
      exact V.sub (SubL_s (SubL_n (SubL_s (SubL_s (SubL_s (SubL_s (SubL_s (SubL_n (SubL_0))))))))) h
    · replace h := h.2 q
      refine V_iconst dX11_stale_125 ?_
      refine V_goto (tgt := 131) dX11_stale_126 rfl ?_
      refine V_iload dX11_stale_131 rfl ?_
      refine V_callV (av := [vr k2, vi x4, vi x6, vi (-1), vi z2]) (stk := [vi x3]) cvX11_361 rfl rfl rfl (by decide) (by simp [ctg]) dX11_stale_133 h ?_
      rintro _ σ4 ⟨z4, rfl, h⟩
      refine V_iadd dX11_stale_136 ?_
      refine V_istore_n (L' := [some (vr 0), none, some (vr k2), some (vi (x3 + z4)), some (vi x4), some (vi x5), some (vi x6), some (vi z2)]) dX11_stale_137 rfl (by decide) rfl ?_
      refine V_iinc (L' := [some (vr 0), none, some (vr k2), some (vi (x3 + z4)), some (vi x4), some (vi x5), some (vi (x6 + 1)), some (vi z2)]) dX11_stale_138 rfl (by decide) rfl ?_
      refine V_goto (tgt := 81) dX11_stale_141 rfl ?_
      exact V.sub (SubL_s (SubL_n (SubL_s (SubL_s (SubL_s (SubL_s (SubL_s (SubL_n (SubL_0))))))))) h

set_option maxRecDepth 100000 in
theorem BX11_staleRuns_0 {σ : Sg} {post : Po} {k1 : Nat} {x2 : Int} {x3 : Int} {x4 : Int} {x5 : Int} (hk1 : shp[k1]? = some (0, 0, 14))
  (h : Cl mX0_gatherRuns [vr k1, vi x2, vi x3, vr 70] σ (pV fun σ1 => Cl mX7_clear [vr 74] σ1 (pV fun σ2 => (rng x4) ∧ ((x4 = (-1) → V mX11_staleRuns 44 [some (vr 0), none, none, none, none, none, some (vi 0), some (vi 0)] [] σ2 post) ∧ (¬ x4 = (-1) → ((σ2 0 1) = 5) ∧ (Cl mX0_gatherRuns [vr 5, vi x4, vi x5, vr 74] σ2 (pV fun σ3 => V mX11_staleRuns 44 [some (vr 0), none, none, none, none, none, some (vi 0), some (vi 0)] [] σ3 post))))))) :
  V mX11_staleRuns 0 [some (vr 0), some (vr k1), some (vi x2), some (vi x3), some (vi x4), some (vi x5), none, none] [] σ post := by
  refine V_aload_n dX11_staleRuns_0 rfl rfl ?_
  refine V_iload_n dX11_staleRuns_1 rfl rfl ?_
  refine V_iload_n dX11_staleRuns_2 rfl rfl ?_
  refine V_aload_n dX11_staleRuns_3 rfl rfl ?_
  refine V_getR (k2 := 70) flX11_64 rfl rfl (by decide) dX11_staleRuns_4 ?_
  refine V_callV (av := [vi x2, vi x3, vr 70]) (stk := []) cvX11_159 hk1 rfl rfl (by decide) (by simp [ctg]) dX11_staleRuns_7 h ?_
  rintro _ σ1 ⟨rfl, h⟩
  refine V_aload_n dX11_staleRuns_10 rfl rfl ?_
  refine V_getR (k2 := 74) flX11_68 rfl rfl (by decide) dX11_staleRuns_11 ?_
  refine V_callV (av := []) (stk := []) cvX11_368 rfl rfl rfl (by decide) (by simp [ctg]) dX11_staleRuns_14 h ?_
  rintro _ σ2 ⟨rfl, h⟩
  refine V_iload dX11_staleRuns_17 rfl ?_
  refine V_iconst dX11_staleRuns_19 ?_
  obtain ⟨r1, h⟩ := h
  refine V_icmp_eq (tgt := 38) dX11_staleRuns_20 rfl r1 (by decide) (fun q => ?_) (fun q => ?_)
  · replace h := h.1 q
    refine V_iconst dX11_staleRuns_38 ?_
    refine V_istore (L' := [some (vr 0), some (vr k1), some (vi x2), some (vi x3), some (vi x4), some (vi x5), some (vi 0), none]) dX11_staleRuns_39 (by decide) rfl ?_
    refine V_iconst dX11_staleRuns_41 ?_
    refine V_istore (L' := [some (vr 0), some (vr k1), some (vi x2), some (vi x3), some (vi x4), some (vi x5), some (vi 0), some (vi 0)]) dX11_staleRuns_42 (by decide) rfl ?_
    exact V.sub (SubL_s (SubL_n (SubL_n (SubL_n (SubL_n (SubL_n (SubL_s (SubL_s (SubL_0))))))))) h
  · replace h := h.2 q
    refine V_aload_n dX11_staleRuns_23 rfl rfl ?_
    obtain ⟨r2, h⟩ := h
    refine V_getM (k2 := 5) flX11_19 rfl (r2) (by decide) dX11_staleRuns_24 ?_
    refine V_iload dX11_staleRuns_27 rfl ?_
    refine V_iload dX11_staleRuns_29 rfl ?_
    refine V_aload_n dX11_staleRuns_31 rfl rfl ?_
    refine V_getR (k2 := 74) flX11_68 rfl rfl (by decide) dX11_staleRuns_32 ?_
    refine V_callV (av := [vi x4, vi x5, vr 74]) (stk := []) cvX11_159 rfl rfl rfl (by decide) (by simp [ctg]) dX11_staleRuns_35 h ?_
    rintro _ σ3 ⟨rfl, h⟩
    refine V_iconst dX11_staleRuns_38 ?_
    refine V_istore (L' := [some (vr 0), some (vr k1), some (vi x2), some (vi x3), some (vi x4), some (vi x5), some (vi 0), none]) dX11_staleRuns_39 (by decide) rfl ?_
    refine V_iconst dX11_staleRuns_41 ?_
    refine V_istore (L' := [some (vr 0), some (vr k1), some (vi x2), some (vi x3), some (vi x4), some (vi x5), some (vi 0), some (vi 0)]) dX11_staleRuns_42 (by decide) rfl ?_
    exact V.sub (SubL_s (SubL_n (SubL_n (SubL_n (SubL_n (SubL_n (SubL_s (SubL_s (SubL_0))))))))) h
set_option maxRecDepth 100000 in
theorem BX11_staleRuns_44 {σ : Sg} {post : Po} {x6 : Int} {x7 : Int} 
  (h : (rng x7) ∧ ((rng (σ 70 0)) ∧ (((σ 70 0) ≤ x7 → post (some (vi x6)) σ) ∧ (¬ (σ 70 0) ≤ x7 → (0 ≤ x7 ∧ x7 < 60) ∧ (Cl mX7_holds [vr 74, vi (σ 71 x7), vi (σ 72 x7)] σ (pI fun z1 σ1 => (rng z1) ∧ ((¬ z1 = 0 → V mX11_staleRuns 44 [some (vr 0), none, none, none, none, none, some (vi x6), some (vi (x7 + 1))] [] σ1 post) ∧ (z1 = 0 → V mX11_staleRuns 44 [some (vr 0), none, none, none, none, none, some (vi (x6 + 1)), some (vi (x7 + 1))] [] σ1 post)))))))) :
  V mX11_staleRuns 44 [some (vr 0), none, none, none, none, none, some (vi x6), some (vi x7)] [] σ post := by
  refine V_iload dX11_staleRuns_44 rfl ?_
  refine V_aload_n dX11_staleRuns_46 rfl rfl ?_
  refine V_getR (k2 := 70) flX11_64 rfl rfl (by decide) dX11_staleRuns_47 ?_
  refine V_getI (f := (σ 70 0)) flX11_163 rfl (rfl) (by decide) dX11_staleRuns_50 ?_
  obtain ⟨r1, h⟩ := h
  obtain ⟨r2, h⟩ := h
  refine V_icmp_ge (tgt := 95) dX11_staleRuns_53 rfl r1 r2 (fun q => ?_) (fun q => ?_)
  · replace h := h.1 q
    refine V_iload dX11_staleRuns_95 rfl ?_
    exact V_ireturn (stk := []) rfl dX11_staleRuns_97 h
  · replace h := h.2 q
    refine V_aload_n dX11_staleRuns_56 rfl rfl ?_
    refine V_getR (k2 := 74) flX11_68 rfl rfl (by decide) dX11_staleRuns_57 ?_
    refine V_aload_n dX11_staleRuns_60 rfl rfl ?_
    refine V_getR (k2 := 70) flX11_64 rfl rfl (by decide) dX11_staleRuns_61 ?_
    refine V_getR (k2 := 71) flX11_223 rfl rfl (by decide) dX11_staleRuns_64 ?_
    refine V_iload dX11_staleRuns_67 rfl ?_
    obtain ⟨r3, h⟩ := h
    refine V_iald (f := (σ 71 x7)) (rfl : shp[71]? = some (1, 60, 0)) r3 (rfl) dX11_staleRuns_69 ?_
    refine V_aload_n dX11_staleRuns_70 rfl rfl ?_
    refine V_getR (k2 := 70) flX11_64 rfl rfl (by decide) dX11_staleRuns_71 ?_
    refine V_getR (k2 := 72) flX11_226 rfl rfl (by decide) dX11_staleRuns_74 ?_
    refine V_iload dX11_staleRuns_77 rfl ?_
    refine V_iald (f := (σ 72 x7)) (rfl : shp[72]? = some (1, 60, 0)) r3 (rfl) dX11_staleRuns_79 ?_
    refine V_callV (av := [vi (σ 71 x7), vi (σ 72 x7)]) (stk := []) cvX11_369 rfl rfl rfl (by decide) (by simp [ctg]) dX11_staleRuns_80 h ?_
    rintro _ σ1 ⟨z1, rfl, h⟩
    obtain ⟨r4, h⟩ := h
    refine V_if_ne (tgt := 89) dX11_staleRuns_83 rfl r4 (fun q => ?_) (fun q => ?_)
    · replace h := h.1 q
      refine V_iinc (L' := [some (vr 0), none, none, none, none, none, some (vi x6), some (vi (x7 + 1))]) dX11_staleRuns_89 rfl (by decide) rfl ?_
      refine V_goto (tgt := 44) dX11_staleRuns_92 rfl ?_
      exact V.sub (SubL_s (SubL_n (SubL_n (SubL_n (SubL_n (SubL_n (SubL_s (SubL_s (SubL_0))))))))) h
    · replace h := h.2 q
      refine V_iinc (L' := [some (vr 0), none, none, none, none, none, some (vi (x6 + 1)), some (vi x7)]) dX11_staleRuns_86 rfl (by decide) rfl ?_
      refine V_iinc (L' := [some (vr 0), none, none, none, none, none, some (vi (x6 + 1)), some (vi (x7 + 1))]) dX11_staleRuns_89 rfl (by decide) rfl ?_
      refine V_goto (tgt := 44) dX11_staleRuns_92 rfl ?_
      exact V.sub (SubL_s (SubL_n (SubL_n (SubL_n (SubL_n (SubL_n (SubL_s (SubL_s (SubL_0))))))))) h

set_option maxRecDepth 100000 in
theorem BX11_saw_0 {σ : Sg} {post : Po} {x1 : Int} {x2 : Int} 
  (h : Cl mX11_isPage [vi x1] σ (pI fun z1 σ1 => (rng z1) ∧ ((z1 = 0 → post (some (vi (-1002))) σ1) ∧ (¬ z1 = 0 → (rng x2) ∧ ((x2 < 1 → post (some (vi (-1002))) σ1) ∧ (¬ x2 < 1 → (x2 ≤ 199 → Cl mX9_lastTold [vr 90] σ1 (pI fun z2 σ2 => (rng x1) ∧ ((rng z2) ∧ ((z2 < x1 → (rng (σ2 90 0)) ∧ (((σ2 90 0) < 20 → Cl mX9_put [vr 90, vi x1, vi x2] σ2 (pI fun z3 σ3 => post (some (vi z3)) σ3)) ∧ (¬ (σ2 90 0) < 20 → post (some (vi (-1004))) σ2))) ∧ (¬ z2 < x1 → post (some (vi (-1003))) σ2))))) ∧ (¬ x2 ≤ 199 → post (some (vi (-1002))) σ1))))))) :
  V mX11_saw 0 [some (vr 0), some (vi x1), some (vi x2)] [] σ post := by
  refine V_iload_n dX11_saw_0 rfl rfl ?_
  refine V_callS (av := [vi x1]) (stk := []) cvX11_213 rfl rfl (by decide) (by simp [ctg]) dX11_saw_1 h ?_
  rintro _ σ1 ⟨z1, rfl, h⟩
  obtain ⟨r1, h⟩ := h
  refine V_if_eq (tgt := 19) dX11_saw_4 rfl r1 (fun q => ?_) (fun q => ?_)
  · replace h := h.1 q
    refine V_sipush dX11_saw_19 (by decide) ?_
    exact V_ireturn (stk := []) rfl dX11_saw_22 h
  · replace h := h.2 q
    refine V_iload_n dX11_saw_7 rfl rfl ?_
    refine V_iconst dX11_saw_8 ?_
    obtain ⟨r2, h⟩ := h
    refine V_icmp_lt (tgt := 19) dX11_saw_9 rfl r2 (by decide) (fun q => ?_) (fun q => ?_)
    · replace h := h.1 q
      refine V_sipush dX11_saw_19 (by decide) ?_
      exact V_ireturn (stk := []) rfl dX11_saw_22 h
    · replace h := h.2 q
      refine V_iload_n dX11_saw_12 rfl rfl ?_
      refine V_sipush dX11_saw_13 (by decide) ?_
      refine V_icmp_le (tgt := 23) dX11_saw_16 rfl r2 (by decide) (fun q => ?_) (fun q => ?_)
      · replace h := h.1 q
        refine V_iload_n dX11_saw_23 rfl rfl ?_
        refine V_aload_n dX11_saw_24 rfl rfl ?_
        refine V_getR (k2 := 90) flX11_95 rfl rfl (by decide) dX11_saw_25 ?_
        refine V_callV (av := []) (stk := [vi x1]) cvX11_372 rfl rfl rfl (by decide) (by simp [ctg]) dX11_saw_28 h ?_
        rintro _ σ2 ⟨z2, rfl, h⟩
        obtain ⟨r3, h⟩ := h
        obtain ⟨r4, h⟩ := h
        refine V_icmp_gt (tgt := 38) dX11_saw_31 rfl r3 r4 (fun q => ?_) (fun q => ?_)
        · replace h := h.1 q
          refine V_aload_n dX11_saw_38 rfl rfl ?_
          refine V_getR (k2 := 90) flX11_95 rfl rfl (by decide) dX11_saw_39 ?_
          refine V_getI (f := (σ2 90 0)) flX11_132 rfl (rfl) (by decide) dX11_saw_42 ?_
          refine V_bipush dX11_saw_45 (by decide) ?_
          obtain ⟨r5, h⟩ := h
          refine V_icmp_lt (tgt := 54) dX11_saw_47 rfl r5 (by decide) (fun q => ?_) (fun q => ?_)
          · replace h := h.1 q
            refine V_aload_n dX11_saw_54 rfl rfl ?_
            refine V_getR (k2 := 90) flX11_95 rfl rfl (by decide) dX11_saw_55 ?_
            refine V_iload_n dX11_saw_58 rfl rfl ?_
            refine V_iload_n dX11_saw_59 rfl rfl ?_
            refine V_callV (av := [vi x1, vi x2]) (stk := []) cvX11_375 rfl rfl rfl (by decide) (by simp [ctg]) dX11_saw_60 h ?_
            rintro _ σ3 ⟨z3, rfl, h⟩
            exact V_ireturn (stk := []) rfl dX11_saw_63 h
          · replace h := h.2 q
            refine V_sipush dX11_saw_50 (by decide) ?_
            exact V_ireturn (stk := []) rfl dX11_saw_53 h
        · replace h := h.2 q
          refine V_sipush dX11_saw_34 (by decide) ?_
          exact V_ireturn (stk := []) rfl dX11_saw_37 h
      · replace h := h.2 q
        refine V_sipush dX11_saw_19 (by decide) ?_
        exact V_ireturn (stk := []) rfl dX11_saw_22 h

set_option maxRecDepth 100000 in
theorem BX11_forget_0 {σ : Sg} {post : Po}  
  (h : post (some (vi (σ 90 0))) (up σ 90 0 0)) :
  V mX11_forget 0 [some (vr 0), none] [] σ post := by
  refine V_aload_n dX11_forget_0 rfl rfl ?_
  refine V_getR (k2 := 90) flX11_95 rfl rfl (by decide) dX11_forget_1 ?_
  refine V_getI (f := (σ 90 0)) flX11_132 rfl (rfl) (by decide) dX11_forget_4 ?_
  refine V_istore_n (L' := [some (vr 0), some (vi (σ 90 0))]) dX11_forget_7 rfl (by decide) rfl ?_
  refine V_aload_n dX11_forget_8 rfl rfl ?_
  refine V_getR (k2 := 90) flX11_95 rfl rfl (by decide) dX11_forget_9 ?_
  refine V_iconst dX11_forget_12 ?_
  refine V_putI flX11_132 rfl (by decide) dX11_forget_13 ?_
  refine V_iload_n dX11_forget_16 rfl rfl ?_
  exact V_ireturn (stk := []) rfl dX11_forget_17 h

set_option maxRecDepth 100000 in
theorem BX11_story_0 {σ : Sg} {post : Po} {x1 : Int} {x2 : Int} 
  (h : (rng x2) ∧ ((x2 = (-1) → (rng x1) ∧ ((x1 < 0 → post (some (vi (-1002))) σ) ∧ (¬ x1 < 0 → (x1 ≤ 20 → Cl mX9_weigh [vr 90, vi x1] σ (pV fun σ1 => (¬ x2 = (-1) → Cl mX9_standsAt [vr 90, vi x2, vi x1] σ1 (pI fun z2 σ2 => (rng z2) ∧ ((z2 = 0 → post (some (vi 0)) σ2) ∧ (¬ z2 = 0 → post (some (vi 1)) σ2)))) ∧ (x2 = (-1) → Cl mX9_leastCost [vr 90] σ1 (pI fun z3 σ3 => post (some (vi z3)) σ3)))) ∧ (¬ x1 ≤ 20 → post (some (vi (-1002))) σ)))) ∧ (¬ x2 = (-1) → (x2 < 0 → post (some (vi (-1001))) σ) ∧ (¬ x2 < 0 → (rng (σ 90 0)) ∧ ((x2 < (σ 90 0) → (rng x1) ∧ ((x1 < 0 → post (some (vi (-1002))) σ) ∧ (¬ x1 < 0 → (x1 ≤ 20 → Cl mX9_weigh [vr 90, vi x1] σ (pV fun σ4 => (¬ x2 = (-1) → Cl mX9_standsAt [vr 90, vi x2, vi x1] σ4 (pI fun z5 σ5 => (rng z5) ∧ ((z5 = 0 → post (some (vi 0)) σ5) ∧ (¬ z5 = 0 → post (some (vi 1)) σ5)))) ∧ (x2 = (-1) → Cl mX9_leastCost [vr 90] σ4 (pI fun z6 σ6 => post (some (vi z6)) σ6)))) ∧ (¬ x1 ≤ 20 → post (some (vi (-1002))) σ)))) ∧ (¬ x2 < (σ 90 0) → post (some (vi (-1001))) σ)))))) :
  V mX11_story 0 [some (vr 0), some (vi x1), some (vi x2)] [] σ post := by
  refine V_iload_n dX11_story_0 rfl rfl ?_
  refine V_iconst dX11_story_1 ?_
  obtain ⟨r1, h⟩ := h
  refine V_icmp_eq (tgt := 24) dX11_story_2 rfl r1 (by decide) (fun q => ?_) (fun q => ?_)
  · replace h := h.1 q
    refine V_iload_n dX11_story_24 rfl rfl ?_
    obtain ⟨r2, h⟩ := h
    refine V_if_lt (tgt := 34) dX11_story_25 rfl r2 (fun q => ?_) (fun q => ?_)
    · replace h := h.1 q
      refine V_sipush dX11_story_34 (by decide) ?_
      exact V_ireturn (stk := []) rfl dX11_story_37 h
    · replace h := h.2 q
      refine V_iload_n dX11_story_28 rfl rfl ?_
      refine V_bipush dX11_story_29 (by decide) ?_
      refine V_icmp_le (tgt := 38) dX11_story_31 rfl r2 (by decide) (fun q => ?_) (fun q => ?_)
      · replace h := h.1 q
        refine V_aload_n dX11_story_38 rfl rfl ?_
        refine V_getR (k2 := 90) flX11_95 rfl rfl (by decide) dX11_story_39 ?_
        refine V_iload_n dX11_story_42 rfl rfl ?_
        refine V_callV (av := [vi x1]) (stk := []) cvX11_378 rfl rfl rfl (by decide) (by simp [ctg]) dX11_story_43 h ?_
        rintro _ σ1 ⟨rfl, h⟩
        refine V_iload_n dX11_story_46 rfl rfl ?_
        refine V_iconst dX11_story_47 ?_
        refine V_icmp_ne (tgt := 59) dX11_story_48 rfl r1 (by decide) (fun q => ?_) (fun q => ?_)
        · replace h := h.1 q
          refine V_aload_n dX11_story_59 rfl rfl ?_
          refine V_getR (k2 := 90) flX11_95 rfl rfl (by decide) dX11_story_60 ?_
          refine V_iload_n dX11_story_63 rfl rfl ?_
          refine V_iload_n dX11_story_64 rfl rfl ?_
          refine V_callV (av := [vi x2, vi x1]) (stk := []) cvX11_384 rfl rfl rfl (by decide) (by simp [ctg]) dX11_story_65 h ?_
          rintro _ σ2 ⟨z2, rfl, h⟩
          obtain ⟨r3, h⟩ := h
          refine V_if_eq (tgt := 75) dX11_story_68 rfl r3 (fun q => ?_) (fun q => ?_)
          · replace h := h.1 q
            refine V_iconst dX11_story_75 ?_
            exact V_ireturn (stk := []) rfl dX11_story_76 h
          · replace h := h.2 q
            refine V_iconst dX11_story_71 ?_
            refine V_goto (tgt := 76) dX11_story_72 rfl ?_
            exact V_ireturn (stk := []) rfl dX11_story_76 h
        · replace h := h.2 q
          refine V_aload_n dX11_story_51 rfl rfl ?_
          refine V_getR (k2 := 90) flX11_95 rfl rfl (by decide) dX11_story_52 ?_
          refine V_callV (av := []) (stk := []) cvX11_381 rfl rfl rfl (by decide) (by simp [ctg]) dX11_story_55 h ?_
          rintro _ σ3 ⟨z3, rfl, h⟩
          exact V_ireturn (stk := []) rfl dX11_story_58 h
      · replace h := h.2 q
        refine V_sipush dX11_story_34 (by decide) ?_
        exact V_ireturn (stk := []) rfl dX11_story_37 h
  · replace h := h.2 q
    refine V_iload_n dX11_story_5 rfl rfl ?_
    refine V_if_lt (tgt := 20) dX11_story_6 rfl r1 (fun q => ?_) (fun q => ?_)
    · replace h := h.1 q
      refine V_sipush dX11_story_20 (by decide) ?_
      exact V_ireturn (stk := []) rfl dX11_story_23 h
    · replace h := h.2 q
      refine V_iload_n dX11_story_9 rfl rfl ?_
      refine V_aload_n dX11_story_10 rfl rfl ?_
      refine V_getR (k2 := 90) flX11_95 rfl rfl (by decide) dX11_story_11 ?_
      refine V_getI (f := (σ 90 0)) flX11_132 rfl (rfl) (by decide) dX11_story_14 ?_
      obtain ⟨r4, h⟩ := h
      refine V_icmp_lt (tgt := 24) dX11_story_17 rfl r1 r4 (fun q => ?_) (fun q => ?_)
      · replace h := h.1 q
        refine V_iload_n dX11_story_24 rfl rfl ?_
        obtain ⟨r5, h⟩ := h
        refine V_if_lt (tgt := 34) dX11_story_25 rfl r5 (fun q => ?_) (fun q => ?_)
        · replace h := h.1 q
          refine V_sipush dX11_story_34 (by decide) ?_
          exact V_ireturn (stk := []) rfl dX11_story_37 h
        · replace h := h.2 q
          refine V_iload_n dX11_story_28 rfl rfl ?_
          refine V_bipush dX11_story_29 (by decide) ?_
          refine V_icmp_le (tgt := 38) dX11_story_31 rfl r5 (by decide) (fun q => ?_) (fun q => ?_)
          · replace h := h.1 q
            refine V_aload_n dX11_story_38 rfl rfl ?_
            refine V_getR (k2 := 90) flX11_95 rfl rfl (by decide) dX11_story_39 ?_
            refine V_iload_n dX11_story_42 rfl rfl ?_
            refine V_callV (av := [vi x1]) (stk := []) cvX11_378 rfl rfl rfl (by decide) (by simp [ctg]) dX11_story_43 h ?_
            rintro _ σ4 ⟨rfl, h⟩
            refine V_iload_n dX11_story_46 rfl rfl ?_
            refine V_iconst dX11_story_47 ?_
            refine V_icmp_ne (tgt := 59) dX11_story_48 rfl r1 (by decide) (fun q => ?_) (fun q => ?_)
            · replace h := h.1 q
              refine V_aload_n dX11_story_59 rfl rfl ?_
              refine V_getR (k2 := 90) flX11_95 rfl rfl (by decide) dX11_story_60 ?_
              refine V_iload_n dX11_story_63 rfl rfl ?_
              refine V_iload_n dX11_story_64 rfl rfl ?_
              refine V_callV (av := [vi x2, vi x1]) (stk := []) cvX11_384 rfl rfl rfl (by decide) (by simp [ctg]) dX11_story_65 h ?_
              rintro _ σ5 ⟨z5, rfl, h⟩
              obtain ⟨r6, h⟩ := h
              refine V_if_eq (tgt := 75) dX11_story_68 rfl r6 (fun q => ?_) (fun q => ?_)
              · replace h := h.1 q
                refine V_iconst dX11_story_75 ?_
                exact V_ireturn (stk := []) rfl dX11_story_76 h
              · replace h := h.2 q
                refine V_iconst dX11_story_71 ?_
                refine V_goto (tgt := 76) dX11_story_72 rfl ?_
                exact V_ireturn (stk := []) rfl dX11_story_76 h
            · replace h := h.2 q
              refine V_aload_n dX11_story_51 rfl rfl ?_
              refine V_getR (k2 := 90) flX11_95 rfl rfl (by decide) dX11_story_52 ?_
              refine V_callV (av := []) (stk := []) cvX11_381 rfl rfl rfl (by decide) (by simp [ctg]) dX11_story_55 h ?_
              rintro _ σ6 ⟨z6, rfl, h⟩
              exact V_ireturn (stk := []) rfl dX11_story_58 h
          · replace h := h.2 q
            refine V_sipush dX11_story_34 (by decide) ?_
            exact V_ireturn (stk := []) rfl dX11_story_37 h
      · replace h := h.2 q
        refine V_sipush dX11_story_20 (by decide) ?_
        exact V_ireturn (stk := []) rfl dX11_story_23 h

set_option maxRecDepth 100000 in
theorem BX11_near_0 {σ : Sg} {post : Po} {x1 : Int} {x2 : Int} 
  (h : Cl mX11_areTwoHeads [vr 0, vi x1, vi x2] σ (pI fun z1 σ1 => (rng z1) ∧ ((¬ z1 = 0 → ((σ1 0 1) = 5) ∧ ((0 ≤ x1 ∧ x1 < 16) ∧ ((0 ≤ x2 ∧ x2 < 16) ∧ (Cl mX10_nearness [vl (σ1 6 x1), vl (σ1 6 x2)] σ1 (pI fun z2 σ2 => post (some (vi z2)) σ2))))) ∧ (z1 = 0 → post (some (vi (-1001))) σ1)))) :
  V mX11_near 0 [some (vr 0), some (vi x1), some (vi x2)] [] σ post := by
  refine V_aload_n dX11_near_0 rfl rfl ?_
  refine V_iload_n dX11_near_1 rfl rfl ?_
  refine V_iload_n dX11_near_2 rfl rfl ?_
  refine V_callV (av := [vi x1, vi x2]) (stk := []) cvX11_387 rfl rfl rfl (by decide) (by simp [ctg]) dX11_near_3 h ?_
  rintro _ σ1 ⟨z1, rfl, h⟩
  obtain ⟨r1, h⟩ := h
  refine V_if_ne (tgt := 13) dX11_near_6 rfl r1 (fun q => ?_) (fun q => ?_)
  · replace h := h.1 q
    refine V_aload_n dX11_near_13 rfl rfl ?_
    obtain ⟨r2, h⟩ := h
    refine V_getM (k2 := 5) flX11_19 rfl (r2) (by decide) dX11_near_14 ?_
    refine V_getR (k2 := 6) flX11_354 rfl rfl (by decide) dX11_near_17 ?_
    refine V_iload_n dX11_near_20 rfl rfl ?_
    obtain ⟨r3, h⟩ := h
    refine V_lald (f := (σ1 6 x1)) (rfl : shp[6]? = some (4, 16, 0)) r3 (rfl) dX11_near_21 ?_
    refine V_aload_n dX11_near_22 rfl rfl ?_
    refine V_getM (k2 := 5) flX11_19 rfl (r2) (by decide) dX11_near_23 ?_
    refine V_getR (k2 := 6) flX11_354 rfl rfl (by decide) dX11_near_26 ?_
    refine V_iload_n dX11_near_29 rfl rfl ?_
    obtain ⟨r4, h⟩ := h
    refine V_lald (f := (σ1 6 x2)) (rfl : shp[6]? = some (4, 16, 0)) r4 (rfl) dX11_near_30 ?_
    refine V_callS (av := [vl (σ1 6 x1), vl (σ1 6 x2)]) (stk := []) cvX11_390 rfl rfl (by decide) (by simp [ctg]) dX11_near_31 h ?_
    rintro _ σ2 ⟨z2, rfl, h⟩
    exact V_ireturn (stk := []) rfl dX11_near_34 h
  · replace h := h.2 q
    refine V_sipush dX11_near_9 (by decide) ?_
    exact V_ireturn (stk := []) rfl dX11_near_12 h

set_option maxRecDepth 100000 in
theorem BX11_join_0 {σ : Sg} {post : Po} {x1 : Int} {x2 : Int} 
  (h : Cl mX11_areTwoHeads [vr 0, vi x1, vi x2] σ (pI fun z1 σ1 => (rng z1) ∧ ((¬ z1 = 0 → ((σ1 0 1) = 5) ∧ ((0 ≤ x1 ∧ x1 < 16) ∧ ((rng (σ1 9 x1)) ∧ (((σ1 9 x1) = (-1) → Cl mX0_subsMissing [vr 5, vi x1, vi x2] σ1 (pI fun z2 σ2 => (rng ((σ1 7 x1) + z2)) ∧ ((((σ1 7 x1) + z2) ≤ 6 → ((σ2 0 1) = 5) ∧ (Cl mX0_joinMarks [vr 5, vi x1, vi x2] σ2 (pV fun σ3 => ((σ3 0 1) = 5) ∧ (Cl mX0_joinRest [vr 5, vi x1, vi x2] σ3 (pV fun σ4 => ((σ4 0 1) = 5) ∧ (Cl mX0_marksOf [vr 5, vi x1] (up σ4 0 9 0) (pI fun z5 σ5 => post (some (vi z5)) σ5))))))) ∧ (¬ ((σ1 7 x1) + z2) ≤ 6 → post (some (vi (-1004))) σ2)))) ∧ (¬ (σ1 9 x1) = (-1) → post (some (vi (-1003))) σ1))))) ∧ (z1 = 0 → post (some (vi (-1001))) σ1)))) :
  V mX11_join 0 [some (vr 0), some (vi x1), some (vi x2)] [] σ post := by
  refine V_aload_n dX11_join_0 rfl rfl ?_
  refine V_iload_n dX11_join_1 rfl rfl ?_
  refine V_iload_n dX11_join_2 rfl rfl ?_
  refine V_callV (av := [vi x1, vi x2]) (stk := []) cvX11_387 rfl rfl rfl (by decide) (by simp [ctg]) dX11_join_3 h ?_
  rintro _ σ1 ⟨z1, rfl, h⟩
  obtain ⟨r1, h⟩ := h
  refine V_if_ne (tgt := 13) dX11_join_6 rfl r1 (fun q => ?_) (fun q => ?_)
  · replace h := h.1 q
    refine V_aload_n dX11_join_13 rfl rfl ?_
    obtain ⟨r2, h⟩ := h
    refine V_getM (k2 := 5) flX11_19 rfl (r2) (by decide) dX11_join_14 ?_
    refine V_getR (k2 := 9) flX11_164 rfl rfl (by decide) dX11_join_17 ?_
    refine V_iload_n dX11_join_20 rfl rfl ?_
    obtain ⟨r3, h⟩ := h
    refine V_iald (f := (σ1 9 x1)) (rfl : shp[9]? = some (1, 16, 0)) r3 (rfl) dX11_join_21 ?_
    refine V_iconst dX11_join_22 ?_
    obtain ⟨r4, h⟩ := h
    refine V_icmp_eq (tgt := 30) dX11_join_23 rfl r4 (by decide) (fun q => ?_) (fun q => ?_)
    · replace h := h.1 q
      refine V_aload_n dX11_join_30 rfl rfl ?_
      refine V_getM (k2 := 5) flX11_19 rfl (r2) (by decide) dX11_join_31 ?_
      refine V_getR (k2 := 7) flX11_156 rfl rfl (by decide) dX11_join_34 ?_
      refine V_iload_n dX11_join_37 rfl rfl ?_
      refine V_iald (f := (σ1 7 x1)) (rfl : shp[7]? = some (1, 16, 0)) r3 (rfl) dX11_join_38 ?_
      refine V_aload_n dX11_join_39 rfl rfl ?_
      refine V_getM (k2 := 5) flX11_19 rfl (r2) (by decide) dX11_join_40 ?_
      refine V_iload_n dX11_join_43 rfl rfl ?_
      refine V_iload_n dX11_join_44 rfl rfl ?_
      refine V_callV (av := [vi x1, vi x2]) (stk := [vi (σ1 7 x1)]) cvX11_394 rfl rfl rfl (by decide) (by simp [ctg]) dX11_join_45 h ?_
      rintro _ σ2 ⟨z2, rfl, h⟩
      refine V_iadd dX11_join_48 ?_
      refine V_bipush dX11_join_49 (by decide) ?_
      obtain ⟨r5, h⟩ := h
      refine V_icmp_le (tgt := 58) dX11_join_51 rfl r5 (by decide) (fun q => ?_) (fun q => ?_)
      · replace h := h.1 q
        refine V_aload_n dX11_join_58 rfl rfl ?_
        obtain ⟨r6, h⟩ := h
        refine V_getM (k2 := 5) flX11_19 rfl (r6) (by decide) dX11_join_59 ?_
        refine V_iload_n dX11_join_62 rfl rfl ?_
        refine V_iload_n dX11_join_63 rfl rfl ?_
        refine V_callV (av := [vi x1, vi x2]) (stk := []) cvX11_397 rfl rfl rfl (by decide) (by simp [ctg]) dX11_join_64 h ?_
        rintro _ σ3 ⟨rfl, h⟩
        refine V_aload_n dX11_join_67 rfl rfl ?_
        obtain ⟨r7, h⟩ := h
        refine V_getM (k2 := 5) flX11_19 rfl (r7) (by decide) dX11_join_68 ?_
        refine V_iload_n dX11_join_71 rfl rfl ?_
        refine V_iload_n dX11_join_72 rfl rfl ?_
        refine V_callV (av := [vi x1, vi x2]) (stk := []) cvX11_400 rfl rfl rfl (by decide) (by simp [ctg]) dX11_join_73 h ?_
        rintro _ σ4 ⟨rfl, h⟩
        refine V_aload_n dX11_join_76 rfl rfl ?_
        refine V_iconst dX11_join_77 ?_
        refine V_putZ flX11_57 rfl (by decide) (by decide) dX11_join_78 ?_
        refine V_aload_n dX11_join_81 rfl rfl ?_
        obtain ⟨r8, h⟩ := h
        refine V_getM (k2 := 5) flX11_19 rfl ((up_f (by omega)).trans r8) (by decide) dX11_join_82 ?_
        refine V_iload_n dX11_join_85 rfl rfl ?_
        refine V_callV (av := [vi x1]) (stk := []) cvX11_403 rfl rfl rfl (by decide) (by simp [ctg]) dX11_join_86 h ?_
        rintro _ σ5 ⟨z5, rfl, h⟩
        exact V_ireturn (stk := []) rfl dX11_join_89 h
      · replace h := h.2 q
        refine V_sipush dX11_join_54 (by decide) ?_
        exact V_ireturn (stk := []) rfl dX11_join_57 h
    · replace h := h.2 q
      refine V_sipush dX11_join_26 (by decide) ?_
      exact V_ireturn (stk := []) rfl dX11_join_29 h
  · replace h := h.2 q
    refine V_sipush dX11_join_9 (by decide) ?_
    exact V_ireturn (stk := []) rfl dX11_join_12 h

set_option maxRecDepth 100000 in
theorem BX11_keep_0 {σ : Sg} {post : Po} {x1 : Int} 
  (h : Cl mX11_isImage [vi x1] σ (pI fun z1 σ1 => (rng z1) ∧ ((¬ z1 = 0 → (0 ≤ x1 ∧ x1 < 2) ∧ (((σ1 0 1) = 5) ∧ (Cl mX0_copyFrom [vr (imT (x1).toNat), vr 5] σ1 (pV fun σ2 => post (some (vi 1)) (up σ2 (imT (x1).toNat) 13 1))))) ∧ (z1 = 0 → post (some (vi (-1001))) σ1)))) :
  V mX11_keep 0 [some (vr 0), some (vi x1)] [] σ post := by
  refine V_iload_n dX11_keep_0 rfl rfl ?_
  refine V_callS (av := [vi x1]) (stk := []) cvX11_348 rfl rfl (by decide) (by simp [ctg]) dX11_keep_1 h ?_
  rintro _ σ1 ⟨z1, rfl, h⟩
  obtain ⟨r1, h⟩ := h
  refine V_if_ne (tgt := 11) dX11_keep_4 rfl r1 (fun q => ?_) (fun q => ?_)
  · replace h := h.1 q
    refine V_aload_n dX11_keep_11 rfl rfl ?_
    refine V_getR (k2 := 2) flX11_23 rfl rfl (by decide) dX11_keep_12 ?_
    refine V_iload_n dX11_keep_15 rfl rfl ?_
    obtain ⟨r2, h⟩ := h
    refine V_aald (k2 := (imT (x1).toNat)) (rfl : shp[2]? = some (5, 2, 0)) r2 rfl dX11_keep_16 ?_
    refine V_aload_n dX11_keep_17 rfl rfl ?_
    obtain ⟨r3, h⟩ := h
    refine V_getM (k2 := 5) flX11_19 rfl (r3) (by decide) dX11_keep_18 ?_
    refine V_callV (av := [vr 5]) (stk := []) cvX11_406 (imT_sh _) rfl rfl (by decide) (by simp [ctg]) dX11_keep_21 h ?_
    rintro _ σ2 ⟨rfl, h⟩
    refine V_aload_n dX11_keep_24 rfl rfl ?_
    refine V_getR (k2 := 2) flX11_23 rfl rfl (by decide) dX11_keep_25 ?_
    refine V_iload_n dX11_keep_28 rfl rfl ?_
    refine V_aald (k2 := (imT (x1).toNat)) (rfl : shp[2]? = some (5, 2, 0)) r2 rfl dX11_keep_29 ?_
    refine V_iconst dX11_keep_30 ?_
    refine V_putZ flX11_351 (imT_sh _) (by decide) (by decide) dX11_keep_31 ?_
    refine V_iconst dX11_keep_34 ?_
    exact V_ireturn (stk := []) rfl dX11_keep_35 h
  · replace h := h.2 q
    refine V_sipush dX11_keep_7 (by decide) ?_
    exact V_ireturn (stk := []) rfl dX11_keep_10 h

set_option maxRecDepth 100000 in
theorem BX11_goBack_0 {σ : Sg} {post : Po} {x1 : Int} 
  (h : Cl mX11_isImage [vi x1] σ (pI fun z1 σ1 => (rng z1) ∧ ((¬ z1 = 0 → (0 ≤ x1 ∧ x1 < 2) ∧ ((rng (σ1 (imT (x1).toNat) 13)) ∧ ((¬ (σ1 (imT (x1).toNat) 13) = 0 → ((σ1 0 1) = 5) ∧ (Cl mX0_copyFrom [vr 5, vr (imT (x1).toNat)] σ1 (pV fun σ2 => post (some (vi 1)) (up σ2 0 9 0)))) ∧ ((σ1 (imT (x1).toNat) 13) = 0 → post (some (vi (-1003))) σ1)))) ∧ (z1 = 0 → post (some (vi (-1001))) σ1)))) :
  V mX11_goBack 0 [some (vr 0), some (vi x1)] [] σ post := by
  refine V_iload_n dX11_goBack_0 rfl rfl ?_
  refine V_callS (av := [vi x1]) (stk := []) cvX11_348 rfl rfl (by decide) (by simp [ctg]) dX11_goBack_1 h ?_
  rintro _ σ1 ⟨z1, rfl, h⟩
  obtain ⟨r1, h⟩ := h
  refine V_if_ne (tgt := 11) dX11_goBack_4 rfl r1 (fun q => ?_) (fun q => ?_)
  · replace h := h.1 q
    refine V_aload_n dX11_goBack_11 rfl rfl ?_
    refine V_getR (k2 := 2) flX11_23 rfl rfl (by decide) dX11_goBack_12 ?_
    refine V_iload_n dX11_goBack_15 rfl rfl ?_
    obtain ⟨r2, h⟩ := h
    refine V_aald (k2 := (imT (x1).toNat)) (rfl : shp[2]? = some (5, 2, 0)) r2 rfl dX11_goBack_16 ?_
    refine V_getI (f := (σ1 (imT (x1).toNat) 13)) flX11_351 (imT_sh _) (rfl) (by decide) dX11_goBack_17 ?_
    obtain ⟨r3, h⟩ := h
    refine V_if_ne (tgt := 27) dX11_goBack_20 rfl r3 (fun q => ?_) (fun q => ?_)
    · replace h := h.1 q
      refine V_aload_n dX11_goBack_27 rfl rfl ?_
      obtain ⟨r4, h⟩ := h
      refine V_getM (k2 := 5) flX11_19 rfl (r4) (by decide) dX11_goBack_28 ?_
      refine V_aload_n dX11_goBack_31 rfl rfl ?_
      refine V_getR (k2 := 2) flX11_23 rfl rfl (by decide) dX11_goBack_32 ?_
      refine V_iload_n dX11_goBack_35 rfl rfl ?_
      refine V_aald (k2 := (imT (x1).toNat)) (rfl : shp[2]? = some (5, 2, 0)) r2 rfl dX11_goBack_36 ?_
      refine V_callV (av := [vr (imT (x1).toNat)]) (stk := []) cvX11_406 rfl rfl rfl (by decide) (by simp [ctg]) dX11_goBack_37 h ?_
      rintro _ σ2 ⟨rfl, h⟩
      refine V_aload_n dX11_goBack_40 rfl rfl ?_
      refine V_iconst dX11_goBack_41 ?_
      refine V_putZ flX11_57 rfl (by decide) (by decide) dX11_goBack_42 ?_
      refine V_iconst dX11_goBack_45 ?_
      exact V_ireturn (stk := []) rfl dX11_goBack_46 h
    · replace h := h.2 q
      refine V_sipush dX11_goBack_23 (by decide) ?_
      exact V_ireturn (stk := []) rfl dX11_goBack_26 h
  · replace h := h.2 q
    refine V_sipush dX11_goBack_7 (by decide) ?_
    exact V_ireturn (stk := []) rfl dX11_goBack_10 h

set_option maxRecDepth 100000 in
theorem BX11_areTwoHeads_0 {σ : Sg} {post : Po} {x1 : Int} {x2 : Int} 
  (h : ((σ 0 1) = 5) ∧ (Cl mX0_hasHead [vr 5, vi x1] σ (pI fun z1 σ1 => (rng z1) ∧ ((z1 = 0 → post (some (vi 0)) σ1) ∧ (¬ z1 = 0 → ((σ1 0 1) = 5) ∧ (Cl mX0_hasHead [vr 5, vi x2] σ1 (pI fun z2 σ2 => (rng z2) ∧ ((z2 = 0 → post (some (vi 0)) σ2) ∧ (¬ z2 = 0 → (rng x1) ∧ ((rng x2) ∧ ((x1 = x2 → post (some (vi 0)) σ2) ∧ (¬ x1 = x2 → post (some (vi 1)) σ2)))))))))))) :
  V mX11_areTwoHeads 0 [some (vr 0), some (vi x1), some (vi x2)] [] σ post := by
  refine V_aload_n dX11_areTwoHeads_0 rfl rfl ?_
  obtain ⟨r1, h⟩ := h
  refine V_getM (k2 := 5) flX11_19 rfl (r1) (by decide) dX11_areTwoHeads_1 ?_
  refine V_iload_n dX11_areTwoHeads_4 rfl rfl ?_
  refine V_callV (av := [vi x1]) (stk := []) cvX11_152 rfl rfl rfl (by decide) (by simp [ctg]) dX11_areTwoHeads_5 h ?_
  rintro _ σ1 ⟨z1, rfl, h⟩
  obtain ⟨r2, h⟩ := h
  refine V_if_eq (tgt := 31) dX11_areTwoHeads_8 rfl r2 (fun q => ?_) (fun q => ?_)
  · replace h := h.1 q
    refine V_iconst dX11_areTwoHeads_31 ?_
    exact V_zreturn (stk := []) rfl dX11_areTwoHeads_32 (by decide) h
  · replace h := h.2 q
    refine V_aload_n dX11_areTwoHeads_11 rfl rfl ?_
    obtain ⟨r3, h⟩ := h
    refine V_getM (k2 := 5) flX11_19 rfl (r3) (by decide) dX11_areTwoHeads_12 ?_
    refine V_iload_n dX11_areTwoHeads_15 rfl rfl ?_
    refine V_callV (av := [vi x2]) (stk := []) cvX11_152 rfl rfl rfl (by decide) (by simp [ctg]) dX11_areTwoHeads_16 h ?_
    rintro _ σ2 ⟨z2, rfl, h⟩
    obtain ⟨r4, h⟩ := h
    refine V_if_eq (tgt := 31) dX11_areTwoHeads_19 rfl r4 (fun q => ?_) (fun q => ?_)
    · replace h := h.1 q
      refine V_iconst dX11_areTwoHeads_31 ?_
      exact V_zreturn (stk := []) rfl dX11_areTwoHeads_32 (by decide) h
    · replace h := h.2 q
      refine V_iload_n dX11_areTwoHeads_22 rfl rfl ?_
      refine V_iload_n dX11_areTwoHeads_23 rfl rfl ?_
      obtain ⟨r5, h⟩ := h
      obtain ⟨r6, h⟩ := h
      refine V_icmp_eq (tgt := 31) dX11_areTwoHeads_24 rfl r5 r6 (fun q => ?_) (fun q => ?_)
      · replace h := h.1 q
        refine V_iconst dX11_areTwoHeads_31 ?_
        exact V_zreturn (stk := []) rfl dX11_areTwoHeads_32 (by decide) h
      · replace h := h.2 q
        refine V_iconst dX11_areTwoHeads_27 ?_
        refine V_goto (tgt := 32) dX11_areTwoHeads_28 rfl ?_
        exact V_zreturn (stk := []) rfl dX11_areTwoHeads_32 (by decide) h

set_option maxRecDepth 100000 in
theorem BX11_isPage_0 {σ : Sg} {post : Po} {x0 : Int} 
  (h : (rng x0) ∧ ((x0 < 1 → post (some (vi 0)) σ) ∧ (¬ x0 < 1 → (99 < x0 → post (some (vi 0)) σ) ∧ (¬ 99 < x0 → post (some (vi 1)) σ)))) :
  V mX11_isPage 0 [some (vi x0)] [] σ post := by
  refine V_iload_n dX11_isPage_0 rfl rfl ?_
  refine V_iconst dX11_isPage_1 ?_
  obtain ⟨r1, h⟩ := h
  refine V_icmp_lt (tgt := 15) dX11_isPage_2 rfl r1 (by decide) (fun q => ?_) (fun q => ?_)
  · replace h := h.1 q
    refine V_iconst dX11_isPage_15 ?_
    exact V_zreturn (stk := []) rfl dX11_isPage_16 (by decide) h
  · replace h := h.2 q
    refine V_iload_n dX11_isPage_5 rfl rfl ?_
    refine V_bipush dX11_isPage_6 (by decide) ?_
    refine V_icmp_gt (tgt := 15) dX11_isPage_8 rfl r1 (by decide) (fun q => ?_) (fun q => ?_)
    · replace h := h.1 q
      refine V_iconst dX11_isPage_15 ?_
      exact V_zreturn (stk := []) rfl dX11_isPage_16 (by decide) h
    · replace h := h.2 q
      refine V_iconst dX11_isPage_11 ?_
      refine V_goto (tgt := 16) dX11_isPage_12 rfl ?_
      exact V_zreturn (stk := []) rfl dX11_isPage_16 (by decide) h

set_option maxRecDepth 100000 in
theorem BX11_isImage_0 {σ : Sg} {post : Po} {x0 : Int} 
  (h : (rng x0) ∧ ((x0 < 0 → post (some (vi 0)) σ) ∧ (¬ x0 < 0 → (2 ≤ x0 → post (some (vi 0)) σ) ∧ (¬ 2 ≤ x0 → post (some (vi 1)) σ)))) :
  V mX11_isImage 0 [some (vi x0)] [] σ post := by
  refine V_iload_n dX11_isImage_0 rfl rfl ?_
  obtain ⟨r1, h⟩ := h
  refine V_if_lt (tgt := 13) dX11_isImage_1 rfl r1 (fun q => ?_) (fun q => ?_)
  · replace h := h.1 q
    refine V_iconst dX11_isImage_13 ?_
    exact V_zreturn (stk := []) rfl dX11_isImage_14 (by decide) h
  · replace h := h.2 q
    refine V_iload_n dX11_isImage_4 rfl rfl ?_
    refine V_iconst dX11_isImage_5 ?_
    refine V_icmp_ge (tgt := 13) dX11_isImage_6 rfl r1 (by decide) (fun q => ?_) (fun q => ?_)
    · replace h := h.1 q
      refine V_iconst dX11_isImage_13 ?_
      exact V_zreturn (stk := []) rfl dX11_isImage_14 (by decide) h
    · replace h := h.2 q
      refine V_iconst dX11_isImage_9 ?_
      refine V_goto (tgt := 14) dX11_isImage_10 rfl ?_
      exact V_zreturn (stk := []) rfl dX11_isImage_14 (by decide) h

set_option maxRecDepth 100000 in
theorem BX11_isIn_0 {σ : Sg} {post : Po} {x0 : Int} {x1 : Int} 
  (h : (¬ (iAnd (iShr x0 x1) 1) = 1 → post (some (vi 0)) σ) ∧ ((iAnd (iShr x0 x1) 1) = 1 → post (some (vi 1)) σ)) :
  V mX11_isIn 0 [some (vi x0), some (vi x1)] [] σ post := by
  refine V_iload_n dX11_isIn_0 rfl rfl ?_
  refine V_iload_n dX11_isIn_1 rfl rfl ?_
  refine V_ishr dX11_isIn_2 ?_
  refine V_iconst dX11_isIn_3 ?_
  refine V_iand dX11_isIn_4 ?_
  refine V_iconst dX11_isIn_5 ?_
  refine V_icmp_ne (tgt := 13) dX11_isIn_6 rfl (rng_of _) (by decide) (fun q => ?_) (fun q => ?_)
  · replace h := h.1 q
    refine V_iconst dX11_isIn_13 ?_
    exact V_zreturn (stk := []) rfl dX11_isIn_14 (by decide) h
  · replace h := h.2 q
    refine V_iconst dX11_isIn_9 ?_
    refine V_goto (tgt := 14) dX11_isIn_10 rfl ?_
    exact V_zreturn (stk := []) rfl dX11_isIn_14 (by decide) h

