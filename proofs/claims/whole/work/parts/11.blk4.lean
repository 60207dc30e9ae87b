/-! ===== blocks: X4 X6 X7 X8 X10 J6 J13 J9 (printed by wip/whole/gen/mkblk.py) ===== -/
set_option maxRecDepth 100000 in
theorem BX4_arrange_0 {σ : Sg} {post : Po} {k1 : Nat} {x2 : Int} (hk1 : shp[k1]? = some (0, 0, 14))
  (h : Cl mX6_sort [vr 54, vr (k1 + 1), vi 0, vi ((up σ 53 2 x2) k1 0), vi x2] (up σ 53 2 x2) (pV fun σ1 => post none σ1)) :
  V mX4_arrange 0 [some (vr 53), some (vr k1), some (vi x2)] [] σ post := by
  refine V_aload_n dX4_arrange_0 rfl rfl ?_
  refine V_iload_n dX4_arrange_1 rfl rfl ?_
  refine V_putI flX4_21 rfl (by decide) dX4_arrange_2 ?_
  refine V_aload_n dX4_arrange_5 rfl rfl ?_
  refine V_getR (k2 := 54) flX4_12 rfl rfl (by decide) dX4_arrange_6 ?_
  refine V_aload_n dX4_arrange_9 rfl rfl ?_
  refine V_getR (k2 := (k1 + 1)) flX4_32 hk1 rfl (by decide) dX4_arrange_10 ?_
  refine V_iconst dX4_arrange_13 ?_
  refine V_aload_n dX4_arrange_14 rfl rfl ?_
  refine V_getI (f := ((up σ 53 2 x2) k1 0)) flX4_38 hk1 (rfl) (by decide) dX4_arrange_15 ?_
  refine V_iload_n dX4_arrange_18 rfl rfl ?_
  refine V_callV (av := [vr (k1 + 1), vi 0, vi ((up σ 53 2 x2) k1 0), vi x2]) (stk := []) cvX4_41 rfl rfl rfl (by decide) (by simp [ctg]) dX4_arrange_19 h ?_
  rintro _ σ1 ⟨rfl, h⟩
  exact V_return (stk := []) rfl dX4_arrange_22 h

set_option maxRecDepth 100000 in
theorem BX4_arrangeSubs_0 {σ : Sg} {post : Po} {k1 : Nat} {x2 : Int} {x3 : Int} (hk1 : shp[k1]? = some (0, 0, 14))
  (h : (0 ≤ x2 ∧ x2 < 16) ∧ (Cl mX6_sort [vr 57, vr (k1 + 3), vi (x2 * 6), vi (σ (k1 + 2) x2), vi x3] σ (pV fun σ1 => post none σ1))) :
  V mX4_arrangeSubs 0 [some (vr 53), some (vr k1), some (vi x2), some (vi x3)] [] σ post := by
  refine V_aload_n dX4_arrangeSubs_0 rfl rfl ?_
  refine V_getR (k2 := 57) flX4_18 rfl rfl (by decide) dX4_arrangeSubs_1 ?_
  refine V_aload_n dX4_arrangeSubs_4 rfl rfl ?_
  refine V_getR (k2 := (k1 + 3)) flX4_45 hk1 rfl (by decide) dX4_arrangeSubs_5 ?_
  refine V_iload_n dX4_arrangeSubs_8 rfl rfl ?_
  refine V_bipush dX4_arrangeSubs_9 (by decide) ?_
  refine V_imul dX4_arrangeSubs_11 ?_
  refine V_aload_n dX4_arrangeSubs_12 rfl rfl ?_
  refine V_getR (k2 := (k1 + 2)) flX4_48 hk1 rfl (by decide) dX4_arrangeSubs_13 ?_
  refine V_iload_n dX4_arrangeSubs_16 rfl rfl ?_
  obtain ⟨r1, h⟩ := h
  refine V_iald (f := (σ (k1 + 2) x2)) (sh0_2 hk1) r1 (rfl) dX4_arrangeSubs_17 ?_
  refine V_iload_n dX4_arrangeSubs_18 rfl rfl ?_
  refine V_callV (av := [vr (k1 + 3), vi (x2 * 6), vi (σ (k1 + 2) x2), vi x3]) (stk := []) cvX4_41 rfl rfl rfl (by decide) (by simp [ctg]) dX4_arrangeSubs_19 h ?_
  rintro _ σ1 ⟨rfl, h⟩
  exact V_return (stk := []) rfl dX4_arrangeSubs_22 h

set_option maxRecDepth 100000 in
theorem BX4_setHead_0 {σ : Sg} {post : Po} {k1 : Nat} {k2 : Nat} {x3 : Int} {x4 : Int} {x5 : Int} (hk1 : shp[k1]? = some (0, 8, 7)) (hk2 : shp[k2]? = some (0, 0, 14))
  (h : (rng x4) ∧ ((rng x3) ∧ ((¬ x4 = x3 → Cl mX0_marksOf [vr k2, vi x4] σ (pI fun z1 σ1 => (rng z1) ∧ ((z1 ≤ 0 → (0 ≤ x3 ∧ x3 < 16) ∧ ((rng (σ1 (k2 + 5) x3)) ∧ (((σ1 (k2 + 5) x3) = 0 → V mX4_setHead 226 [some (vr 53), some (vr k1), some (vr k2), some (vi x3), none, none, some (vi (σ k1 2)), none, none, none, none] [] σ1 post) ∧ (¬ (σ1 (k2 + 5) x3) = 0 → Cl mX8_putWord [vr k1, vl (σ1 (k2 + 1) x3)] σ1 (pV fun σ2 => Cl mX8_endRow [vr k1] σ2 (pV fun σ3 => V mX4_setHead 226 [some (vr 53), some (vr k1), some (vr k2), some (vi x3), none, none, some (vi (σ k1 2)), none, none, none, none] [] σ3 post)))))) ∧ (¬ z1 ≤ 0 → (0 ≤ x3 ∧ x3 < 16) ∧ (Cl mX8_putWord [vr k1, vl (σ1 (k2 + 1) x3)] σ1 (pV fun σ4 => (rng x5) ∧ ((x5 = 0 → Cl mX4_setRuns [vr 53, vr k1, vr k2, vi x4, vi (-1)] σ4 (pV fun σ5 => (x5 = 0 → Cl mX0_markedSubs [vr k2, vi x4] σ5 (pI fun z6 σ6 => Cl mX4_arrangeSubs [vr 53, vr k2, vi x4, vi (σ6 53 2)] σ6 (pV fun σ7 => V mX4_setHead 93 [some (vr 53), some (vr k1), some (vr k2), some (vi x3), some (vi x4), none, some (vi (σ k1 2)), some (vi (-1)), some (vi z6), some (vi 0), none] [] σ7 post))) ∧ (¬ x5 = 0 → Cl mX4_arrangeSubs [vr 53, vr k2, vi x4, vi (σ5 53 2)] σ5 (pV fun σ8 => V mX4_setHead 93 [some (vr 53), some (vr k1), some (vr k2), some (vi x3), some (vi x4), none, some (vi (σ k1 2)), some (vi (-1)), some (vi 0), some (vi 0), none] [] σ8 post)))) ∧ (¬ x5 = 0 → Cl mX4_setRuns [vr 53, vr k1, vr k2, vi x4, vi (-2)] σ4 (pV fun σ9 => (x5 = 0 → Cl mX0_markedSubs [vr k2, vi x4] σ9 (pI fun z10 σ10 => Cl mX4_arrangeSubs [vr 53, vr k2, vi x4, vi (σ10 53 2)] σ10 (pV fun σ11 => V mX4_setHead 93 [some (vr 53), some (vr k1), some (vr k2), some (vi x3), some (vi x4), none, some (vi (σ k1 2)), some (vi (-1)), some (vi z10), some (vi 0), none] [] σ11 post))) ∧ (¬ x5 = 0 → Cl mX4_arrangeSubs [vr 53, vr k2, vi x4, vi (σ9 53 2)] σ9 (pV fun σ12 => V mX4_setHead 93 [some (vr 53), some (vr k1), some (vr k2), some (vi x3), some (vi x4), none, some (vi (σ k1 2)), some (vi (-1)), some (vi 0), some (vi 0), none] [] σ12 post))))))))))) ∧ (x4 = x3 → (0 ≤ x3 ∧ x3 < 16) ∧ (Cl mX0_marksOf [vr k2, vi x4] σ (pI fun z13 σ13 => (rng z13) ∧ ((z13 ≤ 0 → (rng (σ (k2 + 4) x3)) ∧ (((σ (k2 + 4) x3) = (-1) → (rng (σ13 (k2 + 5) x3)) ∧ (((σ13 (k2 + 5) x3) = 0 → V mX4_setHead 226 [some (vr 53), some (vr k1), some (vr k2), some (vi x3), none, none, some (vi (σ k1 2)), none, none, none, none] [] σ13 post) ∧ (¬ (σ13 (k2 + 5) x3) = 0 → Cl mX8_putWord [vr k1, vl (σ13 (k2 + 1) x3)] σ13 (pV fun σ14 => Cl mX8_endRow [vr k1] σ14 (pV fun σ15 => V mX4_setHead 226 [some (vr 53), some (vr k1), some (vr k2), some (vi x3), none, none, some (vi (σ k1 2)), none, none, none, none] [] σ15 post))))) ∧ (¬ (σ (k2 + 4) x3) = (-1) → Cl mX8_putWord [vr k1, vl (σ13 (k2 + 1) x3)] σ13 (pV fun σ16 => Cl mX4_setSee [vr 53, vr k1, vr k2, vr (200 + 3), vi (σ (k2 + 4) x3)] σ16 (pV fun σ17 => V mX4_setHead 226 [some (vr 53), some (vr k1), some (vr k2), some (vi x3), none, none, some (vi (σ k1 2)), none, none, none, none] [] σ17 post))))) ∧ (¬ z13 ≤ 0 → Cl mX8_putWord [vr k1, vl (σ13 (k2 + 1) x3)] σ13 (pV fun σ18 => (rng x5) ∧ ((x5 = 0 → Cl mX4_setRuns [vr 53, vr k1, vr k2, vi x4, vi (-1)] σ18 (pV fun σ19 => (x5 = 0 → Cl mX0_markedSubs [vr k2, vi x4] σ19 (pI fun z20 σ20 => Cl mX4_arrangeSubs [vr 53, vr k2, vi x4, vi (σ20 53 2)] σ20 (pV fun σ21 => V mX4_setHead 93 [some (vr 53), some (vr k1), some (vr k2), some (vi x3), some (vi x4), none, some (vi (σ k1 2)), some (vi (σ (k2 + 4) x3)), some (vi z20), some (vi 0), none] [] σ21 post))) ∧ (¬ x5 = 0 → Cl mX4_arrangeSubs [vr 53, vr k2, vi x4, vi (σ19 53 2)] σ19 (pV fun σ22 => V mX4_setHead 93 [some (vr 53), some (vr k1), some (vr k2), some (vi x3), some (vi x4), none, some (vi (σ k1 2)), some (vi (σ (k2 + 4) x3)), some (vi 0), some (vi 0), none] [] σ22 post)))) ∧ (¬ x5 = 0 → Cl mX4_setRuns [vr 53, vr k1, vr k2, vi x4, vi (-2)] σ18 (pV fun σ23 => (x5 = 0 → Cl mX0_markedSubs [vr k2, vi x4] σ23 (pI fun z24 σ24 => Cl mX4_arrangeSubs [vr 53, vr k2, vi x4, vi (σ24 53 2)] σ24 (pV fun σ25 => V mX4_setHead 93 [some (vr 53), some (vr k1), some (vr k2), some (vi x3), some (vi x4), none, some (vi (σ k1 2)), some (vi (σ (k2 + 4) x3)), some (vi z24), some (vi 0), none] [] σ25 post))) ∧ (¬ x5 = 0 → Cl mX4_arrangeSubs [vr 53, vr k2, vi x4, vi (σ23 53 2)] σ23 (pV fun σ26 => V mX4_setHead 93 [some (vr 53), some (vr k1), some (vr k2), some (vi x3), some (vi x4), none, some (vi (σ k1 2)), some (vi (σ (k2 + 4) x3)), some (vi 0), some (vi 0), none] [] σ26 post)))))))))))))) :
  V mX4_setHead 0 [some (vr 53), some (vr k1), some (vr k2), some (vi x3), some (vi x4), some (vi x5), none, none, none, none, none] [] σ post := by
  refine V_aload_n dX4_setHead_0 rfl rfl ?_
  refine V_getI (f := (σ k1 2)) flX4_52 hk1 (rfl) (by decide) dX4_setHead_1 ?_
  refine V_istore (L' := [some (vr 53), some (vr k1), some (vr k2), some (vi x3), some (vi x4), some (vi x5), some (vi (σ k1 2)), none, none, none, none]) dX4_setHead_4 (by decide) rfl ?_
  refine V_iload dX4_setHead_6 rfl ?_
  refine V_iload_n dX4_setHead_8 rfl rfl ?_
  obtain ⟨r1, h⟩ := h
  obtain ⟨r2, h⟩ := h
  refine V_icmp_ne (tgt := 21) dX4_setHead_9 rfl r1 r2 (fun q => ?_) (fun q => ?_)
  · replace h := h.1 q
    refine V_iconst dX4_setHead_21 ?_
    refine V_istore (L' := [some (vr 53), some (vr k1), some (vr k2), some (vi x3), some (vi x4), some (vi x5), some (vi (σ k1 2)), some (vi (-1)), none, none, none]) dX4_setHead_22 (by decide) rfl ?_
    refine V_aload_n dX4_setHead_24 rfl rfl ?_
    refine V_iload dX4_setHead_25 rfl ?_
    refine V_callV (av := [vi x4]) (stk := []) cvX4_60 hk2 rfl rfl (by decide) (by simp [ctg]) dX4_setHead_27 h ?_
    rintro _ σ1 ⟨z1, rfl, h⟩
    obtain ⟨r3, h⟩ := h
    refine V_if_le (tgt := 174) dX4_setHead_30 rfl r3 (fun q => ?_) (fun q => ?_)
    · replace h := h.1 q
      refine V_iload dX4_setHead_174 rfl ?_
      refine V_iconst dX4_setHead_176 ?_
      refine V_icmp_eq (tgt := 203) dX4_setHead_177 rfl (by decide) (by decide) (fun q => ?_) (fun q => absurd q (by decide))
      refine V_aload_n dX4_setHead_203 rfl rfl ?_
      refine V_getR (k2 := (k2 + 5)) flX4_104 hk2 rfl (by decide) dX4_setHead_204 ?_
      refine V_iload_n dX4_setHead_207 rfl rfl ?_
      obtain ⟨r4, h⟩ := h
      refine V_iald (f := (σ1 (k2 + 5) x3)) (sh0_5 hk2) r4 (rfl) dX4_setHead_208 ?_
      obtain ⟨r5, h⟩ := h
      refine V_if_eq (tgt := 226) dX4_setHead_209 rfl r5 (fun q => ?_) (fun q => ?_)
      · replace h := h.1 q
        exact V.sub (SubL_s (SubL_s (SubL_s (SubL_s (SubL_n (SubL_n (SubL_s (SubL_n (SubL_n (SubL_n (SubL_n (SubL_0)))))))))))) h
      · replace h := h.2 q
        refine V_aload_n dX4_setHead_212 rfl rfl ?_
        refine V_aload_n dX4_setHead_213 rfl rfl ?_
        refine V_getR (k2 := (k2 + 1)) flX4_32 hk2 rfl (by decide) dX4_setHead_214 ?_
        refine V_iload_n dX4_setHead_217 rfl rfl ?_
        refine V_lald (f := (σ1 (k2 + 1) x3)) (sh0_1 hk2) r4 (rfl) dX4_setHead_218 ?_
        refine V_callV (av := [vl (σ1 (k2 + 1) x3)]) (stk := []) cvX4_64 hk1 rfl rfl (by decide) (by simp [ctg]) dX4_setHead_219 h ?_
        rintro _ σ2 ⟨rfl, h⟩
        refine V_aload_n dX4_setHead_222 rfl rfl ?_
        refine V_callV (av := []) (stk := []) cvX4_107 hk1 rfl rfl (by decide) (by simp [ctg]) dX4_setHead_223 h ?_
        rintro _ σ3 ⟨rfl, h⟩
        exact V.sub (SubL_s (SubL_s (SubL_s (SubL_s (SubL_n (SubL_n (SubL_s (SubL_n (SubL_n (SubL_n (SubL_n (SubL_0)))))))))))) h
    · replace h := h.2 q
      refine V_aload_n dX4_setHead_33 rfl rfl ?_
      refine V_aload_n dX4_setHead_34 rfl rfl ?_
      refine V_getR (k2 := (k2 + 1)) flX4_32 hk2 rfl (by decide) dX4_setHead_35 ?_
      refine V_iload_n dX4_setHead_38 rfl rfl ?_
      obtain ⟨r6, h⟩ := h
      refine V_lald (f := (σ1 (k2 + 1) x3)) (sh0_1 hk2) r6 (rfl) dX4_setHead_39 ?_
      refine V_callV (av := [vl (σ1 (k2 + 1) x3)]) (stk := []) cvX4_64 hk1 rfl rfl (by decide) (by simp [ctg]) dX4_setHead_40 h ?_
      rintro _ σ4 ⟨rfl, h⟩
      refine V_aload_n dX4_setHead_43 rfl rfl ?_
      refine V_aload_n dX4_setHead_44 rfl rfl ?_
      refine V_aload_n dX4_setHead_45 rfl rfl ?_
      refine V_iload dX4_setHead_46 rfl ?_
      refine V_iload dX4_setHead_48 rfl ?_
      obtain ⟨r7, h⟩ := h
      refine V_if_eq (tgt := 58) dX4_setHead_50 rfl r7 (fun q => ?_) (fun q => ?_)
      · replace h := h.1 q
        refine V_iconst dX4_setHead_58 ?_
        refine V_callV (av := [vr k1, vr k2, vi x4, vi (-1)]) (stk := []) cvX4_68 rfl rfl rfl (by decide) (by simp [ctg]) dX4_setHead_59 h ?_
        rintro _ σ5 ⟨rfl, h⟩
        refine V_iload dX4_setHead_62 rfl ?_
        refine V_if_eq (tgt := 71) dX4_setHead_64 rfl r7 (fun q => ?_) (fun q => ?_)
        · replace h := h.1 q
          refine V_aload_n dX4_setHead_71 rfl rfl ?_
          refine V_iload dX4_setHead_72 rfl ?_
          refine V_callV (av := [vi x4]) (stk := []) cvX4_72 hk2 rfl rfl (by decide) (by simp [ctg]) dX4_setHead_74 h ?_
          rintro _ σ6 ⟨z6, rfl, h⟩
          refine V_istore (L' := [some (vr 53), some (vr k1), some (vr k2), some (vi x3), some (vi x4), some (vi x5), some (vi (σ k1 2)), some (vi (-1)), some (vi z6), none, none]) dX4_setHead_77 (by decide) rfl ?_
          refine V_aload_n dX4_setHead_79 rfl rfl ?_
          refine V_aload_n dX4_setHead_80 rfl rfl ?_
          refine V_iload dX4_setHead_81 rfl ?_
          refine V_aload_n dX4_setHead_83 rfl rfl ?_
          refine V_getI (f := (σ6 53 2)) flX4_21 rfl (rfl) (by decide) dX4_setHead_84 ?_
          refine V_callV (av := [vr k2, vi x4, vi (σ6 53 2)]) (stk := []) cvX4_75 rfl rfl rfl (by decide) (by simp [ctg]) dX4_setHead_87 h ?_
          rintro _ σ7 ⟨rfl, h⟩
          refine V_iconst dX4_setHead_90 ?_
          refine V_istore (L' := [some (vr 53), some (vr k1), some (vr k2), some (vi x3), some (vi x4), some (vi x5), some (vi (σ k1 2)), some (vi (-1)), some (vi z6), some (vi 0), none]) dX4_setHead_91 (by decide) rfl ?_
          exact V.sub (SubL_s (SubL_s (SubL_s (SubL_s (SubL_s (SubL_n (SubL_s (SubL_s (SubL_s (SubL_s (SubL_n (SubL_0)))))))))))) h
        · replace h := h.2 q
          refine V_iconst dX4_setHead_67 ?_
          refine V_goto (tgt := 77) dX4_setHead_68 rfl ?_
          refine V_istore (L' := [some (vr 53), some (vr k1), some (vr k2), some (vi x3), some (vi x4), some (vi x5), some (vi (σ k1 2)), some (vi (-1)), some (vi 0), none, none]) dX4_setHead_77 (by decide) rfl ?_
          refine V_aload_n dX4_setHead_79 rfl rfl ?_
          refine V_aload_n dX4_setHead_80 rfl rfl ?_
          refine V_iload dX4_setHead_81 rfl ?_
          refine V_aload_n dX4_setHead_83 rfl rfl ?_
          refine V_getI (f := (σ5 53 2)) flX4_21 rfl (rfl) (by decide) dX4_setHead_84 ?_
          refine V_callV (av := [vr k2, vi x4, vi (σ5 53 2)]) (stk := []) cvX4_75 rfl rfl rfl (by decide) (by simp [ctg]) dX4_setHead_87 h ?_
          rintro _ σ8 ⟨rfl, h⟩
          refine V_iconst dX4_setHead_90 ?_
          refine V_istore (L' := [some (vr 53), some (vr k1), some (vr k2), some (vi x3), some (vi x4), some (vi x5), some (vi (σ k1 2)), some (vi (-1)), some (vi 0), some (vi 0), none]) dX4_setHead_91 (by decide) rfl ?_
          exact V.sub (SubL_s (SubL_s (SubL_s (SubL_s (SubL_s (SubL_n (SubL_s (SubL_s (SubL_s (SubL_s (SubL_n (SubL_0)))))))))))) h
      · replace h := h.2 q
        refine V_bipush dX4_setHead_53 (by decide) ?_
        refine V_goto (tgt := 59) dX4_setHead_55 rfl ?_
        refine V_callV (av := [vr k1, vr k2, vi x4, vi (-2)]) (stk := []) cvX4_68 rfl rfl rfl (by decide) (by simp [ctg]) dX4_setHead_59 h ?_
        rintro _ σ9 ⟨rfl, h⟩
        refine V_iload dX4_setHead_62 rfl ?_
        refine V_if_eq (tgt := 71) dX4_setHead_64 rfl r7 (fun q => ?_) (fun q => ?_)
        · replace h := h.1 q
          refine V_aload_n dX4_setHead_71 rfl rfl ?_
          refine V_iload dX4_setHead_72 rfl ?_
          refine V_callV (av := [vi x4]) (stk := []) cvX4_72 hk2 rfl rfl (by decide) (by simp [ctg]) dX4_setHead_74 h ?_
          rintro _ σ10 ⟨z10, rfl, h⟩
          refine V_istore (L' := [some (vr 53), some (vr k1), some (vr k2), some (vi x3), some (vi x4), some (vi x5), some (vi (σ k1 2)), some (vi (-1)), some (vi z10), none, none]) dX4_setHead_77 (by decide) rfl ?_
          refine V_aload_n dX4_setHead_79 rfl rfl ?_
          refine V_aload_n dX4_setHead_80 rfl rfl ?_
          refine V_iload dX4_setHead_81 rfl ?_
          refine V_aload_n dX4_setHead_83 rfl rfl ?_
          refine V_getI (f := (σ10 53 2)) flX4_21 rfl (rfl) (by decide) dX4_setHead_84 ?_
          refine V_callV (av := [vr k2, vi x4, vi (σ10 53 2)]) (stk := []) cvX4_75 rfl rfl rfl (by decide) (by simp [ctg]) dX4_setHead_87 h ?_
          rintro _ σ11 ⟨rfl, h⟩
          refine V_iconst dX4_setHead_90 ?_
          refine V_istore (L' := [some (vr 53), some (vr k1), some (vr k2), some (vi x3), some (vi x4), some (vi x5), some (vi (σ k1 2)), some (vi (-1)), some (vi z10), some (vi 0), none]) dX4_setHead_91 (by decide) rfl ?_
          exact V.sub (SubL_s (SubL_s (SubL_s (SubL_s (SubL_s (SubL_n (SubL_s (SubL_s (SubL_s (SubL_s (SubL_n (SubL_0)))))))))))) h
        · replace h := h.2 q
          refine V_iconst dX4_setHead_67 ?_
          refine V_goto (tgt := 77) dX4_setHead_68 rfl ?_
          refine V_istore (L' := [some (vr 53), some (vr k1), some (vr k2), some (vi x3), some (vi x4), some (vi x5), some (vi (σ k1 2)), some (vi (-1)), some (vi 0), none, none]) dX4_setHead_77 (by decide) rfl ?_
          refine V_aload_n dX4_setHead_79 rfl rfl ?_
          refine V_aload_n dX4_setHead_80 rfl rfl ?_
          refine V_iload dX4_setHead_81 rfl ?_
          refine V_aload_n dX4_setHead_83 rfl rfl ?_
          refine V_getI (f := (σ9 53 2)) flX4_21 rfl (rfl) (by decide) dX4_setHead_84 ?_
          refine V_callV (av := [vr k2, vi x4, vi (σ9 53 2)]) (stk := []) cvX4_75 rfl rfl rfl (by decide) (by simp [ctg]) dX4_setHead_87 h ?_
          rintro _ σ12 ⟨rfl, h⟩
          refine V_iconst dX4_setHead_90 ?_
          refine V_istore (L' := [some (vr 53), some (vr k1), some (vr k2), some (vi x3), some (vi x4), some (vi x5), some (vi (σ k1 2)), some (vi (-1)), some (vi 0), some (vi 0), none]) dX4_setHead_91 (by decide) rfl ?_
          exact V.sub (SubL_s (SubL_s (SubL_s (SubL_s (SubL_s (SubL_n (SubL_s (SubL_s (SubL_s (SubL_s (SubL_n (SubL_0)))))))))))) h
  · replace h := h.2 q
    refine V_aload_n dX4_setHead_12 rfl rfl ?_
    refine V_getR (k2 := (k2 + 4)) flX4_57 hk2 rfl (by decide) dX4_setHead_13 ?_
    refine V_iload_n dX4_setHead_16 rfl rfl ?_
    obtain ⟨r8, h⟩ := h
    refine V_iald (f := (σ (k2 + 4) x3)) (sh0_4 hk2) r8 (rfl) dX4_setHead_17 ?_
    refine V_goto (tgt := 22) dX4_setHead_18 rfl ?_
    refine V_istore (L' := [some (vr 53), some (vr k1), some (vr k2), some (vi x3), some (vi x4), some (vi x5), some (vi (σ k1 2)), some (vi (σ (k2 + 4) x3)), none, none, none]) dX4_setHead_22 (by decide) rfl ?_
    refine V_aload_n dX4_setHead_24 rfl rfl ?_
    refine V_iload dX4_setHead_25 rfl ?_
    refine V_callV (av := [vi x4]) (stk := []) cvX4_60 hk2 rfl rfl (by decide) (by simp [ctg]) dX4_setHead_27 h ?_
    rintro _ σ13 ⟨z13, rfl, h⟩
    obtain ⟨r9, h⟩ := h
    refine V_if_le (tgt := 174) dX4_setHead_30 rfl r9 (fun q => ?_) (fun q => ?_)
    · replace h := h.1 q
      refine V_iload dX4_setHead_174 rfl ?_
      refine V_iconst dX4_setHead_176 ?_
      obtain ⟨r10, h⟩ := h
      refine V_icmp_eq (tgt := 203) dX4_setHead_177 rfl r10 (by decide) (fun q => ?_) (fun q => ?_)
      · replace h := h.1 q
        refine V_aload_n dX4_setHead_203 rfl rfl ?_
        refine V_getR (k2 := (k2 + 5)) flX4_104 hk2 rfl (by decide) dX4_setHead_204 ?_
        refine V_iload_n dX4_setHead_207 rfl rfl ?_
        refine V_iald (f := (σ13 (k2 + 5) x3)) (sh0_5 hk2) r8 (rfl) dX4_setHead_208 ?_
        obtain ⟨r11, h⟩ := h
        refine V_if_eq (tgt := 226) dX4_setHead_209 rfl r11 (fun q => ?_) (fun q => ?_)
        · replace h := h.1 q
          exact V.sub (SubL_s (SubL_s (SubL_s (SubL_s (SubL_n (SubL_n (SubL_s (SubL_n (SubL_n (SubL_n (SubL_n (SubL_0)))))))))))) h
        · replace h := h.2 q
          refine V_aload_n dX4_setHead_212 rfl rfl ?_
          refine V_aload_n dX4_setHead_213 rfl rfl ?_
          refine V_getR (k2 := (k2 + 1)) flX4_32 hk2 rfl (by decide) dX4_setHead_214 ?_
          refine V_iload_n dX4_setHead_217 rfl rfl ?_
          refine V_lald (f := (σ13 (k2 + 1) x3)) (sh0_1 hk2) r8 (rfl) dX4_setHead_218 ?_
          refine V_callV (av := [vl (σ13 (k2 + 1) x3)]) (stk := []) cvX4_64 hk1 rfl rfl (by decide) (by simp [ctg]) dX4_setHead_219 h ?_
          rintro _ σ14 ⟨rfl, h⟩
          refine V_aload_n dX4_setHead_222 rfl rfl ?_
          refine V_callV (av := []) (stk := []) cvX4_107 hk1 rfl rfl (by decide) (by simp [ctg]) dX4_setHead_223 h ?_
          rintro _ σ15 ⟨rfl, h⟩
          exact V.sub (SubL_s (SubL_s (SubL_s (SubL_s (SubL_n (SubL_n (SubL_s (SubL_n (SubL_n (SubL_n (SubL_n (SubL_0)))))))))))) h
      · replace h := h.2 q
        refine V_aload_n dX4_setHead_180 rfl rfl ?_
        refine V_aload_n dX4_setHead_181 rfl rfl ?_
        refine V_getR (k2 := (k2 + 1)) flX4_32 hk2 rfl (by decide) dX4_setHead_182 ?_
        refine V_iload_n dX4_setHead_185 rfl rfl ?_
        refine V_lald (f := (σ13 (k2 + 1) x3)) (sh0_1 hk2) r8 (rfl) dX4_setHead_186 ?_
        refine V_callV (av := [vl (σ13 (k2 + 1) x3)]) (stk := []) cvX4_64 hk1 rfl rfl (by decide) (by simp [ctg]) dX4_setHead_187 h ?_
        rintro _ σ16 ⟨rfl, h⟩
        refine V_aload_n dX4_setHead_190 rfl rfl ?_
        refine V_aload_n dX4_setHead_191 rfl rfl ?_
        refine V_aload_n dX4_setHead_192 rfl rfl ?_
        refine V_ldcS dX4_setHead_193 ksX4_102 ?_
        refine V_iload dX4_setHead_195 rfl ?_
        refine V_callV (av := [vr k1, vr k2, vr (200 + 3), vi (σ (k2 + 4) x3)]) (stk := []) cvX4_98 rfl rfl rfl (by decide) (by simp [ctg]) dX4_setHead_197 h ?_
        rintro _ σ17 ⟨rfl, h⟩
        refine V_goto (tgt := 226) dX4_setHead_200 rfl ?_
        exact V.sub (SubL_s (SubL_s (SubL_s (SubL_s (SubL_n (SubL_n (SubL_s (SubL_n (SubL_n (SubL_n (SubL_n (SubL_0)))))))))))) h
    · replace h := h.2 q
      refine V_aload_n dX4_setHead_33 rfl rfl ?_
      refine V_aload_n dX4_setHead_34 rfl rfl ?_
      refine V_getR (k2 := (k2 + 1)) flX4_32 hk2 rfl (by decide) dX4_setHead_35 ?_
      refine V_iload_n dX4_setHead_38 rfl rfl ?_
      refine V_lald (f := (σ13 (k2 + 1) x3)) (sh0_1 hk2) r8 (rfl) dX4_setHead_39 ?_
      refine V_callV (av := [vl (σ13 (k2 + 1) x3)]) (stk := []) cvX4_64 hk1 rfl rfl (by decide) (by simp [ctg]) dX4_setHead_40 h ?_
      rintro _ σ18 ⟨rfl, h⟩
      refine V_aload_n dX4_setHead_43 rfl rfl ?_
      refine V_aload_n dX4_setHead_44 rfl rfl ?_
      refine V_aload_n dX4_setHead_45 rfl rfl ?_
      refine V_iload dX4_setHead_46 rfl ?_
      refine V_iload dX4_setHead_48 rfl ?_
      obtain ⟨r12, h⟩ := h
      refine V_if_eq (tgt := 58) dX4_setHead_50 rfl r12 (fun q => ?_) (fun q => ?_)
      · replace h := h.1 q
        refine V_iconst dX4_setHead_58 ?_
        refine V_callV (av := [vr k1, vr k2, vi x4, vi (-1)]) (stk := []) cvX4_68 rfl rfl rfl (by decide) (by simp [ctg]) dX4_setHead_59 h ?_
        rintro _ σ19 ⟨rfl, h⟩
        refine V_iload dX4_setHead_62 rfl ?_
        refine V_if_eq (tgt := 71) dX4_setHead_64 rfl r12 (fun q => ?_) (fun q => ?_)
        · replace h := h.1 q
          refine V_aload_n dX4_setHead_71 rfl rfl ?_
          refine V_iload dX4_setHead_72 rfl ?_
          refine V_callV (av := [vi x4]) (stk := []) cvX4_72 hk2 rfl rfl (by decide) (by simp [ctg]) dX4_setHead_74 h ?_
          rintro _ σ20 ⟨z20, rfl, h⟩
          refine V_istore (L' := [some (vr 53), some (vr k1), some (vr k2), some (vi x3), some (vi x4), some (vi x5), some (vi (σ k1 2)), some (vi (σ (k2 + 4) x3)), some (vi z20), none, none]) dX4_setHead_77 (by decide) rfl ?_
          refine V_aload_n dX4_setHead_79 rfl rfl ?_
          refine V_aload_n dX4_setHead_80 rfl rfl ?_
          refine V_iload dX4_setHead_81 rfl ?_
          refine V_aload_n dX4_setHead_83 rfl rfl ?_
          refine V_getI (f := (σ20 53 2)) flX4_21 rfl (rfl) (by decide) dX4_setHead_84 ?_
          refine V_callV (av := [vr k2, vi x4, vi (σ20 53 2)]) (stk := []) cvX4_75 rfl rfl rfl (by decide) (by simp [ctg]) dX4_setHead_87 h ?_
          rintro _ σ21 ⟨rfl, h⟩
          refine V_iconst dX4_setHead_90 ?_
          refine V_istore (L' := [some (vr 53), some (vr k1), some (vr k2), some (vi x3), some (vi x4), some (vi x5), some (vi (σ k1 2)), some (vi (σ (k2 + 4) x3)), some (vi z20), some (vi 0), none]) dX4_setHead_91 (by decide) rfl ?_
          exact V.sub (SubL_s (SubL_s (SubL_s (SubL_s (SubL_s (SubL_n (SubL_s (SubL_s (SubL_s (SubL_s (SubL_n (SubL_0)))))))))))) h
        · replace h := h.2 q
          refine V_iconst dX4_setHead_67 ?_
          refine V_goto (tgt := 77) dX4_setHead_68 rfl ?_
          refine V_istore (L' := [some (vr 53), some (vr k1), some (vr k2), some (vi x3), some (vi x4), some (vi x5), some (vi (σ k1 2)), some (vi (σ (k2 + 4) x3)), some (vi 0), none, none]) dX4_setHead_77 (by decide) rfl ?_
          refine V_aload_n dX4_setHead_79 rfl rfl ?_
          refine V_aload_n dX4_setHead_80 rfl rfl ?_
          refine V_iload dX4_setHead_81 rfl ?_
          refine V_aload_n dX4_setHead_83 rfl rfl ?_
          refine V_getI (f := (σ19 53 2)) flX4_21 rfl (rfl) (by decide) dX4_setHead_84 ?_
          refine V_callV (av := [vr k2, vi x4, vi (σ19 53 2)]) (stk := []) cvX4_75 rfl rfl rfl (by decide) (by simp [ctg]) dX4_setHead_87 h ?_
          rintro _ σ22 ⟨rfl, h⟩
          refine V_iconst dX4_setHead_90 ?_
          refine V_istore (L' := [some (vr 53), some (vr k1), some (vr k2), some (vi x3), some (vi x4), some (vi x5), some (vi (σ k1 2)), some (vi (σ (k2 + 4) x3)), some (vi 0), some (vi 0), none]) dX4_setHead_91 (by decide) rfl ?_
          exact V.sub (SubL_s (SubL_s (SubL_s (SubL_s (SubL_s (SubL_n (SubL_s (SubL_s (SubL_s (SubL_s (SubL_n (SubL_0)))))))))))) h
      · replace h := h.2 q
        refine V_bipush dX4_setHead_53 (by decide) ?_
        refine V_goto (tgt := 59) dX4_setHead_55 rfl ?_
        refine V_callV (av := [vr k1, vr k2, vi x4, vi (-2)]) (stk := []) cvX4_68 rfl rfl rfl (by decide) (by simp [ctg]) dX4_setHead_59 h ?_
        rintro _ σ23 ⟨rfl, h⟩
        refine V_iload dX4_setHead_62 rfl ?_
        refine V_if_eq (tgt := 71) dX4_setHead_64 rfl r12 (fun q => ?_) (fun q => ?_)
        · replace h := h.1 q
          refine V_aload_n dX4_setHead_71 rfl rfl ?_
          refine V_iload dX4_setHead_72 rfl ?_
          refine V_callV (av := [vi x4]) (stk := []) cvX4_72 hk2 rfl rfl (by decide) (by simp [ctg]) dX4_setHead_74 h ?_
          rintro _ σ24 ⟨z24, rfl, h⟩
          refine V_istore (L' := [some (vr 53), some (vr k1), some (vr k2), some (vi x3), some (vi x4), some (vi x5), some (vi (σ k1 2)), some (vi (σ (k2 + 4) x3)), some (vi z24), none, none]) dX4_setHead_77 (by decide) rfl ?_
          refine V_aload_n dX4_setHead_79 rfl rfl ?_
          refine V_aload_n dX4_setHead_80 rfl rfl ?_
          refine V_iload dX4_setHead_81 rfl ?_
          refine V_aload_n dX4_setHead_83 rfl rfl ?_
          refine V_getI (f := (σ24 53 2)) flX4_21 rfl (rfl) (by decide) dX4_setHead_84 ?_
          refine V_callV (av := [vr k2, vi x4, vi (σ24 53 2)]) (stk := []) cvX4_75 rfl rfl rfl (by decide) (by simp [ctg]) dX4_setHead_87 h ?_
          rintro _ σ25 ⟨rfl, h⟩
          refine V_iconst dX4_setHead_90 ?_
          refine V_istore (L' := [some (vr 53), some (vr k1), some (vr k2), some (vi x3), some (vi x4), some (vi x5), some (vi (σ k1 2)), some (vi (σ (k2 + 4) x3)), some (vi z24), some (vi 0), none]) dX4_setHead_91 (by decide) rfl ?_
          exact V.sub (SubL_s (SubL_s (SubL_s (SubL_s (SubL_s (SubL_n (SubL_s (SubL_s (SubL_s (SubL_s (SubL_n (SubL_0)))))))))))) h
        · replace h := h.2 q
          refine V_iconst dX4_setHead_67 ?_
          refine V_goto (tgt := 77) dX4_setHead_68 rfl ?_
          refine V_istore (L' := [some (vr 53), some (vr k1), some (vr k2), some (vi x3), some (vi x4), some (vi x5), some (vi (σ k1 2)), some (vi (σ (k2 + 4) x3)), some (vi 0), none, none]) dX4_setHead_77 (by decide) rfl ?_
          refine V_aload_n dX4_setHead_79 rfl rfl ?_
          refine V_aload_n dX4_setHead_80 rfl rfl ?_
          refine V_iload dX4_setHead_81 rfl ?_
          refine V_aload_n dX4_setHead_83 rfl rfl ?_
          refine V_getI (f := (σ23 53 2)) flX4_21 rfl (rfl) (by decide) dX4_setHead_84 ?_
          refine V_callV (av := [vr k2, vi x4, vi (σ23 53 2)]) (stk := []) cvX4_75 rfl rfl rfl (by decide) (by simp [ctg]) dX4_setHead_87 h ?_
          rintro _ σ26 ⟨rfl, h⟩
          refine V_iconst dX4_setHead_90 ?_
          refine V_istore (L' := [some (vr 53), some (vr k1), some (vr k2), some (vi x3), some (vi x4), some (vi x5), some (vi (σ k1 2)), some (vi (σ (k2 + 4) x3)), some (vi 0), some (vi 0), none]) dX4_setHead_91 (by decide) rfl ?_
          exact V.sub (SubL_s (SubL_s (SubL_s (SubL_s (SubL_s (SubL_n (SubL_s (SubL_s (SubL_s (SubL_s (SubL_n (SubL_0)))))))))))) h
set_option maxRecDepth 100000 in
theorem BX4_setHead_226 {σ : Sg} {post : Po} {k1 : Nat} {k2 : Nat} {x3 : Int} {x6 : Int} (hk1 : shp[k1]? = some (0, 8, 7)) (hk2 : shp[k2]? = some (0, 0, 14))
  (h : (0 ≤ x3 ∧ x3 < 16) ∧ (Cl mX4_setAlso [vr 53, vr k1, vr k2, vi (σ (k2 + 5) x3)] σ (pV fun σ1 => post (some (vi ((σ1 k1 2) - x6))) σ1))) :
  V mX4_setHead 226 [some (vr 53), some (vr k1), some (vr k2), some (vi x3), none, none, some (vi x6), none, none, none, none] [] σ post := by
  refine V_aload_n dX4_setHead_226 rfl rfl ?_
  refine V_aload_n dX4_setHead_227 rfl rfl ?_
  refine V_aload_n dX4_setHead_228 rfl rfl ?_
  refine V_aload_n dX4_setHead_229 rfl rfl ?_
  refine V_getR (k2 := (k2 + 5)) flX4_104 hk2 rfl (by decide) dX4_setHead_230 ?_
  refine V_iload_n dX4_setHead_233 rfl rfl ?_
  obtain ⟨r1, h⟩ := h
  refine V_iald (f := (σ (k2 + 5) x3)) (sh0_5 hk2) r1 (rfl) dX4_setHead_234 ?_
  refine V_callV (av := [vr k1, vr k2, vi (σ (k2 + 5) x3)]) (stk := []) cvX4_110 rfl rfl rfl (by decide) (by simp [ctg]) dX4_setHead_235 h ?_
  rintro _ σ1 ⟨rfl, h⟩
  refine V_aload_n dX4_setHead_238 rfl rfl ?_
  refine V_getI (f := (σ1 k1 2)) flX4_52 hk1 (rfl) (by decide) dX4_setHead_239 ?_
  refine V_iload dX4_setHead_242 rfl ?_
  refine V_isub dX4_setHead_244 ?_
  exact V_ireturn (stk := []) rfl dX4_setHead_245 h
set_option maxRecDepth 100000 in
theorem BX4_setHead_93 {σ : Sg} {post : Po} {k1 : Nat} {k2 : Nat} {x3 : Int} {x4 : Int} {x6 : Int} {x7 : Int} {x8 : Int} {x9 : Int} (hk1 : shp[k1]? = some (0, 8, 7)) (hk2 : shp[k2]? = some (0, 0, 14))
  (h : (0 ≤ x4 ∧ x4 < 16) ∧ ((rng x9) ∧ ((rng (σ (k2 + 2) x4)) ∧ (((σ (k2 + 2) x4) ≤ x9 → Cl mX4_setSee [vr 53, vr k1, vr k2, vr (200 + 1), vi x7] σ (pV fun σ1 => V mX4_setHead 226 [some (vr 53), some (vr k1), some (vr k2), some (vi x3), none, none, some (vi x6), none, none, none, none] [] σ1 post)) ∧ (¬ (σ (k2 + 2) x4) ≤ x9 → (0 ≤ x9 ∧ x9 < 16) ∧ (Cl mX11_isIn [vi x8, vi (σ 58 x9)] σ (pI fun z2 σ2 => (rng z2) ∧ ((z2 = 0 → V mX4_setHead 155 [some (vr 53), some (vr k1), some (vr k2), some (vi x3), some (vi x4), none, some (vi x6), some (vi x7), some (vi x8), some (vi x9), none] [] σ2 post) ∧ (¬ z2 = 0 → Cl mX8_putText [vr k1, vr (200 + 0)] σ2 (pV fun σ3 => Cl mX0_wordOf [vr k2, vi x4, vi (σ 58 x9)] σ3 (pL fun z4 σ4 => Cl mX8_putWord [vr k1, vl z4] σ4 (pV fun σ5 => Cl mX4_setRuns [vr 53, vr k1, vr k2, vi x4, vi (σ 58 x9)] σ5 (pV fun σ6 => V mX4_setHead 155 [some (vr 53), some (vr k1), some (vr k2), some (vi x3), some (vi x4), none, some (vi x6), some (vi x7), some (vi x8), some (vi x9), none] [] σ6 post))))))))))))) :
  V mX4_setHead 93 [some (vr 53), some (vr k1), some (vr k2), some (vi x3), some (vi x4), none, some (vi x6), some (vi x7), some (vi x8), some (vi x9), none] [] σ post := by
  refine V_iload dX4_setHead_93 rfl ?_
  refine V_aload_n dX4_setHead_95 rfl rfl ?_
  refine V_getR (k2 := (k2 + 2)) flX4_48 hk2 rfl (by decide) dX4_setHead_96 ?_
  refine V_iload dX4_setHead_99 rfl ?_
  obtain ⟨r1, h⟩ := h
  refine V_iald (f := (σ (k2 + 2) x4)) (sh0_2 hk2) r1 (rfl) dX4_setHead_101 ?_
  obtain ⟨r2, h⟩ := h
  obtain ⟨r3, h⟩ := h
  refine V_icmp_ge (tgt := 161) dX4_setHead_102 rfl r2 r3 (fun q => ?_) (fun q => ?_)
  · replace h := h.1 q
    refine V_aload_n dX4_setHead_161 rfl rfl ?_
    refine V_aload_n dX4_setHead_162 rfl rfl ?_
    refine V_aload_n dX4_setHead_163 rfl rfl ?_
    refine V_ldcS dX4_setHead_164 ksX4_96 ?_
    refine V_iload dX4_setHead_166 rfl ?_
    refine V_callV (av := [vr k1, vr k2, vr (200 + 1), vi x7]) (stk := []) cvX4_98 rfl rfl rfl (by decide) (by simp [ctg]) dX4_setHead_168 h ?_
    rintro _ σ1 ⟨rfl, h⟩
    refine V_goto (tgt := 226) dX4_setHead_171 rfl ?_
    exact V.sub (SubL_s (SubL_s (SubL_s (SubL_s (SubL_n (SubL_n (SubL_s (SubL_n (SubL_n (SubL_n (SubL_n (SubL_0)))))))))))) h
  · replace h := h.2 q
    refine V_aload_n dX4_setHead_105 rfl rfl ?_
    refine V_getR (k2 := 57) flX4_18 rfl rfl (by decide) dX4_setHead_106 ?_
    refine V_getR (k2 := 58) flX4_79 rfl rfl (by decide) dX4_setHead_109 ?_
    refine V_iload dX4_setHead_112 rfl ?_
    obtain ⟨r4, h⟩ := h
    refine V_iald (f := (σ 58 x9)) (rfl : shp[58]? = some (1, 16, 0)) r4 (rfl) dX4_setHead_114 ?_
    refine V_istore (L' := [some (vr 53), some (vr k1), some (vr k2), some (vi x3), some (vi x4), none, some (vi x6), some (vi x7), some (vi x8), some (vi x9), some (vi (σ 58 x9))]) dX4_setHead_115 (by decide) rfl ?_
    refine V_iload dX4_setHead_117 rfl ?_
    refine V_iload dX4_setHead_119 rfl ?_
    refine V_callN (av := [vi x8, vi (σ 58 x9)]) (stk := []) cvX4_82 rfl rfl (by decide) (by simp [ctg]) dX4_setHead_121 h ?_
    rintro _ σ2 ⟨z2, rfl, h⟩
    obtain ⟨r5, h⟩ := h
    refine V_if_eq (tgt := 155) dX4_setHead_124 rfl r5 (fun q => ?_) (fun q => ?_)
    · replace h := h.1 q
      exact V.sub (SubL_s (SubL_s (SubL_s (SubL_s (SubL_s (SubL_n (SubL_s (SubL_s (SubL_s (SubL_s (SubL_n (SubL_0)))))))))))) h
    · replace h := h.2 q
      refine V_aload_n dX4_setHead_127 rfl rfl ?_
      refine V_ldcS dX4_setHead_128 ksX4_86 ?_
      refine V_callV (av := [vr (200 + 0)]) (stk := []) cvX4_88 hk1 rfl rfl (by decide) (by simp [ctg]) dX4_setHead_130 h ?_
      rintro _ σ3 ⟨rfl, h⟩
      refine V_aload_n dX4_setHead_133 rfl rfl ?_
      refine V_aload_n dX4_setHead_134 rfl rfl ?_
      refine V_iload dX4_setHead_135 rfl ?_
      refine V_iload dX4_setHead_137 rfl ?_
      refine V_callV (av := [vi x4, vi (σ 58 x9)]) (stk := [vr k1]) cvX4_92 hk2 rfl rfl (by decide) (by simp [ctg]) dX4_setHead_139 h ?_
      rintro _ σ4 ⟨z4, rfl, h⟩
      refine V_callV (av := [vl z4]) (stk := []) cvX4_64 hk1 rfl rfl (by decide) (by simp [ctg]) dX4_setHead_142 h ?_
      rintro _ σ5 ⟨rfl, h⟩
      refine V_aload_n dX4_setHead_145 rfl rfl ?_
      refine V_aload_n dX4_setHead_146 rfl rfl ?_
      refine V_aload_n dX4_setHead_147 rfl rfl ?_
      refine V_iload dX4_setHead_148 rfl ?_
      refine V_iload dX4_setHead_150 rfl ?_
      refine V_callV (av := [vr k1, vr k2, vi x4, vi (σ 58 x9)]) (stk := []) cvX4_68 rfl rfl rfl (by decide) (by simp [ctg]) dX4_setHead_152 h ?_
      rintro _ σ6 ⟨rfl, h⟩
      exact V.sub (SubL_s (SubL_s (SubL_s (SubL_s (SubL_s (SubL_n (SubL_s (SubL_s (SubL_s (SubL_s (SubL_n (SubL_0)))))))))))) h
set_option maxRecDepth 100000 in
theorem BX4_setHead_155 {σ : Sg} {post : Po} {k1 : Nat} {k2 : Nat} {x3 : Int} {x4 : Int} {x6 : Int} {x7 : Int} {x8 : Int} {x9 : Int} (hk1 : shp[k1]? = some (0, 8, 7)) (hk2 : shp[k2]? = some (0, 0, 14))
  (h : V mX4_setHead 93 [some (vr 53), some (vr k1), some (vr k2), some (vi x3), some (vi x4), none, some (vi x6), some (vi x7), some (vi x8), some (vi (x9 + 1)), none] [] σ post) :
  V mX4_setHead 155 [some (vr 53), some (vr k1), some (vr k2), some (vi x3), some (vi x4), none, some (vi x6), some (vi x7), some (vi x8), some (vi x9), none] [] σ post := by
  refine V_iinc (L' := [some (vr 53), some (vr k1), some (vr k2), some (vi x3), some (vi x4), none, some (vi x6), some (vi x7), some (vi x8), some (vi (x9 + 1)), none]) dX4_setHead_155 rfl (by decide) rfl ?_
  refine V_goto (tgt := 93) dX4_setHead_158 rfl ?_
  exact V.sub (SubL_s (SubL_s (SubL_s (SubL_s (SubL_s (SubL_n (SubL_s (SubL_s (SubL_s (SubL_s (SubL_n (SubL_0)))))))))))) h

set_option maxRecDepth 100000 in
theorem BX4_setRuns_0 {σ : Sg} {post : Po} {k1 : Nat} {k2 : Nat} {x3 : Int} {x4 : Int} (hk1 : shp[k1]? = some (0, 8, 7)) (hk2 : shp[k2]? = some (0, 0, 14))
  (h : Cl mX8_placeUnit [vr k1] σ (pV fun σ1 => Cl mX0_gatherRuns [vr k2, vi x3, vi x4, vr 60] σ1 (pV fun σ2 => V mX4_setRuns 18 [some (vr 53), some (vr k1), none, none, none, some (vi 0)] [] σ2 post))) :
  V mX4_setRuns 0 [some (vr 53), some (vr k1), some (vr k2), some (vi x3), some (vi x4), none] [] σ post := by
  refine V_aload_n dX4_setRuns_0 rfl rfl ?_
  refine V_callV (av := []) (stk := []) cvX4_114 hk1 rfl rfl (by decide) (by simp [ctg]) dX4_setRuns_1 h ?_
  rintro _ σ1 ⟨rfl, h⟩
  refine V_aload_n dX4_setRuns_4 rfl rfl ?_
  refine V_iload_n dX4_setRuns_5 rfl rfl ?_
  refine V_iload dX4_setRuns_6 rfl ?_
  refine V_aload_n dX4_setRuns_8 rfl rfl ?_
  refine V_getR (k2 := 60) flX4_28 rfl rfl (by decide) dX4_setRuns_9 ?_
  refine V_callV (av := [vi x3, vi x4, vr 60]) (stk := []) cvX4_117 hk2 rfl rfl (by decide) (by simp [ctg]) dX4_setRuns_12 h ?_
  rintro _ σ2 ⟨rfl, h⟩
  refine V_iconst dX4_setRuns_15 ?_
  refine V_istore (L' := [some (vr 53), some (vr k1), some (vr k2), some (vi x3), some (vi x4), some (vi 0)]) dX4_setRuns_16 (by decide) rfl ?_
  exact V.sub (SubL_s (SubL_s (SubL_n (SubL_n (SubL_n (SubL_s (SubL_0))))))) h
set_option maxRecDepth 100000 in
theorem BX4_setRuns_18 {σ : Sg} {post : Po} {k1 : Nat} {x5 : Int} (hk1 : shp[k1]? = some (0, 8, 7))
  (h : (rng x5) ∧ ((rng (σ 60 0)) ∧ (((σ 60 0) ≤ x5 → Cl mX8_endRow [vr k1] σ (pV fun σ1 => post none σ1)) ∧ (¬ (σ 60 0) ≤ x5 → (0 ≤ x5 ∧ x5 < 60) ∧ (Cl mX8_putRun [vr k1, vi (σ 61 x5), vi (σ 62 x5), vi (σ 63 x5)] σ (pV fun σ2 => Cl mX8_placeUnit [vr k1] σ2 (pV fun σ3 => V mX4_setRuns 18 [some (vr 53), some (vr k1), none, none, none, some (vi (x5 + 1))] [] σ3 post))))))) :
  V mX4_setRuns 18 [some (vr 53), some (vr k1), none, none, none, some (vi x5)] [] σ post := by
  refine V_iload dX4_setRuns_18 rfl ?_
  refine V_aload_n dX4_setRuns_20 rfl rfl ?_
  refine V_getR (k2 := 60) flX4_28 rfl rfl (by decide) dX4_setRuns_21 ?_
  refine V_getI (f := (σ 60 0)) flX4_121 rfl (rfl) (by decide) dX4_setRuns_24 ?_
  obtain ⟨r1, h⟩ := h
  obtain ⟨r2, h⟩ := h
  refine V_icmp_ge (tgt := 74) dX4_setRuns_27 rfl r1 r2 (fun q => ?_) (fun q => ?_)
  · replace h := h.1 q
    refine V_aload_n dX4_setRuns_74 rfl rfl ?_
    refine V_callV (av := []) (stk := []) cvX4_107 hk1 rfl rfl (by decide) (by simp [ctg]) dX4_setRuns_75 h ?_
    rintro _ σ1 ⟨rfl, h⟩
    exact V_return (stk := []) rfl dX4_setRuns_78 h
  · replace h := h.2 q
    refine V_aload_n dX4_setRuns_30 rfl rfl ?_
    refine V_aload_n dX4_setRuns_31 rfl rfl ?_
    refine V_getR (k2 := 60) flX4_28 rfl rfl (by decide) dX4_setRuns_32 ?_
    refine V_getR (k2 := 61) flX4_124 rfl rfl (by decide) dX4_setRuns_35 ?_
    refine V_iload dX4_setRuns_38 rfl ?_
    obtain ⟨r3, h⟩ := h
    refine V_iald (f := (σ 61 x5)) (rfl : shp[61]? = some (1, 60, 0)) r3 (rfl) dX4_setRuns_40 ?_
    refine V_aload_n dX4_setRuns_41 rfl rfl ?_
    refine V_getR (k2 := 60) flX4_28 rfl rfl (by decide) dX4_setRuns_42 ?_
    refine V_getR (k2 := 62) flX4_127 rfl rfl (by decide) dX4_setRuns_45 ?_
    refine V_iload dX4_setRuns_48 rfl ?_
    refine V_iald (f := (σ 62 x5)) (rfl : shp[62]? = some (1, 60, 0)) r3 (rfl) dX4_setRuns_50 ?_
    refine V_aload_n dX4_setRuns_51 rfl rfl ?_
    refine V_getR (k2 := 60) flX4_28 rfl rfl (by decide) dX4_setRuns_52 ?_
    refine V_getR (k2 := 63) flX4_130 rfl rfl (by decide) dX4_setRuns_55 ?_
    refine V_iload dX4_setRuns_58 rfl ?_
    refine V_zald (f := (σ 63 x5)) (rfl : shp[63]? = some (3, 60, 0)) r3 (rfl) dX4_setRuns_60 ?_
    refine V_callV (av := [vi (σ 61 x5), vi (σ 62 x5), vi (σ 63 x5)]) (stk := []) cvX4_134 hk1 rfl rfl (by decide) (by simp [ctg]) dX4_setRuns_61 h ?_
    rintro _ σ2 ⟨rfl, h⟩
    refine V_aload_n dX4_setRuns_64 rfl rfl ?_
    refine V_callV (av := []) (stk := []) cvX4_114 hk1 rfl rfl (by decide) (by simp [ctg]) dX4_setRuns_65 h ?_
    rintro _ σ3 ⟨rfl, h⟩
    refine V_iinc (L' := [some (vr 53), some (vr k1), none, none, none, some (vi (x5 + 1))]) dX4_setRuns_68 rfl (by decide) rfl ?_
    refine V_goto (tgt := 18) dX4_setRuns_71 rfl ?_
    exact V.sub (SubL_s (SubL_s (SubL_n (SubL_n (SubL_n (SubL_s (SubL_0))))))) h

set_option maxRecDepth 100000 in
theorem BX4_setSee_0 {σ : Sg} {post : Po} {k1 : Nat} {k2 : Nat} {i3 : Nat} {x4 : Int} (hk1 : shp[k1]? = some (0, 8, 7)) (hk2 : shp[k2]? = some (0, 0, 14)) (hi3 : i3 < 9)
  (h : (rng x4) ∧ ((x4 = (-1) → post none σ) ∧ (¬ x4 = (-1) → Cl mX8_putText [vr k1, vr (200 + i3)] σ (pV fun σ1 => (0 ≤ x4 ∧ x4 < 16) ∧ (Cl mX8_putWord [vr k1, vl (σ1 (k2 + 1) x4)] σ1 (pV fun σ2 => Cl mX8_endRow [vr k1] σ2 (pV fun σ3 => post none σ3))))))) :
  V mX4_setSee 0 [some (vr 53), some (vr k1), some (vr k2), some (vr (200 + i3)), some (vi x4)] [] σ post := by
  refine V_iload dX4_setSee_0 rfl ?_
  refine V_iconst dX4_setSee_2 ?_
  obtain ⟨r1, h⟩ := h
  refine V_icmp_eq (tgt := 26) dX4_setSee_3 rfl r1 (by decide) (fun q => ?_) (fun q => ?_)
  · replace h := h.1 q
    exact V_return (stk := []) rfl dX4_setSee_26 h
  · replace h := h.2 q
    refine V_aload_n dX4_setSee_6 rfl rfl ?_
    refine V_aload_n dX4_setSee_7 rfl rfl ?_
    refine V_callV (av := [vr (200 + i3)]) (stk := []) cvX4_88 hk1 rfl rfl (by decide) (by simp [ctg]) dX4_setSee_8 h ?_
    rintro _ σ1 ⟨rfl, h⟩
    refine V_aload_n dX4_setSee_11 rfl rfl ?_
    refine V_aload_n dX4_setSee_12 rfl rfl ?_
    refine V_getR (k2 := (k2 + 1)) flX4_32 hk2 rfl (by decide) dX4_setSee_13 ?_
    refine V_iload dX4_setSee_16 rfl ?_
    obtain ⟨r2, h⟩ := h
    refine V_lald (f := (σ1 (k2 + 1) x4)) (sh0_1 hk2) r2 (rfl) dX4_setSee_18 ?_
    refine V_callV (av := [vl (σ1 (k2 + 1) x4)]) (stk := []) cvX4_64 hk1 rfl rfl (by decide) (by simp [ctg]) dX4_setSee_19 h ?_
    rintro _ σ2 ⟨rfl, h⟩
    refine V_aload_n dX4_setSee_22 rfl rfl ?_
    refine V_callV (av := []) (stk := []) cvX4_107 hk1 rfl rfl (by decide) (by simp [ctg]) dX4_setSee_23 h ?_
    rintro _ σ3 ⟨rfl, h⟩
    exact V_return (stk := []) rfl dX4_setSee_26 h

set_option maxRecDepth 100000 in
theorem BX4_setAlso_0 {σ : Sg} {post : Po} {k1 : Nat} {k2 : Nat} {x3 : Int} (hk1 : shp[k1]? = some (0, 8, 7)) (hk2 : shp[k2]? = some (0, 0, 14))
  (h : (rng x3) ∧ ((¬ x3 = 0 → Cl mX8_putText [vr k1, vr (200 + 2)] σ (pV fun σ1 => V mX4_setAlso 14 [some (vr 53), some (vr k1), some (vr k2), some (vi x3), some (vi 0), none] [] σ1 post)) ∧ (x3 = 0 → post none σ))) :
  V mX4_setAlso 0 [some (vr 53), some (vr k1), some (vr k2), some (vi x3), none, none] [] σ post := by
  refine V_iload_n dX4_setAlso_0 rfl rfl ?_
  obtain ⟨r1, h⟩ := h
  refine V_if_ne (tgt := 5) dX4_setAlso_1 rfl r1 (fun q => ?_) (fun q => ?_)
  · replace h := h.1 q
    refine V_aload_n dX4_setAlso_5 rfl rfl ?_
    refine V_ldcS dX4_setAlso_6 ksX4_138 ?_
    refine V_callV (av := [vr (200 + 2)]) (stk := []) cvX4_88 hk1 rfl rfl (by decide) (by simp [ctg]) dX4_setAlso_8 h ?_
    rintro _ σ1 ⟨rfl, h⟩
    refine V_iconst dX4_setAlso_11 ?_
    refine V_istore (L' := [some (vr 53), some (vr k1), some (vr k2), some (vi x3), some (vi 0), none]) dX4_setAlso_12 (by decide) rfl ?_
    exact V.sub (SubL_s (SubL_s (SubL_s (SubL_s (SubL_s (SubL_n (SubL_0))))))) h
  · replace h := h.2 q
    exact V_return (stk := []) rfl dX4_setAlso_4 h
set_option maxRecDepth 100000 in
theorem BX4_setAlso_14 {σ : Sg} {post : Po} {k1 : Nat} {k2 : Nat} {x3 : Int} {x4 : Int} (hk1 : shp[k1]? = some (0, 8, 7)) (hk2 : shp[k2]? = some (0, 0, 14))
  (h : (rng x4) ∧ ((rng (σ k2 0)) ∧ (((σ k2 0) ≤ x4 → Cl mX8_endRow [vr k1] σ (pV fun σ1 => post none σ1)) ∧ (¬ (σ k2 0) ≤ x4 → (0 ≤ x4 ∧ x4 < 16) ∧ (Cl mX11_isIn [vi x3, vi (σ 55 x4)] σ (pI fun z2 σ2 => (rng z2) ∧ ((z2 = 0 → V mX4_setAlso 14 [some (vr 53), some (vr k1), some (vr k2), some (vi x3), some (vi (x4 + 1)), none] [] σ2 post) ∧ (¬ z2 = 0 → (0 ≤ (σ 55 x4) ∧ (σ 55 x4) < 16) ∧ (Cl mX8_putWord [vr k1, vl (σ2 (k2 + 1) (σ 55 x4))] σ2 (pV fun σ3 => Cl mX8_placeUnit [vr k1] σ3 (pV fun σ4 => V mX4_setAlso 14 [some (vr 53), some (vr k1), some (vr k2), some (vi x3), some (vi (x4 + 1)), none] [] σ4 post))))))))))) :
  V mX4_setAlso 14 [some (vr 53), some (vr k1), some (vr k2), some (vi x3), some (vi x4), none] [] σ post := by
  refine V_iload dX4_setAlso_14 rfl ?_
  refine V_aload_n dX4_setAlso_16 rfl rfl ?_
  refine V_getI (f := (σ k2 0)) flX4_38 hk2 (rfl) (by decide) dX4_setAlso_17 ?_
  obtain ⟨r1, h⟩ := h
  obtain ⟨r2, h⟩ := h
  refine V_icmp_ge (tgt := 65) dX4_setAlso_20 rfl r1 r2 (fun q => ?_) (fun q => ?_)
  · replace h := h.1 q
    refine V_aload_n dX4_setAlso_65 rfl rfl ?_
    refine V_callV (av := []) (stk := []) cvX4_107 hk1 rfl rfl (by decide) (by simp [ctg]) dX4_setAlso_66 h ?_
    rintro _ σ1 ⟨rfl, h⟩
    exact V_return (stk := []) rfl dX4_setAlso_69 h
  · replace h := h.2 q
    refine V_aload_n dX4_setAlso_23 rfl rfl ?_
    refine V_getR (k2 := 54) flX4_12 rfl rfl (by decide) dX4_setAlso_24 ?_
    refine V_getR (k2 := 55) flX4_79 rfl rfl (by decide) dX4_setAlso_27 ?_
    refine V_iload dX4_setAlso_30 rfl ?_
    obtain ⟨r3, h⟩ := h
    refine V_iald (f := (σ 55 x4)) (rfl : shp[55]? = some (1, 16, 0)) r3 (rfl) dX4_setAlso_32 ?_
    refine V_istore (L' := [some (vr 53), some (vr k1), some (vr k2), some (vi x3), some (vi x4), some (vi (σ 55 x4))]) dX4_setAlso_33 (by decide) rfl ?_
    refine V_iload_n dX4_setAlso_35 rfl rfl ?_
    refine V_iload dX4_setAlso_36 rfl ?_
    refine V_callN (av := [vi x3, vi (σ 55 x4)]) (stk := []) cvX4_82 rfl rfl (by decide) (by simp [ctg]) dX4_setAlso_38 h ?_
    rintro _ σ2 ⟨z2, rfl, h⟩
    obtain ⟨r4, h⟩ := h
    refine V_if_eq (tgt := 59) dX4_setAlso_41 rfl r4 (fun q => ?_) (fun q => ?_)
    · replace h := h.1 q
      refine V_iinc (L' := [some (vr 53), some (vr k1), some (vr k2), some (vi x3), some (vi (x4 + 1)), some (vi (σ 55 x4))]) dX4_setAlso_59 rfl (by decide) rfl ?_
      refine V_goto (tgt := 14) dX4_setAlso_62 rfl ?_
      exact V.sub (SubL_s (SubL_s (SubL_s (SubL_s (SubL_s (SubL_n (SubL_0))))))) h
    · replace h := h.2 q
      refine V_aload_n dX4_setAlso_44 rfl rfl ?_
      refine V_aload_n dX4_setAlso_45 rfl rfl ?_
      refine V_getR (k2 := (k2 + 1)) flX4_32 hk2 rfl (by decide) dX4_setAlso_46 ?_
      refine V_iload dX4_setAlso_49 rfl ?_
      obtain ⟨r5, h⟩ := h
      refine V_lald (f := (σ2 (k2 + 1) (σ 55 x4))) (sh0_1 hk2) r5 (rfl) dX4_setAlso_51 ?_
      refine V_callV (av := [vl (σ2 (k2 + 1) (σ 55 x4))]) (stk := []) cvX4_64 hk1 rfl rfl (by decide) (by simp [ctg]) dX4_setAlso_52 h ?_
      rintro _ σ3 ⟨rfl, h⟩
      refine V_aload_n dX4_setAlso_55 rfl rfl ?_
      refine V_callV (av := []) (stk := []) cvX4_114 hk1 rfl rfl (by decide) (by simp [ctg]) dX4_setAlso_56 h ?_
      rintro _ σ4 ⟨rfl, h⟩
      refine V_iinc (L' := [some (vr 53), some (vr k1), some (vr k2), some (vi x3), some (vi (x4 + 1)), some (vi (σ 55 x4))]) dX4_setAlso_59 rfl (by decide) rfl ?_
      refine V_goto (tgt := 14) dX4_setAlso_62 rfl ?_
      exact V.sub (SubL_s (SubL_s (SubL_s (SubL_s (SubL_s (SubL_n (SubL_0))))))) h

set_option maxRecDepth 100000 in
theorem BX6_sort_0 {σ : Sg} {post : Po} {k0 : Nat} {k1 n1 : Nat} {x2 : Int} {x3 : Int} {x4 : Int} (hk0 : shp[k0]? = some (0, 6, 2)) (hk1 : shp[k1]? = some (4, n1, 0))
  (h : V mX6_sort 3 [some (vr k0), some (vr k1), some (vi x2), some (vi x3), some (vi x4), some (vi 0), none, none, none, none, none] [] σ post) :
  V mX6_sort 0 [some (vr k0), some (vr k1), some (vi x2), some (vi x3), some (vi x4), none, none, none, none, none, none] [] σ post := by
  refine V_iconst dX6_sort_0 ?_
  refine V_istore (L' := [some (vr k0), some (vr k1), some (vi x2), some (vi x3), some (vi x4), some (vi 0), none, none, none, none, none]) dX6_sort_1 (by decide) rfl ?_
  exact V.sub (SubL_s (SubL_s (SubL_s (SubL_s (SubL_s (SubL_s (SubL_n (SubL_n (SubL_n (SubL_n (SubL_n (SubL_0)))))))))))) h
set_option maxRecDepth 100000 in
theorem BX6_sort_3 {σ : Sg} {post : Po} {k0 : Nat} {k1 n1 : Nat} {x2 : Int} {x3 : Int} {x4 : Int} {x5 : Int} (hk0 : shp[k0]? = some (0, 6, 2)) (hk1 : shp[k1]? = some (4, n1, 0))
  (h : (rng x5) ∧ ((rng x3) ∧ ((x3 ≤ x5 → post none σ) ∧ (¬ x3 ≤ x5 → (0 ≤ (x2 + x5) ∧ (x2 + x5) < ((n1 : Nat) : Int)) ∧ ((rng x4) ∧ ((¬ x4 = 0 → V mX6_sort 38 [some (vr k0), some (vr k1), some (vi x2), some (vi x3), some (vi x4), some (vi x5), none, none, some (vl (σ k1 (x2 + x5))), none, some (vi x5)] [] σ post) ∧ (x4 = 0 → Cl mX10_withoutLines [vl (σ k1 (x2 + x5))] σ (pL fun z1 σ1 => V mX6_sort 38 [some (vr k0), some (vr k1), some (vi x2), some (vi x3), some (vi x4), some (vi x5), none, none, some (vl z1), none, some (vi x5)] [] σ1 post)))))))) :
  V mX6_sort 3 [some (vr k0), some (vr k1), some (vi x2), some (vi x3), some (vi x4), some (vi x5), none, none, none, none, none] [] σ post := by
  refine V_iload dX6_sort_3 rfl ?_
  refine V_iload_n dX6_sort_5 rfl rfl ?_
  obtain ⟨r1, h⟩ := h
  obtain ⟨r2, h⟩ := h
  refine V_icmp_ge (tgt := 120) dX6_sort_6 rfl r1 r2 (fun q => ?_) (fun q => ?_)
  · replace h := h.1 q
    exact V_return (stk := []) rfl dX6_sort_120 h
  · replace h := h.2 q
    refine V_aload_n dX6_sort_9 rfl rfl ?_
    refine V_iload_n dX6_sort_10 rfl rfl ?_
    refine V_iload dX6_sort_11 rfl ?_
    refine V_iadd dX6_sort_13 ?_
    obtain ⟨r3, h⟩ := h
    refine V_lald (f := (σ k1 (x2 + x5))) hk1 r3 (rfl) dX6_sort_14 ?_
    refine V_lstore (L' := [some (vr k0), some (vr k1), some (vi x2), some (vi x3), some (vi x4), some (vi x5), some (vl (σ k1 (x2 + x5))), none, none, none, none]) dX6_sort_15 (by decide) rfl ?_
    refine V_iload dX6_sort_17 rfl ?_
    obtain ⟨r4, h⟩ := h
    refine V_if_ne (tgt := 30) dX6_sort_19 rfl r4 (fun q => ?_) (fun q => ?_)
    · replace h := h.1 q
      refine V_lload dX6_sort_30 rfl ?_
      refine V_lstore (L' := [some (vr k0), some (vr k1), some (vi x2), some (vi x3), some (vi x4), some (vi x5), some (vl (σ k1 (x2 + x5))), none, some (vl (σ k1 (x2 + x5))), none, none]) dX6_sort_32 (by decide) rfl ?_
      refine V_iload dX6_sort_34 rfl ?_
      refine V_istore (L' := [some (vr k0), some (vr k1), some (vi x2), some (vi x3), some (vi x4), some (vi x5), some (vl (σ k1 (x2 + x5))), none, some (vl (σ k1 (x2 + x5))), none, some (vi x5)]) dX6_sort_36 (by decide) rfl ?_
      exact V.sub (SubL_s (SubL_s (SubL_s (SubL_s (SubL_s (SubL_s (SubL_n (SubL_n (SubL_s (SubL_n (SubL_s (SubL_0)))))))))))) h
    · replace h := h.2 q
      refine V_lload dX6_sort_22 rfl ?_
      refine V_callS (av := [vl (σ k1 (x2 + x5))]) (stk := []) cvX6_19 rfl rfl (by decide) (by simp [ctg]) dX6_sort_24 h ?_
      rintro _ σ1 ⟨z1, rfl, h⟩
      refine V_goto (tgt := 32) dX6_sort_27 rfl ?_
      refine V_lstore (L' := [some (vr k0), some (vr k1), some (vi x2), some (vi x3), some (vi x4), some (vi x5), some (vl (σ k1 (x2 + x5))), none, some (vl z1), none, none]) dX6_sort_32 (by decide) rfl ?_
      refine V_iload dX6_sort_34 rfl ?_
      refine V_istore (L' := [some (vr k0), some (vr k1), some (vi x2), some (vi x3), some (vi x4), some (vi x5), some (vl (σ k1 (x2 + x5))), none, some (vl z1), none, some (vi x5)]) dX6_sort_36 (by decide) rfl ?_
      exact V.sub (SubL_s (SubL_s (SubL_s (SubL_s (SubL_s (SubL_s (SubL_n (SubL_n (SubL_s (SubL_n (SubL_s (SubL_0)))))))))))) h
set_option maxRecDepth 100000 in
theorem BX6_sort_38 {σ : Sg} {post : Po} {k0 : Nat} {k1 n1 : Nat} {x2 : Int} {x3 : Int} {x4 : Int} {x5 : Int} {x8 : Int} {x10 : Int} (hk0 : shp[k0]? = some (0, 6, 2)) (hk1 : shp[k1]? = some (4, n1, 0))
  (h : (rng x10) ∧ ((x10 ≤ 0 → (0 ≤ x10 ∧ x10 < 16) ∧ (V mX6_sort 3 [some (vr k0), some (vr k1), some (vi x2), some (vi x3), some (vi x4), some (vi (x5 + 1)), none, none, none, none, none] [] (up (up σ (k0 + 2) x10 x8) (k0 + 1) x10 x5) post)) ∧ (¬ x10 ≤ 0 → (0 ≤ (x10 - 1) ∧ (x10 - 1) < 16) ∧ ((rngL (σ (k0 + 2) (x10 - 1))) ∧ ((rngL x8) ∧ (((σ (k0 + 2) (x10 - 1)) ≤ x8 → (0 ≤ x10 ∧ x10 < 16) ∧ (V mX6_sort 3 [some (vr k0), some (vr k1), some (vi x2), some (vi x3), some (vi x4), some (vi (x5 + 1)), none, none, none, none, none] [] (up (up σ (k0 + 2) x10 x8) (k0 + 1) x10 x5) post)) ∧ (¬ (σ (k0 + 2) (x10 - 1)) ≤ x8 → (0 ≤ x10 ∧ x10 < 16) ∧ (V mX6_sort 38 [some (vr k0), some (vr k1), some (vi x2), some (vi x3), some (vi x4), some (vi x5), none, none, some (vl x8), none, some (vi (x10 + (-1)))] [] (up (up σ (k0 + 2) x10 (σ (k0 + 2) (x10 - 1))) (k0 + 1) x10 (σ (k0 + 1) (x10 - 1))) post)))))))) :
  V mX6_sort 38 [some (vr k0), some (vr k1), some (vi x2), some (vi x3), some (vi x4), some (vi x5), none, none, some (vl x8), none, some (vi x10)] [] σ post := by
  refine V_iload dX6_sort_38 rfl ?_
  obtain ⟨r1, h⟩ := h
  refine V_if_le (tgt := 96) dX6_sort_40 rfl r1 (fun q => ?_) (fun q => ?_)
  · replace h := h.1 q
    refine V_aload_n dX6_sort_96 rfl rfl ?_
    refine V_getR (k2 := (k0 + 2)) flX6_15 hk0 rfl (by decide) dX6_sort_97 ?_
    refine V_iload dX6_sort_100 rfl ?_
    refine V_lload dX6_sort_102 rfl ?_
    obtain ⟨r2, h⟩ := h
    refine V_last (sh6_2 hk0) r2 dX6_sort_104 ?_
    refine V_aload_n dX6_sort_105 rfl rfl ?_
    refine V_getR (k2 := (k0 + 1)) flX6_9 hk0 rfl (by decide) dX6_sort_106 ?_
    refine V_iload dX6_sort_109 rfl ?_
    refine V_iload dX6_sort_111 rfl ?_
    refine V_iast (sh6_1 hk0) r2 dX6_sort_113 ?_
    refine V_iinc (L' := [some (vr k0), some (vr k1), some (vi x2), some (vi x3), some (vi x4), some (vi (x5 + 1)), none, none, some (vl x8), none, some (vi x10)]) dX6_sort_114 rfl (by decide) rfl ?_
    refine V_goto (tgt := 3) dX6_sort_117 rfl ?_
    exact V.sub (SubL_s (SubL_s (SubL_s (SubL_s (SubL_s (SubL_s (SubL_n (SubL_n (SubL_n (SubL_n (SubL_n (SubL_0)))))))))))) h
  · replace h := h.2 q
    refine V_aload_n dX6_sort_43 rfl rfl ?_
    refine V_getR (k2 := (k0 + 2)) flX6_15 hk0 rfl (by decide) dX6_sort_44 ?_
    refine V_iload dX6_sort_47 rfl ?_
    refine V_iconst dX6_sort_49 ?_
    refine V_isub dX6_sort_50 ?_
    obtain ⟨r3, h⟩ := h
    refine V_lald (f := (σ (k0 + 2) (x10 - 1))) (sh6_2 hk0) r3 (rfl) dX6_sort_51 ?_
    refine V_lload dX6_sort_52 rfl ?_
    obtain ⟨r4, h⟩ := h
    obtain ⟨r5, h⟩ := h
    refine V_lif_le (tgt := 96) dX6_sort_54 dX6_sort_55 rfl r4 r5 (fun q => ?_) (fun q => ?_)
    · replace h := h.1 q
      refine V_aload_n dX6_sort_96 rfl rfl ?_
      refine V_getR (k2 := (k0 + 2)) flX6_15 hk0 rfl (by decide) dX6_sort_97 ?_
      refine V_iload dX6_sort_100 rfl ?_
      refine V_lload dX6_sort_102 rfl ?_
      obtain ⟨r6, h⟩ := h
      refine V_last (sh6_2 hk0) r6 dX6_sort_104 ?_
      refine V_aload_n dX6_sort_105 rfl rfl ?_
      refine V_getR (k2 := (k0 + 1)) flX6_9 hk0 rfl (by decide) dX6_sort_106 ?_
      refine V_iload dX6_sort_109 rfl ?_
      refine V_iload dX6_sort_111 rfl ?_
      refine V_iast (sh6_1 hk0) r6 dX6_sort_113 ?_
      refine V_iinc (L' := [some (vr k0), some (vr k1), some (vi x2), some (vi x3), some (vi x4), some (vi (x5 + 1)), none, none, some (vl x8), none, some (vi x10)]) dX6_sort_114 rfl (by decide) rfl ?_
      refine V_goto (tgt := 3) dX6_sort_117 rfl ?_
      exact V.sub (SubL_s (SubL_s (SubL_s (SubL_s (SubL_s (SubL_s (SubL_n (SubL_n (SubL_n (SubL_n (SubL_n (SubL_0)))))))))))) h
    · replace h := h.2 q
      refine V_aload_n dX6_sort_58 rfl rfl ?_
      refine V_getR (k2 := (k0 + 2)) flX6_15 hk0 rfl (by decide) dX6_sort_59 ?_
      refine V_iload dX6_sort_62 rfl ?_
      refine V_aload_n dX6_sort_64 rfl rfl ?_
      refine V_getR (k2 := (k0 + 2)) flX6_15 hk0 rfl (by decide) dX6_sort_65 ?_
      refine V_iload dX6_sort_68 rfl ?_
      refine V_iconst dX6_sort_70 ?_
      refine V_isub dX6_sort_71 ?_
      refine V_lald (f := (σ (k0 + 2) (x10 - 1))) (sh6_2 hk0) r3 (rfl) dX6_sort_72 ?_
      obtain ⟨r7, h⟩ := h
      refine V_last (sh6_2 hk0) r7 dX6_sort_73 ?_
      refine V_aload_n dX6_sort_74 rfl rfl ?_
      refine V_getR (k2 := (k0 + 1)) flX6_9 hk0 rfl (by decide) dX6_sort_75 ?_
      refine V_iload dX6_sort_78 rfl ?_
      refine V_aload_n dX6_sort_80 rfl rfl ?_
      refine V_getR (k2 := (k0 + 1)) flX6_9 hk0 rfl (by decide) dX6_sort_81 ?_
      refine V_iload dX6_sort_84 rfl ?_
      refine V_iconst dX6_sort_86 ?_
      refine V_isub dX6_sort_87 ?_
      refine V_iald (f := (σ (k0 + 1) (x10 - 1))) (sh6_1 hk0) r3 (up_o (by omega)) dX6_sort_88 ?_
      refine V_iast (sh6_1 hk0) r7 dX6_sort_89 ?_
      refine V_iinc (L' := [some (vr k0), some (vr k1), some (vi x2), some (vi x3), some (vi x4), some (vi x5), none, none, some (vl x8), none, some (vi (x10 + (-1)))]) dX6_sort_90 rfl (by decide) rfl ?_
      refine V_goto (tgt := 38) dX6_sort_93 rfl ?_
      exact V.sub (SubL_s (SubL_s (SubL_s (SubL_s (SubL_s (SubL_s (SubL_n (SubL_n (SubL_s (SubL_n (SubL_s (SubL_0)))))))))))) h

set_option maxRecDepth 100000 in
theorem BX7_clear_0 {σ : Sg} {post : Po} {k0 : Nat} (hk0 : shp[k0]? = some (0, 7, 4))
  (h : post none (up σ k0 0 0)) :
  V mX7_clear 0 [some (vr k0)] [] σ post := by
  refine V_aload_n dX7_clear_0 rfl rfl ?_
  refine V_iconst dX7_clear_1 ?_
  refine V_putI flX7_9 hk0 (by decide) dX7_clear_2 ?_
  exact V_return (stk := []) rfl dX7_clear_5 h

set_option maxRecDepth 100000 in
theorem BX7_put_0 {σ : Sg} {post : Po} {k0 : Nat} {x1 : Int} {x2 : Int} {x3 : Int} (hk0 : shp[k0]? = some (0, 7, 4))
  (h : V mX7_put 3 [some (vr k0), some (vi x1), some (vi x2), some (vi x3), some (vi 0), none, none, none, none, none] [] σ post) :
  V mX7_put 0 [some (vr k0), some (vi x1), some (vi x2), some (vi x3), none, none, none, none, none, none] [] σ post := by
  refine V_iconst dX7_put_0 ?_
  refine V_istore (L' := [some (vr k0), some (vi x1), some (vi x2), some (vi x3), some (vi 0), none, none, none, none, none]) dX7_put_1 (by decide) rfl ?_
  exact V.sub (SubL_s (SubL_s (SubL_s (SubL_s (SubL_s (SubL_n (SubL_n (SubL_n (SubL_n (SubL_n (SubL_0))))))))))) h
set_option maxRecDepth 100000 in
theorem BX7_put_3 {σ : Sg} {post : Po} {k0 : Nat} {x1 : Int} {x2 : Int} {x3 : Int} {x4 : Int} (hk0 : shp[k0]? = some (0, 7, 4))
  (h : (rng x4) ∧ ((rng (σ k0 0)) ∧ (((σ k0 0) ≤ x4 → V mX7_put 44 [some (vr k0), none, some (vi x2), none, some (vi x4), some (vi x4), some (vi x1), some (vi x2), some (vi x3), none] [] σ post) ∧ (¬ (σ k0 0) ≤ x4 → (0 ≤ x4 ∧ x4 < 60) ∧ ((rng ((σ (k0 + 2) x4) + 1)) ∧ ((rng x1) ∧ ((x1 ≤ ((σ (k0 + 2) x4) + 1) → V mX7_put 44 [some (vr k0), none, some (vi x2), none, some (vi x4), some (vi x4), some (vi x1), some (vi x2), some (vi x3), none] [] σ post) ∧ (¬ x1 ≤ ((σ (k0 + 2) x4) + 1) → V mX7_put 3 [some (vr k0), some (vi x1), some (vi x2), some (vi x3), some (vi (x4 + 1)), none, none, none, none, none] [] σ post)))))))) :
  V mX7_put 3 [some (vr k0), some (vi x1), some (vi x2), some (vi x3), some (vi x4), none, none, none, none, none] [] σ post := by
  refine V_iload dX7_put_3 rfl ?_
  refine V_aload_n dX7_put_5 rfl rfl ?_
  refine V_getI (f := (σ k0 0)) flX7_9 hk0 (rfl) (by decide) dX7_put_6 ?_
  obtain ⟨r1, h⟩ := h
  obtain ⟨r2, h⟩ := h
  refine V_icmp_ge (tgt := 31) dX7_put_9 rfl r1 r2 (fun q => ?_) (fun q => ?_)
  · replace h := h.1 q
    refine V_iload dX7_put_31 rfl ?_
    refine V_istore (L' := [some (vr k0), some (vi x1), some (vi x2), some (vi x3), some (vi x4), some (vi x4), none, none, none, none]) dX7_put_33 (by decide) rfl ?_
    refine V_iload_n dX7_put_35 rfl rfl ?_
    refine V_istore (L' := [some (vr k0), some (vi x1), some (vi x2), some (vi x3), some (vi x4), some (vi x4), some (vi x1), none, none, none]) dX7_put_36 (by decide) rfl ?_
    refine V_iload_n dX7_put_38 rfl rfl ?_
    refine V_istore (L' := [some (vr k0), some (vi x1), some (vi x2), some (vi x3), some (vi x4), some (vi x4), some (vi x1), some (vi x2), none, none]) dX7_put_39 (by decide) rfl ?_
    refine V_iload_n dX7_put_41 rfl rfl ?_
    refine V_istore (L' := [some (vr k0), some (vi x1), some (vi x2), some (vi x3), some (vi x4), some (vi x4), some (vi x1), some (vi x2), some (vi x3), none]) dX7_put_42 (by decide) rfl ?_
    exact V.sub (SubL_s (SubL_n (SubL_s (SubL_n (SubL_s (SubL_s (SubL_s (SubL_s (SubL_s (SubL_n (SubL_0))))))))))) h
  · replace h := h.2 q
    refine V_aload_n dX7_put_12 rfl rfl ?_
    refine V_getR (k2 := (k0 + 2)) flX7_19 hk0 rfl (by decide) dX7_put_13 ?_
    refine V_iload dX7_put_16 rfl ?_
    obtain ⟨r3, h⟩ := h
    refine V_iald (f := (σ (k0 + 2) x4)) (sh7_2 hk0) r3 (rfl) dX7_put_18 ?_
    refine V_iconst dX7_put_19 ?_
    refine V_iadd dX7_put_20 ?_
    refine V_iload_n dX7_put_21 rfl rfl ?_
    obtain ⟨r4, h⟩ := h
    obtain ⟨r5, h⟩ := h
    refine V_icmp_ge (tgt := 31) dX7_put_22 rfl r4 r5 (fun q => ?_) (fun q => ?_)
    · replace h := h.1 q
      refine V_iload dX7_put_31 rfl ?_
      refine V_istore (L' := [some (vr k0), some (vi x1), some (vi x2), some (vi x3), some (vi x4), some (vi x4), none, none, none, none]) dX7_put_33 (by decide) rfl ?_
      refine V_iload_n dX7_put_35 rfl rfl ?_
      refine V_istore (L' := [some (vr k0), some (vi x1), some (vi x2), some (vi x3), some (vi x4), some (vi x4), some (vi x1), none, none, none]) dX7_put_36 (by decide) rfl ?_
      refine V_iload_n dX7_put_38 rfl rfl ?_
      refine V_istore (L' := [some (vr k0), some (vi x1), some (vi x2), some (vi x3), some (vi x4), some (vi x4), some (vi x1), some (vi x2), none, none]) dX7_put_39 (by decide) rfl ?_
      refine V_iload_n dX7_put_41 rfl rfl ?_
      refine V_istore (L' := [some (vr k0), some (vi x1), some (vi x2), some (vi x3), some (vi x4), some (vi x4), some (vi x1), some (vi x2), some (vi x3), none]) dX7_put_42 (by decide) rfl ?_
      exact V.sub (SubL_s (SubL_n (SubL_s (SubL_n (SubL_s (SubL_s (SubL_s (SubL_s (SubL_s (SubL_n (SubL_0))))))))))) h
    · replace h := h.2 q
      refine V_iinc (L' := [some (vr k0), some (vi x1), some (vi x2), some (vi x3), some (vi (x4 + 1)), none, none, none, none, none]) dX7_put_25 rfl (by decide) rfl ?_
      refine V_goto (tgt := 3) dX7_put_28 rfl ?_
      exact V.sub (SubL_s (SubL_s (SubL_s (SubL_s (SubL_s (SubL_n (SubL_n (SubL_n (SubL_n (SubL_n (SubL_0))))))))))) h
set_option maxRecDepth 100000 in
theorem BX7_put_44 {σ : Sg} {post : Po} {k0 : Nat} {x2 : Int} {x4 : Int} {x5 : Int} {x6 : Int} {x7 : Int} {x8 : Int} (hk0 : shp[k0]? = some (0, 7, 4))
  (h : (rng x5) ∧ ((rng (σ k0 0)) ∧ (((σ k0 0) ≤ x5 → (rng ((x4 + 1) + ((σ k0 0) - x5))) ∧ ((((x4 + 1) + ((σ k0 0) - x5)) ≤ 60 → (0 ≤ x5 ∧ 0 ≤ (x4 + 1) ∧ 0 ≤ ((σ k0 0) - x5) ∧ x5 + ((σ k0 0) - x5) ≤ 60 ∧ (x4 + 1) + ((σ k0 0) - x5) ≤ 60) ∧ (∀ τ1 : Sg, τ1 = (st σ (k0 + 1) (cpR (σ (k0 + 1)) (σ (k0 + 1)) x5 (x4 + 1) ((σ k0 0) - x5))) → ((0 ≤ x5 ∧ 0 ≤ (x4 + 1) ∧ 0 ≤ ((σ k0 0) - x5) ∧ x5 + ((σ k0 0) - x5) ≤ 60 ∧ (x4 + 1) + ((σ k0 0) - x5) ≤ 60) ∧ (∀ τ2 : Sg, τ2 = (st τ1 (k0 + 2) (cpR (τ1 (k0 + 2)) (τ1 (k0 + 2)) x5 (x4 + 1) ((σ k0 0) - x5))) → ((0 ≤ x5 ∧ 0 ≤ (x4 + 1) ∧ 0 ≤ ((σ k0 0) - x5) ∧ x5 + ((σ k0 0) - x5) ≤ 60 ∧ (x4 + 1) + ((σ k0 0) - x5) ≤ 60) ∧ (∀ τ3 : Sg, τ3 = (st τ2 (k0 + 3) (cpR (τ2 (k0 + 3)) (τ2 (k0 + 3)) x5 (x4 + 1) ((σ k0 0) - x5))) → ((0 ≤ x4 ∧ x4 < 60) ∧ ((x8 = 0 ∨ x8 = 1) ∧ (post none (up (up (up (up τ3 (k0 + 1) x4 x6) (k0 + 2) x4 x7) (k0 + 3) x4 x8) k0 0 ((x4 + 1) + ((σ k0 0) - x5)))))))))))) ∧ (¬ ((x4 + 1) + ((σ k0 0) - x5)) ≤ 60 → post none σ))) ∧ (¬ (σ k0 0) ≤ x5 → (0 ≤ x5 ∧ x5 < 60) ∧ ((rng (σ (k0 + 1) x5)) ∧ ((rng (x2 + 1)) ∧ (((x2 + 1) < (σ (k0 + 1) x5) → (rng ((x4 + 1) + ((σ k0 0) - x5))) ∧ ((((x4 + 1) + ((σ k0 0) - x5)) ≤ 60 → (0 ≤ x5 ∧ 0 ≤ (x4 + 1) ∧ 0 ≤ ((σ k0 0) - x5) ∧ x5 + ((σ k0 0) - x5) ≤ 60 ∧ (x4 + 1) + ((σ k0 0) - x5) ≤ 60) ∧ (∀ τ4 : Sg, τ4 = (st σ (k0 + 1) (cpR (σ (k0 + 1)) (σ (k0 + 1)) x5 (x4 + 1) ((σ k0 0) - x5))) → ((0 ≤ x5 ∧ 0 ≤ (x4 + 1) ∧ 0 ≤ ((σ k0 0) - x5) ∧ x5 + ((σ k0 0) - x5) ≤ 60 ∧ (x4 + 1) + ((σ k0 0) - x5) ≤ 60) ∧ (∀ τ5 : Sg, τ5 = (st τ4 (k0 + 2) (cpR (τ4 (k0 + 2)) (τ4 (k0 + 2)) x5 (x4 + 1) ((σ k0 0) - x5))) → ((0 ≤ x5 ∧ 0 ≤ (x4 + 1) ∧ 0 ≤ ((σ k0 0) - x5) ∧ x5 + ((σ k0 0) - x5) ≤ 60 ∧ (x4 + 1) + ((σ k0 0) - x5) ≤ 60) ∧ (∀ τ6 : Sg, τ6 = (st τ5 (k0 + 3) (cpR (τ5 (k0 + 3)) (τ5 (k0 + 3)) x5 (x4 + 1) ((σ k0 0) - x5))) → ((0 ≤ x4 ∧ x4 < 60) ∧ ((x8 = 0 ∨ x8 = 1) ∧ (post none (up (up (up (up τ6 (k0 + 1) x4 x6) (k0 + 2) x4 x7) (k0 + 3) x4 x8) k0 0 ((x4 + 1) + ((σ k0 0) - x5)))))))))))) ∧ (¬ ((x4 + 1) + ((σ k0 0) - x5)) ≤ 60 → post none σ))) ∧ (¬ (x2 + 1) < (σ (k0 + 1) x5) → Cl mJ9_min_7cf53 [vi x6, vi (σ (k0 + 1) x5)] σ (pI fun z7 σ7 => Cl mJ9_max_7cf53 [vi x7, vi (σ7 (k0 + 2) x5)] σ7 (pI fun z8 σ8 => (rng x8) ∧ ((¬ x8 = 0 → V mX7_put 44 [some (vr k0), none, some (vi x2), none, some (vi x4), some (vi (x5 + 1)), some (vi z7), some (vi z8), some (vi 1), none] [] σ8 post) ∧ (x8 = 0 → (rng (σ8 (k0 + 3) x5)) ∧ (((σ8 (k0 + 3) x5) = 0 → V mX7_put 44 [some (vr k0), none, some (vi x2), none, some (vi x4), some (vi (x5 + 1)), some (vi z7), some (vi z8), some (vi 0), none] [] σ8 post) ∧ (¬ (σ8 (k0 + 3) x5) = 0 → V mX7_put 44 [some (vr k0), none, some (vi x2), none, some (vi x4), some (vi (x5 + 1)), some (vi z7), some (vi z8), some (vi 1), none] [] σ8 post)))))))))))))) :
  V mX7_put 44 [some (vr k0), none, some (vi x2), none, some (vi x4), some (vi x5), some (vi x6), some (vi x7), some (vi x8), none] [] σ post := by
  refine V_iload dX7_put_44 rfl ?_
  refine V_aload_n dX7_put_46 rfl rfl ?_
  refine V_getI (f := (σ k0 0)) flX7_9 hk0 (rfl) (by decide) dX7_put_47 ?_
  obtain ⟨r1, h⟩ := h
  obtain ⟨r2, h⟩ := h
  refine V_icmp_ge (tgt := 122) dX7_put_50 rfl r1 r2 (fun q => ?_) (fun q => ?_)
  · replace h := h.1 q
    refine V_aload_n dX7_put_122 rfl rfl ?_
    refine V_getI (f := (σ k0 0)) flX7_9 hk0 (rfl) (by decide) dX7_put_123 ?_
    refine V_iload dX7_put_126 rfl ?_
    refine V_isub dX7_put_128 ?_
    refine V_istore (L' := [some (vr k0), none, some (vi x2), none, some (vi x4), some (vi x5), some (vi x6), some (vi x7), some (vi x8), some (vi ((σ k0 0) - x5))]) dX7_put_129 (by decide) rfl ?_
    refine V_iload dX7_put_131 rfl ?_
    refine V_iconst dX7_put_133 ?_
    refine V_iadd dX7_put_134 ?_
    refine V_iload dX7_put_135 rfl ?_
    refine V_iadd dX7_put_137 ?_
    refine V_bipush dX7_put_138 (by decide) ?_
    obtain ⟨r3, h⟩ := h
    refine V_icmp_le (tgt := 144) dX7_put_140 rfl r3 (by decide) (fun q => ?_) (fun q => ?_)
    · replace h := h.1 q
      refine V_aload_n dX7_put_144 rfl rfl ?_
      refine V_getR (k2 := (k0 + 1)) flX7_15 hk0 rfl (by decide) dX7_put_145 ?_
      refine V_iload dX7_put_148 rfl ?_
      refine V_aload_n dX7_put_150 rfl rfl ?_
      refine V_getR (k2 := (k0 + 1)) flX7_15 hk0 rfl (by decide) dX7_put_151 ?_
      refine V_iload dX7_put_154 rfl ?_
      refine V_iconst dX7_put_156 ?_
      refine V_iadd dX7_put_157 ?_
      refine V_iload dX7_put_158 rfl ?_
      obtain ⟨r4, h⟩ := h
      refine V_copyI (sh7_1 hk0) (sh7_1 hk0) r4.1 r4.2.1 r4.2.2.1 r4.2.2.2.1 r4.2.2.2.2 cpX7_35 (by decide) rfl dX7_put_160 ?_
      replace h := h _ rfl
      generalize (st σ (k0 + 1) (cpR (σ (k0 + 1)) (σ (k0 + 1)) x5 (x4 + 1) ((σ k0 0) - x5))) = τ1 at h ⊢
      refine V_aload_n dX7_put_163 rfl rfl ?_
      refine V_getR (k2 := (k0 + 2)) flX7_19 hk0 rfl (by decide) dX7_put_164 ?_
      refine V_iload dX7_put_167 rfl ?_
      refine V_aload_n dX7_put_169 rfl rfl ?_
      refine V_getR (k2 := (k0 + 2)) flX7_19 hk0 rfl (by decide) dX7_put_170 ?_
      refine V_iload dX7_put_173 rfl ?_
      refine V_iconst dX7_put_175 ?_
      refine V_iadd dX7_put_176 ?_
      refine V_iload dX7_put_177 rfl ?_
      obtain ⟨r5, h⟩ := h
      refine V_copyI (sh7_2 hk0) (sh7_2 hk0) r5.1 r5.2.1 r5.2.2.1 r5.2.2.2.1 r5.2.2.2.2 cpX7_35 (by decide) rfl dX7_put_179 ?_
      replace h := h _ rfl
      generalize (st τ1 (k0 + 2) (cpR (τ1 (k0 + 2)) (τ1 (k0 + 2)) x5 (x4 + 1) ((σ k0 0) - x5))) = τ2 at h ⊢
      refine V_aload_n dX7_put_182 rfl rfl ?_
      refine V_getR (k2 := (k0 + 3)) flX7_22 hk0 rfl (by decide) dX7_put_183 ?_
      refine V_iload dX7_put_186 rfl ?_
      refine V_aload_n dX7_put_188 rfl rfl ?_
      refine V_getR (k2 := (k0 + 3)) flX7_22 hk0 rfl (by decide) dX7_put_189 ?_
      refine V_iload dX7_put_192 rfl ?_
      refine V_iconst dX7_put_194 ?_
      refine V_iadd dX7_put_195 ?_
      refine V_iload dX7_put_196 rfl ?_
      obtain ⟨r6, h⟩ := h
      refine V_copyZ (sh7_3 hk0) (sh7_3 hk0) r6.1 r6.2.1 r6.2.2.1 r6.2.2.2.1 r6.2.2.2.2 cpX7_35 (by decide) rfl dX7_put_198 ?_
      replace h := h _ rfl
      generalize (st τ2 (k0 + 3) (cpR (τ2 (k0 + 3)) (τ2 (k0 + 3)) x5 (x4 + 1) ((σ k0 0) - x5))) = τ3 at h ⊢
      refine V_aload_n dX7_put_201 rfl rfl ?_
      refine V_getR (k2 := (k0 + 1)) flX7_15 hk0 rfl (by decide) dX7_put_202 ?_
      refine V_iload dX7_put_205 rfl ?_
      refine V_iload dX7_put_207 rfl ?_
      obtain ⟨r7, h⟩ := h
      refine V_iast (sh7_1 hk0) r7 dX7_put_209 ?_
      refine V_aload_n dX7_put_210 rfl rfl ?_
      refine V_getR (k2 := (k0 + 2)) flX7_19 hk0 rfl (by decide) dX7_put_211 ?_
      refine V_iload dX7_put_214 rfl ?_
      refine V_iload dX7_put_216 rfl ?_
      refine V_iast (sh7_2 hk0) r7 dX7_put_218 ?_
      refine V_aload_n dX7_put_219 rfl rfl ?_
      refine V_getR (k2 := (k0 + 3)) flX7_22 hk0 rfl (by decide) dX7_put_220 ?_
      refine V_iload dX7_put_223 rfl ?_
      refine V_iload dX7_put_225 rfl ?_
      obtain ⟨r8, h⟩ := h
      refine V_zast (sh7_3 hk0) r7 r8 dX7_put_227 ?_
      refine V_aload_n dX7_put_228 rfl rfl ?_
      refine V_iload dX7_put_229 rfl ?_
      refine V_iconst dX7_put_231 ?_
      refine V_iadd dX7_put_232 ?_
      refine V_iload dX7_put_233 rfl ?_
      refine V_iadd dX7_put_235 ?_
      refine V_putI flX7_9 hk0 (by decide) dX7_put_236 ?_
      exact V_return (stk := []) rfl dX7_put_239 h
    · replace h := h.2 q
      exact V_return (stk := []) rfl dX7_put_143 h
  · replace h := h.2 q
    refine V_aload_n dX7_put_53 rfl rfl ?_
    refine V_getR (k2 := (k0 + 1)) flX7_15 hk0 rfl (by decide) dX7_put_54 ?_
    refine V_iload dX7_put_57 rfl ?_
    obtain ⟨r9, h⟩ := h
    refine V_iald (f := (σ (k0 + 1) x5)) (sh7_1 hk0) r9 (rfl) dX7_put_59 ?_
    refine V_iload_n dX7_put_60 rfl rfl ?_
    refine V_iconst dX7_put_61 ?_
    refine V_iadd dX7_put_62 ?_
    obtain ⟨r10, h⟩ := h
    obtain ⟨r11, h⟩ := h
    refine V_icmp_gt (tgt := 122) dX7_put_63 rfl r10 r11 (fun q => ?_) (fun q => ?_)
    · replace h := h.1 q
      refine V_aload_n dX7_put_122 rfl rfl ?_
      refine V_getI (f := (σ k0 0)) flX7_9 hk0 (rfl) (by decide) dX7_put_123 ?_
      refine V_iload dX7_put_126 rfl ?_
      refine V_isub dX7_put_128 ?_
      refine V_istore (L' := [some (vr k0), none, some (vi x2), none, some (vi x4), some (vi x5), some (vi x6), some (vi x7), some (vi x8), some (vi ((σ k0 0) - x5))]) dX7_put_129 (by decide) rfl ?_
      refine V_iload dX7_put_131 rfl ?_
      refine V_iconst dX7_put_133 ?_
      refine V_iadd dX7_put_134 ?_
      refine V_iload dX7_put_135 rfl ?_
      refine V_iadd dX7_put_137 ?_
      refine V_bipush dX7_put_138 (by decide) ?_
      obtain ⟨r12, h⟩ := h
      refine V_icmp_le (tgt := 144) dX7_put_140 rfl r12 (by decide) (fun q => ?_) (fun q => ?_)
      · replace h := h.1 q
        refine V_aload_n dX7_put_144 rfl rfl ?_
        refine V_getR (k2 := (k0 + 1)) flX7_15 hk0 rfl (by decide) dX7_put_145 ?_
        refine V_iload dX7_put_148 rfl ?_
        refine V_aload_n dX7_put_150 rfl rfl ?_
        refine V_getR (k2 := (k0 + 1)) flX7_15 hk0 rfl (by decide) dX7_put_151 ?_
        refine V_iload dX7_put_154 rfl ?_
        refine V_iconst dX7_put_156 ?_
        refine V_iadd dX7_put_157 ?_
        refine V_iload dX7_put_158 rfl ?_
        obtain ⟨r13, h⟩ := h
        refine V_copyI (sh7_1 hk0) (sh7_1 hk0) r13.1 r13.2.1 r13.2.2.1 r13.2.2.2.1 r13.2.2.2.2 cpX7_35 (by decide) rfl dX7_put_160 ?_
        replace h := h _ rfl
        generalize (st σ (k0 + 1) (cpR (σ (k0 + 1)) (σ (k0 + 1)) x5 (x4 + 1) ((σ k0 0) - x5))) = τ4 at h ⊢
        refine V_aload_n dX7_put_163 rfl rfl ?_
        refine V_getR (k2 := (k0 + 2)) flX7_19 hk0 rfl (by decide) dX7_put_164 ?_
        refine V_iload dX7_put_167 rfl ?_
        refine V_aload_n dX7_put_169 rfl rfl ?_
        refine V_getR (k2 := (k0 + 2)) flX7_19 hk0 rfl (by decide) dX7_put_170 ?_
        refine V_iload dX7_put_173 rfl ?_
        refine V_iconst dX7_put_175 ?_
        refine V_iadd dX7_put_176 ?_
        refine V_iload dX7_put_177 rfl ?_
        obtain ⟨r14, h⟩ := h
        refine V_copyI (sh7_2 hk0) (sh7_2 hk0) r14.1 r14.2.1 r14.2.2.1 r14.2.2.2.1 r14.2.2.2.2 cpX7_35 (by decide) rfl dX7_put_179 ?_
        replace h := h _ rfl
        generalize (st τ4 (k0 + 2) (cpR (τ4 (k0 + 2)) (τ4 (k0 + 2)) x5 (x4 + 1) ((σ k0 0) - x5))) = τ5 at h ⊢
        refine V_aload_n dX7_put_182 rfl rfl ?_
        refine V_getR (k2 := (k0 + 3)) flX7_22 hk0 rfl (by decide) dX7_put_183 ?_
        refine V_iload dX7_put_186 rfl ?_
        refine V_aload_n dX7_put_188 rfl rfl ?_
        refine V_getR (k2 := (k0 + 3)) flX7_22 hk0 rfl (by decide) dX7_put_189 ?_
        refine V_iload dX7_put_192 rfl ?_
        refine V_iconst dX7_put_194 ?_
        refine V_iadd dX7_put_195 ?_
        refine V_iload dX7_put_196 rfl ?_
        obtain ⟨r15, h⟩ := h
        refine V_copyZ (sh7_3 hk0) (sh7_3 hk0) r15.1 r15.2.1 r15.2.2.1 r15.2.2.2.1 r15.2.2.2.2 cpX7_35 (by decide) rfl dX7_put_198 ?_
        replace h := h _ rfl
        generalize (st τ5 (k0 + 3) (cpR (τ5 (k0 + 3)) (τ5 (k0 + 3)) x5 (x4 + 1) ((σ k0 0) - x5))) = τ6 at h ⊢
        refine V_aload_n dX7_put_201 rfl rfl ?_
        refine V_getR (k2 := (k0 + 1)) flX7_15 hk0 rfl (by decide) dX7_put_202 ?_
        refine V_iload dX7_put_205 rfl ?_
        refine V_iload dX7_put_207 rfl ?_
        obtain ⟨r16, h⟩ := h
        refine V_iast (sh7_1 hk0) r16 dX7_put_209 ?_
        refine V_aload_n dX7_put_210 rfl rfl ?_
        refine V_getR (k2 := (k0 + 2)) flX7_19 hk0 rfl (by decide) dX7_put_211 ?_
        refine V_iload dX7_put_214 rfl ?_
        refine V_iload dX7_put_216 rfl ?_
        refine V_iast (sh7_2 hk0) r16 dX7_put_218 ?_
        refine V_aload_n dX7_put_219 rfl rfl ?_
        refine V_getR (k2 := (k0 + 3)) flX7_22 hk0 rfl (by decide) dX7_put_220 ?_
        refine V_iload dX7_put_223 rfl ?_
        refine V_iload dX7_put_225 rfl ?_
        obtain ⟨r17, h⟩ := h
        refine V_zast (sh7_3 hk0) r16 r17 dX7_put_227 ?_
        refine V_aload_n dX7_put_228 rfl rfl ?_
        refine V_iload dX7_put_229 rfl ?_
        refine V_iconst dX7_put_231 ?_
        refine V_iadd dX7_put_232 ?_
        refine V_iload dX7_put_233 rfl ?_
        refine V_iadd dX7_put_235 ?_
        refine V_putI flX7_9 hk0 (by decide) dX7_put_236 ?_
        exact V_return (stk := []) rfl dX7_put_239 h
      · replace h := h.2 q
        exact V_return (stk := []) rfl dX7_put_143 h
    · replace h := h.2 q
      refine V_iload dX7_put_66 rfl ?_
      refine V_aload_n dX7_put_68 rfl rfl ?_
      refine V_getR (k2 := (k0 + 1)) flX7_15 hk0 rfl (by decide) dX7_put_69 ?_
      refine V_iload dX7_put_72 rfl ?_
      refine V_iald (f := (σ (k0 + 1) x5)) (sh7_1 hk0) r9 (rfl) dX7_put_74 ?_
      refine V_callS (av := [vi x6, vi (σ (k0 + 1) x5)]) (stk := []) cvX7_26 rfl rfl (by decide) (by simp [ctg]) dX7_put_75 h ?_
      rintro _ σ7 ⟨z7, rfl, h⟩
      refine V_istore (L' := [some (vr k0), none, some (vi x2), none, some (vi x4), some (vi x5), some (vi z7), some (vi x7), some (vi x8), none]) dX7_put_78 (by decide) rfl ?_
      refine V_iload dX7_put_80 rfl ?_
      refine V_aload_n dX7_put_82 rfl rfl ?_
      refine V_getR (k2 := (k0 + 2)) flX7_19 hk0 rfl (by decide) dX7_put_83 ?_
      refine V_iload dX7_put_86 rfl ?_
      refine V_iald (f := (σ7 (k0 + 2) x5)) (sh7_2 hk0) r9 (rfl) dX7_put_88 ?_
      refine V_callS (av := [vi x7, vi (σ7 (k0 + 2) x5)]) (stk := []) cvX7_32 rfl rfl (by decide) (by simp [ctg]) dX7_put_89 h ?_
      rintro _ σ8 ⟨z8, rfl, h⟩
      refine V_istore (L' := [some (vr k0), none, some (vi x2), none, some (vi x4), some (vi x5), some (vi z7), some (vi z8), some (vi x8), none]) dX7_put_92 (by decide) rfl ?_
      refine V_iload dX7_put_94 rfl ?_
      obtain ⟨r18, h⟩ := h
      refine V_if_ne (tgt := 109) dX7_put_96 rfl r18 (fun q => ?_) (fun q => ?_)
      · replace h := h.1 q
        refine V_iconst dX7_put_109 ?_
        refine V_goto (tgt := 114) dX7_put_110 rfl ?_
        refine V_istore (L' := [some (vr k0), none, some (vi x2), none, some (vi x4), some (vi x5), some (vi z7), some (vi z8), some (vi 1), none]) dX7_put_114 (by decide) rfl ?_
        refine V_iinc (L' := [some (vr k0), none, some (vi x2), none, some (vi x4), some (vi (x5 + 1)), some (vi z7), some (vi z8), some (vi 1), none]) dX7_put_116 rfl (by decide) rfl ?_
        refine V_goto (tgt := 44) dX7_put_119 rfl ?_
        exact V.sub (SubL_s (SubL_n (SubL_s (SubL_n (SubL_s (SubL_s (SubL_s (SubL_s (SubL_s (SubL_n (SubL_0))))))))))) h
      · replace h := h.2 q
        refine V_aload_n dX7_put_99 rfl rfl ?_
        refine V_getR (k2 := (k0 + 3)) flX7_22 hk0 rfl (by decide) dX7_put_100 ?_
        refine V_iload dX7_put_103 rfl ?_
        refine V_zald (f := (σ8 (k0 + 3) x5)) (sh7_3 hk0) r9 (rfl) dX7_put_105 ?_
        obtain ⟨r19, h⟩ := h
        refine V_if_eq (tgt := 113) dX7_put_106 rfl r19 (fun q => ?_) (fun q => ?_)
        · replace h := h.1 q
          refine V_iconst dX7_put_113 ?_
          refine V_istore (L' := [some (vr k0), none, some (vi x2), none, some (vi x4), some (vi x5), some (vi z7), some (vi z8), some (vi 0), none]) dX7_put_114 (by decide) rfl ?_
          refine V_iinc (L' := [some (vr k0), none, some (vi x2), none, some (vi x4), some (vi (x5 + 1)), some (vi z7), some (vi z8), some (vi 0), none]) dX7_put_116 rfl (by decide) rfl ?_
          refine V_goto (tgt := 44) dX7_put_119 rfl ?_
          exact V.sub (SubL_s (SubL_n (SubL_s (SubL_n (SubL_s (SubL_s (SubL_s (SubL_s (SubL_s (SubL_n (SubL_0))))))))))) h
        · replace h := h.2 q
          refine V_iconst dX7_put_109 ?_
          refine V_goto (tgt := 114) dX7_put_110 rfl ?_
          refine V_istore (L' := [some (vr k0), none, some (vi x2), none, some (vi x4), some (vi x5), some (vi z7), some (vi z8), some (vi 1), none]) dX7_put_114 (by decide) rfl ?_
          refine V_iinc (L' := [some (vr k0), none, some (vi x2), none, some (vi x4), some (vi (x5 + 1)), some (vi z7), some (vi z8), some (vi 1), none]) dX7_put_116 rfl (by decide) rfl ?_
          refine V_goto (tgt := 44) dX7_put_119 rfl ?_
          exact V.sub (SubL_s (SubL_n (SubL_s (SubL_n (SubL_s (SubL_s (SubL_s (SubL_s (SubL_s (SubL_n (SubL_0))))))))))) h

set_option maxRecDepth 100000 in
theorem BX7_holds_0 {σ : Sg} {post : Po} {k0 : Nat} {x1 : Int} {x2 : Int} (hk0 : shp[k0]? = some (0, 7, 4))
  (h : V mX7_holds 2 [some (vr k0), some (vi x1), some (vi x2), some (vi 0)] [] σ post) :
  V mX7_holds 0 [some (vr k0), some (vi x1), some (vi x2), none] [] σ post := by
  refine V_iconst dX7_holds_0 ?_
  refine V_istore_n (L' := [some (vr k0), some (vi x1), some (vi x2), some (vi 0)]) dX7_holds_1 rfl (by decide) rfl ?_
  exact V.sub (SubL_s (SubL_s (SubL_s (SubL_s (SubL_0))))) h
set_option maxRecDepth 100000 in
theorem BX7_holds_2 {σ : Sg} {post : Po} {k0 : Nat} {x1 : Int} {x2 : Int} {x3 : Int} (hk0 : shp[k0]? = some (0, 7, 4))
  (h : (rng x3) ∧ ((rng (σ k0 0)) ∧ (((σ k0 0) ≤ x3 → post (some (vi 0)) σ) ∧ (¬ (σ k0 0) ≤ x3 → (0 ≤ x3 ∧ x3 < 60) ∧ ((rng (σ (k0 + 1) x3)) ∧ ((rng x1) ∧ ((¬ (σ (k0 + 1) x3) = x1 → V mX7_holds 2 [some (vr k0), some (vi x1), some (vi x2), some (vi (x3 + 1))] [] σ post) ∧ ((σ (k0 + 1) x3) = x1 → (rng (σ (k0 + 2) x3)) ∧ ((rng x2) ∧ ((¬ (σ (k0 + 2) x3) = x2 → V mX7_holds 2 [some (vr k0), some (vi x1), some (vi x2), some (vi (x3 + 1))] [] σ post) ∧ ((σ (k0 + 2) x3) = x2 → post (some (vi 1)) σ))))))))))) :
  V mX7_holds 2 [some (vr k0), some (vi x1), some (vi x2), some (vi x3)] [] σ post := by
  refine V_iload_n dX7_holds_2 rfl rfl ?_
  refine V_aload_n dX7_holds_3 rfl rfl ?_
  refine V_getI (f := (σ k0 0)) flX7_9 hk0 (rfl) (by decide) dX7_holds_4 ?_
  obtain ⟨r1, h⟩ := h
  obtain ⟨r2, h⟩ := h
  refine V_icmp_ge (tgt := 38) dX7_holds_7 rfl r1 r2 (fun q => ?_) (fun q => ?_)
  · replace h := h.1 q
    refine V_iconst dX7_holds_38 ?_
    exact V_zreturn (stk := []) rfl dX7_holds_39 (by decide) h
  · replace h := h.2 q
    refine V_aload_n dX7_holds_10 rfl rfl ?_
    refine V_getR (k2 := (k0 + 1)) flX7_15 hk0 rfl (by decide) dX7_holds_11 ?_
    refine V_iload_n dX7_holds_14 rfl rfl ?_
    obtain ⟨r3, h⟩ := h
    refine V_iald (f := (σ (k0 + 1) x3)) (sh7_1 hk0) r3 (rfl) dX7_holds_15 ?_
    refine V_iload_n dX7_holds_16 rfl rfl ?_
    obtain ⟨r4, h⟩ := h
    obtain ⟨r5, h⟩ := h
    refine V_icmp_ne (tgt := 32) dX7_holds_17 rfl r4 r5 (fun q => ?_) (fun q => ?_)
    · replace h := h.1 q
      refine V_iinc (L' := [some (vr k0), some (vi x1), some (vi x2), some (vi (x3 + 1))]) dX7_holds_32 rfl (by decide) rfl ?_
      refine V_goto (tgt := 2) dX7_holds_35 rfl ?_
      exact V.sub (SubL_s (SubL_s (SubL_s (SubL_s (SubL_0))))) h
    · replace h := h.2 q
      refine V_aload_n dX7_holds_20 rfl rfl ?_
      refine V_getR (k2 := (k0 + 2)) flX7_19 hk0 rfl (by decide) dX7_holds_21 ?_
      refine V_iload_n dX7_holds_24 rfl rfl ?_
      refine V_iald (f := (σ (k0 + 2) x3)) (sh7_2 hk0) r3 (rfl) dX7_holds_25 ?_
      refine V_iload_n dX7_holds_26 rfl rfl ?_
      obtain ⟨r6, h⟩ := h
      obtain ⟨r7, h⟩ := h
      refine V_icmp_ne (tgt := 32) dX7_holds_27 rfl r6 r7 (fun q => ?_) (fun q => ?_)
      · replace h := h.1 q
        refine V_iinc (L' := [some (vr k0), some (vi x1), some (vi x2), some (vi (x3 + 1))]) dX7_holds_32 rfl (by decide) rfl ?_
        refine V_goto (tgt := 2) dX7_holds_35 rfl ?_
        exact V.sub (SubL_s (SubL_s (SubL_s (SubL_s (SubL_0))))) h
      · replace h := h.2 q
        refine V_iconst dX7_holds_30 ?_
        exact V_zreturn (stk := []) rfl dX7_holds_31 (by decide) h

set_option maxRecDepth 100000 in
theorem BX8_clear_0 {σ : Sg} {post : Po} {k0 : Nat} {x1 : Int} (hk0 : shp[k0]? = some (0, 8, 7))
  (h : post none (up (up (up (up (up σ k0 1 0) k0 2 0) k0 3 0) k0 6 0) k0 4 x1)) :
  V mX8_clear 0 [some (vr k0), some (vi x1)] [] σ post := by
  refine V_aload_n dX8_clear_0 rfl rfl ?_
  refine V_iconst dX8_clear_1 ?_
  refine V_putI flX8_7 hk0 (by decide) dX8_clear_2 ?_
  refine V_aload_n dX8_clear_5 rfl rfl ?_
  refine V_iconst dX8_clear_6 ?_
  refine V_putI flX8_13 hk0 (by decide) dX8_clear_7 ?_
  refine V_aload_n dX8_clear_10 rfl rfl ?_
  refine V_iconst dX8_clear_11 ?_
  refine V_putI flX8_16 hk0 (by decide) dX8_clear_12 ?_
  refine V_aload_n dX8_clear_15 rfl rfl ?_
  refine V_iconst dX8_clear_16 ?_
  refine V_putI flX8_26 hk0 (by decide) dX8_clear_17 ?_
  refine V_aload_n dX8_clear_20 rfl rfl ?_
  refine V_iload_n dX8_clear_21 rfl rfl ?_
  refine V_putI flX8_19 hk0 (by decide) dX8_clear_22 ?_
  exact V_return (stk := []) rfl dX8_clear_25 h

set_option maxRecDepth 100000 in
theorem BX8_putByte_0 {σ : Sg} {post : Po} {k0 : Nat} {x1 : Int} (hk0 : shp[k0]? = some (0, 8, 7))
  (h : (rng (σ k0 6)) ∧ ((40 ≤ (σ k0 6) → post none σ) ∧ (¬ 40 ≤ (σ k0 6) → (0 ≤ (σ k0 6) ∧ (σ k0 6) < 40) ∧ (post none (up (up σ (k0 + 2) (σ k0 6) (iByte (iByte x1))) k0 6 ((σ k0 6) + 1)))))) :
  V mX8_putByte 0 [some (vr k0), some (vi x1)] [] σ post := by
  refine V_aload_n dX8_putByte_0 rfl rfl ?_
  refine V_getI (f := (σ k0 6)) flX8_26 hk0 (rfl) (by decide) dX8_putByte_1 ?_
  refine V_aload_n dX8_putByte_4 rfl rfl ?_
  refine V_getR (k2 := (k0 + 2)) flX8_22 hk0 rfl (by decide) dX8_putByte_5 ?_
  refine V_alen2 (z := 40) (sh8_2 hk0) rfl dX8_putByte_8 ?_
  obtain ⟨r1, h⟩ := h
  refine V_icmp_ge (tgt := 33) dX8_putByte_9 rfl r1 (by decide) (fun q => ?_) (fun q => ?_)
  · replace h := h.1 q
    exact V_return (stk := []) rfl dX8_putByte_33 h
  · replace h := h.2 q
    refine V_aload_n dX8_putByte_12 rfl rfl ?_
    refine V_getR (k2 := (k0 + 2)) flX8_22 hk0 rfl (by decide) dX8_putByte_13 ?_
    refine V_aload_n dX8_putByte_16 rfl rfl ?_
    refine V_getI (f := (σ k0 6)) flX8_26 hk0 (rfl) (by decide) dX8_putByte_17 ?_
    refine V_iload_n dX8_putByte_20 rfl rfl ?_
    refine V_i2b dX8_putByte_21 ?_
    obtain ⟨r2, h⟩ := h
    refine V_bast (sh8_2 hk0) r2 dX8_putByte_22 ?_
    refine V_aload_n dX8_putByte_23 rfl rfl ?_
    refine V_dup dX8_putByte_24 trivial ?_
    refine V_getI (f := (σ k0 6)) flX8_26 hk0 (up_o (by omega)) (by decide) dX8_putByte_25 ?_
    refine V_iconst dX8_putByte_28 ?_
    refine V_iadd dX8_putByte_29 ?_
    refine V_putI flX8_26 hk0 (by decide) dX8_putByte_30 ?_
    exact V_return (stk := []) rfl dX8_putByte_33 h

set_option maxRecDepth 100000 in
theorem BX8_putText_0 {σ : Sg} {post : Po} {k0 : Nat} {i1 : Nat} (hk0 : shp[k0]? = some (0, 8, 7)) (hi1 : i1 < 9)
  (h : V mX8_putText 2 [some (vr k0), some (vr (200 + i1)), some (vi 0)] [] σ post) :
  V mX8_putText 0 [some (vr k0), some (vr (200 + i1)), none] [] σ post := by
  refine V_iconst dX8_putText_0 ?_
  refine V_istore_n (L' := [some (vr k0), some (vr (200 + i1)), some (vi 0)]) dX8_putText_1 rfl (by decide) rfl ?_
  exact V.sub (SubL_s (SubL_s (SubL_s (SubL_0)))) h
set_option maxRecDepth 100000 in
theorem BX8_putText_2 {σ : Sg} {post : Po} {k0 : Nat} {i1 : Nat} {x2 : Int} (hk0 : shp[k0]? = some (0, 8, 7)) (hi1 : i1 < 9)
  (h : (rng x2) ∧ ((rng (slI i1)) ∧ (((slI i1) ≤ x2 → post none σ) ∧ (¬ (slI i1) ≤ x2 → (0 ≤ x2 ∧ x2 < slI i1) ∧ (Cl mX8_putByte [vr k0, vi (scI i1 x2)] σ (pV fun σ1 => V mX8_putText 2 [some (vr k0), some (vr (200 + i1)), some (vi (x2 + 1))] [] σ1 post)))))) :
  V mX8_putText 2 [some (vr k0), some (vr (200 + i1)), some (vi x2)] [] σ post := by
  refine V_iload_n dX8_putText_2 rfl rfl ?_
  refine V_aload_n dX8_putText_3 rfl rfl ?_
  refine V_slen csX8_38 hi1 (by decide) (by simp [ctg]) dX8_putText_4 ?_
  obtain ⟨r1, h⟩ := h
  obtain ⟨r2, h⟩ := h
  refine V_icmp_ge (tgt := 25) dX8_putText_7 rfl r1 r2 (fun q => ?_) (fun q => ?_)
  · replace h := h.1 q
    exact V_return (stk := []) rfl dX8_putText_25 h
  · replace h := h.2 q
    refine V_aload_n dX8_putText_10 rfl rfl ?_
    refine V_aload_n dX8_putText_11 rfl rfl ?_
    refine V_iload_n dX8_putText_12 rfl rfl ?_
    obtain ⟨r3, h⟩ := h
    refine V_schar csX8_43 hi1 r3 (by decide) (by simp [ctg]) dX8_putText_13 ?_
    refine V_callV (av := [vi (scI i1 x2)]) (stk := []) cvX8_47 hk0 rfl rfl (by decide) (by simp [ctg]) dX8_putText_16 h ?_
    rintro _ σ1 ⟨rfl, h⟩
    refine V_iinc (L' := [some (vr k0), some (vr (200 + i1)), some (vi (x2 + 1))]) dX8_putText_19 rfl (by decide) rfl ?_
    refine V_goto (tgt := 2) dX8_putText_22 rfl ?_
    exact V.sub (SubL_s (SubL_s (SubL_s (SubL_0)))) h

set_option maxRecDepth 100000 in
theorem BX8_putWord_0 {σ : Sg} {post : Po} {k0 : Nat} {x1 : Int} (hk0 : shp[k0]? = some (0, 8, 7))
  (h : Cl mX10_lengthOf [vl x1] σ (pI fun z1 σ1 => V mX8_putWord 8 [some (vr k0), some (vl x1), none, some (vi z1), some (vi 0)] [] σ1 post)) :
  V mX8_putWord 0 [some (vr k0), some (vl x1), none, none, none] [] σ post := by
  refine V_lload_n dX8_putWord_0 rfl rfl ?_
  refine V_callS (av := [vl x1]) (stk := []) cvX8_51 rfl rfl (by decide) (by simp [ctg]) dX8_putWord_1 h ?_
  rintro _ σ1 ⟨z1, rfl, h⟩
  refine V_istore_n (L' := [some (vr k0), some (vl x1), none, some (vi z1), none]) dX8_putWord_4 rfl (by decide) rfl ?_
  refine V_iconst dX8_putWord_5 ?_
  refine V_istore (L' := [some (vr k0), some (vl x1), none, some (vi z1), some (vi 0)]) dX8_putWord_6 (by decide) rfl ?_
  exact V.sub (SubL_s (SubL_s (SubL_n (SubL_s (SubL_s (SubL_0)))))) h
set_option maxRecDepth 100000 in
theorem BX8_putWord_8 {σ : Sg} {post : Po} {k0 : Nat} {x1 : Int} {x3 : Int} {x4 : Int} (hk0 : shp[k0]? = some (0, 8, 7))
  (h : (rng x4) ∧ ((rng x3) ∧ ((x3 ≤ x4 → post none σ) ∧ (¬ x3 ≤ x4 → Cl mX10_byteOf [vl x1, vi x4] σ (pI fun z1 σ1 => Cl mX8_putByte [vr k0, vi z1] σ1 (pV fun σ2 => V mX8_putWord 8 [some (vr k0), some (vl x1), none, some (vi x3), some (vi (x4 + 1))] [] σ2 post)))))) :
  V mX8_putWord 8 [some (vr k0), some (vl x1), none, some (vi x3), some (vi x4)] [] σ post := by
  refine V_iload dX8_putWord_8 rfl ?_
  refine V_iload_n dX8_putWord_10 rfl rfl ?_
  obtain ⟨r1, h⟩ := h
  obtain ⟨r2, h⟩ := h
  refine V_icmp_ge (tgt := 30) dX8_putWord_11 rfl r1 r2 (fun q => ?_) (fun q => ?_)
  · replace h := h.1 q
    exact V_return (stk := []) rfl dX8_putWord_30 h
  · replace h := h.2 q
    refine V_aload_n dX8_putWord_14 rfl rfl ?_
    refine V_lload_n dX8_putWord_15 rfl rfl ?_
    refine V_iload dX8_putWord_16 rfl ?_
    refine V_callS (av := [vl x1, vi x4]) (stk := [vr k0]) cvX8_57 rfl rfl (by decide) (by simp [ctg]) dX8_putWord_18 h ?_
    rintro _ σ1 ⟨z1, rfl, h⟩
    refine V_callV (av := [vi z1]) (stk := []) cvX8_47 hk0 rfl rfl (by decide) (by simp [ctg]) dX8_putWord_21 h ?_
    rintro _ σ2 ⟨rfl, h⟩
    refine V_iinc (L' := [some (vr k0), some (vl x1), none, some (vi x3), some (vi (x4 + 1))]) dX8_putWord_24 rfl (by decide) rfl ?_
    refine V_goto (tgt := 8) dX8_putWord_27 rfl ?_
    exact V.sub (SubL_s (SubL_s (SubL_n (SubL_s (SubL_s (SubL_0)))))) h

set_option maxRecDepth 100000 in
theorem BX8_putPage_0 {σ : Sg} {post : Po} {k0 : Nat} {x1 : Int} (hk0 : shp[k0]? = some (0, 8, 7))
  (h : (rng x1) ∧ ((x1 ≤ 9 → Cl mX8_putByte [vr k0, vi (48 + (x1 - iDiv x1 10 * 10))] σ (pV fun σ1 => post none σ1)) ∧ (¬ x1 ≤ 9 → Cl mX8_putByte [vr k0, vi (48 + (iDiv x1 10))] σ (pV fun σ2 => Cl mX8_putByte [vr k0, vi (48 + (x1 - iDiv x1 10 * 10))] σ2 (pV fun σ3 => post none σ3))))) :
  V mX8_putPage 0 [some (vr k0), some (vi x1)] [] σ post := by
  refine V_iload_n dX8_putPage_0 rfl rfl ?_
  refine V_bipush dX8_putPage_1 (by decide) ?_
  obtain ⟨r1, h⟩ := h
  refine V_icmp_le (tgt := 17) dX8_putPage_3 rfl r1 (by decide) (fun q => ?_) (fun q => ?_)
  · replace h := h.1 q
    refine V_aload_n dX8_putPage_17 rfl rfl ?_
    refine V_bipush dX8_putPage_18 (by decide) ?_
    refine V_iload_n dX8_putPage_20 rfl rfl ?_
    refine V_bipush dX8_putPage_21 (by decide) ?_
    refine V_irem dX8_putPage_23 (by decide) ?_
    refine V_iadd dX8_putPage_24 ?_
    refine V_callV (av := [vi (48 + (x1 - iDiv x1 10 * 10))]) (stk := []) cvX8_47 hk0 rfl rfl (by decide) (by simp [ctg]) dX8_putPage_25 h ?_
    rintro _ σ1 ⟨rfl, h⟩
    exact V_return (stk := []) rfl dX8_putPage_28 h
  · replace h := h.2 q
    refine V_aload_n dX8_putPage_6 rfl rfl ?_
    refine V_bipush dX8_putPage_7 (by decide) ?_
    refine V_iload_n dX8_putPage_9 rfl rfl ?_
    refine V_bipush dX8_putPage_10 (by decide) ?_
    refine V_idiv dX8_putPage_12 (by decide) ?_
    refine V_iadd dX8_putPage_13 ?_
    refine V_callV (av := [vi (48 + (iDiv x1 10))]) (stk := []) cvX8_47 hk0 rfl rfl (by decide) (by simp [ctg]) dX8_putPage_14 h ?_
    rintro _ σ2 ⟨rfl, h⟩
    refine V_aload_n dX8_putPage_17 rfl rfl ?_
    refine V_bipush dX8_putPage_18 (by decide) ?_
    refine V_iload_n dX8_putPage_20 rfl rfl ?_
    refine V_bipush dX8_putPage_21 (by decide) ?_
    refine V_irem dX8_putPage_23 (by decide) ?_
    refine V_iadd dX8_putPage_24 ?_
    refine V_callV (av := [vi (48 + (x1 - iDiv x1 10 * 10))]) (stk := []) cvX8_47 hk0 rfl rfl (by decide) (by simp [ctg]) dX8_putPage_25 h ?_
    rintro _ σ3 ⟨rfl, h⟩
    exact V_return (stk := []) rfl dX8_putPage_28 h

set_option maxRecDepth 100000 in
theorem BX8_putRun_0 {σ : Sg} {post : Po} {k0 : Nat} {x1 : Int} {x2 : Int} {x3 : Int} (hk0 : shp[k0]? = some (0, 8, 7))
  (h : (rng x3) ∧ ((x3 = 0 → Cl mX8_putPage [vr k0, vi x1] σ (pV fun σ1 => (rng x2) ∧ ((rng x1) ∧ ((x2 ≤ x1 → post none σ1) ∧ (¬ x2 ≤ x1 → Cl mX8_putByte [vr k0, vi 45] σ1 (pV fun σ2 => Cl mX8_putPage [vr k0, vi x2] σ2 (pV fun σ3 => post none σ3))))))) ∧ (¬ x3 = 0 → Cl mX8_putByte [vr k0, vi 42] σ (pV fun σ4 => Cl mX8_putPage [vr k0, vi x1] σ4 (pV fun σ5 => (rng x2) ∧ ((rng x1) ∧ ((x2 ≤ x1 → post none σ5) ∧ (¬ x2 ≤ x1 → Cl mX8_putByte [vr k0, vi 45] σ5 (pV fun σ6 => Cl mX8_putPage [vr k0, vi x2] σ6 (pV fun σ7 => post none σ7)))))))))) :
  V mX8_putRun 0 [some (vr k0), some (vi x1), some (vi x2), some (vi x3)] [] σ post := by
  refine V_iload_n dX8_putRun_0 rfl rfl ?_
  obtain ⟨r1, h⟩ := h
  refine V_if_eq (tgt := 10) dX8_putRun_1 rfl r1 (fun q => ?_) (fun q => ?_)
  · replace h := h.1 q
    refine V_aload_n dX8_putRun_10 rfl rfl ?_
    refine V_iload_n dX8_putRun_11 rfl rfl ?_
    refine V_callV (av := [vi x1]) (stk := []) cvX8_61 hk0 rfl rfl (by decide) (by simp [ctg]) dX8_putRun_12 h ?_
    rintro _ σ1 ⟨rfl, h⟩
    refine V_iload_n dX8_putRun_15 rfl rfl ?_
    refine V_iload_n dX8_putRun_16 rfl rfl ?_
    obtain ⟨r2, h⟩ := h
    obtain ⟨r3, h⟩ := h
    refine V_icmp_le (tgt := 31) dX8_putRun_17 rfl r2 r3 (fun q => ?_) (fun q => ?_)
    · replace h := h.1 q
      exact V_return (stk := []) rfl dX8_putRun_31 h
    · replace h := h.2 q
      refine V_aload_n dX8_putRun_20 rfl rfl ?_
      refine V_bipush dX8_putRun_21 (by decide) ?_
      refine V_callV (av := [vi 45]) (stk := []) cvX8_47 hk0 rfl rfl (by decide) (by simp [ctg]) dX8_putRun_23 h ?_
      rintro _ σ2 ⟨rfl, h⟩
      refine V_aload_n dX8_putRun_26 rfl rfl ?_
      refine V_iload_n dX8_putRun_27 rfl rfl ?_
      refine V_callV (av := [vi x2]) (stk := []) cvX8_61 hk0 rfl rfl (by decide) (by simp [ctg]) dX8_putRun_28 h ?_
      rintro _ σ3 ⟨rfl, h⟩
      exact V_return (stk := []) rfl dX8_putRun_31 h
  · replace h := h.2 q
    refine V_aload_n dX8_putRun_4 rfl rfl ?_
    refine V_bipush dX8_putRun_5 (by decide) ?_
    refine V_callV (av := [vi 42]) (stk := []) cvX8_47 hk0 rfl rfl (by decide) (by simp [ctg]) dX8_putRun_7 h ?_
    rintro _ σ4 ⟨rfl, h⟩
    refine V_aload_n dX8_putRun_10 rfl rfl ?_
    refine V_iload_n dX8_putRun_11 rfl rfl ?_
    refine V_callV (av := [vi x1]) (stk := []) cvX8_61 hk0 rfl rfl (by decide) (by simp [ctg]) dX8_putRun_12 h ?_
    rintro _ σ5 ⟨rfl, h⟩
    refine V_iload_n dX8_putRun_15 rfl rfl ?_
    refine V_iload_n dX8_putRun_16 rfl rfl ?_
    obtain ⟨r4, h⟩ := h
    obtain ⟨r5, h⟩ := h
    refine V_icmp_le (tgt := 31) dX8_putRun_17 rfl r4 r5 (fun q => ?_) (fun q => ?_)
    · replace h := h.1 q
      exact V_return (stk := []) rfl dX8_putRun_31 h
    · replace h := h.2 q
      refine V_aload_n dX8_putRun_20 rfl rfl ?_
      refine V_bipush dX8_putRun_21 (by decide) ?_
      refine V_callV (av := [vi 45]) (stk := []) cvX8_47 hk0 rfl rfl (by decide) (by simp [ctg]) dX8_putRun_23 h ?_
      rintro _ σ6 ⟨rfl, h⟩
      refine V_aload_n dX8_putRun_26 rfl rfl ?_
      refine V_iload_n dX8_putRun_27 rfl rfl ?_
      refine V_callV (av := [vi x2]) (stk := []) cvX8_61 hk0 rfl rfl (by decide) (by simp [ctg]) dX8_putRun_28 h ?_
      rintro _ σ7 ⟨rfl, h⟩
      exact V_return (stk := []) rfl dX8_putRun_31 h

set_option maxRecDepth 100000 in
theorem BX8_write_0 {σ : Sg} {post : Po} {k0 : Nat} {x1 : Int} (hk0 : shp[k0]? = some (0, 8, 7))
  (h : (rng (σ k0 1)) ∧ ((rng ((outN k0) : Int)) ∧ ((((outN k0) : Int) ≤ (σ k0 1) → (rng x1) ∧ ((¬ x1 = 10 → post none (up (up σ k0 1 ((σ k0 1) + 1)) k0 3 ((σ k0 3) + 1))) ∧ (x1 = 10 → post none (up (up (up (up σ k0 1 ((σ k0 1) + 1)) k0 3 ((σ k0 3) + 1)) k0 2 ((σ k0 2) + 1)) k0 3 0)))) ∧ (¬ ((outN k0) : Int) ≤ (σ k0 1) → (0 ≤ (σ k0 1) ∧ (σ k0 1) < (((outN k0) : Nat) : Int)) ∧ ((rng x1) ∧ ((¬ x1 = 10 → post none (up (up (up σ (k0 + 1) (σ k0 1) (iByte (iByte x1))) k0 1 ((σ k0 1) + 1)) k0 3 ((σ k0 3) + 1))) ∧ (x1 = 10 → post none (up (up (up (up (up σ (k0 + 1) (σ k0 1) (iByte (iByte x1))) k0 1 ((σ k0 1) + 1)) k0 3 ((σ k0 3) + 1)) k0 2 ((σ k0 2) + 1)) k0 3 0)))))))) :
  V mX8_write 0 [some (vr k0), some (vi x1)] [] σ post := by
  refine V_aload_n dX8_write_0 rfl rfl ?_
  refine V_getI (f := (σ k0 1)) flX8_7 hk0 (rfl) (by decide) dX8_write_1 ?_
  refine V_aload_n dX8_write_4 rfl rfl ?_
  refine V_getR (k2 := (k0 + 1)) flX8_35 hk0 rfl (by decide) dX8_write_5 ?_
  refine V_alen2 (z := ((outN k0) : Int)) (sh8_1 hk0) rfl dX8_write_8 ?_
  obtain ⟨r1, h⟩ := h
  obtain ⟨r2, h⟩ := h
  refine V_icmp_ge (tgt := 23) dX8_write_9 rfl r1 r2 (fun q => ?_) (fun q => ?_)
  · replace h := h.1 q
    refine V_aload_n dX8_write_23 rfl rfl ?_
    refine V_dup dX8_write_24 trivial ?_
    refine V_getI (f := (σ k0 1)) flX8_7 hk0 (rfl) (by decide) dX8_write_25 ?_
    refine V_iconst dX8_write_28 ?_
    refine V_iadd dX8_write_29 ?_
    refine V_putI flX8_7 hk0 (by decide) dX8_write_30 ?_
    refine V_aload_n dX8_write_33 rfl rfl ?_
    refine V_dup dX8_write_34 trivial ?_
    refine V_getI (f := (σ k0 3)) flX8_16 hk0 (up_f (by omega)) (by decide) dX8_write_35 ?_
    refine V_iconst dX8_write_38 ?_
    refine V_iadd dX8_write_39 ?_
    refine V_putI flX8_16 hk0 (by decide) dX8_write_40 ?_
    refine V_iload_n dX8_write_43 rfl rfl ?_
    refine V_bipush dX8_write_44 (by decide) ?_
    obtain ⟨r3, h⟩ := h
    refine V_icmp_ne (tgt := 64) dX8_write_46 rfl r3 (by decide) (fun q => ?_) (fun q => ?_)
    · replace h := h.1 q
      exact V_return (stk := []) rfl dX8_write_64 h
    · replace h := h.2 q
      refine V_aload_n dX8_write_49 rfl rfl ?_
      refine V_dup dX8_write_50 trivial ?_
      refine V_getI (f := (σ k0 2)) flX8_13 hk0 ((up_f (by omega)).trans (up_f (by omega))) (by decide) dX8_write_51 ?_
      refine V_iconst dX8_write_54 ?_
      refine V_iadd dX8_write_55 ?_
      refine V_putI flX8_13 hk0 (by decide) dX8_write_56 ?_
      refine V_aload_n dX8_write_59 rfl rfl ?_
      refine V_iconst dX8_write_60 ?_
      refine V_putI flX8_16 hk0 (by decide) dX8_write_61 ?_
      exact V_return (stk := []) rfl dX8_write_64 h
  · replace h := h.2 q
    refine V_aload_n dX8_write_12 rfl rfl ?_
    refine V_getR (k2 := (k0 + 1)) flX8_35 hk0 rfl (by decide) dX8_write_13 ?_
    refine V_aload_n dX8_write_16 rfl rfl ?_
    refine V_getI (f := (σ k0 1)) flX8_7 hk0 (rfl) (by decide) dX8_write_17 ?_
    refine V_iload_n dX8_write_20 rfl rfl ?_
    refine V_i2b dX8_write_21 ?_
    obtain ⟨r4, h⟩ := h
    refine V_bast (sh8_1 hk0) r4 dX8_write_22 ?_
    refine V_aload_n dX8_write_23 rfl rfl ?_
    refine V_dup dX8_write_24 trivial ?_
    refine V_getI (f := (σ k0 1)) flX8_7 hk0 (up_o (by omega)) (by decide) dX8_write_25 ?_
    refine V_iconst dX8_write_28 ?_
    refine V_iadd dX8_write_29 ?_
    refine V_putI flX8_7 hk0 (by decide) dX8_write_30 ?_
    refine V_aload_n dX8_write_33 rfl rfl ?_
    refine V_dup dX8_write_34 trivial ?_
    refine V_getI (f := (σ k0 3)) flX8_16 hk0 ((up_f (by omega)).trans (up_o (by omega))) (by decide) dX8_write_35 ?_
    refine V_iconst dX8_write_38 ?_
    refine V_iadd dX8_write_39 ?_
    refine V_putI flX8_16 hk0 (by decide) dX8_write_40 ?_
    refine V_iload_n dX8_write_43 rfl rfl ?_
    refine V_bipush dX8_write_44 (by decide) ?_
    obtain ⟨r5, h⟩ := h
    refine V_icmp_ne (tgt := 64) dX8_write_46 rfl r5 (by decide) (fun q => ?_) (fun q => ?_)
    · replace h := h.1 q
      exact V_return (stk := []) rfl dX8_write_64 h
    · replace h := h.2 q
      refine V_aload_n dX8_write_49 rfl rfl ?_
      refine V_dup dX8_write_50 trivial ?_
      refine V_getI (f := (σ k0 2)) flX8_13 hk0 ((up_f (by omega)).trans ((up_f (by omega)).trans (up_o (by omega)))) (by decide) dX8_write_51 ?_
      refine V_iconst dX8_write_54 ?_
      refine V_iadd dX8_write_55 ?_
      refine V_putI flX8_13 hk0 (by decide) dX8_write_56 ?_
      refine V_aload_n dX8_write_59 rfl rfl ?_
      refine V_iconst dX8_write_60 ?_
      refine V_putI flX8_16 hk0 (by decide) dX8_write_61 ?_
      exact V_return (stk := []) rfl dX8_write_64 h

set_option maxRecDepth 100000 in
theorem BX8_placeUnit_0 {σ : Sg} {post : Po} {k0 : Nat} (hk0 : shp[k0]? = some (0, 8, 7))
  (h : (rng (σ k0 6)) ∧ ((¬ (σ k0 6) = 0 → (rng (σ k0 3)) ∧ (((σ k0 3) ≤ 0 → V mX8_placeUnit 75 [some (vr k0), some (vi 0)] [] σ post) ∧ (¬ (σ k0 3) ≤ 0 → Cl mX8_write [vr k0, vi 44] σ (pV fun σ1 => (rng (((σ1 k0 3) + 1) + (σ1 k0 6))) ∧ ((rng (σ1 k0 4)) ∧ (((σ1 k0 4) < (((σ1 k0 3) + 1) + (σ1 k0 6)) → Cl mX8_write [vr k0, vi 10] σ1 (pV fun σ2 => V mX8_placeUnit 56 [some (vr k0), some (vi 0)] [] σ2 post)) ∧ (¬ (σ1 k0 4) < (((σ1 k0 3) + 1) + (σ1 k0 6)) → Cl mX8_write [vr k0, vi 32] σ1 (pV fun σ3 => V mX8_placeUnit 75 [some (vr k0), some (vi 0)] [] σ3 post)))))))) ∧ ((σ k0 6) = 0 → post none σ))) :
  V mX8_placeUnit 0 [some (vr k0), none] [] σ post := by
  refine V_aload_n dX8_placeUnit_0 rfl rfl ?_
  refine V_getI (f := (σ k0 6)) flX8_26 hk0 (rfl) (by decide) dX8_placeUnit_1 ?_
  obtain ⟨r1, h⟩ := h
  refine V_if_ne (tgt := 8) dX8_placeUnit_4 rfl r1 (fun q => ?_) (fun q => ?_)
  · replace h := h.1 q
    refine V_aload_n dX8_placeUnit_8 rfl rfl ?_
    refine V_getI (f := (σ k0 3)) flX8_16 hk0 (rfl) (by decide) dX8_placeUnit_9 ?_
    obtain ⟨r2, h⟩ := h
    refine V_if_le (tgt := 73) dX8_placeUnit_12 rfl r2 (fun q => ?_) (fun q => ?_)
    · replace h := h.1 q
      refine V_iconst dX8_placeUnit_73 ?_
      refine V_istore_n (L' := [some (vr k0), some (vi 0)]) dX8_placeUnit_74 rfl (by decide) rfl ?_
      exact V.sub (SubL_s (SubL_s (SubL_0))) h
    · replace h := h.2 q
      refine V_aload_n dX8_placeUnit_15 rfl rfl ?_
      refine V_bipush dX8_placeUnit_16 (by decide) ?_
      refine V_callV (av := [vi 44]) (stk := []) cvX8_64 hk0 rfl rfl (by decide) (by simp [ctg]) dX8_placeUnit_18 h ?_
      rintro _ σ1 ⟨rfl, h⟩
      refine V_aload_n dX8_placeUnit_21 rfl rfl ?_
      refine V_getI (f := (σ1 k0 3)) flX8_16 hk0 (rfl) (by decide) dX8_placeUnit_22 ?_
      refine V_iconst dX8_placeUnit_25 ?_
      refine V_iadd dX8_placeUnit_26 ?_
      refine V_aload_n dX8_placeUnit_27 rfl rfl ?_
      refine V_getI (f := (σ1 k0 6)) flX8_26 hk0 (rfl) (by decide) dX8_placeUnit_28 ?_
      refine V_iadd dX8_placeUnit_31 ?_
      refine V_aload_n dX8_placeUnit_32 rfl rfl ?_
      refine V_getI (f := (σ1 k0 4)) flX8_19 hk0 (rfl) (by decide) dX8_placeUnit_33 ?_
      obtain ⟨r3, h⟩ := h
      obtain ⟨r4, h⟩ := h
      refine V_icmp_gt (tgt := 48) dX8_placeUnit_36 rfl r3 r4 (fun q => ?_) (fun q => ?_)
      · replace h := h.1 q
        refine V_aload_n dX8_placeUnit_48 rfl rfl ?_
        refine V_bipush dX8_placeUnit_49 (by decide) ?_
        refine V_callV (av := [vi 10]) (stk := []) cvX8_64 hk0 rfl rfl (by decide) (by simp [ctg]) dX8_placeUnit_51 h ?_
        rintro _ σ2 ⟨rfl, h⟩
        refine V_iconst dX8_placeUnit_54 ?_
        refine V_istore_n (L' := [some (vr k0), some (vi 0)]) dX8_placeUnit_55 rfl (by decide) rfl ?_
        exact V.sub (SubL_s (SubL_s (SubL_0))) h
      · replace h := h.2 q
        refine V_aload_n dX8_placeUnit_39 rfl rfl ?_
        refine V_bipush dX8_placeUnit_40 (by decide) ?_
        refine V_callV (av := [vi 32]) (stk := []) cvX8_64 hk0 rfl rfl (by decide) (by simp [ctg]) dX8_placeUnit_42 h ?_
        rintro _ σ3 ⟨rfl, h⟩
        refine V_goto (tgt := 73) dX8_placeUnit_45 rfl ?_
        refine V_iconst dX8_placeUnit_73 ?_
        refine V_istore_n (L' := [some (vr k0), some (vi 0)]) dX8_placeUnit_74 rfl (by decide) rfl ?_
        exact V.sub (SubL_s (SubL_s (SubL_0))) h
  · replace h := h.2 q
    exact V_return (stk := []) rfl dX8_placeUnit_7 h
set_option maxRecDepth 100000 in
theorem BX8_placeUnit_75 {σ : Sg} {post : Po} {k0 : Nat} {x1 : Int} (hk0 : shp[k0]? = some (0, 8, 7))
  (h : (rng x1) ∧ ((rng (σ k0 6)) ∧ (((σ k0 6) ≤ x1 → post none (up σ k0 6 0)) ∧ (¬ (σ k0 6) ≤ x1 → (0 ≤ x1 ∧ x1 < 40) ∧ (Cl mX8_write [vr k0, vi (σ (k0 + 2) x1)] σ (pV fun σ1 => V mX8_placeUnit 75 [some (vr k0), some (vi (x1 + 1))] [] σ1 post)))))) :
  V mX8_placeUnit 75 [some (vr k0), some (vi x1)] [] σ post := by
  refine V_iload_n dX8_placeUnit_75 rfl rfl ?_
  refine V_aload_n dX8_placeUnit_76 rfl rfl ?_
  refine V_getI (f := (σ k0 6)) flX8_26 hk0 (rfl) (by decide) dX8_placeUnit_77 ?_
  obtain ⟨r1, h⟩ := h
  obtain ⟨r2, h⟩ := h
  refine V_icmp_ge (tgt := 99) dX8_placeUnit_80 rfl r1 r2 (fun q => ?_) (fun q => ?_)
  · replace h := h.1 q
    refine V_aload_n dX8_placeUnit_99 rfl rfl ?_
    refine V_iconst dX8_placeUnit_100 ?_
    refine V_putI flX8_26 hk0 (by decide) dX8_placeUnit_101 ?_
    exact V_return (stk := []) rfl dX8_placeUnit_104 h
  · replace h := h.2 q
    refine V_aload_n dX8_placeUnit_83 rfl rfl ?_
    refine V_aload_n dX8_placeUnit_84 rfl rfl ?_
    refine V_getR (k2 := (k0 + 2)) flX8_22 hk0 rfl (by decide) dX8_placeUnit_85 ?_
    refine V_iload_n dX8_placeUnit_88 rfl rfl ?_
    obtain ⟨r3, h⟩ := h
    refine V_bald (f := (σ (k0 + 2) x1)) (sh8_2 hk0) r3 (rfl) dX8_placeUnit_89 ?_
    refine V_callV (av := [vi (σ (k0 + 2) x1)]) (stk := []) cvX8_64 hk0 rfl rfl (by decide) (by simp [ctg]) dX8_placeUnit_90 h ?_
    rintro _ σ1 ⟨rfl, h⟩
    refine V_iinc (L' := [some (vr k0), some (vi (x1 + 1))]) dX8_placeUnit_93 rfl (by decide) rfl ?_
    refine V_goto (tgt := 75) dX8_placeUnit_96 rfl ?_
    exact V.sub (SubL_s (SubL_s (SubL_0))) h
set_option maxRecDepth 100000 in
theorem BX8_placeUnit_56 {σ : Sg} {post : Po} {k0 : Nat} {x1 : Int} (hk0 : shp[k0]? = some (0, 8, 7))
  (h : (rng x1) ∧ ((4 ≤ x1 → V mX8_placeUnit 75 [some (vr k0), some (vi 0)] [] σ post) ∧ (¬ 4 ≤ x1 → Cl mX8_write [vr k0, vi 32] σ (pV fun σ1 => V mX8_placeUnit 56 [some (vr k0), some (vi (x1 + 1))] [] σ1 post)))) :
  V mX8_placeUnit 56 [some (vr k0), some (vi x1)] [] σ post := by
  refine V_iload_n dX8_placeUnit_56 rfl rfl ?_
  refine V_iconst dX8_placeUnit_57 ?_
  obtain ⟨r1, h⟩ := h
  refine V_icmp_ge (tgt := 73) dX8_placeUnit_58 rfl r1 (by decide) (fun q => ?_) (fun q => ?_)
  · replace h := h.1 q
    refine V_iconst dX8_placeUnit_73 ?_
    refine V_istore_n (L' := [some (vr k0), some (vi 0)]) dX8_placeUnit_74 rfl (by decide) rfl ?_
    exact V.sub (SubL_s (SubL_s (SubL_0))) h
  · replace h := h.2 q
    refine V_aload_n dX8_placeUnit_61 rfl rfl ?_
    refine V_bipush dX8_placeUnit_62 (by decide) ?_
    refine V_callV (av := [vi 32]) (stk := []) cvX8_64 hk0 rfl rfl (by decide) (by simp [ctg]) dX8_placeUnit_64 h ?_
    rintro _ σ1 ⟨rfl, h⟩
    refine V_iinc (L' := [some (vr k0), some (vi (x1 + 1))]) dX8_placeUnit_67 rfl (by decide) rfl ?_
    refine V_goto (tgt := 56) dX8_placeUnit_70 rfl ?_
    exact V.sub (SubL_s (SubL_s (SubL_0))) h

set_option maxRecDepth 100000 in
theorem BX8_endRow_0 {σ : Sg} {post : Po} {k0 : Nat} (hk0 : shp[k0]? = some (0, 8, 7))
  (h : Cl mX8_placeUnit [vr k0] σ (pV fun σ1 => Cl mX8_write [vr k0, vi 10] σ1 (pV fun σ2 => post none σ2))) :
  V mX8_endRow 0 [some (vr k0)] [] σ post := by
  refine V_aload_n dX8_endRow_0 rfl rfl ?_
  refine V_callV (av := []) (stk := []) cvX8_67 hk0 rfl rfl (by decide) (by simp [ctg]) dX8_endRow_1 h ?_
  rintro _ σ1 ⟨rfl, h⟩
  refine V_aload_n dX8_endRow_4 rfl rfl ?_
  refine V_bipush dX8_endRow_5 (by decide) ?_
  refine V_callV (av := [vi 10]) (stk := []) cvX8_64 hk0 rfl rfl (by decide) (by simp [ctg]) dX8_endRow_7 h ?_
  rintro _ σ2 ⟨rfl, h⟩
  exact V_return (stk := []) rfl dX8_endRow_10 h

set_option maxRecDepth 100000 in
theorem BX10_codeAt_0 {σ : Sg} {post : Po} {x0 : Int} {x1 : Int} 
  (h : (rng (x0 - 94)) ∧ (post (some (vl (lShl (x0 - 94) ((11 - x1) * 5)))) σ)) :
  V mX10_codeAt 0 [some (vi x0), some (vi x1)] [] σ post := by
  refine V_iload_n dX10_codeAt_0 rfl rfl ?_
  refine V_bipush dX10_codeAt_1 (by decide) ?_
  refine V_isub dX10_codeAt_3 ?_
  obtain ⟨r1, h⟩ := h
  refine V_i2l dX10_codeAt_4 r1 ?_
  refine V_bipush dX10_codeAt_5 (by decide) ?_
  refine V_iload_n dX10_codeAt_7 rfl rfl ?_
  refine V_isub dX10_codeAt_8 ?_
  refine V_iconst dX10_codeAt_9 ?_
  refine V_imul dX10_codeAt_10 ?_
  refine V_lshl dX10_codeAt_11 ?_
  exact V_lreturn (stk := []) rfl dX10_codeAt_12 h

set_option maxRecDepth 100000 in
theorem BX10_codeOf_0 {σ : Sg} {post : Po} {x0 : Int} {x2 : Int} 
  (h : post (some (vi (iAnd (lUshr x0 ((11 - x2) * 5)) 31))) σ) :
  V mX10_codeOf 0 [some (vl x0), none, some (vi x2)] [] σ post := by
  refine V_lload_n dX10_codeOf_0 rfl rfl ?_
  refine V_bipush dX10_codeOf_1 (by decide) ?_
  refine V_iload_n dX10_codeOf_3 rfl rfl ?_
  refine V_isub dX10_codeOf_4 ?_
  refine V_iconst dX10_codeOf_5 ?_
  refine V_imul dX10_codeOf_6 ?_
  refine V_lushr dX10_codeOf_7 ?_
  refine V_l2i dX10_codeOf_8 ?_
  refine V_bipush dX10_codeOf_9 (by decide) ?_
  refine V_iand dX10_codeOf_11 ?_
  exact V_ireturn (stk := []) rfl dX10_codeOf_12 h

set_option maxRecDepth 100000 in
theorem BX10_lengthOf_0 {σ : Sg} {post : Po} {x0 : Int} 
  (h : V mX10_lengthOf 2 [some (vl x0), none, some (vi 0)] [] σ post) :
  V mX10_lengthOf 0 [some (vl x0), none, none] [] σ post := by
  refine V_iconst dX10_lengthOf_0 ?_
  refine V_istore_n (L' := [some (vl x0), none, some (vi 0)]) dX10_lengthOf_1 rfl (by decide) rfl ?_
  exact V.sub (SubL_s (SubL_n (SubL_s (SubL_0)))) h
set_option maxRecDepth 100000 in
theorem BX10_lengthOf_2 {σ : Sg} {post : Po} {x0 : Int} {x2 : Int} 
  (h : (rng x2) ∧ ((12 ≤ x2 → post (some (vi x2)) σ) ∧ (¬ 12 ≤ x2 → Cl mX10_codeOf [vl x0, vi x2] σ (pI fun z1 σ1 => (rng z1) ∧ ((z1 = 0 → post (some (vi x2)) σ1) ∧ (¬ z1 = 0 → V mX10_lengthOf 2 [some (vl x0), none, some (vi (x2 + 1))] [] σ1 post)))))) :
  V mX10_lengthOf 2 [some (vl x0), none, some (vi x2)] [] σ post := by
  refine V_iload_n dX10_lengthOf_2 rfl rfl ?_
  refine V_bipush dX10_lengthOf_3 (by decide) ?_
  obtain ⟨r1, h⟩ := h
  refine V_icmp_ge (tgt := 22) dX10_lengthOf_5 rfl r1 (by decide) (fun q => ?_) (fun q => ?_)
  · replace h := h.1 q
    refine V_iload_n dX10_lengthOf_22 rfl rfl ?_
    exact V_ireturn (stk := []) rfl dX10_lengthOf_23 h
  · replace h := h.2 q
    refine V_lload_n dX10_lengthOf_8 rfl rfl ?_
    refine V_iload_n dX10_lengthOf_9 rfl rfl ?_
    refine V_callS (av := [vl x0, vi x2]) (stk := []) cvX10_11 rfl rfl (by decide) (by simp [ctg]) dX10_lengthOf_10 h ?_
    rintro _ σ1 ⟨z1, rfl, h⟩
    obtain ⟨r2, h⟩ := h
    refine V_if_eq (tgt := 22) dX10_lengthOf_13 rfl r2 (fun q => ?_) (fun q => ?_)
    · replace h := h.1 q
      refine V_iload_n dX10_lengthOf_22 rfl rfl ?_
      exact V_ireturn (stk := []) rfl dX10_lengthOf_23 h
    · replace h := h.2 q
      refine V_iinc (L' := [some (vl x0), none, some (vi (x2 + 1))]) dX10_lengthOf_16 rfl (by decide) rfl ?_
      refine V_goto (tgt := 2) dX10_lengthOf_19 rfl ?_
      exact V.sub (SubL_s (SubL_n (SubL_s (SubL_0)))) h

set_option maxRecDepth 100000 in
theorem BX10_byteOf_0 {σ : Sg} {post : Po} {x0 : Int} {x2 : Int} 
  (h : (rng x2) ∧ ((x2 < 0 → post (some (vi (-1))) σ) ∧ (¬ x2 < 0 → (12 ≤ x2 → post (some (vi (-1))) σ) ∧ (¬ 12 ≤ x2 → Cl mX10_codeOf [vl x0, vi x2] σ (pI fun z1 σ1 => (rng z1) ∧ ((¬ z1 = 0 → Cl mX10_codeOf [vl x0, vi x2] σ1 (pI fun z2 σ2 => post (some (vi (z2 + 94))) σ2)) ∧ (z1 = 0 → post (some (vi (-1))) σ1))))))) :
  V mX10_byteOf 0 [some (vl x0), none, some (vi x2)] [] σ post := by
  refine V_iload_n dX10_byteOf_0 rfl rfl ?_
  obtain ⟨r1, h⟩ := h
  refine V_if_lt (tgt := 18) dX10_byteOf_1 rfl r1 (fun q => ?_) (fun q => ?_)
  · replace h := h.1 q
    refine V_iconst dX10_byteOf_18 ?_
    exact V_ireturn (stk := []) rfl dX10_byteOf_19 h
  · replace h := h.2 q
    refine V_iload_n dX10_byteOf_4 rfl rfl ?_
    refine V_bipush dX10_byteOf_5 (by decide) ?_
    refine V_icmp_ge (tgt := 18) dX10_byteOf_7 rfl r1 (by decide) (fun q => ?_) (fun q => ?_)
    · replace h := h.1 q
      refine V_iconst dX10_byteOf_18 ?_
      exact V_ireturn (stk := []) rfl dX10_byteOf_19 h
    · replace h := h.2 q
      refine V_lload_n dX10_byteOf_10 rfl rfl ?_
      refine V_iload_n dX10_byteOf_11 rfl rfl ?_
      refine V_callS (av := [vl x0, vi x2]) (stk := []) cvX10_11 rfl rfl (by decide) (by simp [ctg]) dX10_byteOf_12 h ?_
      rintro _ σ1 ⟨z1, rfl, h⟩
      obtain ⟨r2, h⟩ := h
      refine V_if_ne (tgt := 20) dX10_byteOf_15 rfl r2 (fun q => ?_) (fun q => ?_)
      · replace h := h.1 q
        refine V_lload_n dX10_byteOf_20 rfl rfl ?_
        refine V_iload_n dX10_byteOf_21 rfl rfl ?_
        refine V_callS (av := [vl x0, vi x2]) (stk := []) cvX10_11 rfl rfl (by decide) (by simp [ctg]) dX10_byteOf_22 h ?_
        rintro _ σ2 ⟨z2, rfl, h⟩
        refine V_bipush dX10_byteOf_25 (by decide) ?_
        refine V_iadd dX10_byteOf_27 ?_
        exact V_ireturn (stk := []) rfl dX10_byteOf_28 h
      · replace h := h.2 q
        refine V_iconst dX10_byteOf_18 ?_
        exact V_ireturn (stk := []) rfl dX10_byteOf_19 h

set_option maxRecDepth 100000 in
theorem BX10_withoutLines_0 {σ : Sg} {post : Po} {x0 : Int} 
  (h : V mX10_withoutLines 8 [some (vl x0), none, some (vl 0), none, some (vi 0), some (vi 0), none] [] σ post) :
  V mX10_withoutLines 0 [some (vl x0), none, none, none, none, none, none] [] σ post := by
  refine V_lconst (z := 0) dX10_withoutLines_0 rfl ?_
  refine V_lstore_n (L' := [some (vl x0), none, some (vl 0), none, none, none, none]) dX10_withoutLines_1 rfl (by decide) rfl ?_
  refine V_iconst dX10_withoutLines_2 ?_
  refine V_istore (L' := [some (vl x0), none, some (vl 0), none, some (vi 0), none, none]) dX10_withoutLines_3 (by decide) rfl ?_
  refine V_iconst dX10_withoutLines_5 ?_
  refine V_istore (L' := [some (vl x0), none, some (vl 0), none, some (vi 0), some (vi 0), none]) dX10_withoutLines_6 (by decide) rfl ?_
  exact V.sub (SubL_s (SubL_n (SubL_s (SubL_n (SubL_s (SubL_s (SubL_n (SubL_0)))))))) h
set_option maxRecDepth 100000 in
theorem BX10_withoutLines_8 {σ : Sg} {post : Po} {x0 : Int} {x2 : Int} {x4 : Int} {x5 : Int} 
  (h : (rng x5) ∧ ((12 ≤ x5 → post (some (vl x2)) σ) ∧ (¬ 12 ≤ x5 → Cl mX10_codeOf [vl x0, vi x5] σ (pI fun z1 σ1 => (rng z1) ∧ ((z1 ≤ 1 → V mX10_withoutLines 8 [some (vl x0), none, some (vl x2), none, some (vi x4), some (vi (x5 + 1)), none] [] σ1 post) ∧ (¬ z1 ≤ 1 → Cl mX10_codeAt [vi (z1 + 94), vi x4] σ1 (pL fun z2 σ2 => V mX10_withoutLines 8 [some (vl x0), none, some (vl (lOr x2 z2)), none, some (vi (x4 + 1)), some (vi (x5 + 1)), none] [] σ2 post))))))) :
  V mX10_withoutLines 8 [some (vl x0), none, some (vl x2), none, some (vi x4), some (vi x5), none] [] σ post := by
  refine V_iload dX10_withoutLines_8 rfl ?_
  refine V_bipush dX10_withoutLines_10 (by decide) ?_
  obtain ⟨r1, h⟩ := h
  refine V_icmp_ge (tgt := 51) dX10_withoutLines_12 rfl r1 (by decide) (fun q => ?_) (fun q => ?_)
  · replace h := h.1 q
    refine V_lload_n dX10_withoutLines_51 rfl rfl ?_
    exact V_lreturn (stk := []) rfl dX10_withoutLines_52 h
  · replace h := h.2 q
    refine V_lload_n dX10_withoutLines_15 rfl rfl ?_
    refine V_iload dX10_withoutLines_16 rfl ?_
    refine V_callS (av := [vl x0, vi x5]) (stk := []) cvX10_11 rfl rfl (by decide) (by simp [ctg]) dX10_withoutLines_18 h ?_
    rintro _ σ1 ⟨z1, rfl, h⟩
    refine V_istore (L' := [some (vl x0), none, some (vl x2), none, some (vi x4), some (vi x5), some (vi z1)]) dX10_withoutLines_21 (by decide) rfl ?_
    refine V_iload dX10_withoutLines_23 rfl ?_
    refine V_iconst dX10_withoutLines_25 ?_
    obtain ⟨r2, h⟩ := h
    refine V_icmp_le (tgt := 45) dX10_withoutLines_26 rfl r2 (by decide) (fun q => ?_) (fun q => ?_)
    · replace h := h.1 q
      refine V_iinc (L' := [some (vl x0), none, some (vl x2), none, some (vi x4), some (vi (x5 + 1)), some (vi z1)]) dX10_withoutLines_45 rfl (by decide) rfl ?_
      refine V_goto (tgt := 8) dX10_withoutLines_48 rfl ?_
      exact V.sub (SubL_s (SubL_n (SubL_s (SubL_n (SubL_s (SubL_s (SubL_n (SubL_0)))))))) h
    · replace h := h.2 q
      refine V_lload_n dX10_withoutLines_29 rfl rfl ?_
      refine V_iload dX10_withoutLines_30 rfl ?_
      refine V_bipush dX10_withoutLines_32 (by decide) ?_
      refine V_iadd dX10_withoutLines_34 ?_
      refine V_iload dX10_withoutLines_35 rfl ?_
      refine V_callS (av := [vi (z1 + 94), vi x4]) (stk := [vl x2]) cvX10_15 rfl rfl (by decide) (by simp [ctg]) dX10_withoutLines_37 h ?_
      rintro _ σ2 ⟨z2, rfl, h⟩
      refine V_lor dX10_withoutLines_40 ?_
      refine V_lstore_n (L' := [some (vl x0), none, some (vl (lOr x2 z2)), none, some (vi x4), some (vi x5), some (vi z1)]) dX10_withoutLines_41 rfl (by decide) rfl ?_
      refine V_iinc (L' := [some (vl x0), none, some (vl (lOr x2 z2)), none, some (vi (x4 + 1)), some (vi x5), some (vi z1)]) dX10_withoutLines_42 rfl (by decide) rfl ?_
      refine V_iinc (L' := [some (vl x0), none, some (vl (lOr x2 z2)), none, some (vi (x4 + 1)), some (vi (x5 + 1)), some (vi z1)]) dX10_withoutLines_45 rfl (by decide) rfl ?_
      refine V_goto (tgt := 8) dX10_withoutLines_48 rfl ?_
      exact V.sub (SubL_s (SubL_n (SubL_s (SubL_n (SubL_s (SubL_s (SubL_n (SubL_0)))))))) h

set_option maxRecDepth 100000 in
theorem BX10_nearness_0 {σ : Sg} {post : Po} {x0 : Int} {x2 : Int} 
  (h : Cl mX10_withoutLines [vl x0] σ (pL fun z1 σ1 => Cl mX10_withoutLines [vl x2] σ1 (pL fun z2 σ2 => (rngL z1) ∧ ((rngL z2) ∧ ((¬ z1 = z2 → Cl mX10_isPlural [vl z1, vl z2] σ2 (pI fun z3 σ3 => (rng z3) ∧ ((¬ z3 = 0 → post (some (vi 2)) σ3) ∧ (z3 = 0 → Cl mX10_isPlural [vl z2, vl z1] σ3 (pI fun z4 σ4 => (rng z4) ∧ ((z4 = 0 → Cl mX10_isOneByteOff [vl z1, vl z2] σ4 (pI fun z5 σ5 => (rng z5) ∧ ((z5 = 0 → post (some (vi 0)) σ5) ∧ (¬ z5 = 0 → post (some (vi 3)) σ5)))) ∧ (¬ z4 = 0 → post (some (vi 2)) σ4))))))) ∧ (z1 = z2 → post (some (vi 1)) σ2)))))) :
  V mX10_nearness 0 [some (vl x0), none, some (vl x2), none, none, none, none, none] [] σ post := by
  refine V_lload_n dX10_nearness_0 rfl rfl ?_
  refine V_callS (av := [vl x0]) (stk := []) cvX10_19 rfl rfl (by decide) (by simp [ctg]) dX10_nearness_1 h ?_
  rintro _ σ1 ⟨z1, rfl, h⟩
  refine V_lstore (L' := [some (vl x0), none, some (vl x2), none, some (vl z1), none, none, none]) dX10_nearness_4 (by decide) rfl ?_
  refine V_lload_n dX10_nearness_6 rfl rfl ?_
  refine V_callS (av := [vl x2]) (stk := []) cvX10_19 rfl rfl (by decide) (by simp [ctg]) dX10_nearness_7 h ?_
  rintro _ σ2 ⟨z2, rfl, h⟩
  refine V_lstore (L' := [some (vl x0), none, some (vl x2), none, some (vl z1), none, some (vl z2), none]) dX10_nearness_10 (by decide) rfl ?_
  refine V_lload dX10_nearness_12 rfl ?_
  refine V_lload dX10_nearness_14 rfl ?_
  obtain ⟨r1, h⟩ := h
  obtain ⟨r2, h⟩ := h
  refine V_lif_ne (tgt := 22) dX10_nearness_16 dX10_nearness_17 rfl r1 r2 (fun q => ?_) (fun q => ?_)
  · replace h := h.1 q
    refine V_lload dX10_nearness_22 rfl ?_
    refine V_lload dX10_nearness_24 rfl ?_
    refine V_callS (av := [vl z1, vl z2]) (stk := []) cvX10_23 rfl rfl (by decide) (by simp [ctg]) dX10_nearness_26 h ?_
    rintro _ σ3 ⟨z3, rfl, h⟩
    obtain ⟨r3, h⟩ := h
    refine V_if_ne (tgt := 42) dX10_nearness_29 rfl r3 (fun q => ?_) (fun q => ?_)
    · replace h := h.1 q
      refine V_iconst dX10_nearness_42 ?_
      exact V_ireturn (stk := []) rfl dX10_nearness_43 h
    · replace h := h.2 q
      refine V_lload dX10_nearness_32 rfl ?_
      refine V_lload dX10_nearness_34 rfl ?_
      refine V_callS (av := [vl z2, vl z1]) (stk := []) cvX10_23 rfl rfl (by decide) (by simp [ctg]) dX10_nearness_36 h ?_
      rintro _ σ4 ⟨z4, rfl, h⟩
      obtain ⟨r4, h⟩ := h
      refine V_if_eq (tgt := 44) dX10_nearness_39 rfl r4 (fun q => ?_) (fun q => ?_)
      · replace h := h.1 q
        refine V_lload dX10_nearness_44 rfl ?_
        refine V_lload dX10_nearness_46 rfl ?_
        refine V_callS (av := [vl z1, vl z2]) (stk := []) cvX10_27 rfl rfl (by decide) (by simp [ctg]) dX10_nearness_48 h ?_
        rintro _ σ5 ⟨z5, rfl, h⟩
        obtain ⟨r5, h⟩ := h
        refine V_if_eq (tgt := 58) dX10_nearness_51 rfl r5 (fun q => ?_) (fun q => ?_)
        · replace h := h.1 q
          refine V_iconst dX10_nearness_58 ?_
          exact V_ireturn (stk := []) rfl dX10_nearness_59 h
        · replace h := h.2 q
          refine V_iconst dX10_nearness_54 ?_
          refine V_goto (tgt := 59) dX10_nearness_55 rfl ?_
          exact V_ireturn (stk := []) rfl dX10_nearness_59 h
      · replace h := h.2 q
        refine V_iconst dX10_nearness_42 ?_
        exact V_ireturn (stk := []) rfl dX10_nearness_43 h
  · replace h := h.2 q
    refine V_iconst dX10_nearness_20 ?_
    exact V_ireturn (stk := []) rfl dX10_nearness_21 h

set_option maxRecDepth 100000 in
theorem BX10_isPlural_0 {σ : Sg} {post : Po} {x0 : Int} {x2 : Int} 
  (h : Cl mX10_lengthOf [vl x2] σ (pI fun z1 σ1 => (rng z1) ∧ ((12 ≤ z1 → post (some (vi 0)) σ1) ∧ (¬ 12 ≤ z1 → Cl mX10_codeAt [vi 115, vi z1] σ1 (pL fun z2 σ2 => (rngL x0) ∧ ((¬ x0 = (lOr x2 z2) → post (some (vi 0)) σ2) ∧ (x0 = (lOr x2 z2) → post (some (vi 1)) σ2))))))) :
  V mX10_isPlural 0 [some (vl x0), none, some (vl x2), none, none] [] σ post := by
  refine V_lload_n dX10_isPlural_0 rfl rfl ?_
  refine V_callS (av := [vl x2]) (stk := []) cvX10_30 rfl rfl (by decide) (by simp [ctg]) dX10_isPlural_1 h ?_
  rintro _ σ1 ⟨z1, rfl, h⟩
  refine V_istore (L' := [some (vl x0), none, some (vl x2), none, some (vi z1)]) dX10_isPlural_4 (by decide) rfl ?_
  refine V_iload dX10_isPlural_6 rfl ?_
  refine V_bipush dX10_isPlural_8 (by decide) ?_
  obtain ⟨r1, h⟩ := h
  refine V_icmp_ge (tgt := 31) dX10_isPlural_10 rfl r1 (by decide) (fun q => ?_) (fun q => ?_)
  · replace h := h.1 q
    refine V_iconst dX10_isPlural_31 ?_
    exact V_zreturn (stk := []) rfl dX10_isPlural_32 (by decide) h
  · replace h := h.2 q
    refine V_lload_n dX10_isPlural_13 rfl rfl ?_
    refine V_lload_n dX10_isPlural_14 rfl rfl ?_
    refine V_bipush dX10_isPlural_15 (by decide) ?_
    refine V_iload dX10_isPlural_17 rfl ?_
    refine V_callS (av := [vi 115, vi z1]) (stk := [vl x2, vl x0]) cvX10_15 rfl rfl (by decide) (by simp [ctg]) dX10_isPlural_19 h ?_
    rintro _ σ2 ⟨z2, rfl, h⟩
    refine V_lor dX10_isPlural_22 ?_
    obtain ⟨r2, h⟩ := h
    refine V_lif_ne (tgt := 31) dX10_isPlural_23 dX10_isPlural_24 rfl r2 (rngL_of _) (fun q => ?_) (fun q => ?_)
    · replace h := h.1 q
      refine V_iconst dX10_isPlural_31 ?_
      exact V_zreturn (stk := []) rfl dX10_isPlural_32 (by decide) h
    · replace h := h.2 q
      refine V_iconst dX10_isPlural_27 ?_
      refine V_goto (tgt := 32) dX10_isPlural_28 rfl ?_
      exact V_zreturn (stk := []) rfl dX10_isPlural_32 (by decide) h

set_option maxRecDepth 100000 in
theorem BX10_isOneByteOff_0 {σ : Sg} {post : Po} {x0 : Int} {x2 : Int} 
  (h : V mX10_isOneByteOff 3 [some (vl x0), none, some (vl x2), none, some (vi 0), none, none, none, none] [] σ post) :
  V mX10_isOneByteOff 0 [some (vl x0), none, some (vl x2), none, none, none, none, none, none] [] σ post := by
  refine V_iconst dX10_isOneByteOff_0 ?_
  refine V_istore (L' := [some (vl x0), none, some (vl x2), none, some (vi 0), none, none, none, none]) dX10_isOneByteOff_1 (by decide) rfl ?_
  exact V.sub (SubL_s (SubL_n (SubL_s (SubL_n (SubL_s (SubL_n (SubL_n (SubL_n (SubL_n (SubL_0)))))))))) h
set_option maxRecDepth 100000 in
theorem BX10_isOneByteOff_3 {σ : Sg} {post : Po} {x0 : Int} {x2 : Int} {x4 : Int} 
  (h : (rng x4) ∧ ((11 ≤ x4 → Cl mX10_behind [vl x0, vi x4] σ (pL fun z1 σ1 => Cl mX10_behind [vl x2, vi x4] σ1 (pL fun z2 σ2 => Cl mX10_behind [vl z1, vi 1] σ2 (pL fun z3 σ3 => Cl mX10_behind [vl z2, vi 1] σ3 (pL fun z4 σ4 => (rngL z3) ∧ ((rngL z4) ∧ ((z3 = z4 → post (some (vi 1)) σ4) ∧ (¬ z3 = z4 → Cl mX10_behind [vl z1, vi 1] σ4 (pL fun z5 σ5 => (rngL z5) ∧ ((rngL z2) ∧ ((z5 = z2 → post (some (vi 1)) σ5) ∧ (¬ z5 = z2 → Cl mX10_behind [vl z2, vi 1] σ5 (pL fun z6 σ6 => (rngL z1) ∧ ((rngL z6) ∧ ((¬ z1 = z6 → post (some (vi 0)) σ6) ∧ (z1 = z6 → post (some (vi 1)) σ6)))))))))))))))) ∧ (¬ 11 ≤ x4 → Cl mX10_codeOf [vl x0, vi x4] σ (pI fun z7 σ7 => Cl mX10_codeOf [vl x2, vi x4] σ7 (pI fun z8 σ8 => (rng z7) ∧ ((rng z8) ∧ ((¬ z7 = z8 → Cl mX10_behind [vl x0, vi x4] σ8 (pL fun z9 σ9 => Cl mX10_behind [vl x2, vi x4] σ9 (pL fun z10 σ10 => Cl mX10_behind [vl z9, vi 1] σ10 (pL fun z11 σ11 => Cl mX10_behind [vl z10, vi 1] σ11 (pL fun z12 σ12 => (rngL z11) ∧ ((rngL z12) ∧ ((z11 = z12 → post (some (vi 1)) σ12) ∧ (¬ z11 = z12 → Cl mX10_behind [vl z9, vi 1] σ12 (pL fun z13 σ13 => (rngL z13) ∧ ((rngL z10) ∧ ((z13 = z10 → post (some (vi 1)) σ13) ∧ (¬ z13 = z10 → Cl mX10_behind [vl z10, vi 1] σ13 (pL fun z14 σ14 => (rngL z9) ∧ ((rngL z14) ∧ ((¬ z9 = z14 → post (some (vi 0)) σ14) ∧ (z9 = z14 → post (some (vi 1)) σ14)))))))))))))))) ∧ (z7 = z8 → V mX10_isOneByteOff 3 [some (vl x0), none, some (vl x2), none, some (vi (x4 + 1)), none, none, none, none] [] σ8 post)))))))) :
  V mX10_isOneByteOff 3 [some (vl x0), none, some (vl x2), none, some (vi x4), none, none, none, none] [] σ post := by
  refine V_iload dX10_isOneByteOff_3 rfl ?_
  refine V_bipush dX10_isOneByteOff_5 (by decide) ?_
  obtain ⟨r1, h⟩ := h
  refine V_icmp_ge (tgt := 31) dX10_isOneByteOff_7 rfl r1 (by decide) (fun q => ?_) (fun q => ?_)
  · replace h := h.1 q
    refine V_lload_n dX10_isOneByteOff_31 rfl rfl ?_
    refine V_iload dX10_isOneByteOff_32 rfl ?_
    refine V_callS (av := [vl x0, vi x4]) (stk := []) cvX10_34 rfl rfl (by decide) (by simp [ctg]) dX10_isOneByteOff_34 h ?_
    rintro _ σ1 ⟨z1, rfl, h⟩
    refine V_lstore (L' := [some (vl x0), none, some (vl x2), none, some (vi x4), some (vl z1), none, none, none]) dX10_isOneByteOff_37 (by decide) rfl ?_
    refine V_lload_n dX10_isOneByteOff_39 rfl rfl ?_
    refine V_iload dX10_isOneByteOff_40 rfl ?_
    refine V_callS (av := [vl x2, vi x4]) (stk := []) cvX10_34 rfl rfl (by decide) (by simp [ctg]) dX10_isOneByteOff_42 h ?_
    rintro _ σ2 ⟨z2, rfl, h⟩
    refine V_lstore (L' := [some (vl x0), none, some (vl x2), none, some (vi x4), some (vl z1), none, some (vl z2), none]) dX10_isOneByteOff_45 (by decide) rfl ?_
    refine V_lload dX10_isOneByteOff_47 rfl ?_
    refine V_iconst dX10_isOneByteOff_49 ?_
    refine V_callS (av := [vl z1, vi 1]) (stk := []) cvX10_34 rfl rfl (by decide) (by simp [ctg]) dX10_isOneByteOff_50 h ?_
    rintro _ σ3 ⟨z3, rfl, h⟩
    refine V_lload dX10_isOneByteOff_53 rfl ?_
    refine V_iconst dX10_isOneByteOff_55 ?_
    refine V_callS (av := [vl z2, vi 1]) (stk := [vl z3]) cvX10_34 rfl rfl (by decide) (by simp [ctg]) dX10_isOneByteOff_56 h ?_
    rintro _ σ4 ⟨z4, rfl, h⟩
    obtain ⟨r2, h⟩ := h
    obtain ⟨r3, h⟩ := h
    refine V_lif_eq (tgt := 87) dX10_isOneByteOff_59 dX10_isOneByteOff_60 rfl r2 r3 (fun q => ?_) (fun q => ?_)
    · replace h := h.1 q
      refine V_iconst dX10_isOneByteOff_87 ?_
      refine V_goto (tgt := 92) dX10_isOneByteOff_88 rfl ?_
      exact V_zreturn (stk := []) rfl dX10_isOneByteOff_92 (by decide) h
    · replace h := h.2 q
      refine V_lload dX10_isOneByteOff_63 rfl ?_
      refine V_iconst dX10_isOneByteOff_65 ?_
      refine V_callS (av := [vl z1, vi 1]) (stk := []) cvX10_34 rfl rfl (by decide) (by simp [ctg]) dX10_isOneByteOff_66 h ?_
      rintro _ σ5 ⟨z5, rfl, h⟩
      refine V_lload dX10_isOneByteOff_69 rfl ?_
      obtain ⟨r4, h⟩ := h
      obtain ⟨r5, h⟩ := h
      refine V_lif_eq (tgt := 87) dX10_isOneByteOff_71 dX10_isOneByteOff_72 rfl r4 r5 (fun q => ?_) (fun q => ?_)
      · replace h := h.1 q
        refine V_iconst dX10_isOneByteOff_87 ?_
        refine V_goto (tgt := 92) dX10_isOneByteOff_88 rfl ?_
        exact V_zreturn (stk := []) rfl dX10_isOneByteOff_92 (by decide) h
      · replace h := h.2 q
        refine V_lload dX10_isOneByteOff_75 rfl ?_
        refine V_lload dX10_isOneByteOff_77 rfl ?_
        refine V_iconst dX10_isOneByteOff_79 ?_
        refine V_callS (av := [vl z2, vi 1]) (stk := [vl z1]) cvX10_34 rfl rfl (by decide) (by simp [ctg]) dX10_isOneByteOff_80 h ?_
        rintro _ σ6 ⟨z6, rfl, h⟩
        obtain ⟨r6, h⟩ := h
        obtain ⟨r7, h⟩ := h
        refine V_lif_ne (tgt := 91) dX10_isOneByteOff_83 dX10_isOneByteOff_84 rfl r6 r7 (fun q => ?_) (fun q => ?_)
        · replace h := h.1 q
          refine V_iconst dX10_isOneByteOff_91 ?_
          exact V_zreturn (stk := []) rfl dX10_isOneByteOff_92 (by decide) h
        · replace h := h.2 q
          refine V_iconst dX10_isOneByteOff_87 ?_
          refine V_goto (tgt := 92) dX10_isOneByteOff_88 rfl ?_
          exact V_zreturn (stk := []) rfl dX10_isOneByteOff_92 (by decide) h
  · replace h := h.2 q
    refine V_lload_n dX10_isOneByteOff_10 rfl rfl ?_
    refine V_iload dX10_isOneByteOff_11 rfl ?_
    refine V_callS (av := [vl x0, vi x4]) (stk := []) cvX10_11 rfl rfl (by decide) (by simp [ctg]) dX10_isOneByteOff_13 h ?_
    rintro _ σ7 ⟨z7, rfl, h⟩
    refine V_lload_n dX10_isOneByteOff_16 rfl rfl ?_
    refine V_iload dX10_isOneByteOff_17 rfl ?_
    refine V_callS (av := [vl x2, vi x4]) (stk := [vi z7]) cvX10_11 rfl rfl (by decide) (by simp [ctg]) dX10_isOneByteOff_19 h ?_
    rintro _ σ8 ⟨z8, rfl, h⟩
    obtain ⟨r8, h⟩ := h
    obtain ⟨r9, h⟩ := h
    refine V_icmp_ne (tgt := 31) dX10_isOneByteOff_22 rfl r8 r9 (fun q => ?_) (fun q => ?_)
    · replace h := h.1 q
      refine V_lload_n dX10_isOneByteOff_31 rfl rfl ?_
      refine V_iload dX10_isOneByteOff_32 rfl ?_
      refine V_callS (av := [vl x0, vi x4]) (stk := []) cvX10_34 rfl rfl (by decide) (by simp [ctg]) dX10_isOneByteOff_34 h ?_
      rintro _ σ9 ⟨z9, rfl, h⟩
      refine V_lstore (L' := [some (vl x0), none, some (vl x2), none, some (vi x4), some (vl z9), none, none, none]) dX10_isOneByteOff_37 (by decide) rfl ?_
      refine V_lload_n dX10_isOneByteOff_39 rfl rfl ?_
      refine V_iload dX10_isOneByteOff_40 rfl ?_
      refine V_callS (av := [vl x2, vi x4]) (stk := []) cvX10_34 rfl rfl (by decide) (by simp [ctg]) dX10_isOneByteOff_42 h ?_
      rintro _ σ10 ⟨z10, rfl, h⟩
      refine V_lstore (L' := [some (vl x0), none, some (vl x2), none, some (vi x4), some (vl z9), none, some (vl z10), none]) dX10_isOneByteOff_45 (by decide) rfl ?_
      refine V_lload dX10_isOneByteOff_47 rfl ?_
      refine V_iconst dX10_isOneByteOff_49 ?_
      refine V_callS (av := [vl z9, vi 1]) (stk := []) cvX10_34 rfl rfl (by decide) (by simp [ctg]) dX10_isOneByteOff_50 h ?_
      rintro _ σ11 ⟨z11, rfl, h⟩
      refine V_lload dX10_isOneByteOff_53 rfl ?_
      refine V_iconst dX10_isOneByteOff_55 ?_
      refine V_callS (av := [vl z10, vi 1]) (stk := [vl z11]) cvX10_34 rfl rfl (by decide) (by simp [ctg]) dX10_isOneByteOff_56 h ?_
      rintro _ σ12 ⟨z12, rfl, h⟩
      obtain ⟨r10, h⟩ := h
      obtain ⟨r11, h⟩ := h
      refine V_lif_eq (tgt := 87) dX10_isOneByteOff_59 dX10_isOneByteOff_60 rfl r10 r11 (fun q => ?_) (fun q => ?_)
      · replace h := h.1 q
        refine V_iconst dX10_isOneByteOff_87 ?_
        refine V_goto (tgt := 92) dX10_isOneByteOff_88 rfl ?_
        exact V_zreturn (stk := []) rfl dX10_isOneByteOff_92 (by decide) h
      · replace h := h.2 q
        refine V_lload dX10_isOneByteOff_63 rfl ?_
        refine V_iconst dX10_isOneByteOff_65 ?_
        refine V_callS (av := [vl z9, vi 1]) (stk := []) cvX10_34 rfl rfl (by decide) (by simp [ctg]) dX10_isOneByteOff_66 h ?_
        rintro _ σ13 ⟨z13, rfl, h⟩
        refine V_lload dX10_isOneByteOff_69 rfl ?_
        obtain ⟨r12, h⟩ := h
        obtain ⟨r13, h⟩ := h
        refine V_lif_eq (tgt := 87) dX10_isOneByteOff_71 dX10_isOneByteOff_72 rfl r12 r13 (fun q => ?_) (fun q => ?_)
        · replace h := h.1 q
          refine V_iconst dX10_isOneByteOff_87 ?_
          refine V_goto (tgt := 92) dX10_isOneByteOff_88 rfl ?_
          exact V_zreturn (stk := []) rfl dX10_isOneByteOff_92 (by decide) h
        · replace h := h.2 q
          refine V_lload dX10_isOneByteOff_75 rfl ?_
          refine V_lload dX10_isOneByteOff_77 rfl ?_
          refine V_iconst dX10_isOneByteOff_79 ?_
          refine V_callS (av := [vl z10, vi 1]) (stk := [vl z9]) cvX10_34 rfl rfl (by decide) (by simp [ctg]) dX10_isOneByteOff_80 h ?_
          rintro _ σ14 ⟨z14, rfl, h⟩
          obtain ⟨r14, h⟩ := h
          obtain ⟨r15, h⟩ := h
          refine V_lif_ne (tgt := 91) dX10_isOneByteOff_83 dX10_isOneByteOff_84 rfl r14 r15 (fun q => ?_) (fun q => ?_)
          · replace h := h.1 q
            refine V_iconst dX10_isOneByteOff_91 ?_
            exact V_zreturn (stk := []) rfl dX10_isOneByteOff_92 (by decide) h
          · replace h := h.2 q
            refine V_iconst dX10_isOneByteOff_87 ?_
            refine V_goto (tgt := 92) dX10_isOneByteOff_88 rfl ?_
            exact V_zreturn (stk := []) rfl dX10_isOneByteOff_92 (by decide) h
    · replace h := h.2 q
      refine V_iinc (L' := [some (vl x0), none, some (vl x2), none, some (vi (x4 + 1)), none, none, none, none]) dX10_isOneByteOff_25 rfl (by decide) rfl ?_
      refine V_goto (tgt := 3) dX10_isOneByteOff_28 rfl ?_
      exact V.sub (SubL_s (SubL_n (SubL_s (SubL_n (SubL_s (SubL_n (SubL_n (SubL_n (SubL_n (SubL_0)))))))))) h

set_option maxRecDepth 100000 in
theorem BX10_behind_0 {σ : Sg} {post : Po} {x0 : Int} {x2 : Int} 
  (h : post (some (vl (lAnd (lShl x0 (x2 * 5)) 1152921504606846975))) σ) :
  V mX10_behind 0 [some (vl x0), none, some (vi x2)] [] σ post := by
  refine V_lload_n dX10_behind_0 rfl rfl ?_
  refine V_iload_n dX10_behind_1 rfl rfl ?_
  refine V_iconst dX10_behind_2 ?_
  refine V_imul dX10_behind_3 ?_
  refine V_lshl dX10_behind_4 ?_
  refine V_ldc2 dX10_behind_5 klX10_38 ?_
  refine V_land dX10_behind_8 ?_
  exact V_lreturn (stk := []) rfl dX10_behind_9 h

set_option maxRecDepth 100000 in
theorem BJ6_bitCount_0f7a4_0 {σ : Sg} {post : Po} {x0 : Int} 
  (h : post (some (vi (iAnd (((iAnd (((iAnd (x0 - (iAnd (iUshr x0 1) 1431655765)) 858993459) + (iAnd (iUshr (x0 - (iAnd (iUshr x0 1) 1431655765)) 2) 858993459)) + (iUshr ((iAnd (x0 - (iAnd (iUshr x0 1) 1431655765)) 858993459) + (iAnd (iUshr (x0 - (iAnd (iUshr x0 1) 1431655765)) 2) 858993459)) 4)) 252645135) + (iUshr (iAnd (((iAnd (x0 - (iAnd (iUshr x0 1) 1431655765)) 858993459) + (iAnd (iUshr (x0 - (iAnd (iUshr x0 1) 1431655765)) 2) 858993459)) + (iUshr ((iAnd (x0 - (iAnd (iUshr x0 1) 1431655765)) 858993459) + (iAnd (iUshr (x0 - (iAnd (iUshr x0 1) 1431655765)) 2) 858993459)) 4)) 252645135) 8)) + (iUshr ((iAnd (((iAnd (x0 - (iAnd (iUshr x0 1) 1431655765)) 858993459) + (iAnd (iUshr (x0 - (iAnd (iUshr x0 1) 1431655765)) 2) 858993459)) + (iUshr ((iAnd (x0 - (iAnd (iUshr x0 1) 1431655765)) 858993459) + (iAnd (iUshr (x0 - (iAnd (iUshr x0 1) 1431655765)) 2) 858993459)) 4)) 252645135) + (iUshr (iAnd (((iAnd (x0 - (iAnd (iUshr x0 1) 1431655765)) 858993459) + (iAnd (iUshr (x0 - (iAnd (iUshr x0 1) 1431655765)) 2) 858993459)) + (iUshr ((iAnd (x0 - (iAnd (iUshr x0 1) 1431655765)) 858993459) + (iAnd (iUshr (x0 - (iAnd (iUshr x0 1) 1431655765)) 2) 858993459)) 4)) 252645135) 8)) 16)) 63))) σ) :
  V mJ6_bitCount_0f7a4 0 [some (vi x0)] [] σ post := by
  refine V_iload_n dJ6_bitCount_0f7a4_0 rfl rfl ?_
  refine V_iload_n dJ6_bitCount_0f7a4_1 rfl rfl ?_
  refine V_iconst dJ6_bitCount_0f7a4_2 ?_
  refine V_iushr dJ6_bitCount_0f7a4_3 ?_
  refine V_ldcw dJ6_bitCount_0f7a4_4 kcJ6_265 ?_
  refine V_iand dJ6_bitCount_0f7a4_7 ?_
  refine V_isub dJ6_bitCount_0f7a4_8 ?_
  refine V_istore_n (L' := [some (vi (x0 - (iAnd (iUshr x0 1) 1431655765)))]) dJ6_bitCount_0f7a4_9 rfl (by decide) rfl ?_
  refine V_iload_n dJ6_bitCount_0f7a4_10 rfl rfl ?_
  refine V_ldcw dJ6_bitCount_0f7a4_11 kcJ6_266 ?_
  refine V_iand dJ6_bitCount_0f7a4_14 ?_
  refine V_iload_n dJ6_bitCount_0f7a4_15 rfl rfl ?_
  refine V_iconst dJ6_bitCount_0f7a4_16 ?_
  refine V_iushr dJ6_bitCount_0f7a4_17 ?_
  refine V_ldcw dJ6_bitCount_0f7a4_18 kcJ6_266 ?_
  refine V_iand dJ6_bitCount_0f7a4_21 ?_
  refine V_iadd dJ6_bitCount_0f7a4_22 ?_
  refine V_istore_n (L' := [some (vi ((iAnd (x0 - (iAnd (iUshr x0 1) 1431655765)) 858993459) + (iAnd (iUshr (x0 - (iAnd (iUshr x0 1) 1431655765)) 2) 858993459)))]) dJ6_bitCount_0f7a4_23 rfl (by decide) rfl ?_
  refine V_iload_n dJ6_bitCount_0f7a4_24 rfl rfl ?_
  refine V_iload_n dJ6_bitCount_0f7a4_25 rfl rfl ?_
  refine V_iconst dJ6_bitCount_0f7a4_26 ?_
  refine V_iushr dJ6_bitCount_0f7a4_27 ?_
  refine V_iadd dJ6_bitCount_0f7a4_28 ?_
  refine V_ldcw dJ6_bitCount_0f7a4_29 kcJ6_267 ?_
  refine V_iand dJ6_bitCount_0f7a4_32 ?_
  refine V_istore_n (L' := [some (vi (iAnd (((iAnd (x0 - (iAnd (iUshr x0 1) 1431655765)) 858993459) + (iAnd (iUshr (x0 - (iAnd (iUshr x0 1) 1431655765)) 2) 858993459)) + (iUshr ((iAnd (x0 - (iAnd (iUshr x0 1) 1431655765)) 858993459) + (iAnd (iUshr (x0 - (iAnd (iUshr x0 1) 1431655765)) 2) 858993459)) 4)) 252645135))]) dJ6_bitCount_0f7a4_33 rfl (by decide) rfl ?_
  refine V_iload_n dJ6_bitCount_0f7a4_34 rfl rfl ?_
  refine V_iload_n dJ6_bitCount_0f7a4_35 rfl rfl ?_
  refine V_bipush dJ6_bitCount_0f7a4_36 (by decide) ?_
  refine V_iushr dJ6_bitCount_0f7a4_38 ?_
  refine V_iadd dJ6_bitCount_0f7a4_39 ?_
  refine V_istore_n (L' := [some (vi ((iAnd (((iAnd (x0 - (iAnd (iUshr x0 1) 1431655765)) 858993459) + (iAnd (iUshr (x0 - (iAnd (iUshr x0 1) 1431655765)) 2) 858993459)) + (iUshr ((iAnd (x0 - (iAnd (iUshr x0 1) 1431655765)) 858993459) + (iAnd (iUshr (x0 - (iAnd (iUshr x0 1) 1431655765)) 2) 858993459)) 4)) 252645135) + (iUshr (iAnd (((iAnd (x0 - (iAnd (iUshr x0 1) 1431655765)) 858993459) + (iAnd (iUshr (x0 - (iAnd (iUshr x0 1) 1431655765)) 2) 858993459)) + (iUshr ((iAnd (x0 - (iAnd (iUshr x0 1) 1431655765)) 858993459) + (iAnd (iUshr (x0 - (iAnd (iUshr x0 1) 1431655765)) 2) 858993459)) 4)) 252645135) 8)))]) dJ6_bitCount_0f7a4_40 rfl (by decide) rfl ?_
  refine V_iload_n dJ6_bitCount_0f7a4_41 rfl rfl ?_
  refine V_iload_n dJ6_bitCount_0f7a4_42 rfl rfl ?_
  refine V_bipush dJ6_bitCount_0f7a4_43 (by decide) ?_
  refine V_iushr dJ6_bitCount_0f7a4_45 ?_
  refine V_iadd dJ6_bitCount_0f7a4_46 ?_
  refine V_istore_n (L' := [some (vi (((iAnd (((iAnd (x0 - (iAnd (iUshr x0 1) 1431655765)) 858993459) + (iAnd (iUshr (x0 - (iAnd (iUshr x0 1) 1431655765)) 2) 858993459)) + (iUshr ((iAnd (x0 - (iAnd (iUshr x0 1) 1431655765)) 858993459) + (iAnd (iUshr (x0 - (iAnd (iUshr x0 1) 1431655765)) 2) 858993459)) 4)) 252645135) + (iUshr (iAnd (((iAnd (x0 - (iAnd (iUshr x0 1) 1431655765)) 858993459) + (iAnd (iUshr (x0 - (iAnd (iUshr x0 1) 1431655765)) 2) 858993459)) + (iUshr ((iAnd (x0 - (iAnd (iUshr x0 1) 1431655765)) 858993459) + (iAnd (iUshr (x0 - (iAnd (iUshr x0 1) 1431655765)) 2) 858993459)) 4)) 252645135) 8)) + (iUshr ((iAnd (((iAnd (x0 - (iAnd (iUshr x0 1) 1431655765)) 858993459) + (iAnd (iUshr (x0 - (iAnd (iUshr x0 1) 1431655765)) 2) 858993459)) + (iUshr ((iAnd (x0 - (iAnd (iUshr x0 1) 1431655765)) 858993459) + (iAnd (iUshr (x0 - (iAnd (iUshr x0 1) 1431655765)) 2) 858993459)) 4)) 252645135) + (iUshr (iAnd (((iAnd (x0 - (iAnd (iUshr x0 1) 1431655765)) 858993459) + (iAnd (iUshr (x0 - (iAnd (iUshr x0 1) 1431655765)) 2) 858993459)) + (iUshr ((iAnd (x0 - (iAnd (iUshr x0 1) 1431655765)) 858993459) + (iAnd (iUshr (x0 - (iAnd (iUshr x0 1) 1431655765)) 2) 858993459)) 4)) 252645135) 8)) 16)))]) dJ6_bitCount_0f7a4_47 rfl (by decide) rfl ?_
  refine V_iload_n dJ6_bitCount_0f7a4_48 rfl rfl ?_
  refine V_bipush dJ6_bitCount_0f7a4_49 (by decide) ?_
  refine V_iand dJ6_bitCount_0f7a4_51 ?_
  exact V_ireturn (stk := []) rfl dJ6_bitCount_0f7a4_52 h

set_option maxRecDepth 100000 in
theorem BJ9_max_7cf53_0 {σ : Sg} {post : Po} {x0 : Int} {x1 : Int} 
  (h : (rng x0) ∧ ((rng x1) ∧ ((x0 < x1 → post (some (vi x1)) σ) ∧ (¬ x0 < x1 → post (some (vi x0)) σ)))) :
  V mJ9_max_7cf53 0 [some (vi x0), some (vi x1)] [] σ post := by
  refine V_iload_n dJ9_max_7cf53_0 rfl rfl ?_
  refine V_iload_n dJ9_max_7cf53_1 rfl rfl ?_
  obtain ⟨r1, h⟩ := h
  obtain ⟨r2, h⟩ := h
  refine V_icmp_lt (tgt := 9) dJ9_max_7cf53_2 rfl r1 r2 (fun q => ?_) (fun q => ?_)
  · replace h := h.1 q
    refine V_iload_n dJ9_max_7cf53_9 rfl rfl ?_
    exact V_ireturn (stk := []) rfl dJ9_max_7cf53_10 h
  · replace h := h.2 q
    refine V_iload_n dJ9_max_7cf53_5 rfl rfl ?_
    refine V_goto (tgt := 10) dJ9_max_7cf53_6 rfl ?_
    exact V_ireturn (stk := []) rfl dJ9_max_7cf53_10 h

set_option maxRecDepth 100000 in
theorem BJ9_min_7cf53_0 {σ : Sg} {post : Po} {x0 : Int} {x1 : Int} 
  (h : (rng x0) ∧ ((rng x1) ∧ ((x1 < x0 → post (some (vi x1)) σ) ∧ (¬ x1 < x0 → post (some (vi x0)) σ)))) :
  V mJ9_min_7cf53 0 [some (vi x0), some (vi x1)] [] σ post := by
  refine V_iload_n dJ9_min_7cf53_0 rfl rfl ?_
  refine V_iload_n dJ9_min_7cf53_1 rfl rfl ?_
  obtain ⟨r1, h⟩ := h
  obtain ⟨r2, h⟩ := h
  refine V_icmp_gt (tgt := 9) dJ9_min_7cf53_2 rfl r1 r2 (fun q => ?_) (fun q => ?_)
  · replace h := h.1 q
    refine V_iload_n dJ9_min_7cf53_9 rfl rfl ?_
    exact V_ireturn (stk := []) rfl dJ9_min_7cf53_10 h
  · replace h := h.2 q
    refine V_iload_n dJ9_min_7cf53_5 rfl rfl ?_
    refine V_goto (tgt := 10) dJ9_min_7cf53_6 rfl ?_
    exact V_ireturn (stk := []) rfl dJ9_min_7cf53_10 h

