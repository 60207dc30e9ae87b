/-! ===== blocks: X0 (printed by wip/whole/gen/mkblk.py) ===== -/
set_option maxRecDepth 100000 in
theorem BX0_clear_0 {σ : Sg} {post : Po} {k0 : Nat} (hk0 : shp[k0]? = some (0, 0, 14))
  (h : post none (up (up σ k0 0 0) k0 7 0)) :
  V mX0_clear 0 [some (vr k0)] [] σ post := by
  refine V_aload_n dX0_clear_0 rfl rfl ?_
  refine V_iconst dX0_clear_1 ?_
  refine V_putI flX0_9 hk0 (by decide) dX0_clear_2 ?_
  refine V_aload_n dX0_clear_5 rfl rfl ?_
  refine V_iconst dX0_clear_6 ?_
  refine V_putI flX0_35 hk0 (by decide) dX0_clear_7 ?_
  exact V_return (stk := []) rfl dX0_clear_10 h

set_option maxRecDepth 100000 in
theorem BX0_copyFrom_0 {σ : Sg} {post : Po} {k0 : Nat} {k1 : Nat} (hk0 : shp[k0]? = some (0, 0, 14)) (hk1 : shp[k1]? = some (0, 0, 14))
  (h : ∀ τ1 : Sg, τ1 = (st (up σ k0 0 (σ k1 0)) (k0 + 1) (cpR ((up σ k0 0 (σ k1 0)) (k1 + 1)) ((up σ k0 0 (σ k1 0)) (k0 + 1)) 0 0 16)) → (∀ τ2 : Sg, τ2 = (st τ1 (k0 + 2) (cpR (τ1 (k1 + 2)) (τ1 (k0 + 2)) 0 0 16)) → (∀ τ3 : Sg, τ3 = (st τ2 (k0 + 3) (cpR (τ2 (k1 + 3)) (τ2 (k0 + 3)) 0 0 96)) → (∀ τ4 : Sg, τ4 = (st τ3 (k0 + 4) (cpR (τ3 (k1 + 4)) (τ3 (k0 + 4)) 0 0 16)) → (∀ τ5 : Sg, τ5 = (st τ4 (k0 + 5) (cpR (τ4 (k1 + 5)) (τ4 (k0 + 5)) 0 0 16)) → (∀ τ6 : Sg, τ6 = (st τ5 (k0 + 6) (cpR (τ5 (k1 + 6)) (τ5 (k0 + 6)) 0 0 16)) → (∀ τ7 : Sg, τ7 = (st (up τ6 k0 7 (τ6 k1 7)) (k0 + 7) (cpR ((up τ6 k0 7 (τ6 k1 7)) (k1 + 7)) ((up τ6 k0 7 (τ6 k1 7)) (k0 + 7)) 0 0 60)) → (∀ τ8 : Sg, τ8 = (st τ7 (k0 + 8) (cpR (τ7 (k1 + 8)) (τ7 (k0 + 8)) 0 0 60)) → (∀ τ9 : Sg, τ9 = (st τ8 (k0 + 9) (cpR (τ8 (k1 + 9)) (τ8 (k0 + 9)) 0 0 60)) → (∀ τ10 : Sg, τ10 = (st τ9 (k0 + 10) (cpR (τ9 (k1 + 10)) (τ9 (k0 + 10)) 0 0 60)) → (∀ τ11 : Sg, τ11 = (st τ10 (k0 + 11) (cpR (τ10 (k1 + 11)) (τ10 (k0 + 11)) 0 0 60)) → (post none τ11)))))))))))) :
  V mX0_copyFrom 0 [some (vr k0), some (vr k1)] [] σ post := by
  refine V_aload_n dX0_copyFrom_0 rfl rfl ?_
  refine V_aload_n dX0_copyFrom_1 rfl rfl ?_
  refine V_getI (f := (σ k1 0)) flX0_9 hk1 (rfl) (by decide) dX0_copyFrom_2 ?_
  refine V_putI flX0_9 hk0 (by decide) dX0_copyFrom_5 ?_
  refine V_aload_n dX0_copyFrom_8 rfl rfl ?_
  refine V_getR (k2 := (k1 + 1)) flX0_15 hk1 rfl (by decide) dX0_copyFrom_9 ?_
  refine V_iconst dX0_copyFrom_12 ?_
  refine V_aload_n dX0_copyFrom_13 rfl rfl ?_
  refine V_getR (k2 := (k0 + 1)) flX0_15 hk0 rfl (by decide) dX0_copyFrom_14 ?_
  refine V_iconst dX0_copyFrom_17 ?_
  refine V_bipush dX0_copyFrom_18 (by decide) ?_
  refine V_copyL (sh0_1 hk1) (sh0_1 hk0) (by decide) (by decide) (by decide) (by decide) (by decide) cpX0_58 (by decide) rfl dX0_copyFrom_20 ?_
  replace h := h _ rfl
  generalize (st (up σ k0 0 (σ k1 0)) (k0 + 1) (cpR ((up σ k0 0 (σ k1 0)) (k1 + 1)) ((up σ k0 0 (σ k1 0)) (k0 + 1)) 0 0 16)) = τ1 at h ⊢
  refine V_aload_n dX0_copyFrom_23 rfl rfl ?_
  refine V_getR (k2 := (k1 + 2)) flX0_19 hk1 rfl (by decide) dX0_copyFrom_24 ?_
  refine V_iconst dX0_copyFrom_27 ?_
  refine V_aload_n dX0_copyFrom_28 rfl rfl ?_
  refine V_getR (k2 := (k0 + 2)) flX0_19 hk0 rfl (by decide) dX0_copyFrom_29 ?_
  refine V_iconst dX0_copyFrom_32 ?_
  refine V_bipush dX0_copyFrom_33 (by decide) ?_
  refine V_copyI (sh0_2 hk1) (sh0_2 hk0) (by decide) (by decide) (by decide) (by decide) (by decide) cpX0_58 (by decide) rfl dX0_copyFrom_35 ?_
  replace h := h _ rfl
  generalize (st τ1 (k0 + 2) (cpR (τ1 (k1 + 2)) (τ1 (k0 + 2)) 0 0 16)) = τ2 at h ⊢
  refine V_aload_n dX0_copyFrom_38 rfl rfl ?_
  refine V_getR (k2 := (k1 + 3)) flX0_23 hk1 rfl (by decide) dX0_copyFrom_39 ?_
  refine V_iconst dX0_copyFrom_42 ?_
  refine V_aload_n dX0_copyFrom_43 rfl rfl ?_
  refine V_getR (k2 := (k0 + 3)) flX0_23 hk0 rfl (by decide) dX0_copyFrom_44 ?_
  refine V_iconst dX0_copyFrom_47 ?_
  refine V_bipush dX0_copyFrom_48 (by decide) ?_
  refine V_copyL (sh0_3 hk1) (sh0_3 hk0) (by decide) (by decide) (by decide) (by decide) (by decide) cpX0_58 (by decide) rfl dX0_copyFrom_50 ?_
  replace h := h _ rfl
  generalize (st τ2 (k0 + 3) (cpR (τ2 (k1 + 3)) (τ2 (k0 + 3)) 0 0 96)) = τ3 at h ⊢
  refine V_aload_n dX0_copyFrom_53 rfl rfl ?_
  refine V_getR (k2 := (k1 + 4)) flX0_26 hk1 rfl (by decide) dX0_copyFrom_54 ?_
  refine V_iconst dX0_copyFrom_57 ?_
  refine V_aload_n dX0_copyFrom_58 rfl rfl ?_
  refine V_getR (k2 := (k0 + 4)) flX0_26 hk0 rfl (by decide) dX0_copyFrom_59 ?_
  refine V_iconst dX0_copyFrom_62 ?_
  refine V_bipush dX0_copyFrom_63 (by decide) ?_
  refine V_copyI (sh0_4 hk1) (sh0_4 hk0) (by decide) (by decide) (by decide) (by decide) (by decide) cpX0_58 (by decide) rfl dX0_copyFrom_65 ?_
  replace h := h _ rfl
  generalize (st τ3 (k0 + 4) (cpR (τ3 (k1 + 4)) (τ3 (k0 + 4)) 0 0 16)) = τ4 at h ⊢
  refine V_aload_n dX0_copyFrom_68 rfl rfl ?_
  refine V_getR (k2 := (k1 + 5)) flX0_29 hk1 rfl (by decide) dX0_copyFrom_69 ?_
  refine V_iconst dX0_copyFrom_72 ?_
  refine V_aload_n dX0_copyFrom_73 rfl rfl ?_
  refine V_getR (k2 := (k0 + 5)) flX0_29 hk0 rfl (by decide) dX0_copyFrom_74 ?_
  refine V_iconst dX0_copyFrom_77 ?_
  refine V_bipush dX0_copyFrom_78 (by decide) ?_
  refine V_copyI (sh0_5 hk1) (sh0_5 hk0) (by decide) (by decide) (by decide) (by decide) (by decide) cpX0_58 (by decide) rfl dX0_copyFrom_80 ?_
  replace h := h _ rfl
  generalize (st τ4 (k0 + 5) (cpR (τ4 (k1 + 5)) (τ4 (k0 + 5)) 0 0 16)) = τ5 at h ⊢
  refine V_aload_n dX0_copyFrom_83 rfl rfl ?_
  refine V_getR (k2 := (k1 + 6)) flX0_32 hk1 rfl (by decide) dX0_copyFrom_84 ?_
  refine V_iconst dX0_copyFrom_87 ?_
  refine V_aload_n dX0_copyFrom_88 rfl rfl ?_
  refine V_getR (k2 := (k0 + 6)) flX0_32 hk0 rfl (by decide) dX0_copyFrom_89 ?_
  refine V_iconst dX0_copyFrom_92 ?_
  refine V_bipush dX0_copyFrom_93 (by decide) ?_
  refine V_copyI (sh0_6 hk1) (sh0_6 hk0) (by decide) (by decide) (by decide) (by decide) (by decide) cpX0_58 (by decide) rfl dX0_copyFrom_95 ?_
  replace h := h _ rfl
  generalize (st τ5 (k0 + 6) (cpR (τ5 (k1 + 6)) (τ5 (k0 + 6)) 0 0 16)) = τ6 at h ⊢
  refine V_aload_n dX0_copyFrom_98 rfl rfl ?_
  refine V_aload_n dX0_copyFrom_99 rfl rfl ?_
  refine V_getI (f := (τ6 k1 7)) flX0_35 hk1 (rfl) (by decide) dX0_copyFrom_100 ?_
  refine V_putI flX0_35 hk0 (by decide) dX0_copyFrom_103 ?_
  refine V_aload_n dX0_copyFrom_106 rfl rfl ?_
  refine V_getR (k2 := (k1 + 7)) flX0_38 hk1 rfl (by decide) dX0_copyFrom_107 ?_
  refine V_iconst dX0_copyFrom_110 ?_
  refine V_aload_n dX0_copyFrom_111 rfl rfl ?_
  refine V_getR (k2 := (k0 + 7)) flX0_38 hk0 rfl (by decide) dX0_copyFrom_112 ?_
  refine V_iconst dX0_copyFrom_115 ?_
  refine V_bipush dX0_copyFrom_116 (by decide) ?_
  refine V_copyI (sh0_7 hk1) (sh0_7 hk0) (by decide) (by decide) (by decide) (by decide) (by decide) cpX0_58 (by decide) rfl dX0_copyFrom_118 ?_
  replace h := h _ rfl
  generalize (st (up τ6 k0 7 (τ6 k1 7)) (k0 + 7) (cpR ((up τ6 k0 7 (τ6 k1 7)) (k1 + 7)) ((up τ6 k0 7 (τ6 k1 7)) (k0 + 7)) 0 0 60)) = τ7 at h ⊢
  refine V_aload_n dX0_copyFrom_121 rfl rfl ?_
  refine V_getR (k2 := (k1 + 8)) flX0_41 hk1 rfl (by decide) dX0_copyFrom_122 ?_
  refine V_iconst dX0_copyFrom_125 ?_
  refine V_aload_n dX0_copyFrom_126 rfl rfl ?_
  refine V_getR (k2 := (k0 + 8)) flX0_41 hk0 rfl (by decide) dX0_copyFrom_127 ?_
  refine V_iconst dX0_copyFrom_130 ?_
  refine V_bipush dX0_copyFrom_131 (by decide) ?_
  refine V_copyI (sh0_8 hk1) (sh0_8 hk0) (by decide) (by decide) (by decide) (by decide) (by decide) cpX0_58 (by decide) rfl dX0_copyFrom_133 ?_
  replace h := h _ rfl
  generalize (st τ7 (k0 + 8) (cpR (τ7 (k1 + 8)) (τ7 (k0 + 8)) 0 0 60)) = τ8 at h ⊢
  refine V_aload_n dX0_copyFrom_136 rfl rfl ?_
  refine V_getR (k2 := (k1 + 9)) flX0_44 hk1 rfl (by decide) dX0_copyFrom_137 ?_
  refine V_iconst dX0_copyFrom_140 ?_
  refine V_aload_n dX0_copyFrom_141 rfl rfl ?_
  refine V_getR (k2 := (k0 + 9)) flX0_44 hk0 rfl (by decide) dX0_copyFrom_142 ?_
  refine V_iconst dX0_copyFrom_145 ?_
  refine V_bipush dX0_copyFrom_146 (by decide) ?_
  refine V_copyI (sh0_9 hk1) (sh0_9 hk0) (by decide) (by decide) (by decide) (by decide) (by decide) cpX0_58 (by decide) rfl dX0_copyFrom_148 ?_
  replace h := h _ rfl
  generalize (st τ8 (k0 + 9) (cpR (τ8 (k1 + 9)) (τ8 (k0 + 9)) 0 0 60)) = τ9 at h ⊢
  refine V_aload_n dX0_copyFrom_151 rfl rfl ?_
  refine V_getR (k2 := (k1 + 10)) flX0_47 hk1 rfl (by decide) dX0_copyFrom_152 ?_
  refine V_iconst dX0_copyFrom_155 ?_
  refine V_aload_n dX0_copyFrom_156 rfl rfl ?_
  refine V_getR (k2 := (k0 + 10)) flX0_47 hk0 rfl (by decide) dX0_copyFrom_157 ?_
  refine V_iconst dX0_copyFrom_160 ?_
  refine V_bipush dX0_copyFrom_161 (by decide) ?_
  refine V_copyI (sh0_10 hk1) (sh0_10 hk0) (by decide) (by decide) (by decide) (by decide) (by decide) cpX0_58 (by decide) rfl dX0_copyFrom_163 ?_
  replace h := h _ rfl
  generalize (st τ9 (k0 + 10) (cpR (τ9 (k1 + 10)) (τ9 (k0 + 10)) 0 0 60)) = τ10 at h ⊢
  refine V_aload_n dX0_copyFrom_166 rfl rfl ?_
  refine V_getR (k2 := (k1 + 11)) flX0_50 hk1 rfl (by decide) dX0_copyFrom_167 ?_
  refine V_iconst dX0_copyFrom_170 ?_
  refine V_aload_n dX0_copyFrom_171 rfl rfl ?_
  refine V_getR (k2 := (k0 + 11)) flX0_50 hk0 rfl (by decide) dX0_copyFrom_172 ?_
  refine V_iconst dX0_copyFrom_175 ?_
  refine V_bipush dX0_copyFrom_176 (by decide) ?_
  refine V_copyZ (sh0_11 hk1) (sh0_11 hk0) (by decide) (by decide) (by decide) (by decide) (by decide) cpX0_58 (by decide) rfl dX0_copyFrom_178 ?_
  replace h := h _ rfl
  generalize (st τ10 (k0 + 11) (cpR (τ10 (k1 + 11)) (τ10 (k0 + 11)) 0 0 60)) = τ11 at h ⊢
  exact V_return (stk := []) rfl dX0_copyFrom_181 h

set_option maxRecDepth 100000 in
theorem BX0_hasHead_0 {σ : Sg} {post : Po} {k0 : Nat} {x1 : Int} (hk0 : shp[k0]? = some (0, 0, 14))
  (h : (rng x1) ∧ ((x1 < 0 → post (some (vi 0)) σ) ∧ (¬ x1 < 0 → (rng (σ k0 0)) ∧ (((σ k0 0) ≤ x1 → post (some (vi 0)) σ) ∧ (¬ (σ k0 0) ≤ x1 → post (some (vi 1)) σ))))) :
  V mX0_hasHead 0 [some (vr k0), some (vi x1)] [] σ post := by
  refine V_iload_n dX0_hasHead_0 rfl rfl ?_
  obtain ⟨r1, h⟩ := h
  refine V_if_lt (tgt := 16) dX0_hasHead_1 rfl r1 (fun q => ?_) (fun q => ?_)
  · replace h := h.1 q
    refine V_iconst dX0_hasHead_16 ?_
    exact V_zreturn (stk := []) rfl dX0_hasHead_17 (by decide) h
  · replace h := h.2 q
    refine V_iload_n dX0_hasHead_4 rfl rfl ?_
    refine V_aload_n dX0_hasHead_5 rfl rfl ?_
    refine V_getI (f := (σ k0 0)) flX0_9 hk0 (rfl) (by decide) dX0_hasHead_6 ?_
    obtain ⟨r2, h⟩ := h
    refine V_icmp_ge (tgt := 16) dX0_hasHead_9 rfl r1 r2 (fun q => ?_) (fun q => ?_)
    · replace h := h.1 q
      refine V_iconst dX0_hasHead_16 ?_
      exact V_zreturn (stk := []) rfl dX0_hasHead_17 (by decide) h
    · replace h := h.2 q
      refine V_iconst dX0_hasHead_12 ?_
      refine V_goto (tgt := 17) dX0_hasHead_13 rfl ?_
      exact V_zreturn (stk := []) rfl dX0_hasHead_17 (by decide) h

set_option maxRecDepth 100000 in
theorem BX0_hasEntry_0 {σ : Sg} {post : Po} {k0 : Nat} {x1 : Int} {x2 : Int} (hk0 : shp[k0]? = some (0, 0, 14))
  (h : Cl mX0_hasHead [vr k0, vi x1] σ (pI fun z1 σ1 => (rng z1) ∧ ((z1 = 0 → post (some (vi 0)) σ1) ∧ (¬ z1 = 0 → (rng x2) ∧ ((x2 < (-1) → post (some (vi 0)) σ1) ∧ (¬ x2 < (-1) → (0 ≤ x1 ∧ x1 < 16) ∧ ((rng (σ1 (k0 + 2) x1)) ∧ (((σ1 (k0 + 2) x1) ≤ x2 → post (some (vi 0)) σ1) ∧ (¬ (σ1 (k0 + 2) x1) ≤ x2 → post (some (vi 1)) σ1))))))))) :
  V mX0_hasEntry 0 [some (vr k0), some (vi x1), some (vi x2)] [] σ post := by
  refine V_aload_n dX0_hasEntry_0 rfl rfl ?_
  refine V_iload_n dX0_hasEntry_1 rfl rfl ?_
  refine V_callV (av := [vi x1]) (stk := []) cvX0_64 hk0 rfl rfl (by decide) (by simp [ctg]) dX0_hasEntry_2 h ?_
  rintro _ σ1 ⟨z1, rfl, h⟩
  obtain ⟨r1, h⟩ := h
  refine V_if_eq (tgt := 27) dX0_hasEntry_5 rfl r1 (fun q => ?_) (fun q => ?_)
  · replace h := h.1 q
    refine V_iconst dX0_hasEntry_27 ?_
    exact V_zreturn (stk := []) rfl dX0_hasEntry_28 (by decide) h
  · replace h := h.2 q
    refine V_iload_n dX0_hasEntry_8 rfl rfl ?_
    refine V_iconst dX0_hasEntry_9 ?_
    obtain ⟨r2, h⟩ := h
    refine V_icmp_lt (tgt := 27) dX0_hasEntry_10 rfl r2 (by decide) (fun q => ?_) (fun q => ?_)
    · replace h := h.1 q
      refine V_iconst dX0_hasEntry_27 ?_
      exact V_zreturn (stk := []) rfl dX0_hasEntry_28 (by decide) h
    · replace h := h.2 q
      refine V_iload_n dX0_hasEntry_13 rfl rfl ?_
      refine V_aload_n dX0_hasEntry_14 rfl rfl ?_
      refine V_getR (k2 := (k0 + 2)) flX0_19 hk0 rfl (by decide) dX0_hasEntry_15 ?_
      refine V_iload_n dX0_hasEntry_18 rfl rfl ?_
      obtain ⟨r3, h⟩ := h
      refine V_iald (f := (σ1 (k0 + 2) x1)) (sh0_2 hk0) r3 (rfl) dX0_hasEntry_19 ?_
      obtain ⟨r4, h⟩ := h
      refine V_icmp_ge (tgt := 27) dX0_hasEntry_20 rfl r2 r4 (fun q => ?_) (fun q => ?_)
      · replace h := h.1 q
        refine V_iconst dX0_hasEntry_27 ?_
        exact V_zreturn (stk := []) rfl dX0_hasEntry_28 (by decide) h
      · replace h := h.2 q
        refine V_iconst dX0_hasEntry_23 ?_
        refine V_goto (tgt := 28) dX0_hasEntry_24 rfl ?_
        exact V_zreturn (stk := []) rfl dX0_hasEntry_28 (by decide) h

set_option maxRecDepth 100000 in
theorem BX0_hasMark_0 {σ : Sg} {post : Po} {k0 : Nat} {x1 : Int} (hk0 : shp[k0]? = some (0, 0, 14))
  (h : (rng x1) ∧ ((x1 < 0 → post (some (vi 0)) σ) ∧ (¬ x1 < 0 → (rng (σ k0 7)) ∧ (((σ k0 7) ≤ x1 → post (some (vi 0)) σ) ∧ (¬ (σ k0 7) ≤ x1 → post (some (vi 1)) σ))))) :
  V mX0_hasMark 0 [some (vr k0), some (vi x1)] [] σ post := by
  refine V_iload_n dX0_hasMark_0 rfl rfl ?_
  obtain ⟨r1, h⟩ := h
  refine V_if_lt (tgt := 16) dX0_hasMark_1 rfl r1 (fun q => ?_) (fun q => ?_)
  · replace h := h.1 q
    refine V_iconst dX0_hasMark_16 ?_
    exact V_zreturn (stk := []) rfl dX0_hasMark_17 (by decide) h
  · replace h := h.2 q
    refine V_iload_n dX0_hasMark_4 rfl rfl ?_
    refine V_aload_n dX0_hasMark_5 rfl rfl ?_
    refine V_getI (f := (σ k0 7)) flX0_35 hk0 (rfl) (by decide) dX0_hasMark_6 ?_
    obtain ⟨r2, h⟩ := h
    refine V_icmp_ge (tgt := 16) dX0_hasMark_9 rfl r1 r2 (fun q => ?_) (fun q => ?_)
    · replace h := h.1 q
      refine V_iconst dX0_hasMark_16 ?_
      exact V_zreturn (stk := []) rfl dX0_hasMark_17 (by decide) h
    · replace h := h.2 q
      refine V_iconst dX0_hasMark_12 ?_
      refine V_goto (tgt := 17) dX0_hasMark_13 rfl ?_
      exact V_zreturn (stk := []) rfl dX0_hasMark_17 (by decide) h

set_option maxRecDepth 100000 in
theorem BX0_wordOf_0 {σ : Sg} {post : Po} {k0 : Nat} {x1 : Int} {x2 : Int} (hk0 : shp[k0]? = some (0, 0, 14))
  (h : (rng x2) ∧ ((¬ x2 = (-1) → (0 ≤ ((x1 * 6) + x2) ∧ ((x1 * 6) + x2) < 96) ∧ (post (some (vl (σ (k0 + 3) ((x1 * 6) + x2)))) σ)) ∧ (x2 = (-1) → (0 ≤ x1 ∧ x1 < 16) ∧ (post (some (vl (σ (k0 + 1) x1))) σ)))) :
  V mX0_wordOf 0 [some (vr k0), some (vi x1), some (vi x2)] [] σ post := by
  refine V_iload_n dX0_wordOf_0 rfl rfl ?_
  refine V_iconst dX0_wordOf_1 ?_
  obtain ⟨r1, h⟩ := h
  refine V_icmp_ne (tgt := 14) dX0_wordOf_2 rfl r1 (by decide) (fun q => ?_) (fun q => ?_)
  · replace h := h.1 q
    refine V_aload_n dX0_wordOf_14 rfl rfl ?_
    refine V_getR (k2 := (k0 + 3)) flX0_23 hk0 rfl (by decide) dX0_wordOf_15 ?_
    refine V_iload_n dX0_wordOf_18 rfl rfl ?_
    refine V_bipush dX0_wordOf_19 (by decide) ?_
    refine V_imul dX0_wordOf_21 ?_
    refine V_iload_n dX0_wordOf_22 rfl rfl ?_
    refine V_iadd dX0_wordOf_23 ?_
    obtain ⟨r2, h⟩ := h
    refine V_lald (f := (σ (k0 + 3) ((x1 * 6) + x2))) (sh0_3 hk0) r2 (rfl) dX0_wordOf_24 ?_
    exact V_lreturn (stk := []) rfl dX0_wordOf_25 h
  · replace h := h.2 q
    refine V_aload_n dX0_wordOf_5 rfl rfl ?_
    refine V_getR (k2 := (k0 + 1)) flX0_15 hk0 rfl (by decide) dX0_wordOf_6 ?_
    refine V_iload_n dX0_wordOf_9 rfl rfl ?_
    obtain ⟨r3, h⟩ := h
    refine V_lald (f := (σ (k0 + 1) x1)) (sh0_1 hk0) r3 (rfl) dX0_wordOf_10 ?_
    refine V_goto (tgt := 25) dX0_wordOf_11 rfl ?_
    exact V_lreturn (stk := []) rfl dX0_wordOf_25 h

set_option maxRecDepth 100000 in
theorem BX0_findHead_0 {σ : Sg} {post : Po} {k0 : Nat} {x1 : Int} (hk0 : shp[k0]? = some (0, 0, 14))
  (h : V mX0_findHead 2 [some (vr k0), some (vl x1), none, some (vi 0)] [] σ post) :
  V mX0_findHead 0 [some (vr k0), some (vl x1), none, none] [] σ post := by
  refine V_iconst dX0_findHead_0 ?_
  refine V_istore_n (L' := [some (vr k0), some (vl x1), none, some (vi 0)]) dX0_findHead_1 rfl (by decide) rfl ?_
  exact V.sub (SubL_s (SubL_s (SubL_n (SubL_s (SubL_0))))) h
set_option maxRecDepth 100000 in
theorem BX0_findHead_2 {σ : Sg} {post : Po} {k0 : Nat} {x1 : Int} {x3 : Int} (hk0 : shp[k0]? = some (0, 0, 14))
  (h : (rng x3) ∧ ((rng (σ k0 0)) ∧ (((σ k0 0) ≤ x3 → post (some (vi (-1))) σ) ∧ (¬ (σ k0 0) ≤ x3 → (0 ≤ x3 ∧ x3 < 16) ∧ ((rngL (σ (k0 + 1) x3)) ∧ ((rngL x1) ∧ ((¬ (σ (k0 + 1) x3) = x1 → V mX0_findHead 2 [some (vr k0), some (vl x1), none, some (vi (x3 + 1))] [] σ post) ∧ ((σ (k0 + 1) x3) = x1 → post (some (vi x3)) σ)))))))) :
  V mX0_findHead 2 [some (vr k0), some (vl x1), none, some (vi x3)] [] σ post := by
  refine V_iload_n dX0_findHead_2 rfl rfl ?_
  refine V_aload_n dX0_findHead_3 rfl rfl ?_
  refine V_getI (f := (σ k0 0)) flX0_9 hk0 (rfl) (by decide) dX0_findHead_4 ?_
  obtain ⟨r1, h⟩ := h
  obtain ⟨r2, h⟩ := h
  refine V_icmp_ge (tgt := 29) dX0_findHead_7 rfl r1 r2 (fun q => ?_) (fun q => ?_)
  · replace h := h.1 q
    refine V_iconst dX0_findHead_29 ?_
    exact V_ireturn (stk := []) rfl dX0_findHead_30 h
  · replace h := h.2 q
    refine V_aload_n dX0_findHead_10 rfl rfl ?_
    refine V_getR (k2 := (k0 + 1)) flX0_15 hk0 rfl (by decide) dX0_findHead_11 ?_
    refine V_iload_n dX0_findHead_14 rfl rfl ?_
    obtain ⟨r3, h⟩ := h
    refine V_lald (f := (σ (k0 + 1) x3)) (sh0_1 hk0) r3 (rfl) dX0_findHead_15 ?_
    refine V_lload_n dX0_findHead_16 rfl rfl ?_
    obtain ⟨r4, h⟩ := h
    obtain ⟨r5, h⟩ := h
    refine V_lif_ne (tgt := 23) dX0_findHead_17 dX0_findHead_18 rfl r4 r5 (fun q => ?_) (fun q => ?_)
    · replace h := h.1 q
      refine V_iinc (L' := [some (vr k0), some (vl x1), none, some (vi (x3 + 1))]) dX0_findHead_23 rfl (by decide) rfl ?_
      refine V_goto (tgt := 2) dX0_findHead_26 rfl ?_
      exact V.sub (SubL_s (SubL_s (SubL_n (SubL_s (SubL_0))))) h
    · replace h := h.2 q
      refine V_iload_n dX0_findHead_21 rfl rfl ?_
      exact V_ireturn (stk := []) rfl dX0_findHead_22 h

set_option maxRecDepth 100000 in
theorem BX0_findSub_0 {σ : Sg} {post : Po} {k0 : Nat} {x1 : Int} {x2 : Int} (hk0 : shp[k0]? = some (0, 0, 14))
  (h : Cl mX0_hasHead [vr k0, vi x1] σ (pI fun z1 σ1 => (rng z1) ∧ ((¬ z1 = 0 → V mX0_findSub 13 [some (vr k0), some (vi x1), some (vl x2), none, some (vi 0)] [] σ1 post) ∧ (z1 = 0 → post (some (vi (-1))) σ1)))) :
  V mX0_findSub 0 [some (vr k0), some (vi x1), some (vl x2), none, none] [] σ post := by
  refine V_aload_n dX0_findSub_0 rfl rfl ?_
  refine V_iload_n dX0_findSub_1 rfl rfl ?_
  refine V_callV (av := [vi x1]) (stk := []) cvX0_64 hk0 rfl rfl (by decide) (by simp [ctg]) dX0_findSub_2 h ?_
  rintro _ σ1 ⟨z1, rfl, h⟩
  obtain ⟨r1, h⟩ := h
  refine V_if_ne (tgt := 10) dX0_findSub_5 rfl r1 (fun q => ?_) (fun q => ?_)
  · replace h := h.1 q
    refine V_iconst dX0_findSub_10 ?_
    refine V_istore (L' := [some (vr k0), some (vi x1), some (vl x2), none, some (vi 0)]) dX0_findSub_11 (by decide) rfl ?_
    exact V.sub (SubL_s (SubL_s (SubL_s (SubL_n (SubL_s (SubL_0)))))) h
  · replace h := h.2 q
    refine V_iconst dX0_findSub_8 ?_
    exact V_ireturn (stk := []) rfl dX0_findSub_9 h
set_option maxRecDepth 100000 in
theorem BX0_findSub_13 {σ : Sg} {post : Po} {k0 : Nat} {x1 : Int} {x2 : Int} {x4 : Int} (hk0 : shp[k0]? = some (0, 0, 14))
  (h : (0 ≤ x1 ∧ x1 < 16) ∧ ((rng x4) ∧ ((rng (σ (k0 + 2) x1)) ∧ (((σ (k0 + 2) x1) ≤ x4 → post (some (vi (-1))) σ) ∧ (¬ (σ (k0 + 2) x1) ≤ x4 → (0 ≤ ((x1 * 6) + x4) ∧ ((x1 * 6) + x4) < 96) ∧ ((rngL (σ (k0 + 3) ((x1 * 6) + x4))) ∧ ((rngL x2) ∧ ((¬ (σ (k0 + 3) ((x1 * 6) + x4)) = x2 → V mX0_findSub 13 [some (vr k0), some (vi x1), some (vl x2), none, some (vi (x4 + 1))] [] σ post) ∧ ((σ (k0 + 3) ((x1 * 6) + x4)) = x2 → post (some (vi x4)) σ))))))))) :
  V mX0_findSub 13 [some (vr k0), some (vi x1), some (vl x2), none, some (vi x4)] [] σ post := by
  refine V_iload dX0_findSub_13 rfl ?_
  refine V_aload_n dX0_findSub_15 rfl rfl ?_
  refine V_getR (k2 := (k0 + 2)) flX0_19 hk0 rfl (by decide) dX0_findSub_16 ?_
  refine V_iload_n dX0_findSub_19 rfl rfl ?_
  obtain ⟨r1, h⟩ := h
  refine V_iald (f := (σ (k0 + 2) x1)) (sh0_2 hk0) r1 (rfl) dX0_findSub_20 ?_
  obtain ⟨r2, h⟩ := h
  obtain ⟨r3, h⟩ := h
  refine V_icmp_ge (tgt := 50) dX0_findSub_21 rfl r2 r3 (fun q => ?_) (fun q => ?_)
  · replace h := h.1 q
    refine V_iconst dX0_findSub_50 ?_
    exact V_ireturn (stk := []) rfl dX0_findSub_51 h
  · replace h := h.2 q
    refine V_aload_n dX0_findSub_24 rfl rfl ?_
    refine V_getR (k2 := (k0 + 3)) flX0_23 hk0 rfl (by decide) dX0_findSub_25 ?_
    refine V_iload_n dX0_findSub_28 rfl rfl ?_
    refine V_bipush dX0_findSub_29 (by decide) ?_
    refine V_imul dX0_findSub_31 ?_
    refine V_iload dX0_findSub_32 rfl ?_
    refine V_iadd dX0_findSub_34 ?_
    obtain ⟨r4, h⟩ := h
    refine V_lald (f := (σ (k0 + 3) ((x1 * 6) + x4))) (sh0_3 hk0) r4 (rfl) dX0_findSub_35 ?_
    refine V_lload_n dX0_findSub_36 rfl rfl ?_
    obtain ⟨r5, h⟩ := h
    obtain ⟨r6, h⟩ := h
    refine V_lif_ne (tgt := 44) dX0_findSub_37 dX0_findSub_38 rfl r5 r6 (fun q => ?_) (fun q => ?_)
    · replace h := h.1 q
      refine V_iinc (L' := [some (vr k0), some (vi x1), some (vl x2), none, some (vi (x4 + 1))]) dX0_findSub_44 rfl (by decide) rfl ?_
      refine V_goto (tgt := 13) dX0_findSub_47 rfl ?_
      exact V.sub (SubL_s (SubL_s (SubL_s (SubL_n (SubL_s (SubL_0)))))) h
    · replace h := h.2 q
      refine V_iload dX0_findSub_41 rfl ?_
      exact V_ireturn (stk := []) rfl dX0_findSub_43 h

set_option maxRecDepth 100000 in
theorem BX0_putHead_0 {σ : Sg} {post : Po} {k0 : Nat} {x1 : Int} (hk0 : shp[k0]? = some (0, 0, 14))
  (h : (rng (σ k0 0)) ∧ (((σ k0 0) < 16 → (0 ≤ (σ k0 0) ∧ (σ k0 0) < 16) ∧ (post (some (vi (((σ k0 0) + 1) - 1))) (up (up (up (up (up (up σ (k0 + 1) (σ k0 0) x1) (k0 + 2) (σ k0 0) 0) (k0 + 4) (σ k0 0) (-1)) (k0 + 5) (σ k0 0) 0) (k0 + 6) (σ k0 0) 0) k0 0 ((σ k0 0) + 1)))) ∧ (¬ (σ k0 0) < 16 → post (some (vi (-1))) σ))) :
  V mX0_putHead 0 [some (vr k0), some (vl x1), none] [] σ post := by
  refine V_aload_n dX0_putHead_0 rfl rfl ?_
  refine V_getI (f := (σ k0 0)) flX0_9 hk0 (rfl) (by decide) dX0_putHead_1 ?_
  refine V_bipush dX0_putHead_4 (by decide) ?_
  obtain ⟨r1, h⟩ := h
  refine V_icmp_lt (tgt := 11) dX0_putHead_6 rfl r1 (by decide) (fun q => ?_) (fun q => ?_)
  · replace h := h.1 q
    refine V_aload_n dX0_putHead_11 rfl rfl ?_
    refine V_getR (k2 := (k0 + 1)) flX0_15 hk0 rfl (by decide) dX0_putHead_12 ?_
    refine V_aload_n dX0_putHead_15 rfl rfl ?_
    refine V_getI (f := (σ k0 0)) flX0_9 hk0 (rfl) (by decide) dX0_putHead_16 ?_
    refine V_lload_n dX0_putHead_19 rfl rfl ?_
    obtain ⟨r2, h⟩ := h
    refine V_last (sh0_1 hk0) r2 dX0_putHead_20 ?_
    refine V_aload_n dX0_putHead_21 rfl rfl ?_
    refine V_getR (k2 := (k0 + 2)) flX0_19 hk0 rfl (by decide) dX0_putHead_22 ?_
    refine V_aload_n dX0_putHead_25 rfl rfl ?_
    refine V_getI (f := (σ k0 0)) flX0_9 hk0 (up_o (by omega)) (by decide) dX0_putHead_26 ?_
    refine V_iconst dX0_putHead_29 ?_
    refine V_iast (sh0_2 hk0) r2 dX0_putHead_30 ?_
    refine V_aload_n dX0_putHead_31 rfl rfl ?_
    refine V_getR (k2 := (k0 + 4)) flX0_26 hk0 rfl (by decide) dX0_putHead_32 ?_
    refine V_aload_n dX0_putHead_35 rfl rfl ?_
    refine V_getI (f := (σ k0 0)) flX0_9 hk0 ((up_o (by omega)).trans (up_o (by omega))) (by decide) dX0_putHead_36 ?_
    refine V_iconst dX0_putHead_39 ?_
    refine V_iast (sh0_4 hk0) r2 dX0_putHead_40 ?_
    refine V_aload_n dX0_putHead_41 rfl rfl ?_
    refine V_getR (k2 := (k0 + 5)) flX0_29 hk0 rfl (by decide) dX0_putHead_42 ?_
    refine V_aload_n dX0_putHead_45 rfl rfl ?_
    refine V_getI (f := (σ k0 0)) flX0_9 hk0 ((up_o (by omega)).trans ((up_o (by omega)).trans (up_o (by omega)))) (by decide) dX0_putHead_46 ?_
    refine V_iconst dX0_putHead_49 ?_
    refine V_iast (sh0_5 hk0) r2 dX0_putHead_50 ?_
    refine V_aload_n dX0_putHead_51 rfl rfl ?_
    refine V_getR (k2 := (k0 + 6)) flX0_32 hk0 rfl (by decide) dX0_putHead_52 ?_
    refine V_aload_n dX0_putHead_55 rfl rfl ?_
    refine V_getI (f := (σ k0 0)) flX0_9 hk0 ((up_o (by omega)).trans ((up_o (by omega)).trans ((up_o (by omega)).trans (up_o (by omega))))) (by decide) dX0_putHead_56 ?_
    refine V_iconst dX0_putHead_59 ?_
    refine V_iast (sh0_6 hk0) r2 dX0_putHead_60 ?_
    refine V_aload_n dX0_putHead_61 rfl rfl ?_
    refine V_dup dX0_putHead_62 trivial ?_
    refine V_getI (f := (σ k0 0)) flX0_9 hk0 ((up_o (by omega)).trans ((up_o (by omega)).trans ((up_o (by omega)).trans ((up_o (by omega)).trans (up_o (by omega)))))) (by decide) dX0_putHead_63 ?_
    refine V_iconst dX0_putHead_66 ?_
    refine V_iadd dX0_putHead_67 ?_
    refine V_putI flX0_9 hk0 (by decide) dX0_putHead_68 ?_
    refine V_aload_n dX0_putHead_71 rfl rfl ?_
    refine V_getI (f := ((σ k0 0) + 1)) flX0_9 hk0 (up_s) (by decide) dX0_putHead_72 ?_
    refine V_iconst dX0_putHead_75 ?_
    refine V_isub dX0_putHead_76 ?_
    exact V_ireturn (stk := []) rfl dX0_putHead_77 h
  · replace h := h.2 q
    refine V_iconst dX0_putHead_9 ?_
    exact V_ireturn (stk := []) rfl dX0_putHead_10 h

set_option maxRecDepth 100000 in
theorem BX0_putSub_0 {σ : Sg} {post : Po} {k0 : Nat} {x1 : Int} {x2 : Int} (hk0 : shp[k0]? = some (0, 0, 14))
  (h : (0 ≤ x1 ∧ x1 < 16) ∧ ((rng (σ (k0 + 2) x1)) ∧ (((σ (k0 + 2) x1) < 6 → (0 ≤ ((x1 * 6) + (σ (k0 + 2) x1)) ∧ ((x1 * 6) + (σ (k0 + 2) x1)) < 96) ∧ (post (some (vi (((σ (k0 + 2) x1) + 1) - 1))) (up (up σ (k0 + 3) ((x1 * 6) + (σ (k0 + 2) x1)) x2) (k0 + 2) x1 ((σ (k0 + 2) x1) + 1)))) ∧ (¬ (σ (k0 + 2) x1) < 6 → post (some (vi (-1))) σ)))) :
  V mX0_putSub 0 [some (vr k0), some (vi x1), some (vl x2), none] [] σ post := by
  refine V_aload_n dX0_putSub_0 rfl rfl ?_
  refine V_getR (k2 := (k0 + 2)) flX0_19 hk0 rfl (by decide) dX0_putSub_1 ?_
  refine V_iload_n dX0_putSub_4 rfl rfl ?_
  obtain ⟨r1, h⟩ := h
  refine V_iald (f := (σ (k0 + 2) x1)) (sh0_2 hk0) r1 (rfl) dX0_putSub_5 ?_
  refine V_bipush dX0_putSub_6 (by decide) ?_
  obtain ⟨r2, h⟩ := h
  refine V_icmp_lt (tgt := 13) dX0_putSub_8 rfl r2 (by decide) (fun q => ?_) (fun q => ?_)
  · replace h := h.1 q
    refine V_aload_n dX0_putSub_13 rfl rfl ?_
    refine V_getR (k2 := (k0 + 3)) flX0_23 hk0 rfl (by decide) dX0_putSub_14 ?_
    refine V_iload_n dX0_putSub_17 rfl rfl ?_
    refine V_bipush dX0_putSub_18 (by decide) ?_
    refine V_imul dX0_putSub_20 ?_
    refine V_aload_n dX0_putSub_21 rfl rfl ?_
    refine V_getR (k2 := (k0 + 2)) flX0_19 hk0 rfl (by decide) dX0_putSub_22 ?_
    refine V_iload_n dX0_putSub_25 rfl rfl ?_
    refine V_iald (f := (σ (k0 + 2) x1)) (sh0_2 hk0) r1 (rfl) dX0_putSub_26 ?_
    refine V_iadd dX0_putSub_27 ?_
    refine V_lload_n dX0_putSub_28 rfl rfl ?_
    obtain ⟨r3, h⟩ := h
    refine V_last (sh0_3 hk0) r3 dX0_putSub_29 ?_
    refine V_aload_n dX0_putSub_30 rfl rfl ?_
    refine V_getR (k2 := (k0 + 2)) flX0_19 hk0 rfl (by decide) dX0_putSub_31 ?_
    refine V_iload_n dX0_putSub_34 rfl rfl ?_
    refine V_dup2 dX0_putSub_35 trivial trivial ?_
    refine V_iald (f := (σ (k0 + 2) x1)) (sh0_2 hk0) r1 (up_o (by omega)) dX0_putSub_36 ?_
    refine V_iconst dX0_putSub_37 ?_
    refine V_iadd dX0_putSub_38 ?_
    refine V_iast (sh0_2 hk0) r1 dX0_putSub_39 ?_
    refine V_aload_n dX0_putSub_40 rfl rfl ?_
    refine V_getR (k2 := (k0 + 2)) flX0_19 hk0 rfl (by decide) dX0_putSub_41 ?_
    refine V_iload_n dX0_putSub_44 rfl rfl ?_
    refine V_iald (f := ((σ (k0 + 2) x1) + 1)) (sh0_2 hk0) r1 (up_s) dX0_putSub_45 ?_
    refine V_iconst dX0_putSub_46 ?_
    refine V_isub dX0_putSub_47 ?_
    exact V_ireturn (stk := []) rfl dX0_putSub_48 h
  · replace h := h.2 q
    refine V_iconst dX0_putSub_11 ?_
    exact V_ireturn (stk := []) rfl dX0_putSub_12 h

set_option maxRecDepth 100000 in
theorem BX0_putMark_0 {σ : Sg} {post : Po} {k0 : Nat} {x1 : Int} {x2 : Int} {x3 : Int} {x4 : Int} {x5 : Int} (hk0 : shp[k0]? = some (0, 0, 14))
  (h : (rng (σ k0 7)) ∧ (((σ k0 7) < 60 → (0 ≤ (σ k0 7) ∧ (σ k0 7) < 60) ∧ ((x5 = 0 ∨ x5 = 1) ∧ (post (some (vi (((σ k0 7) + 1) - 1))) (up (up (up (up (up (up σ (k0 + 7) (σ k0 7) x1) (k0 + 8) (σ k0 7) x2) (k0 + 9) (σ k0 7) x3) (k0 + 10) (σ k0 7) x4) (k0 + 11) (σ k0 7) x5) k0 7 ((σ k0 7) + 1))))) ∧ (¬ (σ k0 7) < 60 → post (some (vi (-1))) σ))) :
  V mX0_putMark 0 [some (vr k0), some (vi x1), some (vi x2), some (vi x3), some (vi x4), some (vi x5)] [] σ post := by
  refine V_aload_n dX0_putMark_0 rfl rfl ?_
  refine V_getI (f := (σ k0 7)) flX0_35 hk0 (rfl) (by decide) dX0_putMark_1 ?_
  refine V_bipush dX0_putMark_4 (by decide) ?_
  obtain ⟨r1, h⟩ := h
  refine V_icmp_lt (tgt := 11) dX0_putMark_6 rfl r1 (by decide) (fun q => ?_) (fun q => ?_)
  · replace h := h.1 q
    refine V_aload_n dX0_putMark_11 rfl rfl ?_
    refine V_getR (k2 := (k0 + 7)) flX0_38 hk0 rfl (by decide) dX0_putMark_12 ?_
    refine V_aload_n dX0_putMark_15 rfl rfl ?_
    refine V_getI (f := (σ k0 7)) flX0_35 hk0 (rfl) (by decide) dX0_putMark_16 ?_
    refine V_iload_n dX0_putMark_19 rfl rfl ?_
    obtain ⟨r2, h⟩ := h
    refine V_iast (sh0_7 hk0) r2 dX0_putMark_20 ?_
    refine V_aload_n dX0_putMark_21 rfl rfl ?_
    refine V_getR (k2 := (k0 + 8)) flX0_41 hk0 rfl (by decide) dX0_putMark_22 ?_
    refine V_aload_n dX0_putMark_25 rfl rfl ?_
    refine V_getI (f := (σ k0 7)) flX0_35 hk0 (up_o (by omega)) (by decide) dX0_putMark_26 ?_
    refine V_iload_n dX0_putMark_29 rfl rfl ?_
    refine V_iast (sh0_8 hk0) r2 dX0_putMark_30 ?_
    refine V_aload_n dX0_putMark_31 rfl rfl ?_
    refine V_getR (k2 := (k0 + 9)) flX0_44 hk0 rfl (by decide) dX0_putMark_32 ?_
    refine V_aload_n dX0_putMark_35 rfl rfl ?_
    refine V_getI (f := (σ k0 7)) flX0_35 hk0 ((up_o (by omega)).trans (up_o (by omega))) (by decide) dX0_putMark_36 ?_
    refine V_iload_n dX0_putMark_39 rfl rfl ?_
    refine V_iast (sh0_9 hk0) r2 dX0_putMark_40 ?_
    refine V_aload_n dX0_putMark_41 rfl rfl ?_
    refine V_getR (k2 := (k0 + 10)) flX0_47 hk0 rfl (by decide) dX0_putMark_42 ?_
    refine V_aload_n dX0_putMark_45 rfl rfl ?_
    refine V_getI (f := (σ k0 7)) flX0_35 hk0 ((up_o (by omega)).trans ((up_o (by omega)).trans (up_o (by omega)))) (by decide) dX0_putMark_46 ?_
    refine V_iload dX0_putMark_49 rfl ?_
    refine V_iast (sh0_10 hk0) r2 dX0_putMark_51 ?_
    refine V_aload_n dX0_putMark_52 rfl rfl ?_
    refine V_getR (k2 := (k0 + 11)) flX0_50 hk0 rfl (by decide) dX0_putMark_53 ?_
    refine V_aload_n dX0_putMark_56 rfl rfl ?_
    refine V_getI (f := (σ k0 7)) flX0_35 hk0 ((up_o (by omega)).trans ((up_o (by omega)).trans ((up_o (by omega)).trans (up_o (by omega))))) (by decide) dX0_putMark_57 ?_
    refine V_iload dX0_putMark_60 rfl ?_
    obtain ⟨r3, h⟩ := h
    refine V_zast (sh0_11 hk0) r2 r3 dX0_putMark_62 ?_
    refine V_aload_n dX0_putMark_63 rfl rfl ?_
    refine V_dup dX0_putMark_64 trivial ?_
    refine V_getI (f := (σ k0 7)) flX0_35 hk0 ((up_o (by omega)).trans ((up_o (by omega)).trans ((up_o (by omega)).trans ((up_o (by omega)).trans (up_o (by omega)))))) (by decide) dX0_putMark_65 ?_
    refine V_iconst dX0_putMark_68 ?_
    refine V_iadd dX0_putMark_69 ?_
    refine V_putI flX0_35 hk0 (by decide) dX0_putMark_70 ?_
    refine V_aload_n dX0_putMark_73 rfl rfl ?_
    refine V_getI (f := ((σ k0 7) + 1)) flX0_35 hk0 (up_s) (by decide) dX0_putMark_74 ?_
    refine V_iconst dX0_putMark_77 ?_
    refine V_isub dX0_putMark_78 ?_
    exact V_ireturn (stk := []) rfl dX0_putMark_79 h
  · replace h := h.2 q
    refine V_iconst dX0_putMark_9 ?_
    exact V_ireturn (stk := []) rfl dX0_putMark_10 h

set_option maxRecDepth 100000 in
theorem BX0_removeMark_0 {σ : Sg} {post : Po} {k0 : Nat} {x1 : Int} (hk0 : shp[k0]? = some (0, 0, 14))
  (h : V mX0_removeMark 4 [some (vr k0), none, some (vi (x1 + 1))] [] σ post) :
  V mX0_removeMark 0 [some (vr k0), some (vi x1), none] [] σ post := by
  refine V_iload_n dX0_removeMark_0 rfl rfl ?_
  refine V_iconst dX0_removeMark_1 ?_
  refine V_iadd dX0_removeMark_2 ?_
  refine V_istore_n (L' := [some (vr k0), some (vi x1), some (vi (x1 + 1))]) dX0_removeMark_3 rfl (by decide) rfl ?_
  exact V.sub (SubL_s (SubL_n (SubL_s (SubL_0)))) h
set_option maxRecDepth 100000 in
theorem BX0_removeMark_4 {σ : Sg} {post : Po} {k0 : Nat} {x2 : Int} (hk0 : shp[k0]? = some (0, 0, 14))
  (h : (rng x2) ∧ ((rng (σ k0 7)) ∧ (((σ k0 7) ≤ x2 → post none (up σ k0 7 ((σ k0 7) - 1))) ∧ (¬ (σ k0 7) ≤ x2 → Cl mX0_moveMark [vr k0, vi x2, vi (x2 - 1)] σ (pV fun σ1 => V mX0_removeMark 4 [some (vr k0), none, some (vi (x2 + 1))] [] σ1 post))))) :
  V mX0_removeMark 4 [some (vr k0), none, some (vi x2)] [] σ post := by
  refine V_iload_n dX0_removeMark_4 rfl rfl ?_
  refine V_aload_n dX0_removeMark_5 rfl rfl ?_
  refine V_getI (f := (σ k0 7)) flX0_35 hk0 (rfl) (by decide) dX0_removeMark_6 ?_
  obtain ⟨r1, h⟩ := h
  obtain ⟨r2, h⟩ := h
  refine V_icmp_ge (tgt := 26) dX0_removeMark_9 rfl r1 r2 (fun q => ?_) (fun q => ?_)
  · replace h := h.1 q
    refine V_aload_n dX0_removeMark_26 rfl rfl ?_
    refine V_dup dX0_removeMark_27 trivial ?_
    refine V_getI (f := (σ k0 7)) flX0_35 hk0 (rfl) (by decide) dX0_removeMark_28 ?_
    refine V_iconst dX0_removeMark_31 ?_
    refine V_isub dX0_removeMark_32 ?_
    refine V_putI flX0_35 hk0 (by decide) dX0_removeMark_33 ?_
    exact V_return (stk := []) rfl dX0_removeMark_36 h
  · replace h := h.2 q
    refine V_aload_n dX0_removeMark_12 rfl rfl ?_
    refine V_iload_n dX0_removeMark_13 rfl rfl ?_
    refine V_iload_n dX0_removeMark_14 rfl rfl ?_
    refine V_iconst dX0_removeMark_15 ?_
    refine V_isub dX0_removeMark_16 ?_
    refine V_callV (av := [vi x2, vi (x2 - 1)]) (stk := []) cvX0_68 hk0 rfl rfl (by decide) (by simp [ctg]) dX0_removeMark_17 h ?_
    rintro _ σ1 ⟨rfl, h⟩
    refine V_iinc (L' := [some (vr k0), none, some (vi (x2 + 1))]) dX0_removeMark_20 rfl (by decide) rfl ?_
    refine V_goto (tgt := 4) dX0_removeMark_23 rfl ?_
    exact V.sub (SubL_s (SubL_n (SubL_s (SubL_0)))) h

set_option maxRecDepth 100000 in
theorem BX0_moveMark_0 {σ : Sg} {post : Po} {k0 : Nat} {x1 : Int} {x2 : Int} (hk0 : shp[k0]? = some (0, 0, 14))
  (h : (0 ≤ x1 ∧ x1 < 60) ∧ ((0 ≤ x2 ∧ x2 < 60) ∧ (((σ (k0 + 11) x1) = 0 ∨ (σ (k0 + 11) x1) = 1) ∧ (post none (up (up (up (up (up σ (k0 + 7) x2 (σ (k0 + 7) x1)) (k0 + 8) x2 (σ (k0 + 8) x1)) (k0 + 9) x2 (σ (k0 + 9) x1)) (k0 + 10) x2 (σ (k0 + 10) x1)) (k0 + 11) x2 (σ (k0 + 11) x1)))))) :
  V mX0_moveMark 0 [some (vr k0), some (vi x1), some (vi x2)] [] σ post := by
  refine V_aload_n dX0_moveMark_0 rfl rfl ?_
  refine V_getR (k2 := (k0 + 7)) flX0_38 hk0 rfl (by decide) dX0_moveMark_1 ?_
  refine V_iload_n dX0_moveMark_4 rfl rfl ?_
  refine V_aload_n dX0_moveMark_5 rfl rfl ?_
  refine V_getR (k2 := (k0 + 7)) flX0_38 hk0 rfl (by decide) dX0_moveMark_6 ?_
  refine V_iload_n dX0_moveMark_9 rfl rfl ?_
  obtain ⟨r1, h⟩ := h
  refine V_iald (f := (σ (k0 + 7) x1)) (sh0_7 hk0) r1 (rfl) dX0_moveMark_10 ?_
  obtain ⟨r2, h⟩ := h
  refine V_iast (sh0_7 hk0) r2 dX0_moveMark_11 ?_
  refine V_aload_n dX0_moveMark_12 rfl rfl ?_
  refine V_getR (k2 := (k0 + 8)) flX0_41 hk0 rfl (by decide) dX0_moveMark_13 ?_
  refine V_iload_n dX0_moveMark_16 rfl rfl ?_
  refine V_aload_n dX0_moveMark_17 rfl rfl ?_
  refine V_getR (k2 := (k0 + 8)) flX0_41 hk0 rfl (by decide) dX0_moveMark_18 ?_
  refine V_iload_n dX0_moveMark_21 rfl rfl ?_
  refine V_iald (f := (σ (k0 + 8) x1)) (sh0_8 hk0) r1 (up_o (by omega)) dX0_moveMark_22 ?_
  refine V_iast (sh0_8 hk0) r2 dX0_moveMark_23 ?_
  refine V_aload_n dX0_moveMark_24 rfl rfl ?_
  refine V_getR (k2 := (k0 + 9)) flX0_44 hk0 rfl (by decide) dX0_moveMark_25 ?_
  refine V_iload_n dX0_moveMark_28 rfl rfl ?_
  refine V_aload_n dX0_moveMark_29 rfl rfl ?_
  refine V_getR (k2 := (k0 + 9)) flX0_44 hk0 rfl (by decide) dX0_moveMark_30 ?_
  refine V_iload_n dX0_moveMark_33 rfl rfl ?_
  refine V_iald (f := (σ (k0 + 9) x1)) (sh0_9 hk0) r1 ((up_o (by omega)).trans (up_o (by omega))) dX0_moveMark_34 ?_
  refine V_iast (sh0_9 hk0) r2 dX0_moveMark_35 ?_
  refine V_aload_n dX0_moveMark_36 rfl rfl ?_
  refine V_getR (k2 := (k0 + 10)) flX0_47 hk0 rfl (by decide) dX0_moveMark_37 ?_
  refine V_iload_n dX0_moveMark_40 rfl rfl ?_
  refine V_aload_n dX0_moveMark_41 rfl rfl ?_
  refine V_getR (k2 := (k0 + 10)) flX0_47 hk0 rfl (by decide) dX0_moveMark_42 ?_
  refine V_iload_n dX0_moveMark_45 rfl rfl ?_
  refine V_iald (f := (σ (k0 + 10) x1)) (sh0_10 hk0) r1 ((up_o (by omega)).trans ((up_o (by omega)).trans (up_o (by omega)))) dX0_moveMark_46 ?_
  refine V_iast (sh0_10 hk0) r2 dX0_moveMark_47 ?_
  refine V_aload_n dX0_moveMark_48 rfl rfl ?_
  refine V_getR (k2 := (k0 + 11)) flX0_50 hk0 rfl (by decide) dX0_moveMark_49 ?_
  refine V_iload_n dX0_moveMark_52 rfl rfl ?_
  refine V_aload_n dX0_moveMark_53 rfl rfl ?_
  refine V_getR (k2 := (k0 + 11)) flX0_50 hk0 rfl (by decide) dX0_moveMark_54 ?_
  refine V_iload_n dX0_moveMark_57 rfl rfl ?_
  refine V_zald (f := (σ (k0 + 11) x1)) (sh0_11 hk0) r1 ((up_o (by omega)).trans ((up_o (by omega)).trans ((up_o (by omega)).trans (up_o (by omega))))) dX0_moveMark_58 ?_
  obtain ⟨r3, h⟩ := h
  refine V_zast (sh0_11 hk0) r2 r3 dX0_moveMark_59 ?_
  exact V_return (stk := []) rfl dX0_moveMark_60 h

set_option maxRecDepth 100000 in
theorem BX0_marksOf_0 {σ : Sg} {post : Po} {k0 : Nat} {x1 : Int} (hk0 : shp[k0]? = some (0, 0, 14))
  (h : V mX0_marksOf 4 [some (vr k0), some (vi x1), some (vi 0), some (vi 0)] [] σ post) :
  V mX0_marksOf 0 [some (vr k0), some (vi x1), none, none] [] σ post := by
  refine V_iconst dX0_marksOf_0 ?_
  refine V_istore_n (L' := [some (vr k0), some (vi x1), some (vi 0), none]) dX0_marksOf_1 rfl (by decide) rfl ?_
  refine V_iconst dX0_marksOf_2 ?_
  refine V_istore_n (L' := [some (vr k0), some (vi x1), some (vi 0), some (vi 0)]) dX0_marksOf_3 rfl (by decide) rfl ?_
  exact V.sub (SubL_s (SubL_s (SubL_s (SubL_s (SubL_0))))) h
set_option maxRecDepth 100000 in
theorem BX0_marksOf_4 {σ : Sg} {post : Po} {k0 : Nat} {x1 : Int} {x2 : Int} {x3 : Int} (hk0 : shp[k0]? = some (0, 0, 14))
  (h : (rng x3) ∧ ((rng (σ k0 7)) ∧ (((σ k0 7) ≤ x3 → post (some (vi x2)) σ) ∧ (¬ (σ k0 7) ≤ x3 → (0 ≤ x3 ∧ x3 < 60) ∧ ((rng (σ (k0 + 7) x3)) ∧ ((rng x1) ∧ ((¬ (σ (k0 + 7) x3) = x1 → V mX0_marksOf 4 [some (vr k0), some (vi x1), some (vi x2), some (vi (x3 + 1))] [] σ post) ∧ ((σ (k0 + 7) x3) = x1 → V mX0_marksOf 4 [some (vr k0), some (vi x1), some (vi (x2 + 1)), some (vi (x3 + 1))] [] σ post)))))))) :
  V mX0_marksOf 4 [some (vr k0), some (vi x1), some (vi x2), some (vi x3)] [] σ post := by
  refine V_iload_n dX0_marksOf_4 rfl rfl ?_
  refine V_aload_n dX0_marksOf_5 rfl rfl ?_
  refine V_getI (f := (σ k0 7)) flX0_35 hk0 (rfl) (by decide) dX0_marksOf_6 ?_
  obtain ⟨r1, h⟩ := h
  obtain ⟨r2, h⟩ := h
  refine V_icmp_ge (tgt := 31) dX0_marksOf_9 rfl r1 r2 (fun q => ?_) (fun q => ?_)
  · replace h := h.1 q
    refine V_iload_n dX0_marksOf_31 rfl rfl ?_
    exact V_ireturn (stk := []) rfl dX0_marksOf_32 h
  · replace h := h.2 q
    refine V_aload_n dX0_marksOf_12 rfl rfl ?_
    refine V_getR (k2 := (k0 + 7)) flX0_38 hk0 rfl (by decide) dX0_marksOf_13 ?_
    refine V_iload_n dX0_marksOf_16 rfl rfl ?_
    obtain ⟨r3, h⟩ := h
    refine V_iald (f := (σ (k0 + 7) x3)) (sh0_7 hk0) r3 (rfl) dX0_marksOf_17 ?_
    refine V_iload_n dX0_marksOf_18 rfl rfl ?_
    obtain ⟨r4, h⟩ := h
    obtain ⟨r5, h⟩ := h
    refine V_icmp_ne (tgt := 25) dX0_marksOf_19 rfl r4 r5 (fun q => ?_) (fun q => ?_)
    · replace h := h.1 q
      refine V_iinc (L' := [some (vr k0), some (vi x1), some (vi x2), some (vi (x3 + 1))]) dX0_marksOf_25 rfl (by decide) rfl ?_
      refine V_goto (tgt := 4) dX0_marksOf_28 rfl ?_
      exact V.sub (SubL_s (SubL_s (SubL_s (SubL_s (SubL_0))))) h
    · replace h := h.2 q
      refine V_iinc (L' := [some (vr k0), some (vi x1), some (vi (x2 + 1)), some (vi x3)]) dX0_marksOf_22 rfl (by decide) rfl ?_
      refine V_iinc (L' := [some (vr k0), some (vi x1), some (vi (x2 + 1)), some (vi (x3 + 1))]) dX0_marksOf_25 rfl (by decide) rfl ?_
      refine V_goto (tgt := 4) dX0_marksOf_28 rfl ?_
      exact V.sub (SubL_s (SubL_s (SubL_s (SubL_s (SubL_0))))) h

set_option maxRecDepth 100000 in
theorem BX0_filledHeads_0 {σ : Sg} {post : Po} {k0 : Nat} (hk0 : shp[k0]? = some (0, 0, 14))
  (h : V mX0_filledHeads 4 [some (vr k0), some (vi 0), some (vi 0)] [] σ post) :
  V mX0_filledHeads 0 [some (vr k0), none, none] [] σ post := by
  refine V_iconst dX0_filledHeads_0 ?_
  refine V_istore_n (L' := [some (vr k0), some (vi 0), none]) dX0_filledHeads_1 rfl (by decide) rfl ?_
  refine V_iconst dX0_filledHeads_2 ?_
  refine V_istore_n (L' := [some (vr k0), some (vi 0), some (vi 0)]) dX0_filledHeads_3 rfl (by decide) rfl ?_
  exact V.sub (SubL_s (SubL_s (SubL_s (SubL_0)))) h
set_option maxRecDepth 100000 in
theorem BX0_filledHeads_4 {σ : Sg} {post : Po} {k0 : Nat} {x1 : Int} {x2 : Int} (hk0 : shp[k0]? = some (0, 0, 14))
  (h : (rng x2) ∧ ((rng (σ k0 7)) ∧ (((σ k0 7) ≤ x2 → post (some (vi x1)) σ) ∧ (¬ (σ k0 7) ≤ x2 → (0 ≤ x2 ∧ x2 < 60) ∧ (V mX0_filledHeads 4 [some (vr k0), some (vi (iOr x1 (iShl 1 (σ (k0 + 7) x2)))), some (vi (x2 + 1))] [] σ post))))) :
  V mX0_filledHeads 4 [some (vr k0), some (vi x1), some (vi x2)] [] σ post := by
  refine V_iload_n dX0_filledHeads_4 rfl rfl ?_
  refine V_aload_n dX0_filledHeads_5 rfl rfl ?_
  refine V_getI (f := (σ k0 7)) flX0_35 hk0 (rfl) (by decide) dX0_filledHeads_6 ?_
  obtain ⟨r1, h⟩ := h
  obtain ⟨r2, h⟩ := h
  refine V_icmp_ge (tgt := 29) dX0_filledHeads_9 rfl r1 r2 (fun q => ?_) (fun q => ?_)
  · replace h := h.1 q
    refine V_iload_n dX0_filledHeads_29 rfl rfl ?_
    exact V_ireturn (stk := []) rfl dX0_filledHeads_30 h
  · replace h := h.2 q
    refine V_iload_n dX0_filledHeads_12 rfl rfl ?_
    refine V_iconst dX0_filledHeads_13 ?_
    refine V_aload_n dX0_filledHeads_14 rfl rfl ?_
    refine V_getR (k2 := (k0 + 7)) flX0_38 hk0 rfl (by decide) dX0_filledHeads_15 ?_
    refine V_iload_n dX0_filledHeads_18 rfl rfl ?_
    obtain ⟨r3, h⟩ := h
    refine V_iald (f := (σ (k0 + 7) x2)) (sh0_7 hk0) r3 (rfl) dX0_filledHeads_19 ?_
    refine V_ishl dX0_filledHeads_20 ?_
    refine V_ior dX0_filledHeads_21 ?_
    refine V_istore_n (L' := [some (vr k0), some (vi (iOr x1 (iShl 1 (σ (k0 + 7) x2)))), some (vi x2)]) dX0_filledHeads_22 rfl (by decide) rfl ?_
    refine V_iinc (L' := [some (vr k0), some (vi (iOr x1 (iShl 1 (σ (k0 + 7) x2)))), some (vi (x2 + 1))]) dX0_filledHeads_23 rfl (by decide) rfl ?_
    refine V_goto (tgt := 4) dX0_filledHeads_26 rfl ?_
    exact V.sub (SubL_s (SubL_s (SubL_s (SubL_0)))) h

set_option maxRecDepth 100000 in
theorem BX0_markedSubs_0 {σ : Sg} {post : Po} {k0 : Nat} {x1 : Int} (hk0 : shp[k0]? = some (0, 0, 14))
  (h : V mX0_markedSubs 4 [some (vr k0), some (vi x1), some (vi 0), some (vi 0)] [] σ post) :
  V mX0_markedSubs 0 [some (vr k0), some (vi x1), none, none] [] σ post := by
  refine V_iconst dX0_markedSubs_0 ?_
  refine V_istore_n (L' := [some (vr k0), some (vi x1), some (vi 0), none]) dX0_markedSubs_1 rfl (by decide) rfl ?_
  refine V_iconst dX0_markedSubs_2 ?_
  refine V_istore_n (L' := [some (vr k0), some (vi x1), some (vi 0), some (vi 0)]) dX0_markedSubs_3 rfl (by decide) rfl ?_
  exact V.sub (SubL_s (SubL_s (SubL_s (SubL_s (SubL_0))))) h
set_option maxRecDepth 100000 in
theorem BX0_markedSubs_4 {σ : Sg} {post : Po} {k0 : Nat} {x1 : Int} {x2 : Int} {x3 : Int} (hk0 : shp[k0]? = some (0, 0, 14))
  (h : (rng x3) ∧ ((rng (σ k0 7)) ∧ (((σ k0 7) ≤ x3 → post (some (vi x2)) σ) ∧ (¬ (σ k0 7) ≤ x3 → (0 ≤ x3 ∧ x3 < 60) ∧ ((rng (σ (k0 + 7) x3)) ∧ ((rng x1) ∧ ((¬ (σ (k0 + 7) x3) = x1 → V mX0_markedSubs 4 [some (vr k0), some (vi x1), some (vi x2), some (vi (x3 + 1))] [] σ post) ∧ ((σ (k0 + 7) x3) = x1 → (rng (σ (k0 + 8) x3)) ∧ (((σ (k0 + 8) x3) = (-1) → V mX0_markedSubs 4 [some (vr k0), some (vi x1), some (vi x2), some (vi (x3 + 1))] [] σ post) ∧ (¬ (σ (k0 + 8) x3) = (-1) → V mX0_markedSubs 4 [some (vr k0), some (vi x1), some (vi (iOr x2 (iShl 1 (σ (k0 + 8) x3)))), some (vi (x3 + 1))] [] σ post)))))))))) :
  V mX0_markedSubs 4 [some (vr k0), some (vi x1), some (vi x2), some (vi x3)] [] σ post := by
  refine V_iload_n dX0_markedSubs_4 rfl rfl ?_
  refine V_aload_n dX0_markedSubs_5 rfl rfl ?_
  refine V_getI (f := (σ k0 7)) flX0_35 hk0 (rfl) (by decide) dX0_markedSubs_6 ?_
  obtain ⟨r1, h⟩ := h
  obtain ⟨r2, h⟩ := h
  refine V_icmp_ge (tgt := 49) dX0_markedSubs_9 rfl r1 r2 (fun q => ?_) (fun q => ?_)
  · replace h := h.1 q
    refine V_iload_n dX0_markedSubs_49 rfl rfl ?_
    exact V_ireturn (stk := []) rfl dX0_markedSubs_50 h
  · replace h := h.2 q
    refine V_aload_n dX0_markedSubs_12 rfl rfl ?_
    refine V_getR (k2 := (k0 + 7)) flX0_38 hk0 rfl (by decide) dX0_markedSubs_13 ?_
    refine V_iload_n dX0_markedSubs_16 rfl rfl ?_
    obtain ⟨r3, h⟩ := h
    refine V_iald (f := (σ (k0 + 7) x3)) (sh0_7 hk0) r3 (rfl) dX0_markedSubs_17 ?_
    refine V_iload_n dX0_markedSubs_18 rfl rfl ?_
    obtain ⟨r4, h⟩ := h
    obtain ⟨r5, h⟩ := h
    refine V_icmp_ne (tgt := 43) dX0_markedSubs_19 rfl r4 r5 (fun q => ?_) (fun q => ?_)
    · replace h := h.1 q
      refine V_iinc (L' := [some (vr k0), some (vi x1), some (vi x2), some (vi (x3 + 1))]) dX0_markedSubs_43 rfl (by decide) rfl ?_
      refine V_goto (tgt := 4) dX0_markedSubs_46 rfl ?_
      exact V.sub (SubL_s (SubL_s (SubL_s (SubL_s (SubL_0))))) h
    · replace h := h.2 q
      refine V_aload_n dX0_markedSubs_22 rfl rfl ?_
      refine V_getR (k2 := (k0 + 8)) flX0_41 hk0 rfl (by decide) dX0_markedSubs_23 ?_
      refine V_iload_n dX0_markedSubs_26 rfl rfl ?_
      refine V_iald (f := (σ (k0 + 8) x3)) (sh0_8 hk0) r3 (rfl) dX0_markedSubs_27 ?_
      refine V_iconst dX0_markedSubs_28 ?_
      obtain ⟨r6, h⟩ := h
      refine V_icmp_eq (tgt := 43) dX0_markedSubs_29 rfl r6 (by decide) (fun q => ?_) (fun q => ?_)
      · replace h := h.1 q
        refine V_iinc (L' := [some (vr k0), some (vi x1), some (vi x2), some (vi (x3 + 1))]) dX0_markedSubs_43 rfl (by decide) rfl ?_
        refine V_goto (tgt := 4) dX0_markedSubs_46 rfl ?_
        exact V.sub (SubL_s (SubL_s (SubL_s (SubL_s (SubL_0))))) h
      · replace h := h.2 q
        refine V_iload_n dX0_markedSubs_32 rfl rfl ?_
        refine V_iconst dX0_markedSubs_33 ?_
        refine V_aload_n dX0_markedSubs_34 rfl rfl ?_
        refine V_getR (k2 := (k0 + 8)) flX0_41 hk0 rfl (by decide) dX0_markedSubs_35 ?_
        refine V_iload_n dX0_markedSubs_38 rfl rfl ?_
        refine V_iald (f := (σ (k0 + 8) x3)) (sh0_8 hk0) r3 (rfl) dX0_markedSubs_39 ?_
        refine V_ishl dX0_markedSubs_40 ?_
        refine V_ior dX0_markedSubs_41 ?_
        refine V_istore_n (L' := [some (vr k0), some (vi x1), some (vi (iOr x2 (iShl 1 (σ (k0 + 8) x3)))), some (vi x3)]) dX0_markedSubs_42 rfl (by decide) rfl ?_
        refine V_iinc (L' := [some (vr k0), some (vi x1), some (vi (iOr x2 (iShl 1 (σ (k0 + 8) x3)))), some (vi (x3 + 1))]) dX0_markedSubs_43 rfl (by decide) rfl ?_
        refine V_goto (tgt := 4) dX0_markedSubs_46 rfl ?_
        exact V.sub (SubL_s (SubL_s (SubL_s (SubL_s (SubL_0))))) h

set_option maxRecDepth 100000 in
theorem BX0_gatherRuns_0 {σ : Sg} {post : Po} {k0 : Nat} {x1 : Int} {x2 : Int} {k3 : Nat} (hk0 : shp[k0]? = some (0, 0, 14)) (hk3 : shp[k3]? = some (0, 7, 4))
  (h : Cl mX7_clear [vr k3] σ (pV fun σ1 => V mX0_gatherRuns 7 [some (vr k0), some (vi x1), some (vi x2), some (vr k3), some (vi 0)] [] σ1 post)) :
  V mX0_gatherRuns 0 [some (vr k0), some (vi x1), some (vi x2), some (vr k3), none] [] σ post := by
  refine V_aload_n dX0_gatherRuns_0 rfl rfl ?_
  refine V_callV (av := []) (stk := []) cvX0_72 hk3 rfl rfl (by decide) (by simp [ctg]) dX0_gatherRuns_1 h ?_
  rintro _ σ1 ⟨rfl, h⟩
  refine V_iconst dX0_gatherRuns_4 ?_
  refine V_istore (L' := [some (vr k0), some (vi x1), some (vi x2), some (vr k3), some (vi 0)]) dX0_gatherRuns_5 (by decide) rfl ?_
  exact V.sub (SubL_s (SubL_s (SubL_s (SubL_s (SubL_s (SubL_0)))))) h
set_option maxRecDepth 100000 in
theorem BX0_gatherRuns_7 {σ : Sg} {post : Po} {k0 : Nat} {x1 : Int} {x2 : Int} {k3 : Nat} {x4 : Int} (hk0 : shp[k0]? = some (0, 0, 14)) (hk3 : shp[k3]? = some (0, 7, 4))
  (h : (rng x4) ∧ ((rng (σ k0 7)) ∧ (((σ k0 7) ≤ x4 → post none σ) ∧ (¬ (σ k0 7) ≤ x4 → (0 ≤ x4 ∧ x4 < 60) ∧ ((rng (σ (k0 + 7) x4)) ∧ ((rng x1) ∧ ((¬ (σ (k0 + 7) x4) = x1 → V mX0_gatherRuns 7 [some (vr k0), some (vi x1), some (vi x2), some (vr k3), some (vi (x4 + 1))] [] σ post) ∧ ((σ (k0 + 7) x4) = x1 → (rng x2) ∧ ((x2 = (-2) → Cl mX7_put [vr k3, vi (σ (k0 + 9) x4), vi (σ (k0 + 10) x4), vi (σ (k0 + 11) x4)] σ (pV fun σ1 => V mX0_gatherRuns 7 [some (vr k0), some (vi x1), some (vi x2), some (vr k3), some (vi (x4 + 1))] [] σ1 post)) ∧ (¬ x2 = (-2) → (rng (σ (k0 + 8) x4)) ∧ ((¬ (σ (k0 + 8) x4) = x2 → V mX0_gatherRuns 7 [some (vr k0), some (vi x1), some (vi x2), some (vr k3), some (vi (x4 + 1))] [] σ post) ∧ ((σ (k0 + 8) x4) = x2 → Cl mX7_put [vr k3, vi (σ (k0 + 9) x4), vi (σ (k0 + 10) x4), vi (σ (k0 + 11) x4)] σ (pV fun σ2 => V mX0_gatherRuns 7 [some (vr k0), some (vi x1), some (vi x2), some (vr k3), some (vi (x4 + 1))] [] σ2 post))))))))))))) :
  V mX0_gatherRuns 7 [some (vr k0), some (vi x1), some (vi x2), some (vr k3), some (vi x4)] [] σ post := by
  refine V_iload dX0_gatherRuns_7 rfl ?_
  refine V_aload_n dX0_gatherRuns_9 rfl rfl ?_
  refine V_getI (f := (σ k0 7)) flX0_35 hk0 (rfl) (by decide) dX0_gatherRuns_10 ?_
  obtain ⟨r1, h⟩ := h
  obtain ⟨r2, h⟩ := h
  refine V_icmp_ge (tgt := 75) dX0_gatherRuns_13 rfl r1 r2 (fun q => ?_) (fun q => ?_)
  · replace h := h.1 q
    exact V_return (stk := []) rfl dX0_gatherRuns_75 h
  · replace h := h.2 q
    refine V_aload_n dX0_gatherRuns_16 rfl rfl ?_
    refine V_getR (k2 := (k0 + 7)) flX0_38 hk0 rfl (by decide) dX0_gatherRuns_17 ?_
    refine V_iload dX0_gatherRuns_20 rfl ?_
    obtain ⟨r3, h⟩ := h
    refine V_iald (f := (σ (k0 + 7) x4)) (sh0_7 hk0) r3 (rfl) dX0_gatherRuns_22 ?_
    refine V_iload_n dX0_gatherRuns_23 rfl rfl ?_
    obtain ⟨r4, h⟩ := h
    obtain ⟨r5, h⟩ := h
    refine V_icmp_ne (tgt := 69) dX0_gatherRuns_24 rfl r4 r5 (fun q => ?_) (fun q => ?_)
    · replace h := h.1 q
      refine V_iinc (L' := [some (vr k0), some (vi x1), some (vi x2), some (vr k3), some (vi (x4 + 1))]) dX0_gatherRuns_69 rfl (by decide) rfl ?_
      refine V_goto (tgt := 7) dX0_gatherRuns_72 rfl ?_
      exact V.sub (SubL_s (SubL_s (SubL_s (SubL_s (SubL_s (SubL_0)))))) h
    · replace h := h.2 q
      refine V_iload_n dX0_gatherRuns_27 rfl rfl ?_
      refine V_bipush dX0_gatherRuns_28 (by decide) ?_
      obtain ⟨r6, h⟩ := h
      refine V_icmp_eq (tgt := 44) dX0_gatherRuns_30 rfl r6 (by decide) (fun q => ?_) (fun q => ?_)
      · replace h := h.1 q
        refine V_aload_n dX0_gatherRuns_44 rfl rfl ?_
        refine V_aload_n dX0_gatherRuns_45 rfl rfl ?_
        refine V_getR (k2 := (k0 + 9)) flX0_44 hk0 rfl (by decide) dX0_gatherRuns_46 ?_
        refine V_iload dX0_gatherRuns_49 rfl ?_
        refine V_iald (f := (σ (k0 + 9) x4)) (sh0_9 hk0) r3 (rfl) dX0_gatherRuns_51 ?_
        refine V_aload_n dX0_gatherRuns_52 rfl rfl ?_
        refine V_getR (k2 := (k0 + 10)) flX0_47 hk0 rfl (by decide) dX0_gatherRuns_53 ?_
        refine V_iload dX0_gatherRuns_56 rfl ?_
        refine V_iald (f := (σ (k0 + 10) x4)) (sh0_10 hk0) r3 (rfl) dX0_gatherRuns_58 ?_
        refine V_aload_n dX0_gatherRuns_59 rfl rfl ?_
        refine V_getR (k2 := (k0 + 11)) flX0_50 hk0 rfl (by decide) dX0_gatherRuns_60 ?_
        refine V_iload dX0_gatherRuns_63 rfl ?_
        refine V_zald (f := (σ (k0 + 11) x4)) (sh0_11 hk0) r3 (rfl) dX0_gatherRuns_65 ?_
        refine V_callV (av := [vi (σ (k0 + 9) x4), vi (σ (k0 + 10) x4), vi (σ (k0 + 11) x4)]) (stk := []) cvX0_77 hk3 rfl rfl (by decide) (by simp [ctg]) dX0_gatherRuns_66 h ?_
        rintro _ σ1 ⟨rfl, h⟩
        refine V_iinc (L' := [some (vr k0), some (vi x1), some (vi x2), some (vr k3), some (vi (x4 + 1))]) dX0_gatherRuns_69 rfl (by decide) rfl ?_
        refine V_goto (tgt := 7) dX0_gatherRuns_72 rfl ?_
        exact V.sub (SubL_s (SubL_s (SubL_s (SubL_s (SubL_s (SubL_0)))))) h
      · replace h := h.2 q
        refine V_aload_n dX0_gatherRuns_33 rfl rfl ?_
        refine V_getR (k2 := (k0 + 8)) flX0_41 hk0 rfl (by decide) dX0_gatherRuns_34 ?_
        refine V_iload dX0_gatherRuns_37 rfl ?_
        refine V_iald (f := (σ (k0 + 8) x4)) (sh0_8 hk0) r3 (rfl) dX0_gatherRuns_39 ?_
        refine V_iload_n dX0_gatherRuns_40 rfl rfl ?_
        obtain ⟨r7, h⟩ := h
        refine V_icmp_ne (tgt := 69) dX0_gatherRuns_41 rfl r7 r6 (fun q => ?_) (fun q => ?_)
        · replace h := h.1 q
          refine V_iinc (L' := [some (vr k0), some (vi x1), some (vi x2), some (vr k3), some (vi (x4 + 1))]) dX0_gatherRuns_69 rfl (by decide) rfl ?_
          refine V_goto (tgt := 7) dX0_gatherRuns_72 rfl ?_
          exact V.sub (SubL_s (SubL_s (SubL_s (SubL_s (SubL_s (SubL_0)))))) h
        · replace h := h.2 q
          refine V_aload_n dX0_gatherRuns_44 rfl rfl ?_
          refine V_aload_n dX0_gatherRuns_45 rfl rfl ?_
          refine V_getR (k2 := (k0 + 9)) flX0_44 hk0 rfl (by decide) dX0_gatherRuns_46 ?_
          refine V_iload dX0_gatherRuns_49 rfl ?_
          refine V_iald (f := (σ (k0 + 9) x4)) (sh0_9 hk0) r3 (rfl) dX0_gatherRuns_51 ?_
          refine V_aload_n dX0_gatherRuns_52 rfl rfl ?_
          refine V_getR (k2 := (k0 + 10)) flX0_47 hk0 rfl (by decide) dX0_gatherRuns_53 ?_
          refine V_iload dX0_gatherRuns_56 rfl ?_
          refine V_iald (f := (σ (k0 + 10) x4)) (sh0_10 hk0) r3 (rfl) dX0_gatherRuns_58 ?_
          refine V_aload_n dX0_gatherRuns_59 rfl rfl ?_
          refine V_getR (k2 := (k0 + 11)) flX0_50 hk0 rfl (by decide) dX0_gatherRuns_60 ?_
          refine V_iload dX0_gatherRuns_63 rfl ?_
          refine V_zald (f := (σ (k0 + 11) x4)) (sh0_11 hk0) r3 (rfl) dX0_gatherRuns_65 ?_
          refine V_callV (av := [vi (σ (k0 + 9) x4), vi (σ (k0 + 10) x4), vi (σ (k0 + 11) x4)]) (stk := []) cvX0_77 hk3 rfl rfl (by decide) (by simp [ctg]) dX0_gatherRuns_66 h ?_
          rintro _ σ2 ⟨rfl, h⟩
          refine V_iinc (L' := [some (vr k0), some (vi x1), some (vi x2), some (vr k3), some (vi (x4 + 1))]) dX0_gatherRuns_69 rfl (by decide) rfl ?_
          refine V_goto (tgt := 7) dX0_gatherRuns_72 rfl ?_
          exact V.sub (SubL_s (SubL_s (SubL_s (SubL_s (SubL_s (SubL_0)))))) h

set_option maxRecDepth 100000 in
theorem BX0_headsWith_0 {σ : Sg} {post : Po} {k0 : Nat} {x1 : Int} (hk0 : shp[k0]? = some (0, 0, 14))
  (h : V mX0_headsWith 4 [some (vr k0), some (vi x1), some (vi 0), some (vi 0)] [] σ post) :
  V mX0_headsWith 0 [some (vr k0), some (vi x1), none, none] [] σ post := by
  refine V_iconst dX0_headsWith_0 ?_
  refine V_istore_n (L' := [some (vr k0), some (vi x1), some (vi 0), none]) dX0_headsWith_1 rfl (by decide) rfl ?_
  refine V_iconst dX0_headsWith_2 ?_
  refine V_istore_n (L' := [some (vr k0), some (vi x1), some (vi 0), some (vi 0)]) dX0_headsWith_3 rfl (by decide) rfl ?_
  exact V.sub (SubL_s (SubL_s (SubL_s (SubL_s (SubL_0))))) h
set_option maxRecDepth 100000 in
theorem BX0_headsWith_4 {σ : Sg} {post : Po} {k0 : Nat} {x1 : Int} {x2 : Int} {x3 : Int} (hk0 : shp[k0]? = some (0, 0, 14))
  (h : (rng x3) ∧ ((rng (σ k0 7)) ∧ (((σ k0 7) ≤ x3 → post (some (vi x2)) σ) ∧ (¬ (σ k0 7) ≤ x3 → (0 ≤ x3 ∧ x3 < 60) ∧ ((rng (σ (k0 + 9) x3)) ∧ ((rng x1) ∧ ((x1 < (σ (k0 + 9) x3) → V mX0_headsWith 4 [some (vr k0), some (vi x1), some (vi x2), some (vi (x3 + 1))] [] σ post) ∧ (¬ x1 < (σ (k0 + 9) x3) → (rng (σ (k0 + 10) x3)) ∧ (((σ (k0 + 10) x3) < x1 → V mX0_headsWith 4 [some (vr k0), some (vi x1), some (vi x2), some (vi (x3 + 1))] [] σ post) ∧ (¬ (σ (k0 + 10) x3) < x1 → V mX0_headsWith 4 [some (vr k0), some (vi x1), some (vi (iOr x2 (iShl 1 (σ (k0 + 7) x3)))), some (vi (x3 + 1))] [] σ post)))))))))) :
  V mX0_headsWith 4 [some (vr k0), some (vi x1), some (vi x2), some (vi x3)] [] σ post := by
  refine V_iload_n dX0_headsWith_4 rfl rfl ?_
  refine V_aload_n dX0_headsWith_5 rfl rfl ?_
  refine V_getI (f := (σ k0 7)) flX0_35 hk0 (rfl) (by decide) dX0_headsWith_6 ?_
  obtain ⟨r1, h⟩ := h
  obtain ⟨r2, h⟩ := h
  refine V_icmp_ge (tgt := 49) dX0_headsWith_9 rfl r1 r2 (fun q => ?_) (fun q => ?_)
  · replace h := h.1 q
    refine V_iload_n dX0_headsWith_49 rfl rfl ?_
    exact V_ireturn (stk := []) rfl dX0_headsWith_50 h
  · replace h := h.2 q
    refine V_aload_n dX0_headsWith_12 rfl rfl ?_
    refine V_getR (k2 := (k0 + 9)) flX0_44 hk0 rfl (by decide) dX0_headsWith_13 ?_
    refine V_iload_n dX0_headsWith_16 rfl rfl ?_
    obtain ⟨r3, h⟩ := h
    refine V_iald (f := (σ (k0 + 9) x3)) (sh0_9 hk0) r3 (rfl) dX0_headsWith_17 ?_
    refine V_iload_n dX0_headsWith_18 rfl rfl ?_
    obtain ⟨r4, h⟩ := h
    obtain ⟨r5, h⟩ := h
    refine V_icmp_gt (tgt := 43) dX0_headsWith_19 rfl r4 r5 (fun q => ?_) (fun q => ?_)
    · replace h := h.1 q
      refine V_iinc (L' := [some (vr k0), some (vi x1), some (vi x2), some (vi (x3 + 1))]) dX0_headsWith_43 rfl (by decide) rfl ?_
      refine V_goto (tgt := 4) dX0_headsWith_46 rfl ?_
      exact V.sub (SubL_s (SubL_s (SubL_s (SubL_s (SubL_0))))) h
    · replace h := h.2 q
      refine V_iload_n dX0_headsWith_22 rfl rfl ?_
      refine V_aload_n dX0_headsWith_23 rfl rfl ?_
      refine V_getR (k2 := (k0 + 10)) flX0_47 hk0 rfl (by decide) dX0_headsWith_24 ?_
      refine V_iload_n dX0_headsWith_27 rfl rfl ?_
      refine V_iald (f := (σ (k0 + 10) x3)) (sh0_10 hk0) r3 (rfl) dX0_headsWith_28 ?_
      obtain ⟨r6, h⟩ := h
      refine V_icmp_gt (tgt := 43) dX0_headsWith_29 rfl r5 r6 (fun q => ?_) (fun q => ?_)
      · replace h := h.1 q
        refine V_iinc (L' := [some (vr k0), some (vi x1), some (vi x2), some (vi (x3 + 1))]) dX0_headsWith_43 rfl (by decide) rfl ?_
        refine V_goto (tgt := 4) dX0_headsWith_46 rfl ?_
        exact V.sub (SubL_s (SubL_s (SubL_s (SubL_s (SubL_0))))) h
      · replace h := h.2 q
        refine V_iload_n dX0_headsWith_32 rfl rfl ?_
        refine V_iconst dX0_headsWith_33 ?_
        refine V_aload_n dX0_headsWith_34 rfl rfl ?_
        refine V_getR (k2 := (k0 + 7)) flX0_38 hk0 rfl (by decide) dX0_headsWith_35 ?_
        refine V_iload_n dX0_headsWith_38 rfl rfl ?_
        refine V_iald (f := (σ (k0 + 7) x3)) (sh0_7 hk0) r3 (rfl) dX0_headsWith_39 ?_
        refine V_ishl dX0_headsWith_40 ?_
        refine V_ior dX0_headsWith_41 ?_
        refine V_istore_n (L' := [some (vr k0), some (vi x1), some (vi (iOr x2 (iShl 1 (σ (k0 + 7) x3)))), some (vi x3)]) dX0_headsWith_42 rfl (by decide) rfl ?_
        refine V_iinc (L' := [some (vr k0), some (vi x1), some (vi (iOr x2 (iShl 1 (σ (k0 + 7) x3)))), some (vi (x3 + 1))]) dX0_headsWith_43 rfl (by decide) rfl ?_
        refine V_goto (tgt := 4) dX0_headsWith_46 rfl ?_
        exact V.sub (SubL_s (SubL_s (SubL_s (SubL_s (SubL_0))))) h

set_option maxRecDepth 100000 in
theorem BX0_stepsToFilled_0 {σ : Sg} {post : Po} {k0 : Nat} {x1 : Int} {x2 : Int} (hk0 : shp[k0]? = some (0, 0, 14))
  (h : V mX0_stepsToFilled 5 [some (vr k0), none, some (vi x2), some (vi x1), some (vi 0)] [] σ post) :
  V mX0_stepsToFilled 0 [some (vr k0), some (vi x1), some (vi x2), none, none] [] σ post := by
  refine V_iload_n dX0_stepsToFilled_0 rfl rfl ?_
  refine V_istore_n (L' := [some (vr k0), some (vi x1), some (vi x2), some (vi x1), none]) dX0_stepsToFilled_1 rfl (by decide) rfl ?_
  refine V_iconst dX0_stepsToFilled_2 ?_
  refine V_istore (L' := [some (vr k0), some (vi x1), some (vi x2), some (vi x1), some (vi 0)]) dX0_stepsToFilled_3 (by decide) rfl ?_
  exact V.sub (SubL_s (SubL_n (SubL_s (SubL_s (SubL_s (SubL_0)))))) h
set_option maxRecDepth 100000 in
theorem BX0_stepsToFilled_5 {σ : Sg} {post : Po} {k0 : Nat} {x2 : Int} {x3 : Int} {x4 : Int} (hk0 : shp[k0]? = some (0, 0, 14))
  (h : (rng x4) ∧ ((16 ≤ x4 → post (some (vi (-1))) σ) ∧ (¬ 16 ≤ x4 → Cl mX11_isIn [vi x2, vi x3] σ (pI fun z1 σ1 => (rng z1) ∧ ((z1 = 0 → (0 ≤ x3 ∧ x3 < 16) ∧ ((rng (σ1 (k0 + 4) x3)) ∧ ((¬ (σ1 (k0 + 4) x3) = (-1) → V mX0_stepsToFilled 5 [some (vr k0), none, some (vi x2), some (vi (σ1 (k0 + 4) x3)), some (vi (x4 + 1))] [] σ1 post) ∧ ((σ1 (k0 + 4) x3) = (-1) → post (some (vi (-1))) σ1)))) ∧ (¬ z1 = 0 → post (some (vi x4)) σ1)))))) :
  V mX0_stepsToFilled 5 [some (vr k0), none, some (vi x2), some (vi x3), some (vi x4)] [] σ post := by
  refine V_iload dX0_stepsToFilled_5 rfl ?_
  refine V_bipush dX0_stepsToFilled_7 (by decide) ?_
  obtain ⟨r1, h⟩ := h
  refine V_icmp_ge (tgt := 43) dX0_stepsToFilled_9 rfl r1 (by decide) (fun q => ?_) (fun q => ?_)
  · replace h := h.1 q
    refine V_iconst dX0_stepsToFilled_43 ?_
    exact V_ireturn (stk := []) rfl dX0_stepsToFilled_44 h
  · replace h := h.2 q
    refine V_iload_n dX0_stepsToFilled_12 rfl rfl ?_
    refine V_iload_n dX0_stepsToFilled_13 rfl rfl ?_
    refine V_callN (av := [vi x2, vi x3]) (stk := []) cvX0_81 rfl rfl (by decide) (by simp [ctg]) dX0_stepsToFilled_14 h ?_
    rintro _ σ1 ⟨z1, rfl, h⟩
    obtain ⟨r2, h⟩ := h
    refine V_if_eq (tgt := 23) dX0_stepsToFilled_17 rfl r2 (fun q => ?_) (fun q => ?_)
    · replace h := h.1 q
      refine V_aload_n dX0_stepsToFilled_23 rfl rfl ?_
      refine V_getR (k2 := (k0 + 4)) flX0_26 hk0 rfl (by decide) dX0_stepsToFilled_24 ?_
      refine V_iload_n dX0_stepsToFilled_27 rfl rfl ?_
      obtain ⟨r3, h⟩ := h
      refine V_iald (f := (σ1 (k0 + 4) x3)) (sh0_4 hk0) r3 (rfl) dX0_stepsToFilled_28 ?_
      refine V_istore_n (L' := [some (vr k0), none, some (vi x2), some (vi (σ1 (k0 + 4) x3)), some (vi x4)]) dX0_stepsToFilled_29 rfl (by decide) rfl ?_
      refine V_iload_n dX0_stepsToFilled_30 rfl rfl ?_
      refine V_iconst dX0_stepsToFilled_31 ?_
      obtain ⟨r4, h⟩ := h
      refine V_icmp_ne (tgt := 37) dX0_stepsToFilled_32 rfl r4 (by decide) (fun q => ?_) (fun q => ?_)
      · replace h := h.1 q
        refine V_iinc (L' := [some (vr k0), none, some (vi x2), some (vi (σ1 (k0 + 4) x3)), some (vi (x4 + 1))]) dX0_stepsToFilled_37 rfl (by decide) rfl ?_
        refine V_goto (tgt := 5) dX0_stepsToFilled_40 rfl ?_
        exact V.sub (SubL_s (SubL_n (SubL_s (SubL_s (SubL_s (SubL_0)))))) h
      · replace h := h.2 q
        refine V_iconst dX0_stepsToFilled_35 ?_
        exact V_ireturn (stk := []) rfl dX0_stepsToFilled_36 h
    · replace h := h.2 q
      refine V_iload dX0_stepsToFilled_20 rfl ?_
      exact V_ireturn (stk := []) rfl dX0_stepsToFilled_22 h

set_option maxRecDepth 100000 in
theorem BX0_headAfter_0 {σ : Sg} {post : Po} {k0 : Nat} {x1 : Int} {x2 : Int} (hk0 : shp[k0]? = some (0, 0, 14))
  (h : V mX0_headAfter 5 [some (vr k0), none, some (vi x2), some (vi x1), some (vi 0)] [] σ post) :
  V mX0_headAfter 0 [some (vr k0), some (vi x1), some (vi x2), none, none] [] σ post := by
  refine V_iload_n dX0_headAfter_0 rfl rfl ?_
  refine V_istore_n (L' := [some (vr k0), some (vi x1), some (vi x2), some (vi x1), none]) dX0_headAfter_1 rfl (by decide) rfl ?_
  refine V_iconst dX0_headAfter_2 ?_
  refine V_istore (L' := [some (vr k0), some (vi x1), some (vi x2), some (vi x1), some (vi 0)]) dX0_headAfter_3 (by decide) rfl ?_
  exact V.sub (SubL_s (SubL_n (SubL_s (SubL_s (SubL_s (SubL_0)))))) h
set_option maxRecDepth 100000 in
theorem BX0_headAfter_5 {σ : Sg} {post : Po} {k0 : Nat} {x2 : Int} {x3 : Int} {x4 : Int} (hk0 : shp[k0]? = some (0, 0, 14))
  (h : (rng x4) ∧ ((rng x2) ∧ ((x2 ≤ x4 → post (some (vi x3)) σ) ∧ (¬ x2 ≤ x4 → (0 ≤ x3 ∧ x3 < 16) ∧ ((rng (σ (k0 + 4) x3)) ∧ (((σ (k0 + 4) x3) = (-1) → post (some (vi x3)) σ) ∧ (¬ (σ (k0 + 4) x3) = (-1) → V mX0_headAfter 5 [some (vr k0), none, some (vi x2), some (vi (σ (k0 + 4) x3)), some (vi (x4 + 1))] [] σ post))))))) :
  V mX0_headAfter 5 [some (vr k0), none, some (vi x2), some (vi x3), some (vi x4)] [] σ post := by
  refine V_iload dX0_headAfter_5 rfl ?_
  refine V_iload_n dX0_headAfter_7 rfl rfl ?_
  obtain ⟨r1, h⟩ := h
  obtain ⟨r2, h⟩ := h
  refine V_icmp_ge (tgt := 34) dX0_headAfter_8 rfl r1 r2 (fun q => ?_) (fun q => ?_)
  · replace h := h.1 q
    refine V_iload_n dX0_headAfter_34 rfl rfl ?_
    exact V_ireturn (stk := []) rfl dX0_headAfter_35 h
  · replace h := h.2 q
    refine V_aload_n dX0_headAfter_11 rfl rfl ?_
    refine V_getR (k2 := (k0 + 4)) flX0_26 hk0 rfl (by decide) dX0_headAfter_12 ?_
    refine V_iload_n dX0_headAfter_15 rfl rfl ?_
    obtain ⟨r3, h⟩ := h
    refine V_iald (f := (σ (k0 + 4) x3)) (sh0_4 hk0) r3 (rfl) dX0_headAfter_16 ?_
    refine V_iconst dX0_headAfter_17 ?_
    obtain ⟨r4, h⟩ := h
    refine V_icmp_eq (tgt := 34) dX0_headAfter_18 rfl r4 (by decide) (fun q => ?_) (fun q => ?_)
    · replace h := h.1 q
      refine V_iload_n dX0_headAfter_34 rfl rfl ?_
      exact V_ireturn (stk := []) rfl dX0_headAfter_35 h
    · replace h := h.2 q
      refine V_aload_n dX0_headAfter_21 rfl rfl ?_
      refine V_getR (k2 := (k0 + 4)) flX0_26 hk0 rfl (by decide) dX0_headAfter_22 ?_
      refine V_iload_n dX0_headAfter_25 rfl rfl ?_
      refine V_iald (f := (σ (k0 + 4) x3)) (sh0_4 hk0) r3 (rfl) dX0_headAfter_26 ?_
      refine V_istore_n (L' := [some (vr k0), none, some (vi x2), some (vi (σ (k0 + 4) x3)), some (vi x4)]) dX0_headAfter_27 rfl (by decide) rfl ?_
      refine V_iinc (L' := [some (vr k0), none, some (vi x2), some (vi (σ (k0 + 4) x3)), some (vi (x4 + 1))]) dX0_headAfter_28 rfl (by decide) rfl ?_
      refine V_goto (tgt := 5) dX0_headAfter_31 rfl ?_
      exact V.sub (SubL_s (SubL_n (SubL_s (SubL_s (SubL_s (SubL_0)))))) h

set_option maxRecDepth 100000 in
theorem BX0_goesRound_0 {σ : Sg} {post : Po} {k0 : Nat} {x1 : Int} (hk0 : shp[k0]? = some (0, 0, 14))
  (h : V mX0_goesRound 4 [some (vr k0), some (vi x1), some (vi x1), some (vi 0)] [] σ post) :
  V mX0_goesRound 0 [some (vr k0), some (vi x1), none, none] [] σ post := by
  refine V_iload_n dX0_goesRound_0 rfl rfl ?_
  refine V_istore_n (L' := [some (vr k0), some (vi x1), some (vi x1), none]) dX0_goesRound_1 rfl (by decide) rfl ?_
  refine V_iconst dX0_goesRound_2 ?_
  refine V_istore_n (L' := [some (vr k0), some (vi x1), some (vi x1), some (vi 0)]) dX0_goesRound_3 rfl (by decide) rfl ?_
  exact V.sub (SubL_s (SubL_s (SubL_s (SubL_s (SubL_0))))) h
set_option maxRecDepth 100000 in
theorem BX0_goesRound_4 {σ : Sg} {post : Po} {k0 : Nat} {x1 : Int} {x2 : Int} {x3 : Int} (hk0 : shp[k0]? = some (0, 0, 14))
  (h : (rng x3) ∧ ((16 ≤ x3 → post (some (vi 0)) σ) ∧ (¬ 16 ≤ x3 → (0 ≤ x2 ∧ x2 < 16) ∧ ((rng (σ (k0 + 4) x2)) ∧ (((σ (k0 + 4) x2) = (-1) → (rng x1) ∧ ((¬ (σ (k0 + 4) x2) = x1 → post (some (vi 0)) σ) ∧ ((σ (k0 + 4) x2) = x1 → post (some (vi 1)) σ))) ∧ (¬ (σ (k0 + 4) x2) = (-1) → (rng x1) ∧ ((¬ (σ (k0 + 4) x2) = x1 → V mX0_goesRound 4 [some (vr k0), some (vi x1), some (vi (σ (k0 + 4) x2)), some (vi (x3 + 1))] [] σ post) ∧ ((σ (k0 + 4) x2) = x1 → (¬ (σ (k0 + 4) x2) = x1 → post (some (vi 0)) σ) ∧ ((σ (k0 + 4) x2) = x1 → post (some (vi 1)) σ))))))))) :
  V mX0_goesRound 4 [some (vr k0), some (vi x1), some (vi x2), some (vi x3)] [] σ post := by
  refine V_iload_n dX0_goesRound_4 rfl rfl ?_
  refine V_bipush dX0_goesRound_5 (by decide) ?_
  obtain ⟨r1, h⟩ := h
  refine V_icmp_ge (tgt := 44) dX0_goesRound_7 rfl r1 (by decide) (fun q => ?_) (fun q => ?_)
  · replace h := h.1 q
    refine V_iconst dX0_goesRound_44 ?_
    exact V_zreturn (stk := []) rfl dX0_goesRound_45 (by decide) h
  · replace h := h.2 q
    refine V_aload_n dX0_goesRound_10 rfl rfl ?_
    refine V_getR (k2 := (k0 + 4)) flX0_26 hk0 rfl (by decide) dX0_goesRound_11 ?_
    refine V_iload_n dX0_goesRound_14 rfl rfl ?_
    obtain ⟨r2, h⟩ := h
    refine V_iald (f := (σ (k0 + 4) x2)) (sh0_4 hk0) r2 (rfl) dX0_goesRound_15 ?_
    refine V_istore_n (L' := [some (vr k0), some (vi x1), some (vi (σ (k0 + 4) x2)), some (vi x3)]) dX0_goesRound_16 rfl (by decide) rfl ?_
    refine V_iload_n dX0_goesRound_17 rfl rfl ?_
    refine V_iconst dX0_goesRound_18 ?_
    obtain ⟨r3, h⟩ := h
    refine V_icmp_eq (tgt := 27) dX0_goesRound_19 rfl r3 (by decide) (fun q => ?_) (fun q => ?_)
    · replace h := h.1 q
      refine V_iload_n dX0_goesRound_27 rfl rfl ?_
      refine V_iload_n dX0_goesRound_28 rfl rfl ?_
      obtain ⟨r4, h⟩ := h
      refine V_icmp_ne (tgt := 36) dX0_goesRound_29 rfl r3 r4 (fun q => ?_) (fun q => ?_)
      · replace h := h.1 q
        refine V_iconst dX0_goesRound_36 ?_
        exact V_zreturn (stk := []) rfl dX0_goesRound_37 (by decide) h
      · replace h := h.2 q
        refine V_iconst dX0_goesRound_32 ?_
        refine V_goto (tgt := 37) dX0_goesRound_33 rfl ?_
        exact V_zreturn (stk := []) rfl dX0_goesRound_37 (by decide) h
    · replace h := h.2 q
      refine V_iload_n dX0_goesRound_22 rfl rfl ?_
      refine V_iload_n dX0_goesRound_23 rfl rfl ?_
      obtain ⟨r5, h⟩ := h
      refine V_icmp_ne (tgt := 38) dX0_goesRound_24 rfl r3 r5 (fun q => ?_) (fun q => ?_)
      · replace h := h.1 q
        refine V_iinc (L' := [some (vr k0), some (vi x1), some (vi (σ (k0 + 4) x2)), some (vi (x3 + 1))]) dX0_goesRound_38 rfl (by decide) rfl ?_
        refine V_goto (tgt := 4) dX0_goesRound_41 rfl ?_
        exact V.sub (SubL_s (SubL_s (SubL_s (SubL_s (SubL_0))))) h
      · replace h := h.2 q
        refine V_iload_n dX0_goesRound_27 rfl rfl ?_
        refine V_iload_n dX0_goesRound_28 rfl rfl ?_
        refine V_icmp_ne (tgt := 36) dX0_goesRound_29 rfl r3 r5 (fun q => ?_) (fun q => ?_)
        · replace h := h.1 q
          refine V_iconst dX0_goesRound_36 ?_
          exact V_zreturn (stk := []) rfl dX0_goesRound_37 (by decide) h
        · replace h := h.2 q
          refine V_iconst dX0_goesRound_32 ?_
          refine V_goto (tgt := 37) dX0_goesRound_33 rfl ?_
          exact V_zreturn (stk := []) rfl dX0_goesRound_37 (by decide) h

set_option maxRecDepth 100000 in
theorem BX0_oneStepOn_0 {σ : Sg} {post : Po} {k0 : Nat} {x1 : Int} (hk0 : shp[k0]? = some (0, 0, 14))
  (h : V mX0_oneStepOn 4 [some (vr k0), some (vi x1), some (vi x1), some (vi 0)] [] σ post) :
  V mX0_oneStepOn 0 [some (vr k0), some (vi x1), none, none] [] σ post := by
  refine V_iload_n dX0_oneStepOn_0 rfl rfl ?_
  refine V_istore_n (L' := [some (vr k0), some (vi x1), some (vi x1), none]) dX0_oneStepOn_1 rfl (by decide) rfl ?_
  refine V_iconst dX0_oneStepOn_2 ?_
  refine V_istore_n (L' := [some (vr k0), some (vi x1), some (vi x1), some (vi 0)]) dX0_oneStepOn_3 rfl (by decide) rfl ?_
  exact V.sub (SubL_s (SubL_s (SubL_s (SubL_s (SubL_0))))) h
set_option maxRecDepth 100000 in
theorem BX0_oneStepOn_4 {σ : Sg} {post : Po} {k0 : Nat} {x1 : Int} {x2 : Int} {x3 : Int} (hk0 : shp[k0]? = some (0, 0, 14))
  (h : (rng x3) ∧ ((rng (σ k0 0)) ∧ (((σ k0 0) ≤ x3 → post (some (vi x2)) σ) ∧ (¬ (σ k0 0) ≤ x3 → Cl mX11_isIn [vi x1, vi x3] σ (pI fun z1 σ1 => (rng z1) ∧ ((z1 = 0 → V mX0_oneStepOn 4 [some (vr k0), some (vi x1), some (vi x2), some (vi (x3 + 1))] [] σ1 post) ∧ (¬ z1 = 0 → (0 ≤ x3 ∧ x3 < 16) ∧ ((rng (σ1 (k0 + 4) x3)) ∧ (((σ1 (k0 + 4) x3) = (-1) → V mX0_oneStepOn 4 [some (vr k0), some (vi x1), some (vi (iOr x2 (σ1 (k0 + 5) x3))), some (vi (x3 + 1))] [] σ1 post) ∧ (¬ (σ1 (k0 + 4) x3) = (-1) → V mX0_oneStepOn 4 [some (vr k0), some (vi x1), some (vi (iOr (iOr x2 (σ1 (k0 + 5) x3)) (iShl 1 (σ1 (k0 + 4) x3)))), some (vi (x3 + 1))] [] σ1 post)))))))))) :
  V mX0_oneStepOn 4 [some (vr k0), some (vi x1), some (vi x2), some (vi x3)] [] σ post := by
  refine V_iload_n dX0_oneStepOn_4 rfl rfl ?_
  refine V_aload_n dX0_oneStepOn_5 rfl rfl ?_
  refine V_getI (f := (σ k0 0)) flX0_9 hk0 (rfl) (by decide) dX0_oneStepOn_6 ?_
  obtain ⟨r1, h⟩ := h
  obtain ⟨r2, h⟩ := h
  refine V_icmp_ge (tgt := 56) dX0_oneStepOn_9 rfl r1 r2 (fun q => ?_) (fun q => ?_)
  · replace h := h.1 q
    refine V_iload_n dX0_oneStepOn_56 rfl rfl ?_
    exact V_ireturn (stk := []) rfl dX0_oneStepOn_57 h
  · replace h := h.2 q
    refine V_iload_n dX0_oneStepOn_12 rfl rfl ?_
    refine V_iload_n dX0_oneStepOn_13 rfl rfl ?_
    refine V_callN (av := [vi x1, vi x3]) (stk := []) cvX0_81 rfl rfl (by decide) (by simp [ctg]) dX0_oneStepOn_14 h ?_
    rintro _ σ1 ⟨z1, rfl, h⟩
    obtain ⟨r3, h⟩ := h
    refine V_if_eq (tgt := 50) dX0_oneStepOn_17 rfl r3 (fun q => ?_) (fun q => ?_)
    · replace h := h.1 q
      refine V_iinc (L' := [some (vr k0), some (vi x1), some (vi x2), some (vi (x3 + 1))]) dX0_oneStepOn_50 rfl (by decide) rfl ?_
      refine V_goto (tgt := 4) dX0_oneStepOn_53 rfl ?_
      exact V.sub (SubL_s (SubL_s (SubL_s (SubL_s (SubL_0))))) h
    · replace h := h.2 q
      refine V_iload_n dX0_oneStepOn_20 rfl rfl ?_
      refine V_aload_n dX0_oneStepOn_21 rfl rfl ?_
      refine V_getR (k2 := (k0 + 5)) flX0_29 hk0 rfl (by decide) dX0_oneStepOn_22 ?_
      refine V_iload_n dX0_oneStepOn_25 rfl rfl ?_
      obtain ⟨r4, h⟩ := h
      refine V_iald (f := (σ1 (k0 + 5) x3)) (sh0_5 hk0) r4 (rfl) dX0_oneStepOn_26 ?_
      refine V_ior dX0_oneStepOn_27 ?_
      refine V_istore_n (L' := [some (vr k0), some (vi x1), some (vi (iOr x2 (σ1 (k0 + 5) x3))), some (vi x3)]) dX0_oneStepOn_28 rfl (by decide) rfl ?_
      refine V_aload_n dX0_oneStepOn_29 rfl rfl ?_
      refine V_getR (k2 := (k0 + 4)) flX0_26 hk0 rfl (by decide) dX0_oneStepOn_30 ?_
      refine V_iload_n dX0_oneStepOn_33 rfl rfl ?_
      refine V_iald (f := (σ1 (k0 + 4) x3)) (sh0_4 hk0) r4 (rfl) dX0_oneStepOn_34 ?_
      refine V_iconst dX0_oneStepOn_35 ?_
      obtain ⟨r5, h⟩ := h
      refine V_icmp_eq (tgt := 50) dX0_oneStepOn_36 rfl r5 (by decide) (fun q => ?_) (fun q => ?_)
      · replace h := h.1 q
        refine V_iinc (L' := [some (vr k0), some (vi x1), some (vi (iOr x2 (σ1 (k0 + 5) x3))), some (vi (x3 + 1))]) dX0_oneStepOn_50 rfl (by decide) rfl ?_
        refine V_goto (tgt := 4) dX0_oneStepOn_53 rfl ?_
        exact V.sub (SubL_s (SubL_s (SubL_s (SubL_s (SubL_0))))) h
      · replace h := h.2 q
        refine V_iload_n dX0_oneStepOn_39 rfl rfl ?_
        refine V_iconst dX0_oneStepOn_40 ?_
        refine V_aload_n dX0_oneStepOn_41 rfl rfl ?_
        refine V_getR (k2 := (k0 + 4)) flX0_26 hk0 rfl (by decide) dX0_oneStepOn_42 ?_
        refine V_iload_n dX0_oneStepOn_45 rfl rfl ?_
        refine V_iald (f := (σ1 (k0 + 4) x3)) (sh0_4 hk0) r4 (rfl) dX0_oneStepOn_46 ?_
        refine V_ishl dX0_oneStepOn_47 ?_
        refine V_ior dX0_oneStepOn_48 ?_
        refine V_istore_n (L' := [some (vr k0), some (vi x1), some (vi (iOr (iOr x2 (σ1 (k0 + 5) x3)) (iShl 1 (σ1 (k0 + 4) x3)))), some (vi x3)]) dX0_oneStepOn_49 rfl (by decide) rfl ?_
        refine V_iinc (L' := [some (vr k0), some (vi x1), some (vi (iOr (iOr x2 (σ1 (k0 + 5) x3)) (iShl 1 (σ1 (k0 + 4) x3)))), some (vi (x3 + 1))]) dX0_oneStepOn_50 rfl (by decide) rfl ?_
        refine V_goto (tgt := 4) dX0_oneStepOn_53 rfl ?_
        exact V.sub (SubL_s (SubL_s (SubL_s (SubL_s (SubL_0))))) h

set_option maxRecDepth 100000 in
theorem BX0_lastPageAbove_0 {σ : Sg} {post : Po} {k0 : Nat} {x1 : Int} (hk0 : shp[k0]? = some (0, 0, 14))
  (h : V mX0_lastPageAbove 4 [some (vr k0), some (vi x1), some (vi 0), some (vi 0)] [] σ post) :
  V mX0_lastPageAbove 0 [some (vr k0), some (vi x1), none, none] [] σ post := by
  refine V_iconst dX0_lastPageAbove_0 ?_
  refine V_istore_n (L' := [some (vr k0), some (vi x1), some (vi 0), none]) dX0_lastPageAbove_1 rfl (by decide) rfl ?_
  refine V_iconst dX0_lastPageAbove_2 ?_
  refine V_istore_n (L' := [some (vr k0), some (vi x1), some (vi 0), some (vi 0)]) dX0_lastPageAbove_3 rfl (by decide) rfl ?_
  exact V.sub (SubL_s (SubL_s (SubL_s (SubL_s (SubL_0))))) h
set_option maxRecDepth 100000 in
theorem BX0_lastPageAbove_4 {σ : Sg} {post : Po} {k0 : Nat} {x1 : Int} {x2 : Int} {x3 : Int} (hk0 : shp[k0]? = some (0, 0, 14))
  (h : (rng x3) ∧ ((rng (σ k0 7)) ∧ (((σ k0 7) ≤ x3 → post (some (vi x2)) σ) ∧ (¬ (σ k0 7) ≤ x3 → (0 ≤ x3 ∧ x3 < 60) ∧ ((rng (σ (k0 + 10) x3)) ∧ ((rng x1) ∧ (((σ (k0 + 10) x3) ≤ x1 → V mX0_lastPageAbove 4 [some (vr k0), some (vi x1), some (vi x2), some (vi (x3 + 1))] [] σ post) ∧ (¬ (σ (k0 + 10) x3) ≤ x1 → Cl mJ9_max_7cf53 [vi x2, vi (σ (k0 + 10) x3)] σ (pI fun z1 σ1 => V mX0_lastPageAbove 4 [some (vr k0), some (vi x1), some (vi z1), some (vi (x3 + 1))] [] σ1 post))))))))) :
  V mX0_lastPageAbove 4 [some (vr k0), some (vi x1), some (vi x2), some (vi x3)] [] σ post := by
  refine V_iload_n dX0_lastPageAbove_4 rfl rfl ?_
  refine V_aload_n dX0_lastPageAbove_5 rfl rfl ?_
  refine V_getI (f := (σ k0 7)) flX0_35 hk0 (rfl) (by decide) dX0_lastPageAbove_6 ?_
  obtain ⟨r1, h⟩ := h
  obtain ⟨r2, h⟩ := h
  refine V_icmp_ge (tgt := 39) dX0_lastPageAbove_9 rfl r1 r2 (fun q => ?_) (fun q => ?_)
  · replace h := h.1 q
    refine V_iload_n dX0_lastPageAbove_39 rfl rfl ?_
    exact V_ireturn (stk := []) rfl dX0_lastPageAbove_40 h
  · replace h := h.2 q
    refine V_aload_n dX0_lastPageAbove_12 rfl rfl ?_
    refine V_getR (k2 := (k0 + 10)) flX0_47 hk0 rfl (by decide) dX0_lastPageAbove_13 ?_
    refine V_iload_n dX0_lastPageAbove_16 rfl rfl ?_
    obtain ⟨r3, h⟩ := h
    refine V_iald (f := (σ (k0 + 10) x3)) (sh0_10 hk0) r3 (rfl) dX0_lastPageAbove_17 ?_
    refine V_iload_n dX0_lastPageAbove_18 rfl rfl ?_
    obtain ⟨r4, h⟩ := h
    obtain ⟨r5, h⟩ := h
    refine V_icmp_le (tgt := 33) dX0_lastPageAbove_19 rfl r4 r5 (fun q => ?_) (fun q => ?_)
    · replace h := h.1 q
      refine V_iinc (L' := [some (vr k0), some (vi x1), some (vi x2), some (vi (x3 + 1))]) dX0_lastPageAbove_33 rfl (by decide) rfl ?_
      refine V_goto (tgt := 4) dX0_lastPageAbove_36 rfl ?_
      exact V.sub (SubL_s (SubL_s (SubL_s (SubL_s (SubL_0))))) h
    · replace h := h.2 q
      refine V_iload_n dX0_lastPageAbove_22 rfl rfl ?_
      refine V_aload_n dX0_lastPageAbove_23 rfl rfl ?_
      refine V_getR (k2 := (k0 + 10)) flX0_47 hk0 rfl (by decide) dX0_lastPageAbove_24 ?_
      refine V_iload_n dX0_lastPageAbove_27 rfl rfl ?_
      refine V_iald (f := (σ (k0 + 10) x3)) (sh0_10 hk0) r3 (rfl) dX0_lastPageAbove_28 ?_
      refine V_callS (av := [vi x2, vi (σ (k0 + 10) x3)]) (stk := []) cvX0_85 rfl rfl (by decide) (by simp [ctg]) dX0_lastPageAbove_29 h ?_
      rintro _ σ1 ⟨z1, rfl, h⟩
      refine V_istore_n (L' := [some (vr k0), some (vi x1), some (vi z1), some (vi x3)]) dX0_lastPageAbove_32 rfl (by decide) rfl ?_
      refine V_iinc (L' := [some (vr k0), some (vi x1), some (vi z1), some (vi (x3 + 1))]) dX0_lastPageAbove_33 rfl (by decide) rfl ?_
      refine V_goto (tgt := 4) dX0_lastPageAbove_36 rfl ?_
      exact V.sub (SubL_s (SubL_s (SubL_s (SubL_s (SubL_0))))) h

set_option maxRecDepth 100000 in
theorem BX0_pushPages_0 {σ : Sg} {post : Po} {k0 : Nat} {x1 : Int} {x2 : Int} (hk0 : shp[k0]? = some (0, 0, 14))
  (h : V mX0_pushPages 5 [some (vr k0), some (vi x1), some (vi x2), some (vi 0), some (vi 0)] [] σ post) :
  V mX0_pushPages 0 [some (vr k0), some (vi x1), some (vi x2), none, none] [] σ post := by
  refine V_iconst dX0_pushPages_0 ?_
  refine V_istore_n (L' := [some (vr k0), some (vi x1), some (vi x2), some (vi 0), none]) dX0_pushPages_1 rfl (by decide) rfl ?_
  refine V_iconst dX0_pushPages_2 ?_
  refine V_istore (L' := [some (vr k0), some (vi x1), some (vi x2), some (vi 0), some (vi 0)]) dX0_pushPages_3 (by decide) rfl ?_
  exact V.sub (SubL_s (SubL_s (SubL_s (SubL_s (SubL_s (SubL_0)))))) h
set_option maxRecDepth 100000 in
theorem BX0_pushPages_5 {σ : Sg} {post : Po} {k0 : Nat} {x1 : Int} {x2 : Int} {x3 : Int} {x4 : Int} (hk0 : shp[k0]? = some (0, 0, 14))
  (h : (rng x4) ∧ ((rng (σ k0 7)) ∧ (((σ k0 7) ≤ x4 → post (some (vi x3)) σ) ∧ (¬ (σ k0 7) ≤ x4 → (0 ≤ x4 ∧ x4 < 60) ∧ ((rng (σ (k0 + 10) x4)) ∧ ((rng x1) ∧ (((σ (k0 + 10) x4) ≤ x1 → V mX0_pushPages 5 [some (vr k0), some (vi x1), some (vi x2), some (vi x3), some (vi (x4 + 1))] [] σ post) ∧ (¬ (σ (k0 + 10) x4) ≤ x1 → (rng (σ (k0 + 9) x4)) ∧ (((σ (k0 + 9) x4) ≤ x1 → V mX0_pushPages 5 [some (vr k0), some (vi x1), some (vi x2), some (vi (x3 + 1)), some (vi (x4 + 1))] [] (up σ (k0 + 10) x4 ((σ (k0 + 10) x4) + x2)) post) ∧ (¬ (σ (k0 + 9) x4) ≤ x1 → V mX0_pushPages 5 [some (vr k0), some (vi x1), some (vi x2), some (vi (x3 + 1)), some (vi (x4 + 1))] [] (up (up σ (k0 + 10) x4 ((σ (k0 + 10) x4) + x2)) (k0 + 9) x4 ((σ (k0 + 9) x4) + x2)) post)))))))))) :
  V mX0_pushPages 5 [some (vr k0), some (vi x1), some (vi x2), some (vi x3), some (vi x4)] [] σ post := by
  refine V_iload dX0_pushPages_5 rfl ?_
  refine V_aload_n dX0_pushPages_7 rfl rfl ?_
  refine V_getI (f := (σ k0 7)) flX0_35 hk0 (rfl) (by decide) dX0_pushPages_8 ?_
  obtain ⟨r1, h⟩ := h
  obtain ⟨r2, h⟩ := h
  refine V_icmp_ge (tgt := 67) dX0_pushPages_11 rfl r1 r2 (fun q => ?_) (fun q => ?_)
  · replace h := h.1 q
    refine V_iload_n dX0_pushPages_67 rfl rfl ?_
    exact V_ireturn (stk := []) rfl dX0_pushPages_68 h
  · replace h := h.2 q
    refine V_aload_n dX0_pushPages_14 rfl rfl ?_
    refine V_getR (k2 := (k0 + 10)) flX0_47 hk0 rfl (by decide) dX0_pushPages_15 ?_
    refine V_iload dX0_pushPages_18 rfl ?_
    obtain ⟨r3, h⟩ := h
    refine V_iald (f := (σ (k0 + 10) x4)) (sh0_10 hk0) r3 (rfl) dX0_pushPages_20 ?_
    refine V_iload_n dX0_pushPages_21 rfl rfl ?_
    obtain ⟨r4, h⟩ := h
    obtain ⟨r5, h⟩ := h
    refine V_icmp_le (tgt := 61) dX0_pushPages_22 rfl r4 r5 (fun q => ?_) (fun q => ?_)
    · replace h := h.1 q
      refine V_iinc (L' := [some (vr k0), some (vi x1), some (vi x2), some (vi x3), some (vi (x4 + 1))]) dX0_pushPages_61 rfl (by decide) rfl ?_
      refine V_goto (tgt := 5) dX0_pushPages_64 rfl ?_
      exact V.sub (SubL_s (SubL_s (SubL_s (SubL_s (SubL_s (SubL_0)))))) h
    · replace h := h.2 q
      refine V_iinc (L' := [some (vr k0), some (vi x1), some (vi x2), some (vi (x3 + 1)), some (vi x4)]) dX0_pushPages_25 rfl (by decide) rfl ?_
      refine V_aload_n dX0_pushPages_28 rfl rfl ?_
      refine V_getR (k2 := (k0 + 10)) flX0_47 hk0 rfl (by decide) dX0_pushPages_29 ?_
      refine V_iload dX0_pushPages_32 rfl ?_
      refine V_dup2 dX0_pushPages_34 trivial trivial ?_
      refine V_iald (f := (σ (k0 + 10) x4)) (sh0_10 hk0) r3 (rfl) dX0_pushPages_35 ?_
      refine V_iload_n dX0_pushPages_36 rfl rfl ?_
      refine V_iadd dX0_pushPages_37 ?_
      refine V_iast (sh0_10 hk0) r3 dX0_pushPages_38 ?_
      refine V_aload_n dX0_pushPages_39 rfl rfl ?_
      refine V_getR (k2 := (k0 + 9)) flX0_44 hk0 rfl (by decide) dX0_pushPages_40 ?_
      refine V_iload dX0_pushPages_43 rfl ?_
      refine V_iald (f := (σ (k0 + 9) x4)) (sh0_9 hk0) r3 (up_o (by omega)) dX0_pushPages_45 ?_
      refine V_iload_n dX0_pushPages_46 rfl rfl ?_
      obtain ⟨r6, h⟩ := h
      refine V_icmp_le (tgt := 61) dX0_pushPages_47 rfl r6 r5 (fun q => ?_) (fun q => ?_)
      · replace h := h.1 q
        refine V_iinc (L' := [some (vr k0), some (vi x1), some (vi x2), some (vi (x3 + 1)), some (vi (x4 + 1))]) dX0_pushPages_61 rfl (by decide) rfl ?_
        refine V_goto (tgt := 5) dX0_pushPages_64 rfl ?_
        exact V.sub (SubL_s (SubL_s (SubL_s (SubL_s (SubL_s (SubL_0)))))) h
      · replace h := h.2 q
        refine V_aload_n dX0_pushPages_50 rfl rfl ?_
        refine V_getR (k2 := (k0 + 9)) flX0_44 hk0 rfl (by decide) dX0_pushPages_51 ?_
        refine V_iload dX0_pushPages_54 rfl ?_
        refine V_dup2 dX0_pushPages_56 trivial trivial ?_
        refine V_iald (f := (σ (k0 + 9) x4)) (sh0_9 hk0) r3 (up_o (by omega)) dX0_pushPages_57 ?_
        refine V_iload_n dX0_pushPages_58 rfl rfl ?_
        refine V_iadd dX0_pushPages_59 ?_
        refine V_iast (sh0_9 hk0) r3 dX0_pushPages_60 ?_
        refine V_iinc (L' := [some (vr k0), some (vi x1), some (vi x2), some (vi (x3 + 1)), some (vi (x4 + 1))]) dX0_pushPages_61 rfl (by decide) rfl ?_
        refine V_goto (tgt := 5) dX0_pushPages_64 rfl ?_
        exact V.sub (SubL_s (SubL_s (SubL_s (SubL_s (SubL_s (SubL_0)))))) h

set_option maxRecDepth 100000 in
theorem BX0_cutPages_0 {σ : Sg} {post : Po} {k0 : Nat} {x1 : Int} {x2 : Int} (hk0 : shp[k0]? = some (0, 0, 14))
  (h : V mX0_cutPages 12 [some (vr k0), some (vi x1), some (vi x2), some (vi ((x2 - x1) + 1)), some (vi 0), some (vi 0), none, none] [] σ post) :
  V mX0_cutPages 0 [some (vr k0), some (vi x1), some (vi x2), none, none, none, none, none] [] σ post := by
  refine V_iload_n dX0_cutPages_0 rfl rfl ?_
  refine V_iload_n dX0_cutPages_1 rfl rfl ?_
  refine V_isub dX0_cutPages_2 ?_
  refine V_iconst dX0_cutPages_3 ?_
  refine V_iadd dX0_cutPages_4 ?_
  refine V_istore_n (L' := [some (vr k0), some (vi x1), some (vi x2), some (vi ((x2 - x1) + 1)), none, none, none, none]) dX0_cutPages_5 rfl (by decide) rfl ?_
  refine V_iconst dX0_cutPages_6 ?_
  refine V_istore (L' := [some (vr k0), some (vi x1), some (vi x2), some (vi ((x2 - x1) + 1)), some (vi 0), none, none, none]) dX0_cutPages_7 (by decide) rfl ?_
  refine V_iconst dX0_cutPages_9 ?_
  refine V_istore (L' := [some (vr k0), some (vi x1), some (vi x2), some (vi ((x2 - x1) + 1)), some (vi 0), some (vi 0), none, none]) dX0_cutPages_10 (by decide) rfl ?_
  exact V.sub (SubL_s (SubL_s (SubL_s (SubL_s (SubL_s (SubL_s (SubL_n (SubL_n (SubL_0))))))))) h
set_option maxRecDepth 100000 in
theorem BX0_cutPages_12 {σ : Sg} {post : Po} {k0 : Nat} {x1 : Int} {x2 : Int} {x3 : Int} {x4 : Int} {x5 : Int} (hk0 : shp[k0]? = some (0, 0, 14))
  (h : (rng x5) ∧ ((rng (σ k0 7)) ∧ (((σ k0 7) ≤ x5 → post (some (vi ((σ k0 7) - x4))) (up σ k0 7 x4)) ∧ (¬ (σ k0 7) ≤ x5 → (0 ≤ x5 ∧ x5 < 60) ∧ ((rng (σ (k0 + 9) x5)) ∧ ((rng x1) ∧ ((x1 ≤ (σ (k0 + 9) x5) → Cl mJ9_max_7cf53 [vi ((σ (k0 + 9) x5) - x3), vi x1] σ (pI fun z1 σ1 => (rng (σ1 (k0 + 10) x5)) ∧ ((rng x2) ∧ (((σ1 (k0 + 10) x5) ≤ x2 → Cl mJ9_min_7cf53 [vi (σ1 (k0 + 10) x5), vi (x1 - 1)] σ1 (pI fun z2 σ2 => (rng z1) ∧ ((rng z2) ∧ ((z2 < z1 → V mX0_cutPages 12 [some (vr k0), some (vi x1), some (vi x2), some (vi x3), some (vi x4), some (vi (x5 + 1)), none, none] [] σ2 post) ∧ (¬ z2 < z1 → Cl mX0_moveMark [vr k0, vi x5, vi x4] σ2 (pV fun σ3 => (0 ≤ x4 ∧ x4 < 60) ∧ (V mX0_cutPages 12 [some (vr k0), some (vi x1), some (vi x2), some (vi x3), some (vi (x4 + 1)), some (vi (x5 + 1)), none, none] [] (up (up σ3 (k0 + 9) x4 z1) (k0 + 10) x4 z2) post))))))) ∧ (¬ (σ1 (k0 + 10) x5) ≤ x2 → (rng z1) ∧ ((rng ((σ1 (k0 + 10) x5) - x3)) ∧ ((((σ1 (k0 + 10) x5) - x3) < z1 → V mX0_cutPages 12 [some (vr k0), some (vi x1), some (vi x2), some (vi x3), some (vi x4), some (vi (x5 + 1)), none, none] [] σ1 post) ∧ (¬ ((σ1 (k0 + 10) x5) - x3) < z1 → Cl mX0_moveMark [vr k0, vi x5, vi x4] σ1 (pV fun σ4 => (0 ≤ x4 ∧ x4 < 60) ∧ (V mX0_cutPages 12 [some (vr k0), some (vi x1), some (vi x2), some (vi x3), some (vi (x4 + 1)), some (vi (x5 + 1)), none, none] [] (up (up σ4 (k0 + 9) x4 z1) (k0 + 10) x4 ((σ1 (k0 + 10) x5) - x3)) post)))))))))) ∧ (¬ x1 ≤ (σ (k0 + 9) x5) → (rng (σ (k0 + 10) x5)) ∧ ((rng x2) ∧ (((σ (k0 + 10) x5) ≤ x2 → Cl mJ9_min_7cf53 [vi (σ (k0 + 10) x5), vi (x1 - 1)] σ (pI fun z5 σ5 => (rng z5) ∧ ((z5 < (σ (k0 + 9) x5) → V mX0_cutPages 12 [some (vr k0), some (vi x1), some (vi x2), some (vi x3), some (vi x4), some (vi (x5 + 1)), none, none] [] σ5 post) ∧ (¬ z5 < (σ (k0 + 9) x5) → Cl mX0_moveMark [vr k0, vi x5, vi x4] σ5 (pV fun σ6 => (0 ≤ x4 ∧ x4 < 60) ∧ (V mX0_cutPages 12 [some (vr k0), some (vi x1), some (vi x2), some (vi x3), some (vi (x4 + 1)), some (vi (x5 + 1)), none, none] [] (up (up σ6 (k0 + 9) x4 (σ (k0 + 9) x5)) (k0 + 10) x4 z5) post)))))) ∧ (¬ (σ (k0 + 10) x5) ≤ x2 → (rng ((σ (k0 + 10) x5) - x3)) ∧ ((((σ (k0 + 10) x5) - x3) < (σ (k0 + 9) x5) → V mX0_cutPages 12 [some (vr k0), some (vi x1), some (vi x2), some (vi x3), some (vi x4), some (vi (x5 + 1)), none, none] [] σ post) ∧ (¬ ((σ (k0 + 10) x5) - x3) < (σ (k0 + 9) x5) → Cl mX0_moveMark [vr k0, vi x5, vi x4] σ (pV fun σ7 => (0 ≤ x4 ∧ x4 < 60) ∧ (V mX0_cutPages 12 [some (vr k0), some (vi x1), some (vi x2), some (vi x3), some (vi (x4 + 1)), some (vi (x5 + 1)), none, none] [] (up (up σ7 (k0 + 9) x4 (σ (k0 + 9) x5)) (k0 + 10) x4 ((σ (k0 + 10) x5) - x3)) post))))))))))))))) :
  V mX0_cutPages 12 [some (vr k0), some (vi x1), some (vi x2), some (vi x3), some (vi x4), some (vi x5), none, none] [] σ post := by
  refine V_iload dX0_cutPages_12 rfl ?_
  refine V_aload_n dX0_cutPages_14 rfl rfl ?_
  refine V_getI (f := (σ k0 7)) flX0_35 hk0 (rfl) (by decide) dX0_cutPages_15 ?_
  obtain ⟨r1, h⟩ := h
  obtain ⟨r2, h⟩ := h
  refine V_icmp_ge (tgt := 137) dX0_cutPages_18 rfl r1 r2 (fun q => ?_) (fun q => ?_)
  · replace h := h.1 q
    refine V_aload_n dX0_cutPages_137 rfl rfl ?_
    refine V_getI (f := (σ k0 7)) flX0_35 hk0 (rfl) (by decide) dX0_cutPages_138 ?_
    refine V_iload dX0_cutPages_141 rfl ?_
    refine V_isub dX0_cutPages_143 ?_
    refine V_istore (L' := [some (vr k0), some (vi x1), some (vi x2), some (vi x3), some (vi x4), some (vi ((σ k0 7) - x4)), none, none]) dX0_cutPages_144 (by decide) rfl ?_
    refine V_aload_n dX0_cutPages_146 rfl rfl ?_
    refine V_iload dX0_cutPages_147 rfl ?_
    refine V_putI flX0_35 hk0 (by decide) dX0_cutPages_149 ?_
    refine V_iload dX0_cutPages_152 rfl ?_
    exact V_ireturn (stk := []) rfl dX0_cutPages_154 h
  · replace h := h.2 q
    refine V_aload_n dX0_cutPages_21 rfl rfl ?_
    refine V_getR (k2 := (k0 + 9)) flX0_44 hk0 rfl (by decide) dX0_cutPages_22 ?_
    refine V_iload dX0_cutPages_25 rfl ?_
    obtain ⟨r3, h⟩ := h
    refine V_iald (f := (σ (k0 + 9) x5)) (sh0_9 hk0) r3 (rfl) dX0_cutPages_27 ?_
    refine V_iload_n dX0_cutPages_28 rfl rfl ?_
    obtain ⟨r4, h⟩ := h
    obtain ⟨r5, h⟩ := h
    refine V_icmp_ge (tgt := 42) dX0_cutPages_29 rfl r4 r5 (fun q => ?_) (fun q => ?_)
    · replace h := h.1 q
      refine V_aload_n dX0_cutPages_42 rfl rfl ?_
      refine V_getR (k2 := (k0 + 9)) flX0_44 hk0 rfl (by decide) dX0_cutPages_43 ?_
      refine V_iload dX0_cutPages_46 rfl ?_
      refine V_iald (f := (σ (k0 + 9) x5)) (sh0_9 hk0) r3 (rfl) dX0_cutPages_48 ?_
      refine V_iload_n dX0_cutPages_49 rfl rfl ?_
      refine V_isub dX0_cutPages_50 ?_
      refine V_iload_n dX0_cutPages_51 rfl rfl ?_
      refine V_callS (av := [vi ((σ (k0 + 9) x5) - x3), vi x1]) (stk := []) cvX0_85 rfl rfl (by decide) (by simp [ctg]) dX0_cutPages_52 h ?_
      rintro _ σ1 ⟨z1, rfl, h⟩
      refine V_istore (L' := [some (vr k0), some (vi x1), some (vi x2), some (vi x3), some (vi x4), some (vi x5), some (vi z1), none]) dX0_cutPages_55 (by decide) rfl ?_
      refine V_aload_n dX0_cutPages_57 rfl rfl ?_
      refine V_getR (k2 := (k0 + 10)) flX0_47 hk0 rfl (by decide) dX0_cutPages_58 ?_
      refine V_iload dX0_cutPages_61 rfl ?_
      refine V_iald (f := (σ1 (k0 + 10) x5)) (sh0_10 hk0) r3 (rfl) dX0_cutPages_63 ?_
      refine V_iload_n dX0_cutPages_64 rfl rfl ?_
      obtain ⟨r6, h⟩ := h
      obtain ⟨r7, h⟩ := h
      refine V_icmp_le (tgt := 80) dX0_cutPages_65 rfl r6 r7 (fun q => ?_) (fun q => ?_)
      · replace h := h.1 q
        refine V_aload_n dX0_cutPages_80 rfl rfl ?_
        refine V_getR (k2 := (k0 + 10)) flX0_47 hk0 rfl (by decide) dX0_cutPages_81 ?_
        refine V_iload dX0_cutPages_84 rfl ?_
        refine V_iald (f := (σ1 (k0 + 10) x5)) (sh0_10 hk0) r3 (rfl) dX0_cutPages_86 ?_
        refine V_iload_n dX0_cutPages_87 rfl rfl ?_
        refine V_iconst dX0_cutPages_88 ?_
        refine V_isub dX0_cutPages_89 ?_
        refine V_callS (av := [vi (σ1 (k0 + 10) x5), vi (x1 - 1)]) (stk := []) cvX0_91 rfl rfl (by decide) (by simp [ctg]) dX0_cutPages_90 h ?_
        rintro _ σ2 ⟨z2, rfl, h⟩
        refine V_istore (L' := [some (vr k0), some (vi x1), some (vi x2), some (vi x3), some (vi x4), some (vi x5), some (vi z1), some (vi z2)]) dX0_cutPages_93 (by decide) rfl ?_
        refine V_iload dX0_cutPages_95 rfl ?_
        refine V_iload dX0_cutPages_97 rfl ?_
        obtain ⟨r8, h⟩ := h
        obtain ⟨r9, h⟩ := h
        refine V_icmp_gt (tgt := 131) dX0_cutPages_99 rfl r8 r9 (fun q => ?_) (fun q => ?_)
        · replace h := h.1 q
          refine V_iinc (L' := [some (vr k0), some (vi x1), some (vi x2), some (vi x3), some (vi x4), some (vi (x5 + 1)), some (vi z1), some (vi z2)]) dX0_cutPages_131 rfl (by decide) rfl ?_
          refine V_goto (tgt := 12) dX0_cutPages_134 rfl ?_
          exact V.sub (SubL_s (SubL_s (SubL_s (SubL_s (SubL_s (SubL_s (SubL_n (SubL_n (SubL_0))))))))) h
        · replace h := h.2 q
          refine V_aload_n dX0_cutPages_102 rfl rfl ?_
          refine V_iload dX0_cutPages_103 rfl ?_
          refine V_iload dX0_cutPages_105 rfl ?_
          refine V_callV (av := [vi x5, vi x4]) (stk := []) cvX0_68 hk0 rfl rfl (by decide) (by simp [ctg]) dX0_cutPages_107 h ?_
          rintro _ σ3 ⟨rfl, h⟩
          refine V_aload_n dX0_cutPages_110 rfl rfl ?_
          refine V_getR (k2 := (k0 + 9)) flX0_44 hk0 rfl (by decide) dX0_cutPages_111 ?_
          refine V_iload dX0_cutPages_114 rfl ?_
          refine V_iload dX0_cutPages_116 rfl ?_
          obtain ⟨r10, h⟩ := h
          refine V_iast (sh0_9 hk0) r10 dX0_cutPages_118 ?_
          refine V_aload_n dX0_cutPages_119 rfl rfl ?_
          refine V_getR (k2 := (k0 + 10)) flX0_47 hk0 rfl (by decide) dX0_cutPages_120 ?_
          refine V_iload dX0_cutPages_123 rfl ?_
          refine V_iload dX0_cutPages_125 rfl ?_
          refine V_iast (sh0_10 hk0) r10 dX0_cutPages_127 ?_
          refine V_iinc (L' := [some (vr k0), some (vi x1), some (vi x2), some (vi x3), some (vi (x4 + 1)), some (vi x5), some (vi z1), some (vi z2)]) dX0_cutPages_128 rfl (by decide) rfl ?_
          refine V_iinc (L' := [some (vr k0), some (vi x1), some (vi x2), some (vi x3), some (vi (x4 + 1)), some (vi (x5 + 1)), some (vi z1), some (vi z2)]) dX0_cutPages_131 rfl (by decide) rfl ?_
          refine V_goto (tgt := 12) dX0_cutPages_134 rfl ?_
          exact V.sub (SubL_s (SubL_s (SubL_s (SubL_s (SubL_s (SubL_s (SubL_n (SubL_n (SubL_0))))))))) h
      · replace h := h.2 q
        refine V_aload_n dX0_cutPages_68 rfl rfl ?_
        refine V_getR (k2 := (k0 + 10)) flX0_47 hk0 rfl (by decide) dX0_cutPages_69 ?_
        refine V_iload dX0_cutPages_72 rfl ?_
        refine V_iald (f := (σ1 (k0 + 10) x5)) (sh0_10 hk0) r3 (rfl) dX0_cutPages_74 ?_
        refine V_iload_n dX0_cutPages_75 rfl rfl ?_
        refine V_isub dX0_cutPages_76 ?_
        refine V_goto (tgt := 93) dX0_cutPages_77 rfl ?_
        refine V_istore (L' := [some (vr k0), some (vi x1), some (vi x2), some (vi x3), some (vi x4), some (vi x5), some (vi z1), some (vi ((σ1 (k0 + 10) x5) - x3))]) dX0_cutPages_93 (by decide) rfl ?_
        refine V_iload dX0_cutPages_95 rfl ?_
        refine V_iload dX0_cutPages_97 rfl ?_
        obtain ⟨r11, h⟩ := h
        obtain ⟨r12, h⟩ := h
        refine V_icmp_gt (tgt := 131) dX0_cutPages_99 rfl r11 r12 (fun q => ?_) (fun q => ?_)
        · replace h := h.1 q
          refine V_iinc (L' := [some (vr k0), some (vi x1), some (vi x2), some (vi x3), some (vi x4), some (vi (x5 + 1)), some (vi z1), some (vi ((σ1 (k0 + 10) x5) - x3))]) dX0_cutPages_131 rfl (by decide) rfl ?_
          refine V_goto (tgt := 12) dX0_cutPages_134 rfl ?_
          exact V.sub (SubL_s (SubL_s (SubL_s (SubL_s (SubL_s (SubL_s (SubL_n (SubL_n (SubL_0))))))))) h
        · replace h := h.2 q
          refine V_aload_n dX0_cutPages_102 rfl rfl ?_
          refine V_iload dX0_cutPages_103 rfl ?_
          refine V_iload dX0_cutPages_105 rfl ?_
          refine V_callV (av := [vi x5, vi x4]) (stk := []) cvX0_68 hk0 rfl rfl (by decide) (by simp [ctg]) dX0_cutPages_107 h ?_
          rintro _ σ4 ⟨rfl, h⟩
          refine V_aload_n dX0_cutPages_110 rfl rfl ?_
          refine V_getR (k2 := (k0 + 9)) flX0_44 hk0 rfl (by decide) dX0_cutPages_111 ?_
          refine V_iload dX0_cutPages_114 rfl ?_
          refine V_iload dX0_cutPages_116 rfl ?_
          obtain ⟨r13, h⟩ := h
          refine V_iast (sh0_9 hk0) r13 dX0_cutPages_118 ?_
          refine V_aload_n dX0_cutPages_119 rfl rfl ?_
          refine V_getR (k2 := (k0 + 10)) flX0_47 hk0 rfl (by decide) dX0_cutPages_120 ?_
          refine V_iload dX0_cutPages_123 rfl ?_
          refine V_iload dX0_cutPages_125 rfl ?_
          refine V_iast (sh0_10 hk0) r13 dX0_cutPages_127 ?_
          refine V_iinc (L' := [some (vr k0), some (vi x1), some (vi x2), some (vi x3), some (vi (x4 + 1)), some (vi x5), some (vi z1), some (vi ((σ1 (k0 + 10) x5) - x3))]) dX0_cutPages_128 rfl (by decide) rfl ?_
          refine V_iinc (L' := [some (vr k0), some (vi x1), some (vi x2), some (vi x3), some (vi (x4 + 1)), some (vi (x5 + 1)), some (vi z1), some (vi ((σ1 (k0 + 10) x5) - x3))]) dX0_cutPages_131 rfl (by decide) rfl ?_
          refine V_goto (tgt := 12) dX0_cutPages_134 rfl ?_
          exact V.sub (SubL_s (SubL_s (SubL_s (SubL_s (SubL_s (SubL_s (SubL_n (SubL_n (SubL_0))))))))) h
    · replace h := h.2 q
      refine V_aload_n dX0_cutPages_32 rfl rfl ?_
      refine V_getR (k2 := (k0 + 9)) flX0_44 hk0 rfl (by decide) dX0_cutPages_33 ?_
      refine V_iload dX0_cutPages_36 rfl ?_
      refine V_iald (f := (σ (k0 + 9) x5)) (sh0_9 hk0) r3 (rfl) dX0_cutPages_38 ?_
      refine V_goto (tgt := 55) dX0_cutPages_39 rfl ?_
      refine V_istore (L' := [some (vr k0), some (vi x1), some (vi x2), some (vi x3), some (vi x4), some (vi x5), some (vi (σ (k0 + 9) x5)), none]) dX0_cutPages_55 (by decide) rfl ?_
      refine V_aload_n dX0_cutPages_57 rfl rfl ?_
      refine V_getR (k2 := (k0 + 10)) flX0_47 hk0 rfl (by decide) dX0_cutPages_58 ?_
      refine V_iload dX0_cutPages_61 rfl ?_
      refine V_iald (f := (σ (k0 + 10) x5)) (sh0_10 hk0) r3 (rfl) dX0_cutPages_63 ?_
      refine V_iload_n dX0_cutPages_64 rfl rfl ?_
      obtain ⟨r14, h⟩ := h
      obtain ⟨r15, h⟩ := h
      refine V_icmp_le (tgt := 80) dX0_cutPages_65 rfl r14 r15 (fun q => ?_) (fun q => ?_)
      · replace h := h.1 q
        refine V_aload_n dX0_cutPages_80 rfl rfl ?_
        refine V_getR (k2 := (k0 + 10)) flX0_47 hk0 rfl (by decide) dX0_cutPages_81 ?_
        refine V_iload dX0_cutPages_84 rfl ?_
        refine V_iald (f := (σ (k0 + 10) x5)) (sh0_10 hk0) r3 (rfl) dX0_cutPages_86 ?_
        refine V_iload_n dX0_cutPages_87 rfl rfl ?_
        refine V_iconst dX0_cutPages_88 ?_
        refine V_isub dX0_cutPages_89 ?_
        refine V_callS (av := [vi (σ (k0 + 10) x5), vi (x1 - 1)]) (stk := []) cvX0_91 rfl rfl (by decide) (by simp [ctg]) dX0_cutPages_90 h ?_
        rintro _ σ5 ⟨z5, rfl, h⟩
        refine V_istore (L' := [some (vr k0), some (vi x1), some (vi x2), some (vi x3), some (vi x4), some (vi x5), some (vi (σ (k0 + 9) x5)), some (vi z5)]) dX0_cutPages_93 (by decide) rfl ?_
        refine V_iload dX0_cutPages_95 rfl ?_
        refine V_iload dX0_cutPages_97 rfl ?_
        obtain ⟨r16, h⟩ := h
        refine V_icmp_gt (tgt := 131) dX0_cutPages_99 rfl r4 r16 (fun q => ?_) (fun q => ?_)
        · replace h := h.1 q
          refine V_iinc (L' := [some (vr k0), some (vi x1), some (vi x2), some (vi x3), some (vi x4), some (vi (x5 + 1)), some (vi (σ (k0 + 9) x5)), some (vi z5)]) dX0_cutPages_131 rfl (by decide) rfl ?_
          refine V_goto (tgt := 12) dX0_cutPages_134 rfl ?_
          exact V.sub (SubL_s (SubL_s (SubL_s (SubL_s (SubL_s (SubL_s (SubL_n (SubL_n (SubL_0))))))))) h
        · replace h := h.2 q
          refine V_aload_n dX0_cutPages_102 rfl rfl ?_
          refine V_iload dX0_cutPages_103 rfl ?_
          refine V_iload dX0_cutPages_105 rfl ?_
          refine V_callV (av := [vi x5, vi x4]) (stk := []) cvX0_68 hk0 rfl rfl (by decide) (by simp [ctg]) dX0_cutPages_107 h ?_
          rintro _ σ6 ⟨rfl, h⟩
          refine V_aload_n dX0_cutPages_110 rfl rfl ?_
          refine V_getR (k2 := (k0 + 9)) flX0_44 hk0 rfl (by decide) dX0_cutPages_111 ?_
          refine V_iload dX0_cutPages_114 rfl ?_
          refine V_iload dX0_cutPages_116 rfl ?_
          obtain ⟨r17, h⟩ := h
          refine V_iast (sh0_9 hk0) r17 dX0_cutPages_118 ?_
          refine V_aload_n dX0_cutPages_119 rfl rfl ?_
          refine V_getR (k2 := (k0 + 10)) flX0_47 hk0 rfl (by decide) dX0_cutPages_120 ?_
          refine V_iload dX0_cutPages_123 rfl ?_
          refine V_iload dX0_cutPages_125 rfl ?_
          refine V_iast (sh0_10 hk0) r17 dX0_cutPages_127 ?_
          refine V_iinc (L' := [some (vr k0), some (vi x1), some (vi x2), some (vi x3), some (vi (x4 + 1)), some (vi x5), some (vi (σ (k0 + 9) x5)), some (vi z5)]) dX0_cutPages_128 rfl (by decide) rfl ?_
          refine V_iinc (L' := [some (vr k0), some (vi x1), some (vi x2), some (vi x3), some (vi (x4 + 1)), some (vi (x5 + 1)), some (vi (σ (k0 + 9) x5)), some (vi z5)]) dX0_cutPages_131 rfl (by decide) rfl ?_
          refine V_goto (tgt := 12) dX0_cutPages_134 rfl ?_
          exact V.sub (SubL_s (SubL_s (SubL_s (SubL_s (SubL_s (SubL_s (SubL_n (SubL_n (SubL_0))))))))) h
      · replace h := h.2 q
        refine V_aload_n dX0_cutPages_68 rfl rfl ?_
        refine V_getR (k2 := (k0 + 10)) flX0_47 hk0 rfl (by decide) dX0_cutPages_69 ?_
        refine V_iload dX0_cutPages_72 rfl ?_
        refine V_iald (f := (σ (k0 + 10) x5)) (sh0_10 hk0) r3 (rfl) dX0_cutPages_74 ?_
        refine V_iload_n dX0_cutPages_75 rfl rfl ?_
        refine V_isub dX0_cutPages_76 ?_
        refine V_goto (tgt := 93) dX0_cutPages_77 rfl ?_
        refine V_istore (L' := [some (vr k0), some (vi x1), some (vi x2), some (vi x3), some (vi x4), some (vi x5), some (vi (σ (k0 + 9) x5)), some (vi ((σ (k0 + 10) x5) - x3))]) dX0_cutPages_93 (by decide) rfl ?_
        refine V_iload dX0_cutPages_95 rfl ?_
        refine V_iload dX0_cutPages_97 rfl ?_
        obtain ⟨r18, h⟩ := h
        refine V_icmp_gt (tgt := 131) dX0_cutPages_99 rfl r4 r18 (fun q => ?_) (fun q => ?_)
        · replace h := h.1 q
          refine V_iinc (L' := [some (vr k0), some (vi x1), some (vi x2), some (vi x3), some (vi x4), some (vi (x5 + 1)), some (vi (σ (k0 + 9) x5)), some (vi ((σ (k0 + 10) x5) - x3))]) dX0_cutPages_131 rfl (by decide) rfl ?_
          refine V_goto (tgt := 12) dX0_cutPages_134 rfl ?_
          exact V.sub (SubL_s (SubL_s (SubL_s (SubL_s (SubL_s (SubL_s (SubL_n (SubL_n (SubL_0))))))))) h
        · replace h := h.2 q
          refine V_aload_n dX0_cutPages_102 rfl rfl ?_
          refine V_iload dX0_cutPages_103 rfl ?_
          refine V_iload dX0_cutPages_105 rfl ?_
          refine V_callV (av := [vi x5, vi x4]) (stk := []) cvX0_68 hk0 rfl rfl (by decide) (by simp [ctg]) dX0_cutPages_107 h ?_
          rintro _ σ7 ⟨rfl, h⟩
          refine V_aload_n dX0_cutPages_110 rfl rfl ?_
          refine V_getR (k2 := (k0 + 9)) flX0_44 hk0 rfl (by decide) dX0_cutPages_111 ?_
          refine V_iload dX0_cutPages_114 rfl ?_
          refine V_iload dX0_cutPages_116 rfl ?_
          obtain ⟨r19, h⟩ := h
          refine V_iast (sh0_9 hk0) r19 dX0_cutPages_118 ?_
          refine V_aload_n dX0_cutPages_119 rfl rfl ?_
          refine V_getR (k2 := (k0 + 10)) flX0_47 hk0 rfl (by decide) dX0_cutPages_120 ?_
          refine V_iload dX0_cutPages_123 rfl ?_
          refine V_iload dX0_cutPages_125 rfl ?_
          refine V_iast (sh0_10 hk0) r19 dX0_cutPages_127 ?_
          refine V_iinc (L' := [some (vr k0), some (vi x1), some (vi x2), some (vi x3), some (vi (x4 + 1)), some (vi x5), some (vi (σ (k0 + 9) x5)), some (vi ((σ (k0 + 10) x5) - x3))]) dX0_cutPages_128 rfl (by decide) rfl ?_
          refine V_iinc (L' := [some (vr k0), some (vi x1), some (vi x2), some (vi x3), some (vi (x4 + 1)), some (vi (x5 + 1)), some (vi (σ (k0 + 9) x5)), some (vi ((σ (k0 + 10) x5) - x3))]) dX0_cutPages_131 rfl (by decide) rfl ?_
          refine V_goto (tgt := 12) dX0_cutPages_134 rfl ?_
          exact V.sub (SubL_s (SubL_s (SubL_s (SubL_s (SubL_s (SubL_s (SubL_n (SubL_n (SubL_0))))))))) h

set_option maxRecDepth 100000 in
theorem BX0_subsMissing_0 {σ : Sg} {post : Po} {k0 : Nat} {x1 : Int} {x2 : Int} (hk0 : shp[k0]? = some (0, 0, 14))
  (h : V mX0_subsMissing 5 [some (vr k0), some (vi x1), some (vi x2), some (vi 0), some (vi 0)] [] σ post) :
  V mX0_subsMissing 0 [some (vr k0), some (vi x1), some (vi x2), none, none] [] σ post := by
  refine V_iconst dX0_subsMissing_0 ?_
  refine V_istore_n (L' := [some (vr k0), some (vi x1), some (vi x2), some (vi 0), none]) dX0_subsMissing_1 rfl (by decide) rfl ?_
  refine V_iconst dX0_subsMissing_2 ?_
  refine V_istore (L' := [some (vr k0), some (vi x1), some (vi x2), some (vi 0), some (vi 0)]) dX0_subsMissing_3 (by decide) rfl ?_
  exact V.sub (SubL_s (SubL_s (SubL_s (SubL_s (SubL_s (SubL_0)))))) h
set_option maxRecDepth 100000 in
theorem BX0_subsMissing_5 {σ : Sg} {post : Po} {k0 : Nat} {x1 : Int} {x2 : Int} {x3 : Int} {x4 : Int} (hk0 : shp[k0]? = some (0, 0, 14))
  (h : (0 ≤ x2 ∧ x2 < 16) ∧ ((rng x4) ∧ ((rng (σ (k0 + 2) x2)) ∧ (((σ (k0 + 2) x2) ≤ x4 → post (some (vi x3)) σ) ∧ (¬ (σ (k0 + 2) x2) ≤ x4 → Cl mX0_wordOf [vr k0, vi x2, vi x4] σ (pL fun z1 σ1 => Cl mX0_findSub [vr k0, vi x1, vl z1] σ1 (pI fun z2 σ2 => (rng z2) ∧ ((¬ z2 = (-1) → V mX0_subsMissing 5 [some (vr k0), some (vi x1), some (vi x2), some (vi x3), some (vi (x4 + 1))] [] σ2 post) ∧ (z2 = (-1) → V mX0_subsMissing 5 [some (vr k0), some (vi x1), some (vi x2), some (vi (x3 + 1)), some (vi (x4 + 1))] [] σ2 post))))))))) :
  V mX0_subsMissing 5 [some (vr k0), some (vi x1), some (vi x2), some (vi x3), some (vi x4)] [] σ post := by
  refine V_iload dX0_subsMissing_5 rfl ?_
  refine V_aload_n dX0_subsMissing_7 rfl rfl ?_
  refine V_getR (k2 := (k0 + 2)) flX0_19 hk0 rfl (by decide) dX0_subsMissing_8 ?_
  refine V_iload_n dX0_subsMissing_11 rfl rfl ?_
  obtain ⟨r1, h⟩ := h
  refine V_iald (f := (σ (k0 + 2) x2)) (sh0_2 hk0) r1 (rfl) dX0_subsMissing_12 ?_
  obtain ⟨r2, h⟩ := h
  obtain ⟨r3, h⟩ := h
  refine V_icmp_ge (tgt := 41) dX0_subsMissing_13 rfl r2 r3 (fun q => ?_) (fun q => ?_)
  · replace h := h.1 q
    refine V_iload_n dX0_subsMissing_41 rfl rfl ?_
    exact V_ireturn (stk := []) rfl dX0_subsMissing_42 h
  · replace h := h.2 q
    refine V_aload_n dX0_subsMissing_16 rfl rfl ?_
    refine V_iload_n dX0_subsMissing_17 rfl rfl ?_
    refine V_aload_n dX0_subsMissing_18 rfl rfl ?_
    refine V_iload_n dX0_subsMissing_19 rfl rfl ?_
    refine V_iload dX0_subsMissing_20 rfl ?_
    refine V_callV (av := [vi x2, vi x4]) (stk := [vi x1, vr k0]) cvX0_94 hk0 rfl rfl (by decide) (by simp [ctg]) dX0_subsMissing_22 h ?_
    rintro _ σ1 ⟨z1, rfl, h⟩
    refine V_callV (av := [vi x1, vl z1]) (stk := []) cvX0_98 hk0 rfl rfl (by decide) (by simp [ctg]) dX0_subsMissing_25 h ?_
    rintro _ σ2 ⟨z2, rfl, h⟩
    refine V_iconst dX0_subsMissing_28 ?_
    obtain ⟨r4, h⟩ := h
    refine V_icmp_ne (tgt := 35) dX0_subsMissing_29 rfl r4 (by decide) (fun q => ?_) (fun q => ?_)
    · replace h := h.1 q
      refine V_iinc (L' := [some (vr k0), some (vi x1), some (vi x2), some (vi x3), some (vi (x4 + 1))]) dX0_subsMissing_35 rfl (by decide) rfl ?_
      refine V_goto (tgt := 5) dX0_subsMissing_38 rfl ?_
      exact V.sub (SubL_s (SubL_s (SubL_s (SubL_s (SubL_s (SubL_0)))))) h
    · replace h := h.2 q
      refine V_iinc (L' := [some (vr k0), some (vi x1), some (vi x2), some (vi (x3 + 1)), some (vi x4)]) dX0_subsMissing_32 rfl (by decide) rfl ?_
      refine V_iinc (L' := [some (vr k0), some (vi x1), some (vi x2), some (vi (x3 + 1)), some (vi (x4 + 1))]) dX0_subsMissing_35 rfl (by decide) rfl ?_
      refine V_goto (tgt := 5) dX0_subsMissing_38 rfl ?_
      exact V.sub (SubL_s (SubL_s (SubL_s (SubL_s (SubL_s (SubL_0)))))) h

set_option maxRecDepth 100000 in
theorem BX0_joinMarks_0 {σ : Sg} {post : Po} {k0 : Nat} {x1 : Int} {x2 : Int} (hk0 : shp[k0]? = some (0, 0, 14))
  (h : Cl mX0_giveMarks [vr k0, vi x2, vi (-1), vi x1, vi (-1)] σ (pV fun σ1 => V mX0_joinMarks 10 [some (vr k0), some (vi x1), some (vi x2), some (vi 0), none, none, none] [] σ1 post)) :
  V mX0_joinMarks 0 [some (vr k0), some (vi x1), some (vi x2), none, none, none, none] [] σ post := by
  refine V_aload_n dX0_joinMarks_0 rfl rfl ?_
  refine V_iload_n dX0_joinMarks_1 rfl rfl ?_
  refine V_iconst dX0_joinMarks_2 ?_
  refine V_iload_n dX0_joinMarks_3 rfl rfl ?_
  refine V_iconst dX0_joinMarks_4 ?_
  refine V_callV (av := [vi x2, vi (-1), vi x1, vi (-1)]) (stk := []) cvX0_102 hk0 rfl rfl (by decide) (by simp [ctg]) dX0_joinMarks_5 h ?_
  rintro _ σ1 ⟨rfl, h⟩
  refine V_iconst dX0_joinMarks_8 ?_
  refine V_istore_n (L' := [some (vr k0), some (vi x1), some (vi x2), some (vi 0), none, none, none]) dX0_joinMarks_9 rfl (by decide) rfl ?_
  exact V.sub (SubL_s (SubL_s (SubL_s (SubL_s (SubL_n (SubL_n (SubL_n (SubL_0)))))))) h
set_option maxRecDepth 100000 in
theorem BX0_joinMarks_10 {σ : Sg} {post : Po} {k0 : Nat} {x1 : Int} {x2 : Int} {x3 : Int} (hk0 : shp[k0]? = some (0, 0, 14))
  (h : (0 ≤ x2 ∧ x2 < 16) ∧ ((rng x3) ∧ ((rng (σ (k0 + 2) x2)) ∧ (((σ (k0 + 2) x2) ≤ x3 → post none (up σ (k0 + 2) x2 0)) ∧ (¬ (σ (k0 + 2) x2) ≤ x3 → Cl mX0_wordOf [vr k0, vi x2, vi x3] σ (pL fun z1 σ1 => Cl mX0_findSub [vr k0, vi x1, vl z1] σ1 (pI fun z2 σ2 => (rng z2) ∧ ((¬ z2 = (-1) → Cl mX0_giveMarks [vr k0, vi x2, vi x3, vi x1, vi z2] σ2 (pV fun σ3 => V mX0_joinMarks 10 [some (vr k0), some (vi x1), some (vi x2), some (vi (x3 + 1)), none, none, none] [] σ3 post)) ∧ (z2 = (-1) → Cl mX0_putSub [vr k0, vi x1, vl z1] σ2 (pI fun z4 σ4 => Cl mX0_giveMarks [vr k0, vi x2, vi x3, vi x1, vi z4] σ4 (pV fun σ5 => V mX0_joinMarks 10 [some (vr k0), some (vi x1), some (vi x2), some (vi (x3 + 1)), none, none, none] [] σ5 post))))))))))) :
  V mX0_joinMarks 10 [some (vr k0), some (vi x1), some (vi x2), some (vi x3), none, none, none] [] σ post := by
  refine V_iload_n dX0_joinMarks_10 rfl rfl ?_
  refine V_aload_n dX0_joinMarks_11 rfl rfl ?_
  refine V_getR (k2 := (k0 + 2)) flX0_19 hk0 rfl (by decide) dX0_joinMarks_12 ?_
  refine V_iload_n dX0_joinMarks_15 rfl rfl ?_
  obtain ⟨r1, h⟩ := h
  refine V_iald (f := (σ (k0 + 2) x2)) (sh0_2 hk0) r1 (rfl) dX0_joinMarks_16 ?_
  obtain ⟨r2, h⟩ := h
  obtain ⟨r3, h⟩ := h
  refine V_icmp_ge (tgt := 68) dX0_joinMarks_17 rfl r2 r3 (fun q => ?_) (fun q => ?_)
  · replace h := h.1 q
    refine V_aload_n dX0_joinMarks_68 rfl rfl ?_
    refine V_getR (k2 := (k0 + 2)) flX0_19 hk0 rfl (by decide) dX0_joinMarks_69 ?_
    refine V_iload_n dX0_joinMarks_72 rfl rfl ?_
    refine V_iconst dX0_joinMarks_73 ?_
    refine V_iast (sh0_2 hk0) r1 dX0_joinMarks_74 ?_
    exact V_return (stk := []) rfl dX0_joinMarks_75 h
  · replace h := h.2 q
    refine V_aload_n dX0_joinMarks_20 rfl rfl ?_
    refine V_iload_n dX0_joinMarks_21 rfl rfl ?_
    refine V_iload_n dX0_joinMarks_22 rfl rfl ?_
    refine V_callV (av := [vi x2, vi x3]) (stk := []) cvX0_94 hk0 rfl rfl (by decide) (by simp [ctg]) dX0_joinMarks_23 h ?_
    rintro _ σ1 ⟨z1, rfl, h⟩
    refine V_lstore (L' := [some (vr k0), some (vi x1), some (vi x2), some (vi x3), some (vl z1), none, none]) dX0_joinMarks_26 (by decide) rfl ?_
    refine V_aload_n dX0_joinMarks_28 rfl rfl ?_
    refine V_iload_n dX0_joinMarks_29 rfl rfl ?_
    refine V_lload dX0_joinMarks_30 rfl ?_
    refine V_callV (av := [vi x1, vl z1]) (stk := []) cvX0_98 hk0 rfl rfl (by decide) (by simp [ctg]) dX0_joinMarks_32 h ?_
    rintro _ σ2 ⟨z2, rfl, h⟩
    refine V_istore (L' := [some (vr k0), some (vi x1), some (vi x2), some (vi x3), some (vl z1), none, some (vi z2)]) dX0_joinMarks_35 (by decide) rfl ?_
    refine V_aload_n dX0_joinMarks_37 rfl rfl ?_
    refine V_iload_n dX0_joinMarks_38 rfl rfl ?_
    refine V_iload_n dX0_joinMarks_39 rfl rfl ?_
    refine V_iload_n dX0_joinMarks_40 rfl rfl ?_
    refine V_iload dX0_joinMarks_41 rfl ?_
    refine V_iconst dX0_joinMarks_43 ?_
    obtain ⟨r4, h⟩ := h
    refine V_icmp_ne (tgt := 57) dX0_joinMarks_44 rfl r4 (by decide) (fun q => ?_) (fun q => ?_)
    · replace h := h.1 q
      refine V_iload dX0_joinMarks_57 rfl ?_
      refine V_callV (av := [vi x2, vi x3, vi x1, vi z2]) (stk := []) cvX0_102 hk0 rfl rfl (by decide) (by simp [ctg]) dX0_joinMarks_59 h ?_
      rintro _ σ3 ⟨rfl, h⟩
      refine V_iinc (L' := [some (vr k0), some (vi x1), some (vi x2), some (vi (x3 + 1)), some (vl z1), none, some (vi z2)]) dX0_joinMarks_62 rfl (by decide) rfl ?_
      refine V_goto (tgt := 10) dX0_joinMarks_65 rfl ?_
      exact V.sub (SubL_s (SubL_s (SubL_s (SubL_s (SubL_n (SubL_n (SubL_n (SubL_0)))))))) h
    · replace h := h.2 q
      refine V_aload_n dX0_joinMarks_47 rfl rfl ?_
      refine V_iload_n dX0_joinMarks_48 rfl rfl ?_
      refine V_lload dX0_joinMarks_49 rfl ?_
      refine V_callV (av := [vi x1, vl z1]) (stk := [vi x1, vi x3, vi x2, vr k0]) cvX0_106 hk0 rfl rfl (by decide) (by simp [ctg]) dX0_joinMarks_51 h ?_
      rintro _ σ4 ⟨z4, rfl, h⟩
      refine V_goto (tgt := 59) dX0_joinMarks_54 rfl ?_
      refine V_callV (av := [vi x2, vi x3, vi x1, vi z4]) (stk := []) cvX0_102 hk0 rfl rfl (by decide) (by simp [ctg]) dX0_joinMarks_59 h ?_
      rintro _ σ5 ⟨rfl, h⟩
      refine V_iinc (L' := [some (vr k0), some (vi x1), some (vi x2), some (vi (x3 + 1)), some (vl z1), none, some (vi z2)]) dX0_joinMarks_62 rfl (by decide) rfl ?_
      refine V_goto (tgt := 10) dX0_joinMarks_65 rfl ?_
      exact V.sub (SubL_s (SubL_s (SubL_s (SubL_s (SubL_n (SubL_n (SubL_n (SubL_0)))))))) h

set_option maxRecDepth 100000 in
theorem BX0_giveMarks_0 {σ : Sg} {post : Po} {k0 : Nat} {x1 : Int} {x2 : Int} {x3 : Int} {x4 : Int} (hk0 : shp[k0]? = some (0, 0, 14))
  (h : V mX0_giveMarks 3 [some (vr k0), some (vi x1), some (vi x2), some (vi x3), some (vi x4), some (vi 0)] [] σ post) :
  V mX0_giveMarks 0 [some (vr k0), some (vi x1), some (vi x2), some (vi x3), some (vi x4), none] [] σ post := by
  refine V_iconst dX0_giveMarks_0 ?_
  refine V_istore (L' := [some (vr k0), some (vi x1), some (vi x2), some (vi x3), some (vi x4), some (vi 0)]) dX0_giveMarks_1 (by decide) rfl ?_
  exact V.sub (SubL_s (SubL_s (SubL_s (SubL_s (SubL_s (SubL_s (SubL_0))))))) h
set_option maxRecDepth 100000 in
theorem BX0_giveMarks_3 {σ : Sg} {post : Po} {k0 : Nat} {x1 : Int} {x2 : Int} {x3 : Int} {x4 : Int} {x5 : Int} (hk0 : shp[k0]? = some (0, 0, 14))
  (h : (rng x5) ∧ ((rng (σ k0 7)) ∧ (((σ k0 7) ≤ x5 → post none σ) ∧ (¬ (σ k0 7) ≤ x5 → (0 ≤ x5 ∧ x5 < 60) ∧ ((rng (σ (k0 + 7) x5)) ∧ ((rng x1) ∧ ((¬ (σ (k0 + 7) x5) = x1 → V mX0_giveMarks 3 [some (vr k0), some (vi x1), some (vi x2), some (vi x3), some (vi x4), some (vi (x5 + 1))] [] σ post) ∧ ((σ (k0 + 7) x5) = x1 → (rng (σ (k0 + 8) x5)) ∧ ((rng x2) ∧ ((¬ (σ (k0 + 8) x5) = x2 → V mX0_giveMarks 3 [some (vr k0), some (vi x1), some (vi x2), some (vi x3), some (vi x4), some (vi (x5 + 1))] [] σ post) ∧ ((σ (k0 + 8) x5) = x2 → V mX0_giveMarks 3 [some (vr k0), some (vi x1), some (vi x2), some (vi x3), some (vi x4), some (vi (x5 + 1))] [] (up (up σ (k0 + 7) x5 x3) (k0 + 8) x5 x4) post))))))))))) :
  V mX0_giveMarks 3 [some (vr k0), some (vi x1), some (vi x2), some (vi x3), some (vi x4), some (vi x5)] [] σ post := by
  refine V_iload dX0_giveMarks_3 rfl ?_
  refine V_aload_n dX0_giveMarks_5 rfl rfl ?_
  refine V_getI (f := (σ k0 7)) flX0_35 hk0 (rfl) (by decide) dX0_giveMarks_6 ?_
  obtain ⟨r1, h⟩ := h
  obtain ⟨r2, h⟩ := h
  refine V_icmp_ge (tgt := 57) dX0_giveMarks_9 rfl r1 r2 (fun q => ?_) (fun q => ?_)
  · replace h := h.1 q
    exact V_return (stk := []) rfl dX0_giveMarks_57 h
  · replace h := h.2 q
    refine V_aload_n dX0_giveMarks_12 rfl rfl ?_
    refine V_getR (k2 := (k0 + 7)) flX0_38 hk0 rfl (by decide) dX0_giveMarks_13 ?_
    refine V_iload dX0_giveMarks_16 rfl ?_
    obtain ⟨r3, h⟩ := h
    refine V_iald (f := (σ (k0 + 7) x5)) (sh0_7 hk0) r3 (rfl) dX0_giveMarks_18 ?_
    refine V_iload_n dX0_giveMarks_19 rfl rfl ?_
    obtain ⟨r4, h⟩ := h
    obtain ⟨r5, h⟩ := h
    refine V_icmp_ne (tgt := 51) dX0_giveMarks_20 rfl r4 r5 (fun q => ?_) (fun q => ?_)
    · replace h := h.1 q
      refine V_iinc (L' := [some (vr k0), some (vi x1), some (vi x2), some (vi x3), some (vi x4), some (vi (x5 + 1))]) dX0_giveMarks_51 rfl (by decide) rfl ?_
      refine V_goto (tgt := 3) dX0_giveMarks_54 rfl ?_
      exact V.sub (SubL_s (SubL_s (SubL_s (SubL_s (SubL_s (SubL_s (SubL_0))))))) h
    · replace h := h.2 q
      refine V_aload_n dX0_giveMarks_23 rfl rfl ?_
      refine V_getR (k2 := (k0 + 8)) flX0_41 hk0 rfl (by decide) dX0_giveMarks_24 ?_
      refine V_iload dX0_giveMarks_27 rfl ?_
      refine V_iald (f := (σ (k0 + 8) x5)) (sh0_8 hk0) r3 (rfl) dX0_giveMarks_29 ?_
      refine V_iload_n dX0_giveMarks_30 rfl rfl ?_
      obtain ⟨r6, h⟩ := h
      obtain ⟨r7, h⟩ := h
      refine V_icmp_ne (tgt := 51) dX0_giveMarks_31 rfl r6 r7 (fun q => ?_) (fun q => ?_)
      · replace h := h.1 q
        refine V_iinc (L' := [some (vr k0), some (vi x1), some (vi x2), some (vi x3), some (vi x4), some (vi (x5 + 1))]) dX0_giveMarks_51 rfl (by decide) rfl ?_
        refine V_goto (tgt := 3) dX0_giveMarks_54 rfl ?_
        exact V.sub (SubL_s (SubL_s (SubL_s (SubL_s (SubL_s (SubL_s (SubL_0))))))) h
      · replace h := h.2 q
        refine V_aload_n dX0_giveMarks_34 rfl rfl ?_
        refine V_getR (k2 := (k0 + 7)) flX0_38 hk0 rfl (by decide) dX0_giveMarks_35 ?_
        refine V_iload dX0_giveMarks_38 rfl ?_
        refine V_iload_n dX0_giveMarks_40 rfl rfl ?_
        refine V_iast (sh0_7 hk0) r3 dX0_giveMarks_41 ?_
        refine V_aload_n dX0_giveMarks_42 rfl rfl ?_
        refine V_getR (k2 := (k0 + 8)) flX0_41 hk0 rfl (by decide) dX0_giveMarks_43 ?_
        refine V_iload dX0_giveMarks_46 rfl ?_
        refine V_iload dX0_giveMarks_48 rfl ?_
        refine V_iast (sh0_8 hk0) r3 dX0_giveMarks_50 ?_
        refine V_iinc (L' := [some (vr k0), some (vi x1), some (vi x2), some (vi x3), some (vi x4), some (vi (x5 + 1))]) dX0_giveMarks_51 rfl (by decide) rfl ?_
        refine V_goto (tgt := 3) dX0_giveMarks_54 rfl ?_
        exact V.sub (SubL_s (SubL_s (SubL_s (SubL_s (SubL_s (SubL_s (SubL_0))))))) h

set_option maxRecDepth 100000 in
theorem BX0_joinRest_0 {σ : Sg} {post : Po} {k0 : Nat} {x1 : Int} {x2 : Int} (hk0 : shp[k0]? = some (0, 0, 14))
  (h : (0 ≤ x1 ∧ x1 < 16) ∧ ((0 ≤ x2 ∧ x2 < 16) ∧ (Cl mJ9_min_7cf53 [vi ((σ (k0 + 6) x1) + (σ (k0 + 6) x2)), vi 99] (up (up σ (k0 + 5) x1 (iOr (σ (k0 + 5) x1) (iAnd (σ (k0 + 5) x2) (iXor (iShl 1 x1) (-1))))) (k0 + 5) x2 0) (pI fun z1 σ1 => post none (up (up (up σ1 (k0 + 6) x1 z1) (k0 + 6) x2 0) (k0 + 4) x2 x1))))) :
  V mX0_joinRest 0 [some (vr k0), some (vi x1), some (vi x2)] [] σ post := by
  refine V_aload_n dX0_joinRest_0 rfl rfl ?_
  refine V_getR (k2 := (k0 + 5)) flX0_29 hk0 rfl (by decide) dX0_joinRest_1 ?_
  refine V_iload_n dX0_joinRest_4 rfl rfl ?_
  refine V_dup2 dX0_joinRest_5 trivial trivial ?_
  obtain ⟨r1, h⟩ := h
  refine V_iald (f := (σ (k0 + 5) x1)) (sh0_5 hk0) r1 (rfl) dX0_joinRest_6 ?_
  refine V_aload_n dX0_joinRest_7 rfl rfl ?_
  refine V_getR (k2 := (k0 + 5)) flX0_29 hk0 rfl (by decide) dX0_joinRest_8 ?_
  refine V_iload_n dX0_joinRest_11 rfl rfl ?_
  obtain ⟨r2, h⟩ := h
  refine V_iald (f := (σ (k0 + 5) x2)) (sh0_5 hk0) r2 (rfl) dX0_joinRest_12 ?_
  refine V_iconst dX0_joinRest_13 ?_
  refine V_iload_n dX0_joinRest_14 rfl rfl ?_
  refine V_ishl dX0_joinRest_15 ?_
  refine V_iconst dX0_joinRest_16 ?_
  refine V_ixor dX0_joinRest_17 ?_
  refine V_iand dX0_joinRest_18 ?_
  refine V_ior dX0_joinRest_19 ?_
  refine V_iast (sh0_5 hk0) r1 dX0_joinRest_20 ?_
  refine V_aload_n dX0_joinRest_21 rfl rfl ?_
  refine V_getR (k2 := (k0 + 5)) flX0_29 hk0 rfl (by decide) dX0_joinRest_22 ?_
  refine V_iload_n dX0_joinRest_25 rfl rfl ?_
  refine V_iconst dX0_joinRest_26 ?_
  refine V_iast (sh0_5 hk0) r2 dX0_joinRest_27 ?_
  refine V_aload_n dX0_joinRest_28 rfl rfl ?_
  refine V_getR (k2 := (k0 + 6)) flX0_32 hk0 rfl (by decide) dX0_joinRest_29 ?_
  refine V_iload_n dX0_joinRest_32 rfl rfl ?_
  refine V_aload_n dX0_joinRest_33 rfl rfl ?_
  refine V_getR (k2 := (k0 + 6)) flX0_32 hk0 rfl (by decide) dX0_joinRest_34 ?_
  refine V_iload_n dX0_joinRest_37 rfl rfl ?_
  refine V_iald (f := (σ (k0 + 6) x1)) (sh0_6 hk0) r1 ((up_o (by omega)).trans (up_o (by omega))) dX0_joinRest_38 ?_
  refine V_aload_n dX0_joinRest_39 rfl rfl ?_
  refine V_getR (k2 := (k0 + 6)) flX0_32 hk0 rfl (by decide) dX0_joinRest_40 ?_
  refine V_iload_n dX0_joinRest_43 rfl rfl ?_
  refine V_iald (f := (σ (k0 + 6) x2)) (sh0_6 hk0) r2 ((up_o (by omega)).trans (up_o (by omega))) dX0_joinRest_44 ?_
  refine V_iadd dX0_joinRest_45 ?_
  refine V_bipush dX0_joinRest_46 (by decide) ?_
  refine V_callS (av := [vi ((σ (k0 + 6) x1) + (σ (k0 + 6) x2)), vi 99]) (stk := [vi x1, vr (k0 + 6)]) cvX0_91 rfl rfl (by decide) (by simp [ctg]) dX0_joinRest_48 h ?_
  rintro _ σ1 ⟨z1, rfl, h⟩
  refine V_iast (sh0_6 hk0) r1 dX0_joinRest_51 ?_
  refine V_aload_n dX0_joinRest_52 rfl rfl ?_
  refine V_getR (k2 := (k0 + 6)) flX0_32 hk0 rfl (by decide) dX0_joinRest_53 ?_
  refine V_iload_n dX0_joinRest_56 rfl rfl ?_
  refine V_iconst dX0_joinRest_57 ?_
  refine V_iast (sh0_6 hk0) r2 dX0_joinRest_58 ?_
  refine V_aload_n dX0_joinRest_59 rfl rfl ?_
  refine V_getR (k2 := (k0 + 4)) flX0_26 hk0 rfl (by decide) dX0_joinRest_60 ?_
  refine V_iload_n dX0_joinRest_63 rfl rfl ?_
  refine V_iload_n dX0_joinRest_64 rfl rfl ?_
  refine V_iast (sh0_4 hk0) r2 dX0_joinRest_65 ?_
  exact V_return (stk := []) rfl dX0_joinRest_66 h

