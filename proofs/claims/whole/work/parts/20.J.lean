/-! ===== Math.max, Math.min, Long.bitCount ===== -/
theorem Met.ofWF {l : Launch} {y : MethodName} {ws ws' : List Cond} {rm : Room} {Pc : Array Value → State → Prop} {Qc : Array Value → State → Outcome → State → Prop} {mc ms : Nat} {free : Addr → Prop} {cc : ByteArray} {maxL : Nat} {ret : Option FieldType}
    (hy : plainFor y = true) (hw : ws = Cond.code y cc maxL ret :: ws')
    (body : ∀ p e s m args below meth c s₁, BodyLoose p l y (headSpec ws rm) cc maxL ret e s m args below meth c s₁ → c.maxLocals = maxL → Pc args s →
      W p l e (headSpec ws rm).room s m args below meth c s.heap [] 0 0 (MQ below Qc args s mc ms free) (entryFrame m args maxL)) : Met l y ws rm Pc Qc mc ms free := by
  refine MetFree.of_bodyRF (code := cc) (maxLocals := maxL) (ret := ret) hy ?_ ?_
  · intro args s m h hn
    obtain ⟨meth, c, h1, h2, h3, h4, h5, h6, -, -⟩ := Cond.code_spec hn (atoms_spec (ws := ws) h _ (by rw [hw]; exact List.mem_cons_self))
    exact ⟨meth, c, h1, h2, h3, h4, h5, h6⟩
  · intro p e s m args below meth c s₁ B hml hP _ hst
    have hh0 : s₁.heap = s.heap := by rw [B.state]; rfl
    obtain ⟨t, a1, o, b1, b2, b3⟩ := body p e s m args below meth c s₁ B hml hP s₁ hh0 (Stand.of_body B)
    exact ⟨t, o, Steps.trans hst a1, b1, b2, ⟨b3.1, b3.2⟩⟩
/-- a method's contract, out of a walk from its start -/
theorem Cl_ofF {y : Md} {av : List MV} {σ : Sg} {post : Po} (L : Lc) (hy : plainFor y.1 = true) (hL : SubL L (args0 av)) (hn : ∀ ad, (lg_sl (av.map (ren ad))).length ≤ y.2.2.1) (h : V y 0 L [] σ post) : Cl y av σ post := by
  intro l ad dA D
  refine Met.ofWF (cc := y.2.1) (maxL := y.2.2.1) (ret := y.2.2.2.1) hy rfl ?_
  intro p e s m args below meth c s₁ B hml hv
  obtain ⟨rfl, hB, hAp, hP, hK, hE⟩ := hv
  have hts := atoms_spec (ws := wsD y) B.pre
  have hlocks := B.notSynchronized
  have hr := B.returns
  have hx := B.exec
  have hb := B.bytes
  rw [lg_entry_eq]
  refine h p l e _ s m _ below meth c (inA ad) ad dA D 0 0 _ ⟨hx, hb, hml, findClass_of_methodNamed B.named, fun w hw => hts w (List.mem_cons_of_mem _ hw), ⟨Nat.le_refl _, Nat.le_refl _⟩, ⟨Nat.zero_le _, Nat.zero_le _⟩, hAp, fun k hk => ⟨k, hk, rfl⟩, hK, hE⟩ trivial ?_ s.heap [] _ hB hP va_S.rf ((LH.entry (hn ad)).sub hL)
  intro r σ' H locs pc ls hp hB' hP' hS hi
  have hq : ∀ t : State, t.heap = H → s.WarmedH t.vm → Qz y ad dA D post (av.map (ren ad)).toArray s (.returned (r.map (ren ad))) t := fun t ht _ => ⟨⟨r, σ', rfl, hp, hB', by rw [ht]; exact hP'⟩, hS.F ht⟩
  rcases r with _ | z | z | k
  · exact W.vret hx hb (hr.trans hi.1) hq hS.2.2 hi.2
  · obtain ⟨h1, ty, h2, h3⟩ := hi
    exact W.zret hx hb (hr.trans h2) h3 hq hS.2.2 h1
  · exact W.lret hx hb (hr.trans hi.1) hq hS.2.2 hi.2
  · obtain ⟨⟨n, h1⟩, h2⟩ := hi
    exact W.aret hx hb (hr.trans h1) (Or.inl ⟨n, rfl⟩) (Or.inr ⟨_, rfl⟩) hq hS.2.2 h2
theorem EJ9_max_7cf53 {σ : Sg} {post : Po} {x0 : Int} {x1 : Int} 
  (h : (rng x0) ∧ ((rng x1) ∧ ((x0 < x1 → post (some (vi x1)) σ) ∧ (¬ x0 < x1 → post (some (vi x0)) σ)))) : Cl mJ9_max_7cf53 [vi x0, vi x1] σ post :=
  Cl_ofF [some (vi x0), some (vi x1)] (by decide +kernel) (SubL_s (SubL_s (SubL_0))) (fun ad => Nat.le_refl _) (BJ9_max_7cf53_0 h)
theorem EJ9_min_7cf53 {σ : Sg} {post : Po} {x0 : Int} {x1 : Int} 
  (h : (rng x0) ∧ ((rng x1) ∧ ((x1 < x0 → post (some (vi x1)) σ) ∧ (¬ x1 < x0 → post (some (vi x0)) σ)))) : Cl mJ9_min_7cf53 [vi x0, vi x1] σ post :=
  Cl_ofF [some (vi x0), some (vi x1)] (by decide +kernel) (SubL_s (SubL_s (SubL_0))) (fun ad => Nat.le_refl _) (BJ9_min_7cf53_0 h)
set_option maxRecDepth 100000 in
theorem BJ13_bitCount_95d88_0 {σ : Sg} {post : Po} {x0 : Int} 
  (h : post (some (vi (iAnd ((((lAnd (((lAnd (x0 - (lAnd (lUshr x0 1) 6148914691236517205)) 3689348814741910323) + (lAnd (lUshr (x0 - (lAnd (lUshr x0 1) 6148914691236517205)) 2) 3689348814741910323)) + (lUshr ((lAnd (x0 - (lAnd (lUshr x0 1) 6148914691236517205)) 3689348814741910323) + (lAnd (lUshr (x0 - (lAnd (lUshr x0 1) 6148914691236517205)) 2) 3689348814741910323)) 4)) 1085102592571150095) + (lUshr (lAnd (((lAnd (x0 - (lAnd (lUshr x0 1) 6148914691236517205)) 3689348814741910323) + (lAnd (lUshr (x0 - (lAnd (lUshr x0 1) 6148914691236517205)) 2) 3689348814741910323)) + (lUshr ((lAnd (x0 - (lAnd (lUshr x0 1) 6148914691236517205)) 3689348814741910323) + (lAnd (lUshr (x0 - (lAnd (lUshr x0 1) 6148914691236517205)) 2) 3689348814741910323)) 4)) 1085102592571150095) 8)) + (lUshr ((lAnd (((lAnd (x0 - (lAnd (lUshr x0 1) 6148914691236517205)) 3689348814741910323) + (lAnd (lUshr (x0 - (lAnd (lUshr x0 1) 6148914691236517205)) 2) 3689348814741910323)) + (lUshr ((lAnd (x0 - (lAnd (lUshr x0 1) 6148914691236517205)) 3689348814741910323) + (lAnd (lUshr (x0 - (lAnd (lUshr x0 1) 6148914691236517205)) 2) 3689348814741910323)) 4)) 1085102592571150095) + (lUshr (lAnd (((lAnd (x0 - (lAnd (lUshr x0 1) 6148914691236517205)) 3689348814741910323) + (lAnd (lUshr (x0 - (lAnd (lUshr x0 1) 6148914691236517205)) 2) 3689348814741910323)) + (lUshr ((lAnd (x0 - (lAnd (lUshr x0 1) 6148914691236517205)) 3689348814741910323) + (lAnd (lUshr (x0 - (lAnd (lUshr x0 1) 6148914691236517205)) 2) 3689348814741910323)) 4)) 1085102592571150095) 8)) 16)) + (lUshr (((lAnd (((lAnd (x0 - (lAnd (lUshr x0 1) 6148914691236517205)) 3689348814741910323) + (lAnd (lUshr (x0 - (lAnd (lUshr x0 1) 6148914691236517205)) 2) 3689348814741910323)) + (lUshr ((lAnd (x0 - (lAnd (lUshr x0 1) 6148914691236517205)) 3689348814741910323) + (lAnd (lUshr (x0 - (lAnd (lUshr x0 1) 6148914691236517205)) 2) 3689348814741910323)) 4)) 1085102592571150095) + (lUshr (lAnd (((lAnd (x0 - (lAnd (lUshr x0 1) 6148914691236517205)) 3689348814741910323) + (lAnd (lUshr (x0 - (lAnd (lUshr x0 1) 6148914691236517205)) 2) 3689348814741910323)) + (lUshr ((lAnd (x0 - (lAnd (lUshr x0 1) 6148914691236517205)) 3689348814741910323) + (lAnd (lUshr (x0 - (lAnd (lUshr x0 1) 6148914691236517205)) 2) 3689348814741910323)) 4)) 1085102592571150095) 8)) + (lUshr ((lAnd (((lAnd (x0 - (lAnd (lUshr x0 1) 6148914691236517205)) 3689348814741910323) + (lAnd (lUshr (x0 - (lAnd (lUshr x0 1) 6148914691236517205)) 2) 3689348814741910323)) + (lUshr ((lAnd (x0 - (lAnd (lUshr x0 1) 6148914691236517205)) 3689348814741910323) + (lAnd (lUshr (x0 - (lAnd (lUshr x0 1) 6148914691236517205)) 2) 3689348814741910323)) 4)) 1085102592571150095) + (lUshr (lAnd (((lAnd (x0 - (lAnd (lUshr x0 1) 6148914691236517205)) 3689348814741910323) + (lAnd (lUshr (x0 - (lAnd (lUshr x0 1) 6148914691236517205)) 2) 3689348814741910323)) + (lUshr ((lAnd (x0 - (lAnd (lUshr x0 1) 6148914691236517205)) 3689348814741910323) + (lAnd (lUshr (x0 - (lAnd (lUshr x0 1) 6148914691236517205)) 2) 3689348814741910323)) 4)) 1085102592571150095) 8)) 16)) 32)) 127))) σ) :
  V mJ13_bitCount_95d88 0 [some (vl x0), none] [] σ post := by
  refine V_lload_n dJ13_bitCount_95d88_0 rfl rfl ?_
  refine V_lload_n dJ13_bitCount_95d88_1 rfl rfl ?_
  refine V_iconst dJ13_bitCount_95d88_2 ?_
  refine V_lushr dJ13_bitCount_95d88_3 ?_
  refine V_ldc2 dJ13_bitCount_95d88_4 klJ13_314 ?_
  refine V_land dJ13_bitCount_95d88_7 ?_
  refine V_lsub dJ13_bitCount_95d88_8 ?_
  refine V_lstore_n (L' := [some (vl (x0 - (lAnd (lUshr x0 1) 6148914691236517205))), none]) dJ13_bitCount_95d88_9 rfl (by decide) rfl ?_
  refine V_lload_n dJ13_bitCount_95d88_10 rfl rfl ?_
  refine V_ldc2 dJ13_bitCount_95d88_11 klJ13_316 ?_
  refine V_land dJ13_bitCount_95d88_14 ?_
  refine V_lload_n dJ13_bitCount_95d88_15 rfl rfl ?_
  refine V_iconst dJ13_bitCount_95d88_16 ?_
  refine V_lushr dJ13_bitCount_95d88_17 ?_
  refine V_ldc2 dJ13_bitCount_95d88_18 klJ13_316 ?_
  refine V_land dJ13_bitCount_95d88_21 ?_
  refine V_ladd dJ13_bitCount_95d88_22 ?_
  refine V_lstore_n (L' := [some (vl ((lAnd (x0 - (lAnd (lUshr x0 1) 6148914691236517205)) 3689348814741910323) + (lAnd (lUshr (x0 - (lAnd (lUshr x0 1) 6148914691236517205)) 2) 3689348814741910323))), none]) dJ13_bitCount_95d88_23 rfl (by decide) rfl ?_
  refine V_lload_n dJ13_bitCount_95d88_24 rfl rfl ?_
  refine V_lload_n dJ13_bitCount_95d88_25 rfl rfl ?_
  refine V_iconst dJ13_bitCount_95d88_26 ?_
  refine V_lushr dJ13_bitCount_95d88_27 ?_
  refine V_ladd dJ13_bitCount_95d88_28 ?_
  refine V_ldc2 dJ13_bitCount_95d88_29 klJ13_318 ?_
  refine V_land dJ13_bitCount_95d88_32 ?_
  refine V_lstore_n (L' := [some (vl (lAnd (((lAnd (x0 - (lAnd (lUshr x0 1) 6148914691236517205)) 3689348814741910323) + (lAnd (lUshr (x0 - (lAnd (lUshr x0 1) 6148914691236517205)) 2) 3689348814741910323)) + (lUshr ((lAnd (x0 - (lAnd (lUshr x0 1) 6148914691236517205)) 3689348814741910323) + (lAnd (lUshr (x0 - (lAnd (lUshr x0 1) 6148914691236517205)) 2) 3689348814741910323)) 4)) 1085102592571150095)), none]) dJ13_bitCount_95d88_33 rfl (by decide) rfl ?_
  refine V_lload_n dJ13_bitCount_95d88_34 rfl rfl ?_
  refine V_lload_n dJ13_bitCount_95d88_35 rfl rfl ?_
  refine V_bipush dJ13_bitCount_95d88_36 (by decide) ?_
  refine V_lushr dJ13_bitCount_95d88_38 ?_
  refine V_ladd dJ13_bitCount_95d88_39 ?_
  refine V_lstore_n (L' := [some (vl ((lAnd (((lAnd (x0 - (lAnd (lUshr x0 1) 6148914691236517205)) 3689348814741910323) + (lAnd (lUshr (x0 - (lAnd (lUshr x0 1) 6148914691236517205)) 2) 3689348814741910323)) + (lUshr ((lAnd (x0 - (lAnd (lUshr x0 1) 6148914691236517205)) 3689348814741910323) + (lAnd (lUshr (x0 - (lAnd (lUshr x0 1) 6148914691236517205)) 2) 3689348814741910323)) 4)) 1085102592571150095) + (lUshr (lAnd (((lAnd (x0 - (lAnd (lUshr x0 1) 6148914691236517205)) 3689348814741910323) + (lAnd (lUshr (x0 - (lAnd (lUshr x0 1) 6148914691236517205)) 2) 3689348814741910323)) + (lUshr ((lAnd (x0 - (lAnd (lUshr x0 1) 6148914691236517205)) 3689348814741910323) + (lAnd (lUshr (x0 - (lAnd (lUshr x0 1) 6148914691236517205)) 2) 3689348814741910323)) 4)) 1085102592571150095) 8))), none]) dJ13_bitCount_95d88_40 rfl (by decide) rfl ?_
  refine V_lload_n dJ13_bitCount_95d88_41 rfl rfl ?_
  refine V_lload_n dJ13_bitCount_95d88_42 rfl rfl ?_
  refine V_bipush dJ13_bitCount_95d88_43 (by decide) ?_
  refine V_lushr dJ13_bitCount_95d88_45 ?_
  refine V_ladd dJ13_bitCount_95d88_46 ?_
  refine V_lstore_n (L' := [some (vl (((lAnd (((lAnd (x0 - (lAnd (lUshr x0 1) 6148914691236517205)) 3689348814741910323) + (lAnd (lUshr (x0 - (lAnd (lUshr x0 1) 6148914691236517205)) 2) 3689348814741910323)) + (lUshr ((lAnd (x0 - (lAnd (lUshr x0 1) 6148914691236517205)) 3689348814741910323) + (lAnd (lUshr (x0 - (lAnd (lUshr x0 1) 6148914691236517205)) 2) 3689348814741910323)) 4)) 1085102592571150095) + (lUshr (lAnd (((lAnd (x0 - (lAnd (lUshr x0 1) 6148914691236517205)) 3689348814741910323) + (lAnd (lUshr (x0 - (lAnd (lUshr x0 1) 6148914691236517205)) 2) 3689348814741910323)) + (lUshr ((lAnd (x0 - (lAnd (lUshr x0 1) 6148914691236517205)) 3689348814741910323) + (lAnd (lUshr (x0 - (lAnd (lUshr x0 1) 6148914691236517205)) 2) 3689348814741910323)) 4)) 1085102592571150095) 8)) + (lUshr ((lAnd (((lAnd (x0 - (lAnd (lUshr x0 1) 6148914691236517205)) 3689348814741910323) + (lAnd (lUshr (x0 - (lAnd (lUshr x0 1) 6148914691236517205)) 2) 3689348814741910323)) + (lUshr ((lAnd (x0 - (lAnd (lUshr x0 1) 6148914691236517205)) 3689348814741910323) + (lAnd (lUshr (x0 - (lAnd (lUshr x0 1) 6148914691236517205)) 2) 3689348814741910323)) 4)) 1085102592571150095) + (lUshr (lAnd (((lAnd (x0 - (lAnd (lUshr x0 1) 6148914691236517205)) 3689348814741910323) + (lAnd (lUshr (x0 - (lAnd (lUshr x0 1) 6148914691236517205)) 2) 3689348814741910323)) + (lUshr ((lAnd (x0 - (lAnd (lUshr x0 1) 6148914691236517205)) 3689348814741910323) + (lAnd (lUshr (x0 - (lAnd (lUshr x0 1) 6148914691236517205)) 2) 3689348814741910323)) 4)) 1085102592571150095) 8)) 16))), none]) dJ13_bitCount_95d88_47 rfl (by decide) rfl ?_
  refine V_lload_n dJ13_bitCount_95d88_48 rfl rfl ?_
  refine V_lload_n dJ13_bitCount_95d88_49 rfl rfl ?_
  refine V_bipush dJ13_bitCount_95d88_50 (by decide) ?_
  refine V_lushr dJ13_bitCount_95d88_52 ?_
  refine V_ladd dJ13_bitCount_95d88_53 ?_
  refine V_lstore_n (L' := [some (vl ((((lAnd (((lAnd (x0 - (lAnd (lUshr x0 1) 6148914691236517205)) 3689348814741910323) + (lAnd (lUshr (x0 - (lAnd (lUshr x0 1) 6148914691236517205)) 2) 3689348814741910323)) + (lUshr ((lAnd (x0 - (lAnd (lUshr x0 1) 6148914691236517205)) 3689348814741910323) + (lAnd (lUshr (x0 - (lAnd (lUshr x0 1) 6148914691236517205)) 2) 3689348814741910323)) 4)) 1085102592571150095) + (lUshr (lAnd (((lAnd (x0 - (lAnd (lUshr x0 1) 6148914691236517205)) 3689348814741910323) + (lAnd (lUshr (x0 - (lAnd (lUshr x0 1) 6148914691236517205)) 2) 3689348814741910323)) + (lUshr ((lAnd (x0 - (lAnd (lUshr x0 1) 6148914691236517205)) 3689348814741910323) + (lAnd (lUshr (x0 - (lAnd (lUshr x0 1) 6148914691236517205)) 2) 3689348814741910323)) 4)) 1085102592571150095) 8)) + (lUshr ((lAnd (((lAnd (x0 - (lAnd (lUshr x0 1) 6148914691236517205)) 3689348814741910323) + (lAnd (lUshr (x0 - (lAnd (lUshr x0 1) 6148914691236517205)) 2) 3689348814741910323)) + (lUshr ((lAnd (x0 - (lAnd (lUshr x0 1) 6148914691236517205)) 3689348814741910323) + (lAnd (lUshr (x0 - (lAnd (lUshr x0 1) 6148914691236517205)) 2) 3689348814741910323)) 4)) 1085102592571150095) + (lUshr (lAnd (((lAnd (x0 - (lAnd (lUshr x0 1) 6148914691236517205)) 3689348814741910323) + (lAnd (lUshr (x0 - (lAnd (lUshr x0 1) 6148914691236517205)) 2) 3689348814741910323)) + (lUshr ((lAnd (x0 - (lAnd (lUshr x0 1) 6148914691236517205)) 3689348814741910323) + (lAnd (lUshr (x0 - (lAnd (lUshr x0 1) 6148914691236517205)) 2) 3689348814741910323)) 4)) 1085102592571150095) 8)) 16)) + (lUshr (((lAnd (((lAnd (x0 - (lAnd (lUshr x0 1) 6148914691236517205)) 3689348814741910323) + (lAnd (lUshr (x0 - (lAnd (lUshr x0 1) 6148914691236517205)) 2) 3689348814741910323)) + (lUshr ((lAnd (x0 - (lAnd (lUshr x0 1) 6148914691236517205)) 3689348814741910323) + (lAnd (lUshr (x0 - (lAnd (lUshr x0 1) 6148914691236517205)) 2) 3689348814741910323)) 4)) 1085102592571150095) + (lUshr (lAnd (((lAnd (x0 - (lAnd (lUshr x0 1) 6148914691236517205)) 3689348814741910323) + (lAnd (lUshr (x0 - (lAnd (lUshr x0 1) 6148914691236517205)) 2) 3689348814741910323)) + (lUshr ((lAnd (x0 - (lAnd (lUshr x0 1) 6148914691236517205)) 3689348814741910323) + (lAnd (lUshr (x0 - (lAnd (lUshr x0 1) 6148914691236517205)) 2) 3689348814741910323)) 4)) 1085102592571150095) 8)) + (lUshr ((lAnd (((lAnd (x0 - (lAnd (lUshr x0 1) 6148914691236517205)) 3689348814741910323) + (lAnd (lUshr (x0 - (lAnd (lUshr x0 1) 6148914691236517205)) 2) 3689348814741910323)) + (lUshr ((lAnd (x0 - (lAnd (lUshr x0 1) 6148914691236517205)) 3689348814741910323) + (lAnd (lUshr (x0 - (lAnd (lUshr x0 1) 6148914691236517205)) 2) 3689348814741910323)) 4)) 1085102592571150095) + (lUshr (lAnd (((lAnd (x0 - (lAnd (lUshr x0 1) 6148914691236517205)) 3689348814741910323) + (lAnd (lUshr (x0 - (lAnd (lUshr x0 1) 6148914691236517205)) 2) 3689348814741910323)) + (lUshr ((lAnd (x0 - (lAnd (lUshr x0 1) 6148914691236517205)) 3689348814741910323) + (lAnd (lUshr (x0 - (lAnd (lUshr x0 1) 6148914691236517205)) 2) 3689348814741910323)) 4)) 1085102592571150095) 8)) 16)) 32))), none]) dJ13_bitCount_95d88_54 rfl (by decide) rfl ?_
  refine V_lload_n dJ13_bitCount_95d88_55 rfl rfl ?_
  refine V_l2i dJ13_bitCount_95d88_56 ?_
  refine V_bipush dJ13_bitCount_95d88_57 (by decide) ?_
  refine V_iand dJ13_bitCount_95d88_59 ?_
  exact V_ireturn (stk := []) rfl dJ13_bitCount_95d88_60 h
theorem EJ13_bitCount_95d88 {σ : Sg} {post : Po} {x0 : Int} 
  (h : post (some (vi (iAnd ((((lAnd (((lAnd (x0 - (lAnd (lUshr x0 1) 6148914691236517205)) 3689348814741910323) + (lAnd (lUshr (x0 - (lAnd (lUshr x0 1) 6148914691236517205)) 2) 3689348814741910323)) + (lUshr ((lAnd (x0 - (lAnd (lUshr x0 1) 6148914691236517205)) 3689348814741910323) + (lAnd (lUshr (x0 - (lAnd (lUshr x0 1) 6148914691236517205)) 2) 3689348814741910323)) 4)) 1085102592571150095) + (lUshr (lAnd (((lAnd (x0 - (lAnd (lUshr x0 1) 6148914691236517205)) 3689348814741910323) + (lAnd (lUshr (x0 - (lAnd (lUshr x0 1) 6148914691236517205)) 2) 3689348814741910323)) + (lUshr ((lAnd (x0 - (lAnd (lUshr x0 1) 6148914691236517205)) 3689348814741910323) + (lAnd (lUshr (x0 - (lAnd (lUshr x0 1) 6148914691236517205)) 2) 3689348814741910323)) 4)) 1085102592571150095) 8)) + (lUshr ((lAnd (((lAnd (x0 - (lAnd (lUshr x0 1) 6148914691236517205)) 3689348814741910323) + (lAnd (lUshr (x0 - (lAnd (lUshr x0 1) 6148914691236517205)) 2) 3689348814741910323)) + (lUshr ((lAnd (x0 - (lAnd (lUshr x0 1) 6148914691236517205)) 3689348814741910323) + (lAnd (lUshr (x0 - (lAnd (lUshr x0 1) 6148914691236517205)) 2) 3689348814741910323)) 4)) 1085102592571150095) + (lUshr (lAnd (((lAnd (x0 - (lAnd (lUshr x0 1) 6148914691236517205)) 3689348814741910323) + (lAnd (lUshr (x0 - (lAnd (lUshr x0 1) 6148914691236517205)) 2) 3689348814741910323)) + (lUshr ((lAnd (x0 - (lAnd (lUshr x0 1) 6148914691236517205)) 3689348814741910323) + (lAnd (lUshr (x0 - (lAnd (lUshr x0 1) 6148914691236517205)) 2) 3689348814741910323)) 4)) 1085102592571150095) 8)) 16)) + (lUshr (((lAnd (((lAnd (x0 - (lAnd (lUshr x0 1) 6148914691236517205)) 3689348814741910323) + (lAnd (lUshr (x0 - (lAnd (lUshr x0 1) 6148914691236517205)) 2) 3689348814741910323)) + (lUshr ((lAnd (x0 - (lAnd (lUshr x0 1) 6148914691236517205)) 3689348814741910323) + (lAnd (lUshr (x0 - (lAnd (lUshr x0 1) 6148914691236517205)) 2) 3689348814741910323)) 4)) 1085102592571150095) + (lUshr (lAnd (((lAnd (x0 - (lAnd (lUshr x0 1) 6148914691236517205)) 3689348814741910323) + (lAnd (lUshr (x0 - (lAnd (lUshr x0 1) 6148914691236517205)) 2) 3689348814741910323)) + (lUshr ((lAnd (x0 - (lAnd (lUshr x0 1) 6148914691236517205)) 3689348814741910323) + (lAnd (lUshr (x0 - (lAnd (lUshr x0 1) 6148914691236517205)) 2) 3689348814741910323)) 4)) 1085102592571150095) 8)) + (lUshr ((lAnd (((lAnd (x0 - (lAnd (lUshr x0 1) 6148914691236517205)) 3689348814741910323) + (lAnd (lUshr (x0 - (lAnd (lUshr x0 1) 6148914691236517205)) 2) 3689348814741910323)) + (lUshr ((lAnd (x0 - (lAnd (lUshr x0 1) 6148914691236517205)) 3689348814741910323) + (lAnd (lUshr (x0 - (lAnd (lUshr x0 1) 6148914691236517205)) 2) 3689348814741910323)) 4)) 1085102592571150095) + (lUshr (lAnd (((lAnd (x0 - (lAnd (lUshr x0 1) 6148914691236517205)) 3689348814741910323) + (lAnd (lUshr (x0 - (lAnd (lUshr x0 1) 6148914691236517205)) 2) 3689348814741910323)) + (lUshr ((lAnd (x0 - (lAnd (lUshr x0 1) 6148914691236517205)) 3689348814741910323) + (lAnd (lUshr (x0 - (lAnd (lUshr x0 1) 6148914691236517205)) 2) 3689348814741910323)) 4)) 1085102592571150095) 8)) 16)) 32)) 127))) σ) : Cl mJ13_bitCount_95d88 [vl x0] σ post :=
  Cl_of [some (vl x0), none] (by decide) (SubL_s (SubL_n SubL_0)) (fun ad => Nat.le_refl _) (BJ13_bitCount_95d88_0 h)
