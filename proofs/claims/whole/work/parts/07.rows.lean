/-! ===== THE ENGINE: a row an instruction (printed by wip/whole/gen/mk05.py) ===== -/
theorem V_iconst {Φ : Ph} {y : Md} {pc : Nat} {L : Lc} {stk : List MV} {σ : Sg} {post : Po} {n : Int} (hd : decode y.2.1 pc = .ok (.iconst n, 1)) (kk : VP Φ y (pc + 1) L (vi n :: stk) σ post) : VP Φ y pc L (stk) σ post := by
  intro p l e R s m args below meth c A ad dA D cells slots Q X hΦ hR H locs ls hB hP hS hL
  exact lv_iconst X.1 X.2.1 hd rfl (kk p l e R s m args below meth c A ad dA D cells slots Q X hΦ hR H locs ls hB hP hS hL)
theorem bp_ok {n : Int} (h : -128 ≤ n ∧ n ≤ 127) : (Int8.ofInt n).toInt32 = iI n := Int32.toInt_inj.mp (by rw [Int8.toInt_toInt32, iI_toInt ⟨by omega, by omega⟩, Int8.toInt_ofInt_of_le (by omega) (by omega)])
theorem sp_ok {n : Int} (h : -32768 ≤ n ∧ n ≤ 32767) : (Int16.ofInt n).toInt32 = iI n := Int32.toInt_inj.mp (by rw [Int16.toInt_toInt32, iI_toInt ⟨by omega, by omega⟩, Int16.toInt_ofInt_of_le (by omega) (by omega)])
theorem V_bipush {Φ : Ph} {y : Md} {pc : Nat} {L : Lc} {stk : List MV} {σ : Sg} {post : Po} {n : Int} (hd : decode y.2.1 pc = .ok (.bipush n, 2)) (hn : -128 ≤ n ∧ n ≤ 127) (kk : VP Φ y (pc + 2) L (vi n :: stk) σ post) : VP Φ y pc L (stk) σ post := by
  intro p l e R s m args below meth c A ad dA D cells slots Q X hΦ hR H locs ls hB hP hS hL
  exact lv_bipush X.1 X.2.1 hd (bp_ok hn) (kk p l e R s m args below meth c A ad dA D cells slots Q X hΦ hR H locs ls hB hP hS hL)
theorem V_sipush {Φ : Ph} {y : Md} {pc : Nat} {L : Lc} {stk : List MV} {σ : Sg} {post : Po} {n : Int} (hd : decode y.2.1 pc = .ok (.sipush n, 3)) (hn : -32768 ≤ n ∧ n ≤ 32767) (kk : VP Φ y (pc + 3) L (vi n :: stk) σ post) : VP Φ y pc L (stk) σ post := by
  intro p l e R s m args below meth c A ad dA D cells slots Q X hΦ hR H locs ls hB hP hS hL
  exact lv_sipush X.1 X.2.1 hd (sp_ok hn) (kk p l e R s m args below meth c A ad dA D cells slots Q X hΦ hR H locs ls hB hP hS hL)
theorem V_lconst {Φ : Ph} {y : Md} {pc : Nat} {L : Lc} {stk : List MV} {σ : Sg} {post : Po} {n : Fin 2} {z : Int} (hd : decode y.2.1 pc = .ok (.lconst n, 1)) (hz : ((n : Nat) : Int) = z) (kk : VP Φ y (pc + 1) L (vl z :: stk) σ post) : VP Φ y pc L (stk) σ post := by
  intro p l e R s m args below meth c A ad dA D cells slots Q X hΦ hR H locs ls hB hP hS hL
  subst hz
  exact lv_lconst X.1 X.2.1 hd (Int64.ofInt_eq_ofNat).symm (kk p l e R s m args below meth c A ad dA D cells slots Q X hΦ hR H locs ls hB hP hS hL)
theorem V_iload_n {Φ : Ph} {y : Md} {pc : Nat} {L : Lc} {stk : List MV} {σ : Sg} {post : Po} {k : Fin 4} {i : Nat} {x : Int} (hd : decode y.2.1 pc = .ok (.iload_n k, 1)) (hi : (k : Nat) = i) (hl : L[i]? = some (some (vi x))) (kk : VP Φ y (pc + 1) L (vi x :: stk) σ post) : VP Φ y pc L (stk) σ post := by
  intro p l e R s m args below meth c A ad dA D cells slots Q X hΦ hR H locs ls hB hP hS hL
  exact lv_iload_n X.1 X.2.1 hd hi (hL.2.2 _ _ hl) (kk p l e R s m args below meth c A ad dA D cells slots Q X hΦ hR H locs ls hB hP hS hL)
theorem V_iload {Φ : Ph} {y : Md} {pc : Nat} {L : Lc} {stk : List MV} {σ : Sg} {post : Po} {i : Nat} {x : Int} (hd : decode y.2.1 pc = .ok (.iload i, 2)) (hl : L[i]? = some (some (vi x))) (kk : VP Φ y (pc + 2) L (vi x :: stk) σ post) : VP Φ y pc L (stk) σ post := by
  intro p l e R s m args below meth c A ad dA D cells slots Q X hΦ hR H locs ls hB hP hS hL
  exact lv_iload X.1 X.2.1 hd (hL.2.2 _ _ hl) (kk p l e R s m args below meth c A ad dA D cells slots Q X hΦ hR H locs ls hB hP hS hL)
theorem V_istore_n {Φ : Ph} {y : Md} {pc : Nat} {L : Lc} {stk : List MV} {σ : Sg} {post : Po} {k : Fin 4} {i : Nat} {x : Int} {L' : Lc} (hd : decode y.2.1 pc = .ok (.istore_n k, 1)) (hi : (k : Nat) = i) (hn : i < y.2.2.1) (hs : stv L i (vi x) = L') (kk : VP Φ y (pc + 1) L' (stk) σ post) : VP Φ y pc L (vi x :: stk) σ post := by
  intro p l e R s m args below meth c A ad dA D cells slots Q X hΦ hR H locs ls hB hP hS hL
  subst hs
  exact lv_istore_n X.1 X.2.1 hd hi hL.has hn rfl (fun ls1 h1 => kk p l e R s m args below meth c A ad dA D cells slots Q X hΦ hR H locs ls1 hB hP hS (LH.st1 (v := vi x) h1))
theorem V_istore {Φ : Ph} {y : Md} {pc : Nat} {L : Lc} {stk : List MV} {σ : Sg} {post : Po} {i : Nat} {x : Int} {L' : Lc} (hd : decode y.2.1 pc = .ok (.istore i, 2)) (hn : i < y.2.2.1) (hs : stv L i (vi x) = L') (kk : VP Φ y (pc + 2) L' (stk) σ post) : VP Φ y pc L (vi x :: stk) σ post := by
  intro p l e R s m args below meth c A ad dA D cells slots Q X hΦ hR H locs ls hB hP hS hL
  subst hs
  exact lv_istore X.1 X.2.1 hd hL.has hn rfl (fun ls1 h1 => kk p l e R s m args below meth c A ad dA D cells slots Q X hΦ hR H locs ls1 hB hP hS (LH.st1 (v := vi x) h1))
theorem V_lload_n {Φ : Ph} {y : Md} {pc : Nat} {L : Lc} {stk : List MV} {σ : Sg} {post : Po} {k : Fin 4} {i : Nat} {x : Int} (hd : decode y.2.1 pc = .ok (.lload_n k, 1)) (hi : (k : Nat) = i) (hl : L[i]? = some (some (vl x))) (kk : VP Φ y (pc + 1) L (vl x :: stk) σ post) : VP Φ y pc L (stk) σ post := by
  intro p l e R s m args below meth c A ad dA D cells slots Q X hΦ hR H locs ls hB hP hS hL
  exact lv_lload_n X.1 X.2.1 hd hi (hL.2.2 _ _ hl) (kk p l e R s m args below meth c A ad dA D cells slots Q X hΦ hR H locs ls hB hP hS hL)
theorem V_lload {Φ : Ph} {y : Md} {pc : Nat} {L : Lc} {stk : List MV} {σ : Sg} {post : Po} {i : Nat} {x : Int} (hd : decode y.2.1 pc = .ok (.lload i, 2)) (hl : L[i]? = some (some (vl x))) (kk : VP Φ y (pc + 2) L (vl x :: stk) σ post) : VP Φ y pc L (stk) σ post := by
  intro p l e R s m args below meth c A ad dA D cells slots Q X hΦ hR H locs ls hB hP hS hL
  exact lv_lload X.1 X.2.1 hd (hL.2.2 _ _ hl) (kk p l e R s m args below meth c A ad dA D cells slots Q X hΦ hR H locs ls hB hP hS hL)
theorem V_lstore_n {Φ : Ph} {y : Md} {pc : Nat} {L : Lc} {stk : List MV} {σ : Sg} {post : Po} {k : Fin 4} {i : Nat} {x : Int} {L' : Lc} (hd : decode y.2.1 pc = .ok (.lstore_n k, 1)) (hi : (k : Nat) = i) (hn : i + 1 < y.2.2.1) (hs : stw L i (vl x) = L') (kk : VP Φ y (pc + 1) L' (stk) σ post) : VP Φ y pc L (vl x :: stk) σ post := by
  intro p l e R s m args below meth c A ad dA D cells slots Q X hΦ hR H locs ls hB hP hS hL
  subst hs
  exact lv_lstore_n X.1 X.2.1 hd hi hL.has hn rfl (fun ls1 h1 => kk p l e R s m args below meth c A ad dA D cells slots Q X hΦ hR H locs ls1 hB hP hS (LH.st2 (v := vl x) h1))
theorem V_lstore {Φ : Ph} {y : Md} {pc : Nat} {L : Lc} {stk : List MV} {σ : Sg} {post : Po} {i : Nat} {x : Int} {L' : Lc} (hd : decode y.2.1 pc = .ok (.lstore i, 2)) (hn : i + 1 < y.2.2.1) (hs : stw L i (vl x) = L') (kk : VP Φ y (pc + 2) L' (stk) σ post) : VP Φ y pc L (vl x :: stk) σ post := by
  intro p l e R s m args below meth c A ad dA D cells slots Q X hΦ hR H locs ls hB hP hS hL
  subst hs
  exact lv_lstore X.1 X.2.1 hd hL.has hn rfl (fun ls1 h1 => kk p l e R s m args below meth c A ad dA D cells slots Q X hΦ hR H locs ls1 hB hP hS (LH.st2 (v := vl x) h1))
theorem V_aload_n {Φ : Ph} {y : Md} {pc : Nat} {L : Lc} {stk : List MV} {σ : Sg} {post : Po} {k : Fin 4} {i : Nat} {x : Nat} (hd : decode y.2.1 pc = .ok (.aload_n k, 1)) (hi : (k : Nat) = i) (hl : L[i]? = some (some (vr x))) (kk : VP Φ y (pc + 1) L (vr x :: stk) σ post) : VP Φ y pc L (stk) σ post := by
  intro p l e R s m args below meth c A ad dA D cells slots Q X hΦ hR H locs ls hB hP hS hL
  exact lv_aload_n X.1 X.2.1 hd hi (hL.2.2 _ _ hl) (kk p l e R s m args below meth c A ad dA D cells slots Q X hΦ hR H locs ls hB hP hS hL)
theorem V_aload {Φ : Ph} {y : Md} {pc : Nat} {L : Lc} {stk : List MV} {σ : Sg} {post : Po} {i : Nat} {x : Nat} (hd : decode y.2.1 pc = .ok (.aload i, 2)) (hl : L[i]? = some (some (vr x))) (kk : VP Φ y (pc + 2) L (vr x :: stk) σ post) : VP Φ y pc L (stk) σ post := by
  intro p l e R s m args below meth c A ad dA D cells slots Q X hΦ hR H locs ls hB hP hS hL
  exact lv_aload X.1 X.2.1 hd (hL.2.2 _ _ hl) (kk p l e R s m args below meth c A ad dA D cells slots Q X hΦ hR H locs ls hB hP hS hL)
theorem V_astore_n {Φ : Ph} {y : Md} {pc : Nat} {L : Lc} {stk : List MV} {σ : Sg} {post : Po} {k : Fin 4} {i : Nat} {x : Nat} {L' : Lc} (hd : decode y.2.1 pc = .ok (.astore_n k, 1)) (hi : (k : Nat) = i) (hn : i < y.2.2.1) (hs : stv L i (vr x) = L') (kk : VP Φ y (pc + 1) L' (stk) σ post) : VP Φ y pc L (vr x :: stk) σ post := by
  intro p l e R s m args below meth c A ad dA D cells slots Q X hΦ hR H locs ls hB hP hS hL
  subst hs
  exact lv_astore_n X.1 X.2.1 hd hi hL.has hn rfl (fun ls1 h1 => kk p l e R s m args below meth c A ad dA D cells slots Q X hΦ hR H locs ls1 hB hP hS (LH.st1 (v := vr x) h1))
theorem V_astore {Φ : Ph} {y : Md} {pc : Nat} {L : Lc} {stk : List MV} {σ : Sg} {post : Po} {i : Nat} {x : Nat} {L' : Lc} (hd : decode y.2.1 pc = .ok (.astore i, 2)) (hn : i < y.2.2.1) (hs : stv L i (vr x) = L') (kk : VP Φ y (pc + 2) L' (stk) σ post) : VP Φ y pc L (vr x :: stk) σ post := by
  intro p l e R s m args below meth c A ad dA D cells slots Q X hΦ hR H locs ls hB hP hS hL
  subst hs
  exact lv_astore X.1 X.2.1 hd hL.has hn rfl (fun ls1 h1 => kk p l e R s m args below meth c A ad dA D cells slots Q X hΦ hR H locs ls1 hB hP hS (LH.st1 (v := vr x) h1))
theorem V_iinc {Φ : Ph} {y : Md} {pc : Nat} {L : Lc} {stk : List MV} {σ : Sg} {post : Po} {i : Nat} {n x : Int} {L' : Lc} (hd : decode y.2.1 pc = .ok (.iinc i n, 3)) (hl : L[i]? = some (some (vi x))) (hn : i < y.2.2.1) (hs : stv L i (vi (x + n)) = L') (kk : VP Φ y (pc + 3) L' (stk) σ post) : VP Φ y pc L (stk) σ post := by
  intro p l e R s m args below meth c A ad dA D cells slots Q X hΦ hR H locs ls hB hP hS hL
  subst hs
  obtain ⟨k, hk⟩ := List.getElem?_of_mem (mem_asc (ad := ad) hl)
  exact lv_iinc X.1 X.2.1 hd hL.has hk (iI_add x n) hn rfl (fun ls1 h1 => kk p l e R s m args below meth c A ad dA D cells slots Q X hΦ hR H locs ls1 hB hP hS (LH.st1 (v := vi (x + n)) h1))
theorem V_iadd {Φ : Ph} {y : Md} {pc : Nat} {L : Lc} {stk : List MV} {σ : Sg} {post : Po} {a b : Int} (hd : decode y.2.1 pc = .ok (.iadd, 1)) (kk : VP Φ y (pc + 1) L (vi (a + b) :: stk) σ post) : VP Φ y pc L (vi b :: vi a :: stk) σ post := by
  intro p l e R s m args below meth c A ad dA D cells slots Q X hΦ hR H locs ls hB hP hS hL
  refine lv_iadd X.1 X.2.1 hd ?_
  rw [iI_add]
  exact kk p l e R s m args below meth c A ad dA D cells slots Q X hΦ hR H locs ls hB hP hS hL
theorem V_isub {Φ : Ph} {y : Md} {pc : Nat} {L : Lc} {stk : List MV} {σ : Sg} {post : Po} {a b : Int} (hd : decode y.2.1 pc = .ok (.isub, 1)) (kk : VP Φ y (pc + 1) L (vi (a - b) :: stk) σ post) : VP Φ y pc L (vi b :: vi a :: stk) σ post := by
  intro p l e R s m args below meth c A ad dA D cells slots Q X hΦ hR H locs ls hB hP hS hL
  refine lv_isub X.1 X.2.1 hd ?_
  rw [iI_sub]
  exact kk p l e R s m args below meth c A ad dA D cells slots Q X hΦ hR H locs ls hB hP hS hL
theorem V_imul {Φ : Ph} {y : Md} {pc : Nat} {L : Lc} {stk : List MV} {σ : Sg} {post : Po} {a b : Int} (hd : decode y.2.1 pc = .ok (.imul, 1)) (kk : VP Φ y (pc + 1) L (vi (a * b) :: stk) σ post) : VP Φ y pc L (vi b :: vi a :: stk) σ post := by
  intro p l e R s m args below meth c A ad dA D cells slots Q X hΦ hR H locs ls hB hP hS hL
  refine lv_imul X.1 X.2.1 hd ?_
  rw [iI_mul]
  exact kk p l e R s m args below meth c A ad dA D cells slots Q X hΦ hR H locs ls hB hP hS hL
theorem V_ladd {Φ : Ph} {y : Md} {pc : Nat} {L : Lc} {stk : List MV} {σ : Sg} {post : Po} {a b : Int} (hd : decode y.2.1 pc = .ok (.ladd, 1)) (kk : VP Φ y (pc + 1) L (vl (a + b) :: stk) σ post) : VP Φ y pc L (vl b :: vl a :: stk) σ post := by
  intro p l e R s m args below meth c A ad dA D cells slots Q X hΦ hR H locs ls hB hP hS hL
  refine lv_ladd X.1 X.2.1 hd ?_
  rw [lI_add]
  exact kk p l e R s m args below meth c A ad dA D cells slots Q X hΦ hR H locs ls hB hP hS hL
theorem V_lsub {Φ : Ph} {y : Md} {pc : Nat} {L : Lc} {stk : List MV} {σ : Sg} {post : Po} {a b : Int} (hd : decode y.2.1 pc = .ok (.lsub, 1)) (kk : VP Φ y (pc + 1) L (vl (a - b) :: stk) σ post) : VP Φ y pc L (vl b :: vl a :: stk) σ post := by
  intro p l e R s m args below meth c A ad dA D cells slots Q X hΦ hR H locs ls hB hP hS hL
  refine lv_lsub X.1 X.2.1 hd ?_
  rw [lI_sub]
  exact kk p l e R s m args below meth c A ad dA D cells slots Q X hΦ hR H locs ls hB hP hS hL
theorem V_iand {Φ : Ph} {y : Md} {pc : Nat} {L : Lc} {stk : List MV} {σ : Sg} {post : Po} {a b : Int} (hd : decode y.2.1 pc = .ok (.iand, 1)) (kk : VP Φ y (pc + 1) L (vi (iAnd a b) :: stk) σ post) : VP Φ y pc L (vi b :: vi a :: stk) σ post := by
  intro p l e R s m args below meth c A ad dA D cells slots Q X hΦ hR H locs ls hB hP hS hL
  have k : W p l e R s m args below meth c H locs cells slots Q (F0 m (pc + 1) ls (.int (iI (iAnd a b)) :: stk.map (ren ad))) := kk p l e R s m args below meth c A ad dA D cells slots Q X hΦ hR H locs ls hB hP hS hL
  unfold iAnd at k
  rw [iI_of] at k
  exact lv_iand X.1 X.2.1 hd k
theorem V_ior {Φ : Ph} {y : Md} {pc : Nat} {L : Lc} {stk : List MV} {σ : Sg} {post : Po} {a b : Int} (hd : decode y.2.1 pc = .ok (.ior, 1)) (kk : VP Φ y (pc + 1) L (vi (iOr a b) :: stk) σ post) : VP Φ y pc L (vi b :: vi a :: stk) σ post := by
  intro p l e R s m args below meth c A ad dA D cells slots Q X hΦ hR H locs ls hB hP hS hL
  have k : W p l e R s m args below meth c H locs cells slots Q (F0 m (pc + 1) ls (.int (iI (iOr a b)) :: stk.map (ren ad))) := kk p l e R s m args below meth c A ad dA D cells slots Q X hΦ hR H locs ls hB hP hS hL
  unfold iOr at k
  rw [iI_of] at k
  exact lv_ior X.1 X.2.1 hd k
theorem V_ixor {Φ : Ph} {y : Md} {pc : Nat} {L : Lc} {stk : List MV} {σ : Sg} {post : Po} {a b : Int} (hd : decode y.2.1 pc = .ok (.ixor, 1)) (kk : VP Φ y (pc + 1) L (vi (iXor a b) :: stk) σ post) : VP Φ y pc L (vi b :: vi a :: stk) σ post := by
  intro p l e R s m args below meth c A ad dA D cells slots Q X hΦ hR H locs ls hB hP hS hL
  have k : W p l e R s m args below meth c H locs cells slots Q (F0 m (pc + 1) ls (.int (iI (iXor a b)) :: stk.map (ren ad))) := kk p l e R s m args below meth c A ad dA D cells slots Q X hΦ hR H locs ls hB hP hS hL
  unfold iXor at k
  rw [iI_of] at k
  exact lv_ixor X.1 X.2.1 hd k
theorem V_ishl {Φ : Ph} {y : Md} {pc : Nat} {L : Lc} {stk : List MV} {σ : Sg} {post : Po} {a b : Int} (hd : decode y.2.1 pc = .ok (.ishl, 1)) (kk : VP Φ y (pc + 1) L (vi (iShl a b) :: stk) σ post) : VP Φ y pc L (vi b :: vi a :: stk) σ post := by
  intro p l e R s m args below meth c A ad dA D cells slots Q X hΦ hR H locs ls hB hP hS hL
  have k : W p l e R s m args below meth c H locs cells slots Q (F0 m (pc + 1) ls (.int (iI (iShl a b)) :: stk.map (ren ad))) := kk p l e R s m args below meth c A ad dA D cells slots Q X hΦ hR H locs ls hB hP hS hL
  unfold iShl at k
  rw [iI_of] at k
  exact lv_ishl X.1 X.2.1 hd k
theorem V_ishr {Φ : Ph} {y : Md} {pc : Nat} {L : Lc} {stk : List MV} {σ : Sg} {post : Po} {a b : Int} (hd : decode y.2.1 pc = .ok (.ishr, 1)) (kk : VP Φ y (pc + 1) L (vi (iShr a b) :: stk) σ post) : VP Φ y pc L (vi b :: vi a :: stk) σ post := by
  intro p l e R s m args below meth c A ad dA D cells slots Q X hΦ hR H locs ls hB hP hS hL
  have k : W p l e R s m args below meth c H locs cells slots Q (F0 m (pc + 1) ls (.int (iI (iShr a b)) :: stk.map (ren ad))) := kk p l e R s m args below meth c A ad dA D cells slots Q X hΦ hR H locs ls hB hP hS hL
  unfold iShr at k
  rw [iI_of] at k
  exact lv_ishr X.1 X.2.1 hd k
theorem V_land {Φ : Ph} {y : Md} {pc : Nat} {L : Lc} {stk : List MV} {σ : Sg} {post : Po} {a b : Int} (hd : decode y.2.1 pc = .ok (.land, 1)) (kk : VP Φ y (pc + 1) L (vl (lAnd a b) :: stk) σ post) : VP Φ y pc L (vl b :: vl a :: stk) σ post := by
  intro p l e R s m args below meth c A ad dA D cells slots Q X hΦ hR H locs ls hB hP hS hL
  have k : W p l e R s m args below meth c H locs cells slots Q (F0 m (pc + 1) ls (.long (lI (lAnd a b)) :: stk.map (ren ad))) := kk p l e R s m args below meth c A ad dA D cells slots Q X hΦ hR H locs ls hB hP hS hL
  unfold lAnd at k
  rw [lI_of] at k
  exact lv_land X.1 X.2.1 hd k
theorem V_lor {Φ : Ph} {y : Md} {pc : Nat} {L : Lc} {stk : List MV} {σ : Sg} {post : Po} {a b : Int} (hd : decode y.2.1 pc = .ok (.lor, 1)) (kk : VP Φ y (pc + 1) L (vl (lOr a b) :: stk) σ post) : VP Φ y pc L (vl b :: vl a :: stk) σ post := by
  intro p l e R s m args below meth c A ad dA D cells slots Q X hΦ hR H locs ls hB hP hS hL
  have k : W p l e R s m args below meth c H locs cells slots Q (F0 m (pc + 1) ls (.long (lI (lOr a b)) :: stk.map (ren ad))) := kk p l e R s m args below meth c A ad dA D cells slots Q X hΦ hR H locs ls hB hP hS hL
  unfold lOr at k
  rw [lI_of] at k
  exact lv_lor X.1 X.2.1 hd k
theorem V_lxor {Φ : Ph} {y : Md} {pc : Nat} {L : Lc} {stk : List MV} {σ : Sg} {post : Po} {a b : Int} (hd : decode y.2.1 pc = .ok (.lxor, 1)) (kk : VP Φ y (pc + 1) L (vl (lXor a b) :: stk) σ post) : VP Φ y pc L (vl b :: vl a :: stk) σ post := by
  intro p l e R s m args below meth c A ad dA D cells slots Q X hΦ hR H locs ls hB hP hS hL
  have k : W p l e R s m args below meth c H locs cells slots Q (F0 m (pc + 1) ls (.long (lI (lXor a b)) :: stk.map (ren ad))) := kk p l e R s m args below meth c A ad dA D cells slots Q X hΦ hR H locs ls hB hP hS hL
  unfold lXor at k
  rw [lI_of] at k
  exact lv_lxor X.1 X.2.1 hd k
theorem V_iushr {Φ : Ph} {y : Md} {pc : Nat} {L : Lc} {stk : List MV} {σ : Sg} {post : Po} {a b : Int} (hd : decode y.2.1 pc = .ok (.iushr, 1)) (kk : VP Φ y (pc + 1) L (vi (iUshr a b) :: stk) σ post) : VP Φ y pc L (vi b :: vi a :: stk) σ post := by
  intro p l e R s m args below meth c A ad dA D cells slots Q X hΦ hR H locs ls hB hP hS hL
  have k : W p l e R s m args below meth c H locs cells slots Q (F0 m (pc + 1) ls (.int (iI (iUshr a b)) :: stk.map (ren ad))) := kk p l e R s m args below meth c A ad dA D cells slots Q X hΦ hR H locs ls hB hP hS hL
  unfold iUshr at k
  rw [iI_of] at k
  exact lv_iushr X.1 X.2.1 hd rfl k
theorem V_lshl {Φ : Ph} {y : Md} {pc : Nat} {L : Lc} {stk : List MV} {σ : Sg} {post : Po} {a b : Int} (hd : decode y.2.1 pc = .ok (.lshl, 1)) (kk : VP Φ y (pc + 1) L (vl (lShl a b) :: stk) σ post) : VP Φ y pc L (vi b :: vl a :: stk) σ post := by
  intro p l e R s m args below meth c A ad dA D cells slots Q X hΦ hR H locs ls hB hP hS hL
  have k : W p l e R s m args below meth c H locs cells slots Q (F0 m (pc + 1) ls (.long (lI (lShl a b)) :: stk.map (ren ad))) := kk p l e R s m args below meth c A ad dA D cells slots Q X hΦ hR H locs ls hB hP hS hL
  unfold lShl at k
  rw [lI_of] at k
  exact lv_lshl X.1 X.2.1 hd rfl k
theorem V_lshr {Φ : Ph} {y : Md} {pc : Nat} {L : Lc} {stk : List MV} {σ : Sg} {post : Po} {a b : Int} (hd : decode y.2.1 pc = .ok (.lshr, 1)) (kk : VP Φ y (pc + 1) L (vl (lShr a b) :: stk) σ post) : VP Φ y pc L (vi b :: vl a :: stk) σ post := by
  intro p l e R s m args below meth c A ad dA D cells slots Q X hΦ hR H locs ls hB hP hS hL
  have k : W p l e R s m args below meth c H locs cells slots Q (F0 m (pc + 1) ls (.long (lI (lShr a b)) :: stk.map (ren ad))) := kk p l e R s m args below meth c A ad dA D cells slots Q X hΦ hR H locs ls hB hP hS hL
  unfold lShr at k
  rw [lI_of] at k
  exact lv_lshr X.1 X.2.1 hd rfl k
theorem V_lushr {Φ : Ph} {y : Md} {pc : Nat} {L : Lc} {stk : List MV} {σ : Sg} {post : Po} {a b : Int} (hd : decode y.2.1 pc = .ok (.lushr, 1)) (kk : VP Φ y (pc + 1) L (vl (lUshr a b) :: stk) σ post) : VP Φ y pc L (vi b :: vl a :: stk) σ post := by
  intro p l e R s m args below meth c A ad dA D cells slots Q X hΦ hR H locs ls hB hP hS hL
  have k : W p l e R s m args below meth c H locs cells slots Q (F0 m (pc + 1) ls (.long (lI (lUshr a b)) :: stk.map (ren ad))) := kk p l e R s m args below meth c A ad dA D cells slots Q X hΦ hR H locs ls hB hP hS hL
  unfold lUshr at k
  rw [lI_of] at k
  exact lv_lushr X.1 X.2.1 hd rfl k
theorem iI_ne0 {b : Int} (h : rng b ∧ b ≠ 0) : ¬ iI b = 0 := fun q => h.2 ((iI_eq h.1 rng_0).mp (q.trans iI_0.symm))
theorem V_idiv {Φ : Ph} {y : Md} {pc : Nat} {L : Lc} {stk : List MV} {σ : Sg} {post : Po} {a b : Int} (hd : decode y.2.1 pc = .ok (.idiv, 1)) (hb0 : rng b ∧ b ≠ 0) (kk : VP Φ y (pc + 1) L (vi (iDiv a b) :: stk) σ post) : VP Φ y pc L (vi b :: vi a :: stk) σ post := by
  intro p l e R s m args below meth c A ad dA D cells slots Q X hΦ hR H locs ls hB hP hS hL
  have k : W p l e R s m args below meth c H locs cells slots Q (F0 m (pc + 1) ls (.int (iI (iDiv a b)) :: stk.map (ren ad))) := kk p l e R s m args below meth c A ad dA D cells slots Q X hΦ hR H locs ls hB hP hS hL
  unfold iDiv at k
  rw [iI_of] at k
  exact lv_idiv X.1 X.2.1 hd (iI_ne0 hb0) k
theorem V_irem {Φ : Ph} {y : Md} {pc : Nat} {L : Lc} {stk : List MV} {σ : Sg} {post : Po} {a b : Int} (hd : decode y.2.1 pc = .ok (.irem, 1)) (hb0 : rng b ∧ b ≠ 0) (kk : VP Φ y (pc + 1) L (vi (a - iDiv a b * b) :: stk) σ post) : VP Φ y pc L (vi b :: vi a :: stk) σ post := by
  intro p l e R s m args below meth c A ad dA D cells slots Q X hΦ hR H locs ls hB hP hS hL
  have k : W p l e R s m args below meth c H locs cells slots Q (F0 m (pc + 1) ls (.int (iI (a - iDiv a b * b)) :: stk.map (ren ad))) := kk p l e R s m args below meth c A ad dA D cells slots Q X hΦ hR H locs ls hB hP hS hL
  rw [← iI_sub, ← iI_mul] at k
  unfold iDiv at k
  rw [iI_of] at k
  exact lv_irem X.1 X.2.1 hd (iI_ne0 hb0) k
theorem V_i2l {Φ : Ph} {y : Md} {pc : Nat} {L : Lc} {stk : List MV} {σ : Sg} {post : Po} {a : Int} (hd : decode y.2.1 pc = .ok (.i2l, 1)) (ra : rng a) (kk : VP Φ y (pc + 1) L (vl a :: stk) σ post) : VP Φ y pc L (vi a :: stk) σ post := by
  intro p l e R s m args below meth c A ad dA D cells slots Q X hΦ hR H locs ls hB hP hS hL
  exact lv_i2l X.1 X.2.1 hd (iI_l ra) (kk p l e R s m args below meth c A ad dA D cells slots Q X hΦ hR H locs ls hB hP hS hL)
theorem V_l2i {Φ : Ph} {y : Md} {pc : Nat} {L : Lc} {stk : List MV} {σ : Sg} {post : Po} {a : Int} (hd : decode y.2.1 pc = .ok (.l2i, 1)) (kk : VP Φ y (pc + 1) L (vi a :: stk) σ post) : VP Φ y pc L (vl a :: stk) σ post := by
  intro p l e R s m args below meth c A ad dA D cells slots Q X hΦ hR H locs ls hB hP hS hL
  exact lv_l2i X.1 X.2.1 hd (lI_i a) (kk p l e R s m args below meth c A ad dA D cells slots Q X hΦ hR H locs ls hB hP hS hL)
theorem V_i2b {Φ : Ph} {y : Md} {pc : Nat} {L : Lc} {stk : List MV} {σ : Sg} {post : Po} {a : Int} (hd : decode y.2.1 pc = .ok (.i2b, 1)) (kk : VP Φ y (pc + 1) L (vi (iByte a) :: stk) σ post) : VP Φ y pc L (vi a :: stk) σ post := by
  intro p l e R s m args below meth c A ad dA D cells slots Q X hΦ hR H locs ls hB hP hS hL
  refine lv_i2b X.1 X.2.1 hd ?_ (kk p l e R s m args below meth c A ad dA D cells slots Q X hΦ hR H locs ls hB hP hS hL)
  unfold iByte
  rw [iI_of]
theorem ren_cat1 (ad : Nat → Nat) (z : Int) : (ren ad (vi z)).category = 1 := rfl
def c1 : MV → Prop
  | .inr (.inl _) => False
  | _ => True
theorem c1_cat {ad : Nat → Nat} {v : MV} (h : c1 v) : (ren ad v).category = 1 := by rcases v with z | z | k <;> first | rfl | exact h.elim
theorem V_dup {Φ : Ph} {y : Md} {pc : Nat} {L : Lc} {stk : List MV} {σ : Sg} {post : Po} {v : MV} (hd : decode y.2.1 pc = .ok (.dup, 1)) (hc : c1 v) (kk : VP Φ y (pc + 1) L (v :: v :: stk) σ post) : VP Φ y pc L (v :: stk) σ post := by
  intro p l e R s m args below meth c A ad dA D cells slots Q X hΦ hR H locs ls hB hP hS hL
  exact lv_dup X.1 X.2.1 hd (c1_cat hc) (kk p l e R s m args below meth c A ad dA D cells slots Q X hΦ hR H locs ls hB hP hS hL)
theorem V_pop {Φ : Ph} {y : Md} {pc : Nat} {L : Lc} {stk : List MV} {σ : Sg} {post : Po} {v : MV} (hd : decode y.2.1 pc = .ok (.pop, 1)) (hc : c1 v) (kk : VP Φ y (pc + 1) L (stk) σ post) : VP Φ y pc L (v :: stk) σ post := by
  intro p l e R s m args below meth c A ad dA D cells slots Q X hΦ hR H locs ls hB hP hS hL
  exact lv_pop X.1 X.2.1 hd (c1_cat hc) (kk p l e R s m args below meth c A ad dA D cells slots Q X hΦ hR H locs ls hB hP hS hL)
theorem V_dup2 {Φ : Ph} {y : Md} {pc : Nat} {L : Lc} {stk : List MV} {σ : Sg} {post : Po} {v w : MV} (hd : decode y.2.1 pc = .ok (.dup2, 1)) (hc : c1 v) (hc2 : c1 w) (kk : VP Φ y (pc + 1) L (v :: w :: v :: w :: stk) σ post) : VP Φ y pc L (v :: w :: stk) σ post := by
  intro p l e R s m args below meth c A ad dA D cells slots Q X hΦ hR H locs ls hB hP hS hL
  exact lv_dup2_11 X.1 X.2.1 hd (c1_cat hc) (c1_cat hc2) (kk p l e R s m args below meth c A ad dA D cells slots Q X hΦ hR H locs ls hB hP hS hL)
theorem iI_eq0 {a : Int} (ra : rng a) : iI a = 0 ↔ a = 0 := by rw [← iI_0]; exact iI_eq ra rng_0
theorem iI_lt0 {a : Int} (ra : rng a) : iI a < 0 ↔ a < 0 := by rw [← iI_0]; exact iI_lt ra rng_0
theorem iI_gt0 {a : Int} (ra : rng a) : 0 < iI a ↔ 0 < a := by rw [← iI_0]; exact iI_lt rng_0 ra
theorem iI_le0 {a : Int} (ra : rng a) : iI a ≤ 0 ↔ a ≤ 0 := by rw [← iI_0]; exact iI_le ra rng_0
theorem iI_ge0 {a : Int} (ra : rng a) : 0 ≤ iI a ↔ 0 ≤ a := by rw [← iI_0]; exact iI_le rng_0 ra
theorem V_icmp_eq {Φ : Ph} {y : Md} {pc : Nat} {L : Lc} {stk : List MV} {σ : Sg} {post : Po} {a b off : Int} {tgt : Nat} (hd : decode y.2.1 pc = .ok (.if_icmp .eq off, 3)) (ht : (pc : Int) + off = (tgt : Int)) (ra : rng a) (rb : rng b) (kt : a = b → VP Φ y (tgt) L (stk) σ post) (kf : ¬ a = b → VP Φ y (pc + 3) L (stk) σ post) : VP Φ y pc L (vi b :: vi a :: stk) σ post := by
  intro p l e R s m args below meth c A ad dA D cells slots Q X hΦ hR H locs ls hB hP hS hL
  exact lv_icmp_eq X.1 X.2.1 hd ht (fun h => (kt ((iI_eq ra rb).mp h)) p l e R s m args below meth c A ad dA D cells slots Q X hΦ hR H locs ls hB hP hS hL) (fun h => (kf (fun q => h ((iI_eq ra rb).mpr q))) p l e R s m args below meth c A ad dA D cells slots Q X hΦ hR H locs ls hB hP hS hL)
theorem V_icmp_ne {Φ : Ph} {y : Md} {pc : Nat} {L : Lc} {stk : List MV} {σ : Sg} {post : Po} {a b off : Int} {tgt : Nat} (hd : decode y.2.1 pc = .ok (.if_icmp .ne off, 3)) (ht : (pc : Int) + off = (tgt : Int)) (ra : rng a) (rb : rng b) (kt : ¬ a = b → VP Φ y (tgt) L (stk) σ post) (kf : a = b → VP Φ y (pc + 3) L (stk) σ post) : VP Φ y pc L (vi b :: vi a :: stk) σ post := by
  intro p l e R s m args below meth c A ad dA D cells slots Q X hΦ hR H locs ls hB hP hS hL
  exact lv_icmp_ne X.1 X.2.1 hd ht (fun h => (kt (fun q => h ((iI_eq ra rb).mpr q))) p l e R s m args below meth c A ad dA D cells slots Q X hΦ hR H locs ls hB hP hS hL) (fun h => (kf ((iI_eq ra rb).mp h)) p l e R s m args below meth c A ad dA D cells slots Q X hΦ hR H locs ls hB hP hS hL)
theorem V_icmp_lt {Φ : Ph} {y : Md} {pc : Nat} {L : Lc} {stk : List MV} {σ : Sg} {post : Po} {a b off : Int} {tgt : Nat} (hd : decode y.2.1 pc = .ok (.if_icmp .lt off, 3)) (ht : (pc : Int) + off = (tgt : Int)) (ra : rng a) (rb : rng b) (kt : a < b → VP Φ y (tgt) L (stk) σ post) (kf : ¬ a < b → VP Φ y (pc + 3) L (stk) σ post) : VP Φ y pc L (vi b :: vi a :: stk) σ post := by
  intro p l e R s m args below meth c A ad dA D cells slots Q X hΦ hR H locs ls hB hP hS hL
  exact lv_icmp_lt X.1 X.2.1 hd ht (fun h => (kt ((iI_lt ra rb).mp h)) p l e R s m args below meth c A ad dA D cells slots Q X hΦ hR H locs ls hB hP hS hL) (fun h => (kf (fun q => h ((iI_lt ra rb).mpr q))) p l e R s m args below meth c A ad dA D cells slots Q X hΦ hR H locs ls hB hP hS hL)
theorem V_icmp_ge {Φ : Ph} {y : Md} {pc : Nat} {L : Lc} {stk : List MV} {σ : Sg} {post : Po} {a b off : Int} {tgt : Nat} (hd : decode y.2.1 pc = .ok (.if_icmp .ge off, 3)) (ht : (pc : Int) + off = (tgt : Int)) (ra : rng a) (rb : rng b) (kt : b ≤ a → VP Φ y (tgt) L (stk) σ post) (kf : ¬ b ≤ a → VP Φ y (pc + 3) L (stk) σ post) : VP Φ y pc L (vi b :: vi a :: stk) σ post := by
  intro p l e R s m args below meth c A ad dA D cells slots Q X hΦ hR H locs ls hB hP hS hL
  exact lv_icmp_ge X.1 X.2.1 hd ht (fun h => (kt ((iI_le rb ra).mp h)) p l e R s m args below meth c A ad dA D cells slots Q X hΦ hR H locs ls hB hP hS hL) (fun h => (kf (fun q => h ((iI_le rb ra).mpr q))) p l e R s m args below meth c A ad dA D cells slots Q X hΦ hR H locs ls hB hP hS hL)
theorem V_icmp_gt {Φ : Ph} {y : Md} {pc : Nat} {L : Lc} {stk : List MV} {σ : Sg} {post : Po} {a b off : Int} {tgt : Nat} (hd : decode y.2.1 pc = .ok (.if_icmp .gt off, 3)) (ht : (pc : Int) + off = (tgt : Int)) (ra : rng a) (rb : rng b) (kt : b < a → VP Φ y (tgt) L (stk) σ post) (kf : ¬ b < a → VP Φ y (pc + 3) L (stk) σ post) : VP Φ y pc L (vi b :: vi a :: stk) σ post := by
  intro p l e R s m args below meth c A ad dA D cells slots Q X hΦ hR H locs ls hB hP hS hL
  exact lv_icmp_gt X.1 X.2.1 hd ht (fun h => (kt ((iI_lt rb ra).mp h)) p l e R s m args below meth c A ad dA D cells slots Q X hΦ hR H locs ls hB hP hS hL) (fun h => (kf (fun q => h ((iI_lt rb ra).mpr q))) p l e R s m args below meth c A ad dA D cells slots Q X hΦ hR H locs ls hB hP hS hL)
theorem V_icmp_le {Φ : Ph} {y : Md} {pc : Nat} {L : Lc} {stk : List MV} {σ : Sg} {post : Po} {a b off : Int} {tgt : Nat} (hd : decode y.2.1 pc = .ok (.if_icmp .le off, 3)) (ht : (pc : Int) + off = (tgt : Int)) (ra : rng a) (rb : rng b) (kt : a ≤ b → VP Φ y (tgt) L (stk) σ post) (kf : ¬ a ≤ b → VP Φ y (pc + 3) L (stk) σ post) : VP Φ y pc L (vi b :: vi a :: stk) σ post := by
  intro p l e R s m args below meth c A ad dA D cells slots Q X hΦ hR H locs ls hB hP hS hL
  exact lv_icmp_le X.1 X.2.1 hd ht (fun h => (kt ((iI_le ra rb).mp h)) p l e R s m args below meth c A ad dA D cells slots Q X hΦ hR H locs ls hB hP hS hL) (fun h => (kf (fun q => h ((iI_le ra rb).mpr q))) p l e R s m args below meth c A ad dA D cells slots Q X hΦ hR H locs ls hB hP hS hL)
theorem V_if_eq {Φ : Ph} {y : Md} {pc : Nat} {L : Lc} {stk : List MV} {σ : Sg} {post : Po} {a off : Int} {tgt : Nat} (hd : decode y.2.1 pc = .ok (.ifCond .eq off, 3)) (ht : (pc : Int) + off = (tgt : Int)) (ra : rng a) (kt : a = 0 → VP Φ y (tgt) L (stk) σ post) (kf : ¬ a = 0 → VP Φ y (pc + 3) L (stk) σ post) : VP Φ y pc L (vi a :: stk) σ post := by
  intro p l e R s m args below meth c A ad dA D cells slots Q X hΦ hR H locs ls hB hP hS hL
  exact lv_if_eq X.1 X.2.1 hd ht (fun h => (kt ((iI_eq0 ra).mp h)) p l e R s m args below meth c A ad dA D cells slots Q X hΦ hR H locs ls hB hP hS hL) (fun h => (kf (fun q => h ((iI_eq0 ra).mpr q))) p l e R s m args below meth c A ad dA D cells slots Q X hΦ hR H locs ls hB hP hS hL)
theorem V_if_ne {Φ : Ph} {y : Md} {pc : Nat} {L : Lc} {stk : List MV} {σ : Sg} {post : Po} {a off : Int} {tgt : Nat} (hd : decode y.2.1 pc = .ok (.ifCond .ne off, 3)) (ht : (pc : Int) + off = (tgt : Int)) (ra : rng a) (kt : ¬ a = 0 → VP Φ y (tgt) L (stk) σ post) (kf : a = 0 → VP Φ y (pc + 3) L (stk) σ post) : VP Φ y pc L (vi a :: stk) σ post := by
  intro p l e R s m args below meth c A ad dA D cells slots Q X hΦ hR H locs ls hB hP hS hL
  exact lv_if_ne X.1 X.2.1 hd ht (fun h => (kt (fun q => h ((iI_eq0 ra).mpr q))) p l e R s m args below meth c A ad dA D cells slots Q X hΦ hR H locs ls hB hP hS hL) (fun h => (kf ((iI_eq0 ra).mp h)) p l e R s m args below meth c A ad dA D cells slots Q X hΦ hR H locs ls hB hP hS hL)
theorem V_if_lt {Φ : Ph} {y : Md} {pc : Nat} {L : Lc} {stk : List MV} {σ : Sg} {post : Po} {a off : Int} {tgt : Nat} (hd : decode y.2.1 pc = .ok (.ifCond .lt off, 3)) (ht : (pc : Int) + off = (tgt : Int)) (ra : rng a) (kt : a < 0 → VP Φ y (tgt) L (stk) σ post) (kf : ¬ a < 0 → VP Φ y (pc + 3) L (stk) σ post) : VP Φ y pc L (vi a :: stk) σ post := by
  intro p l e R s m args below meth c A ad dA D cells slots Q X hΦ hR H locs ls hB hP hS hL
  exact lv_if_lt X.1 X.2.1 hd ht (fun h => (kt ((iI_lt0 ra).mp h)) p l e R s m args below meth c A ad dA D cells slots Q X hΦ hR H locs ls hB hP hS hL) (fun h => (kf (fun q => h ((iI_lt0 ra).mpr q))) p l e R s m args below meth c A ad dA D cells slots Q X hΦ hR H locs ls hB hP hS hL)
theorem V_if_ge {Φ : Ph} {y : Md} {pc : Nat} {L : Lc} {stk : List MV} {σ : Sg} {post : Po} {a off : Int} {tgt : Nat} (hd : decode y.2.1 pc = .ok (.ifCond .ge off, 3)) (ht : (pc : Int) + off = (tgt : Int)) (ra : rng a) (kt : 0 ≤ a → VP Φ y (tgt) L (stk) σ post) (kf : ¬ 0 ≤ a → VP Φ y (pc + 3) L (stk) σ post) : VP Φ y pc L (vi a :: stk) σ post := by
  intro p l e R s m args below meth c A ad dA D cells slots Q X hΦ hR H locs ls hB hP hS hL
  exact lv_if_ge X.1 X.2.1 hd ht (fun h => (kt ((iI_ge0 ra).mp h)) p l e R s m args below meth c A ad dA D cells slots Q X hΦ hR H locs ls hB hP hS hL) (fun h => (kf (fun q => h ((iI_ge0 ra).mpr q))) p l e R s m args below meth c A ad dA D cells slots Q X hΦ hR H locs ls hB hP hS hL)
theorem V_if_gt {Φ : Ph} {y : Md} {pc : Nat} {L : Lc} {stk : List MV} {σ : Sg} {post : Po} {a off : Int} {tgt : Nat} (hd : decode y.2.1 pc = .ok (.ifCond .gt off, 3)) (ht : (pc : Int) + off = (tgt : Int)) (ra : rng a) (kt : 0 < a → VP Φ y (tgt) L (stk) σ post) (kf : ¬ 0 < a → VP Φ y (pc + 3) L (stk) σ post) : VP Φ y pc L (vi a :: stk) σ post := by
  intro p l e R s m args below meth c A ad dA D cells slots Q X hΦ hR H locs ls hB hP hS hL
  exact lv_if_gt X.1 X.2.1 hd ht (fun h => (kt ((iI_gt0 ra).mp h)) p l e R s m args below meth c A ad dA D cells slots Q X hΦ hR H locs ls hB hP hS hL) (fun h => (kf (fun q => h ((iI_gt0 ra).mpr q))) p l e R s m args below meth c A ad dA D cells slots Q X hΦ hR H locs ls hB hP hS hL)
theorem V_if_le {Φ : Ph} {y : Md} {pc : Nat} {L : Lc} {stk : List MV} {σ : Sg} {post : Po} {a off : Int} {tgt : Nat} (hd : decode y.2.1 pc = .ok (.ifCond .le off, 3)) (ht : (pc : Int) + off = (tgt : Int)) (ra : rng a) (kt : a ≤ 0 → VP Φ y (tgt) L (stk) σ post) (kf : ¬ a ≤ 0 → VP Φ y (pc + 3) L (stk) σ post) : VP Φ y pc L (vi a :: stk) σ post := by
  intro p l e R s m args below meth c A ad dA D cells slots Q X hΦ hR H locs ls hB hP hS hL
  exact lv_if_le X.1 X.2.1 hd ht (fun h => (kt ((iI_le0 ra).mp h)) p l e R s m args below meth c A ad dA D cells slots Q X hΦ hR H locs ls hB hP hS hL) (fun h => (kf (fun q => h ((iI_le0 ra).mpr q))) p l e R s m args below meth c A ad dA D cells slots Q X hΦ hR H locs ls hB hP hS hL)
theorem V_goto {Φ : Ph} {y : Md} {pc : Nat} {L : Lc} {stk : List MV} {σ : Sg} {post : Po} {off : Int} {tgt : Nat} (hd : decode y.2.1 pc = .ok (.goto off, 3)) (ht : (pc : Int) + off = (tgt : Int)) (kk : VP Φ y (tgt) L (stk) σ post) : VP Φ y pc L (stk) σ post := by
  intro p l e R s m args below meth c A ad dA D cells slots Q X hΦ hR H locs ls hB hP hS hL
  exact lv_goto X.1 X.2.1 hd ht (kk p l e R s m args below meth c A ad dA D cells slots Q X hΦ hR H locs ls hB hP hS hL)
def cmpI (a b : Int) : Int := if b < a then 1 else if a = b then 0 else -1
theorem lg_cmpI {a b : Int} (ra : rngL a) (rb : rngL b) : lg_cmp (lI a) (lI b) = iI (cmpI a b) := by
  unfold lg_cmp cmpI
  by_cases h1 : b < a
  · rw [if_pos h1, if_pos (show lI a > lI b from (lI_lt rb ra).mpr h1)]; decide +kernel
  · rw [if_neg h1, if_neg (show ¬ lI a > lI b from fun q => h1 ((lI_lt rb ra).mp q))]
    by_cases h2 : a = b
    · rw [if_pos h2, if_pos ((lI_eq ra rb).mpr h2)]; decide +kernel
    · rw [if_neg h2, if_neg (fun q => h2 ((lI_eq ra rb).mp q))]; decide +kernel
theorem V_lcmp {Φ : Ph} {y : Md} {pc : Nat} {L : Lc} {stk : List MV} {σ : Sg} {post : Po} {a b : Int} (hd : decode y.2.1 pc = .ok (.lcmp, 1)) (ra : rngL a) (rb : rngL b) (kk : VP Φ y (pc + 1) L (vi (cmpI a b) :: stk) σ post) : VP Φ y pc L (vl b :: vl a :: stk) σ post := by
  intro p l e R s m args below meth c A ad dA D cells slots Q X hΦ hR H locs ls hB hP hS hL
  refine W.lcmp X.1 X.2.1 hd ?_
  rw [lg_cmpI ra rb]
  exact kk p l e R s m args below meth c A ad dA D cells slots Q X hΦ hR H locs ls hB hP hS hL
theorem cmpI_rng (a b : Int) : rng (cmpI a b) := by unfold cmpI; split; decide; split <;> decide
theorem cmpI_eq (a b : Int) : (cmpI a b = 0) ↔ (a = b) := by unfold cmpI; split; omega; split <;> omega
theorem V_lif_eq {Φ : Ph} {y : Md} {pc : Nat} {L : Lc} {stk : List MV} {σ : Sg} {post : Po} {a b off : Int} {tgt : Nat} (hd : decode y.2.1 pc = .ok (.lcmp, 1)) (hd2 : decode y.2.1 (pc + 1) = .ok (.ifCond .eq off, 3)) (ht : ((pc + 1 : Nat) : Int) + off = (tgt : Int)) (ra : rngL a) (rb : rngL b) (kt : a = b → VP Φ y (tgt) L (stk) σ post) (kf : ¬ a = b → VP Φ y (pc + 4) L (stk) σ post) : VP Φ y pc L (vl b :: vl a :: stk) σ post :=
  V_lcmp hd ra rb (V_if_eq hd2 ht (cmpI_rng a b) (fun h => kt ((cmpI_eq a b).mp h)) (fun h => kf (fun q => h ((cmpI_eq a b).mpr q))))
theorem cmpI_ne (a b : Int) : (¬ cmpI a b = 0) ↔ (¬ a = b) := by unfold cmpI; split; omega; split <;> omega
theorem V_lif_ne {Φ : Ph} {y : Md} {pc : Nat} {L : Lc} {stk : List MV} {σ : Sg} {post : Po} {a b off : Int} {tgt : Nat} (hd : decode y.2.1 pc = .ok (.lcmp, 1)) (hd2 : decode y.2.1 (pc + 1) = .ok (.ifCond .ne off, 3)) (ht : ((pc + 1 : Nat) : Int) + off = (tgt : Int)) (ra : rngL a) (rb : rngL b) (kt : ¬ a = b → VP Φ y (tgt) L (stk) σ post) (kf : a = b → VP Φ y (pc + 4) L (stk) σ post) : VP Φ y pc L (vl b :: vl a :: stk) σ post :=
  V_lcmp hd ra rb (V_if_ne hd2 ht (cmpI_rng a b) (fun h => kt ((cmpI_ne a b).mp h)) (fun h => kf ((cmpI_eq a b).mp h)))
theorem cmpI_lt (a b : Int) : (cmpI a b < 0) ↔ (a < b) := by unfold cmpI; split; omega; split <;> omega
theorem V_lif_lt {Φ : Ph} {y : Md} {pc : Nat} {L : Lc} {stk : List MV} {σ : Sg} {post : Po} {a b off : Int} {tgt : Nat} (hd : decode y.2.1 pc = .ok (.lcmp, 1)) (hd2 : decode y.2.1 (pc + 1) = .ok (.ifCond .lt off, 3)) (ht : ((pc + 1 : Nat) : Int) + off = (tgt : Int)) (ra : rngL a) (rb : rngL b) (kt : a < b → VP Φ y (tgt) L (stk) σ post) (kf : ¬ a < b → VP Φ y (pc + 4) L (stk) σ post) : VP Φ y pc L (vl b :: vl a :: stk) σ post :=
  V_lcmp hd ra rb (V_if_lt hd2 ht (cmpI_rng a b) (fun h => kt ((cmpI_lt a b).mp h)) (fun h => kf (fun q => h ((cmpI_lt a b).mpr q))))
theorem cmpI_ge (a b : Int) : (0 ≤ cmpI a b) ↔ (b ≤ a) := by unfold cmpI; split; omega; split <;> omega
theorem V_lif_ge {Φ : Ph} {y : Md} {pc : Nat} {L : Lc} {stk : List MV} {σ : Sg} {post : Po} {a b off : Int} {tgt : Nat} (hd : decode y.2.1 pc = .ok (.lcmp, 1)) (hd2 : decode y.2.1 (pc + 1) = .ok (.ifCond .ge off, 3)) (ht : ((pc + 1 : Nat) : Int) + off = (tgt : Int)) (ra : rngL a) (rb : rngL b) (kt : b ≤ a → VP Φ y (tgt) L (stk) σ post) (kf : ¬ b ≤ a → VP Φ y (pc + 4) L (stk) σ post) : VP Φ y pc L (vl b :: vl a :: stk) σ post :=
  V_lcmp hd ra rb (V_if_ge hd2 ht (cmpI_rng a b) (fun h => kt ((cmpI_ge a b).mp h)) (fun h => kf (fun q => h ((cmpI_ge a b).mpr q))))
theorem cmpI_gt (a b : Int) : (0 < cmpI a b) ↔ (b < a) := by unfold cmpI; split; omega; split <;> omega
theorem V_lif_gt {Φ : Ph} {y : Md} {pc : Nat} {L : Lc} {stk : List MV} {σ : Sg} {post : Po} {a b off : Int} {tgt : Nat} (hd : decode y.2.1 pc = .ok (.lcmp, 1)) (hd2 : decode y.2.1 (pc + 1) = .ok (.ifCond .gt off, 3)) (ht : ((pc + 1 : Nat) : Int) + off = (tgt : Int)) (ra : rngL a) (rb : rngL b) (kt : b < a → VP Φ y (tgt) L (stk) σ post) (kf : ¬ b < a → VP Φ y (pc + 4) L (stk) σ post) : VP Φ y pc L (vl b :: vl a :: stk) σ post :=
  V_lcmp hd ra rb (V_if_gt hd2 ht (cmpI_rng a b) (fun h => kt ((cmpI_gt a b).mp h)) (fun h => kf (fun q => h ((cmpI_gt a b).mpr q))))
theorem cmpI_le (a b : Int) : (cmpI a b ≤ 0) ↔ (a ≤ b) := by unfold cmpI; split; omega; split <;> omega
theorem V_lif_le {Φ : Ph} {y : Md} {pc : Nat} {L : Lc} {stk : List MV} {σ : Sg} {post : Po} {a b off : Int} {tgt : Nat} (hd : decode y.2.1 pc = .ok (.lcmp, 1)) (hd2 : decode y.2.1 (pc + 1) = .ok (.ifCond .le off, 3)) (ht : ((pc + 1 : Nat) : Int) + off = (tgt : Int)) (ra : rngL a) (rb : rngL b) (kt : a ≤ b → VP Φ y (tgt) L (stk) σ post) (kf : ¬ a ≤ b → VP Φ y (pc + 4) L (stk) σ post) : VP Φ y pc L (vl b :: vl a :: stk) σ post :=
  V_lcmp hd ra rb (V_if_le hd2 ht (cmpI_rng a b) (fun h => kt ((cmpI_le a b).mp h)) (fun h => kf (fun q => h ((cmpI_le a b).mpr q))))
theorem V_tsw {Φ : Ph} {y : Md} {pc : Nat} {L : Lc} {stk : List MV} {σ : Sg} {post : Po} {x dflt lo hi : Int} {offs : Array Int} {len dt : Nat} (hd : decode y.2.1 pc = .ok (.tableswitch dflt lo hi offs, len)) (rx : rng x) (hdt : (pc : Int) + dflt = (dt : Int)) (hsz : hi - lo + 1 = (offs.size : Int)) (kd : x < lo ∨ hi < x → VP Φ y (dt) L (stk) σ post) (kk : ∀ (j : Nat) (off : Int) (tgt : Nat), x = lo + (j : Int) → offs[j]? = some off → (pc : Int) + off = (tgt : Int) → 0 ≤ (pc : Int) + off → VP Φ y (tgt) L (stk) σ post) (hpos : ∀ off ∈ offs.toList, 0 ≤ (pc : Int) + off) : VP Φ y pc L (vi x :: stk) σ post := by
  intro p l e R s m args below meth c A ad dA D cells slots Q X hΦ hR H locs ls hB hP hS hL
  by_cases h : x < lo ∨ hi < x
  · exact lv_tableOut X.1 X.2.1 hd (by rw [iI_toInt rx]; exact h) hdt ((kd h) p l e R s m args below meth c A ad dA D cells slots Q X hΦ hR H locs ls hB hP hS hL)
  · have h1 : ¬ x < lo := fun q => h (Or.inl q)
    have h2 : ¬ hi < x := fun q => h (Or.inr q)
    have hj : (x - lo).toNat < offs.size := by omega
    have ho : offs[(x - lo).toNat]? = some offs[(x - lo).toNat] := Array.getElem?_eq_getElem hj
    have hp := hpos offs[(x - lo).toNat] (by rw [Array.mem_toList_iff]; exact Array.getElem_mem hj)
    have ht : (pc : Int) + offs[(x - lo).toNat] = ((((pc : Int) + offs[(x - lo).toNat]).toNat : Nat) : Int) := by omega
    exact lv_tableIn X.1 X.2.1 hd (by rw [iI_toInt rx]; exact h1) (by rw [iI_toInt rx]; exact h2) (by rw [iI_toInt rx]; exact ho) ht ((kk (x - lo).toNat offs[(x - lo).toNat] _ (by omega) ho ht hp) p l e R s m args below meth c A ad dA D cells slots Q X hΦ hR H locs ls hB hP hS hL)
theorem V_ldc {Φ : Ph} {y : Md} {pc : Nat} {L : Lc} {stk : List MV} {σ : Sg} {post : Po} {idx : Nat} {v : Int} (hd : decode y.2.1 pc = .ok (.ldc idx, 2)) (hw : Cond.constant y.1.cls idx (iI v) ∈ gws) (kk : VP Φ y (pc + 2) L (vi v :: stk) σ post) : VP Φ y pc L (stk) σ post := by
  intro p l e R s m args below meth c A ad dA D cells slots Q X hΦ hR H locs ls hB hP hS hL
  exact lv_ldc X.1 X.2.1 X.2.2.2.1 (X.2.2.2.2.1 _ hw) hd (kk p l e R s m args below meth c A ad dA D cells slots Q X hΦ hR H locs ls hB hP hS hL)
theorem V_ldcw {Φ : Ph} {y : Md} {pc : Nat} {L : Lc} {stk : List MV} {σ : Sg} {post : Po} {idx : Nat} {v : Int} (hd : decode y.2.1 pc = .ok (.ldc_w idx, 3)) (hw : Cond.constant y.1.cls idx (iI v) ∈ gws) (kk : VP Φ y (pc + 3) L (vi v :: stk) σ post) : VP Φ y pc L (stk) σ post := by
  intro p l e R s m args below meth c A ad dA D cells slots Q X hΦ hR H locs ls hB hP hS hL
  exact lv_ldcw X.1 X.2.1 X.2.2.2.1 (X.2.2.2.2.1 _ hw) hd (kk p l e R s m args below meth c A ad dA D cells slots Q X hΦ hR H locs ls hB hP hS hL)
theorem V_ldc2 {Φ : Ph} {y : Md} {pc : Nat} {L : Lc} {stk : List MV} {σ : Sg} {post : Po} {idx : Nat} {v : Int} (hd : decode y.2.1 pc = .ok (.ldc2_w idx, 3)) (hw : Cond.constantLong y.1.cls idx (lI v) ∈ gws) (kk : VP Φ y (pc + 3) L (vl v :: stk) σ post) : VP Φ y pc L (stk) σ post := by
  intro p l e R s m args below meth c A ad dA D cells slots Q X hΦ hR H locs ls hB hP hS hL
  exact lv_ldc2 X.1 X.2.1 X.2.2.2.1 (X.2.2.2.2.1 _ hw) hd (kk p l e R s m args below meth c A ad dA D cells slots Q X hΦ hR H locs ls hB hP hS hL)
theorem V_ldcS {Φ : Ph} {y : Md} {pc : Nat} {L : Lc} {stk : List MV} {σ : Sg} {post : Po} {idx i : Nat} {tx : String} (hd : decode y.2.1 pc = .ok (.ldc idx, 2)) (hw : (y.1.cls, idx, tx, i) ∈ strR) (kk : VP Φ y (pc + 2) L (vr (200 + i) :: stk) σ post) : VP Φ y pc L (stk) σ post := by
  intro p l e R s m args below meth c A ad dA D cells slots Q X hΦ hR H locs ls hB hP hS hL
  exact va_ldcS X.1 X.2.1 X.2.2.2.1 (X.2.2.2.2.2.2.2.2.2.2.2.2.1 _ hw) hd (kk p l e R s m args below meth c A ad dA D cells slots Q X hΦ hR H locs ls hB hP hS hL)
theorem V_return {Φ : Ph} {y : Md} {pc : Nat} {L : Lc} {stk : List MV} {σ : Sg} {post : Po} (hr : y.2.2.2.1 = none) (hd : decode y.2.1 pc = .ok (.return_, 1)) (h : post none σ) : VP Φ y pc L ([]) σ post := by
  intro p l e R s m args below meth c A ad dA D cells slots Q X hΦ hR H locs ls hB hP hS hL
  exact hR none σ H locs pc ls h hB hP hS ⟨hr, hd⟩
theorem V_ireturn {Φ : Ph} {y : Md} {pc : Nat} {L : Lc} {stk : List MV} {σ : Sg} {post : Po} {z : Int} (hr : y.2.2.2.1 = some .int) (hd : decode y.2.1 pc = .ok (.ireturn, 1)) (h : post (some (vi z)) σ) : VP Φ y pc L ([vi z]) σ post := by
  intro p l e R s m args below meth c A ad dA D cells slots Q X hΦ hR H locs ls hB hP hS hL
  exact hR (some (vi z)) σ H locs pc ls h hB hP hS ⟨hd, .int, hr, rfl⟩
theorem nar_b {z : Int} (h : z = 0 ∨ z = 1) : narrow .boolean (.int (iI z)) = .int (iI z) := by rcases h with rfl | rfl <;> decide +kernel
theorem V_zreturn {Φ : Ph} {y : Md} {pc : Nat} {L : Lc} {stk : List MV} {σ : Sg} {post : Po} {z : Int} (hr : y.2.2.2.1 = some .boolean) (hd : decode y.2.1 pc = .ok (.ireturn, 1)) (hz : z = 0 ∨ z = 1) (h : post (some (vi z)) σ) : VP Φ y pc L ([vi z]) σ post := by
  intro p l e R s m args below meth c A ad dA D cells slots Q X hΦ hR H locs ls hB hP hS hL
  exact hR (some (vi z)) σ H locs pc ls h hB hP hS ⟨hd, .boolean, hr, nar_b hz⟩
theorem V_lreturn {Φ : Ph} {y : Md} {pc : Nat} {L : Lc} {stk : List MV} {σ : Sg} {post : Po} {z : Int} (hr : y.2.2.2.1 = some .long) (hd : decode y.2.1 pc = .ok (.lreturn, 1)) (h : post (some (vl z)) σ) : VP Φ y pc L ([vl z]) σ post := by
  intro p l e R s m args below meth c A ad dA D cells slots Q X hΦ hR H locs ls hB hP hS hL
  exact hR (some (vl z)) σ H locs pc ls h hB hP hS ⟨hr, hd⟩
theorem V_areturn {Φ : Ph} {y : Md} {pc : Nat} {L : Lc} {stk : List MV} {σ : Sg} {post : Po} {k : Nat} {C : String} (hr : y.2.2.2.1 = some (.object C)) (hd : decode y.2.1 pc = .ok (.areturn, 1)) (h : post (some (vr k)) σ) : VP Φ y pc L ([vr k]) σ post := by
  intro p l e R s m args below meth c A ad dA D cells slots Q X hΦ hR H locs ls hB hP hS hL
  exact hR (some (vr k)) σ H locs pc ls h hB hP hS ⟨⟨C, hr⟩, hd⟩
