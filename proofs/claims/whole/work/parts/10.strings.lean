/-! ===== texts: String.length, String.charAt over the nine constants (printed by wip/whole/gen/mk10s.py) ===== -/
def slI (i : Nat) : Int := ((slen.getD i 0 : Nat) : Int)
def scI (i : Nat) (j : Int) : Int := ((sbyt.getD i []).getD j.toNat 0).toInt
def iChar (a : Int) : Int := ((iI a).toUInt32 % 65536).toInt32.toInt
theorem sl_small {i : Nat} (h : i < 9) : slen.getD i 0 < 12 := (show ∀ i, i < 9 → slen.getD i 0 < 12 by decide +kernel) i h
theorem sc_ok {i : Nat} (h : i < 9) {j : Nat} (hj : j < slen.getD i 0) : iChar (iAnd (scI i j) 255) = scI i j ∧ narrow .char (.int (iI (scI i j))) = .int (iI (scI i j)) ∧ rng (scI i j) :=
  (show ∀ i, i < 9 → ∀ j, j < slen.getD i 0 → iChar (iAnd (scI i (j : Nat)) 255) = scI i (j : Nat) ∧ narrow .char (.int (iI (scI i (j : Nat)))) = .int (iI (scI i (j : Nat))) ∧ rng (scI i (j : Nat)) by decide +kernel) i h j hj
theorem V_gstC {Φ : Ph} {y : Md} {pc : Nat} {L : Lc} {stk : List MV} {σ : Sg} {post : Po} {idx : Nat} (hw : Cond.fieldLink y.1.cls idx "java/lang/String" "COMPACT_STRINGS" "Z" ∈ gws) (hd : decode y.2.1 pc = .ok (.getstatic idx, 3)) (kk : VP Φ y (pc + 3) L (vi 1 :: stk) σ post) : VP Φ y pc L (stk) σ post := by
  intro p l e R s m args below meth c A ad dA D cells slots Q X hΦ hR H locs ls hB hP hS hL
  have hZ : va_Z "java/lang/String" "COMPACT_STRINGS" "Z" (.int (iI 1)) A s s.heap := X.2.2.2.2.2.2.2.2.2.2.2.2.2.1
  exact va_gets X.1 X.2.1 hZ hS X.2.2.2.1 (X.2.2.2.2.1 _ hw) (fun _ h9 => h9) hd (kk p l e R s m args below meth c A ad dA D cells slots Q X hΦ hR H locs ls hB hP hS hL)
theorem V_sgetV {Φ : Ph} {y : Md} {pc : Nat} {L : Lc} {stk : List MV} {σ : Sg} {post : Po} {idx i : Nat} (hw : Cond.fieldLink y.1.cls idx "java/lang/String" "value" "[B" ∈ gws) (hi : i < 9) (hd : decode y.2.1 pc = .ok (.getfield idx, 3)) (kk : VP Φ y (pc + 3) L (vr (300 + i) :: stk) σ post) : VP Φ y pc L (vr (200 + i) :: stk) σ post := by
  intro p l e R s m args below meth c A ad dA D cells slots Q X hΦ hR H locs ls hB hP hS hL
  exact vk_getf X.1 X.2.1 (X.2.2.2.2.2.2.2.2.2.2.2.1.1 i hi).2.2.1 hS X.2.2.2.1 (X.2.2.2.2.1 _ hw) (fun _ h9 => h9) hd (kk p l e R s m args below meth c A ad dA D cells slots Q X hΦ hR H locs ls hB hP hS hL)
theorem V_sgetC {Φ : Ph} {y : Md} {pc : Nat} {L : Lc} {stk : List MV} {σ : Sg} {post : Po} {idx i : Nat} (hw : Cond.fieldLink y.1.cls idx "java/lang/String" "coder" "B" ∈ gws) (hi : i < 9) (hd : decode y.2.1 pc = .ok (.getfield idx, 3)) (kk : VP Φ y (pc + 3) L (vi 0 :: stk) σ post) : VP Φ y pc L (vr (200 + i) :: stk) σ post := by
  intro p l e R s m args below meth c A ad dA D cells slots Q X hΦ hR H locs ls hB hP hS hL
  have hZ : va_OF "java/lang/String" "coder" "B" (.int (iI 0)) (ad (200 + i)) A s s.heap := (X.2.2.2.2.2.2.2.2.2.2.2.1.1 i hi).2.1
  exact vk_getf X.1 X.2.1 hZ hS X.2.2.2.1 (X.2.2.2.2.1 _ hw) (fun _ h9 => h9) hd (kk p l e R s m args below meth c A ad dA D cells slots Q X hΦ hR H locs ls hB hP hS hL)
theorem V_salen {Φ : Ph} {y : Md} {pc : Nat} {L : Lc} {stk : List MV} {σ : Sg} {post : Po} {i : Nat} (hi : i < 9) (hd : decode y.2.1 pc = .ok (.arraylength, 1)) (kk : VP Φ y (pc + 1) L (vi (slI i) :: stk) σ post) : VP Φ y pc L (vr (300 + i) :: stk) σ post := by
  intro p l e R s m args below meth c A ad dA D cells slots Q X hΦ hR H locs ls hB hP hS hL
  exact va_tlen X.1 X.2.1 (X.2.2.2.2.2.2.2.2.2.2.2.1.1 i hi).2.2.2 hS (v := iI (slI i)) (Int32.ofInt_eq_ofNat).symm hd (kk p l e R s m args below meth c A ad dA D cells slots Q X hΦ hR H locs ls hB hP hS hL)
theorem V_sbald {Φ : Ph} {y : Md} {pc : Nat} {L : Lc} {stk : List MV} {σ : Sg} {post : Po} {i : Nat} {j : Int} (hi : i < 9) (hj : 0 ≤ j ∧ j < slI i) (hd : decode y.2.1 pc = .ok (.baload, 1)) (kk : VP Φ y (pc + 1) L (vi (scI i j) :: stk) σ post) : VP Φ y pc L (vi j :: vr (300 + i) :: stk) σ post := by
  intro p l e R s m args below meth c A ad dA D cells slots Q X hΦ hR H locs ls hB hP hS hL
  have hs := sl_small hi
  have hj2 : j < ((slen.getD i 0 : Nat) : Int) := hj.2
  have hr : rng j := ⟨by omega, by omega⟩
  refine va_tb X.1 X.2.1 (X.2.2.2.2.2.2.2.2.2.2.2.1.1 i hi).2.2.2 hS (v := .int (iI (scI i j))) (iI_in hj.1 hj2 (by omega)) ?_ hd (kk p l e R s m args below meth c A ad dA D cells slots Q X hΦ hR H locs ls hB hP hS hL)
  unfold scI
  rw [iI_clamp hj.1 hr, iI_of]
theorem V_i2c {Φ : Ph} {y : Md} {pc : Nat} {L : Lc} {stk : List MV} {σ : Sg} {post : Po} {a : Int} (hd : decode y.2.1 pc = .ok (.i2c, 1)) (kk : VP Φ y (pc + 1) L (vi (iChar a) :: stk) σ post) : VP Φ y pc L (vi a :: stk) σ post := by
  intro p l e R s m args below meth c A ad dA D cells slots Q X hΦ hR H locs ls hB hP hS hL
  refine lv_i2c X.1 X.2.1 hd ?_ (kk p l e R s m args below meth c A ad dA D cells slots Q X hΦ hR H locs ls hB hP hS hL)
  unfold iChar
  rw [iI_of]
theorem V_nreturn {Φ : Ph} {y : Md} {pc : Nat} {L : Lc} {stk : List MV} {σ : Sg} {post : Po} {z : Int} {ty : FieldType} (hr : y.2.2.2.1 = some ty) (hd : decode y.2.1 pc = .ok (.ireturn, 1)) (hz : narrow ty (.int (iI z)) = .int (iI z)) (h : post (some (vi z)) σ) : VP Φ y pc L ([vi z]) σ post := by
  intro p l e R s m args below meth c A ad dA D cells slots Q X hΦ hR H locs ls hB hP hS hL
  exact hR (some (vi z)) σ H locs pc ls h hB hP hS ⟨hd, ty, hr, hz⟩
def CallT (own : String) (idx : Nat) (y' : Md) (n : Nat) : Prop := CallA y' n ∧ Cond.methodLink own idx y'.1 ∈ gws ∧ Cond.instanceMethod y'.1 ∈ gws ∧ Cond.selects y'.1.cls y'.1 y'.1 ∈ gws ∧ y'.1.cls = "java/lang/String"
theorem V_callT {Φ : Ph} {y : Md} {pc : Nat} {L : Lc} {stk : List MV} {σ : Sg} {post : Po} {y' : Md} {i n idx : Nat} {av st0 : List MV} {post' : Po} (hc : CallT y.1.cls idx y' n) (hi : i < 9) (hn : av.length = n) (hs : st0 = av.reverse ++ vr (200 + i) :: stk) (hh : y'.2.2.2.2 < y.2.2.2.2) (h8 : (stk.map ctg).sum ≤ 8) (hd : decode y.2.1 pc = .ok (.invokevirtual idx, 3)) (hM : Cl y' (vr (200 + i) :: av) σ post') (hk : ∀ r σ, post' r σ → VP Φ y (pc + 3) L (r.toList ++ stk) σ post) : VP Φ y pc L st0 σ post := by
  intro p l e R s m args below meth c A ad dA D cells slots Q X hΦ hR H locs ls hB hP hS hL
  have hcode := hc.1.1
  have hini := X.2.2.2.2.1 _ hc.1.2.1
  have hrm := roomD X.2.2.2.2.2.1 hh hc.1.2.2.2
  have hst8 : 2 * (F0 m pc ls ((av.reverse ++ vr (200 + i) :: stk).map (ren ad))).monitorRoom + ((stk.map (ren ad)).map fun v => v.category).sum ≤ 8 := lv_room (by rw [ctg_sum]; exact h8)
  subst hs
  have hrec : ∃ cellB : Cell, H[ad (200 + i)]? = some cellB ∧ cellB.vm.isStatics = false ∧ s.vm.findClass y'.1.cls = some cellB.cls := by
    rw [hc.2.2.2.2]
    exact vk_recv (adK := fun i => ad (200 + i)) (i := i) X.2.2.2.2.2.2.2.2.2.2.2.1 hi hS
  refine callZ (y' := y') (va_runV (C := y'.1.cls) (As := av.map (ren ad)) (b := ad (200 + i)) ⟨X.1, X.2.1, X.2.2.1, X.2.2.2.1, X.2.2.2.2.1⟩ (hM l ad dA D) ⟨callB_of n X.2.2.2.2.1 (gws_callee hcode) rfl rfl rfl hini (X.2.2.2.2.1 _ hc.2.1) hc.1.2.2.1 hrm, X.2.2.2.2.1 _ hc.2.2.1, X.2.2.2.2.1 _ hc.2.2.2.1⟩ ⟨Pz_blind, hrec, Pz_pre (av := vr (200 + i) :: av) X hB hP hS⟩ rfl (by rw [List.length_map]; exact hn) hL.1 (rev_map ad av (vr (200 + i) :: stk)) hst8 hd ⟨X.2.2.2.2.2.2.1.1, X.2.2.2.2.2.2.1.2⟩) X hΦ hR hS hL hk
theorem kwC : Cond.fieldLink RJ0 38 "java/lang/String" "COMPACT_STRINGS" "Z" ∈ gws := (gws_in 531 (by decide +kernel) (by decide +kernel))
theorem kwV : Cond.fieldLink RJ0 9 "java/lang/String" "value" "[B" ∈ gws := (gws_in 1863 (by decide +kernel) (by decide +kernel))
theorem kwD : Cond.fieldLink RJ0 15 "java/lang/String" "coder" "B" ∈ gws := (gws_in 1864 (by decide +kernel) (by decide +kernel))
theorem kwF : Cond.fieldLink RJ0 1053 "jdk/internal/util/Preconditions" "SIOOBE_FORMATTER" "Ljava/util/function/BiFunction;" ∈ gws := (gws_in 547 (by decide +kernel) (by decide +kernel))
theorem csX5_57 : CallT RX5 57 mJ0_length_8abf5 0 := ⟨caJ0_length_8abf5, (gws_in 523 (by decide +kernel) (by decide +kernel)), (gws_in 524 (by decide +kernel) (by decide +kernel)), (gws_in 525 (by decide +kernel) (by decide +kernel)), rfl⟩
theorem csX5_62 : CallT RX5 62 mJ0_charAt_5068e 1 := ⟨caJ0_charAt_5068e, (gws_in 533 (by decide +kernel) (by decide +kernel)), (gws_in 534 (by decide +kernel) (by decide +kernel)), (gws_in 535 (by decide +kernel) (by decide +kernel)), rfl⟩
theorem csX8_38 : CallT RX8 38 mJ0_length_8abf5 0 := ⟨caJ0_length_8abf5, (gws_in 788 (by decide +kernel) (by decide +kernel)), (gws_in 524 (by decide +kernel) (by decide +kernel)), (gws_in 525 (by decide +kernel) (by decide +kernel)), rfl⟩
theorem csX8_43 : CallT RX8 43 mJ0_charAt_5068e 1 := ⟨caJ0_charAt_5068e, (gws_in 789 (by decide +kernel) (by decide +kernel)), (gws_in 534 (by decide +kernel) (by decide +kernel)), (gws_in 535 (by decide +kernel) (by decide +kernel)), rfl⟩
theorem csJ0_335 : CallT RJ0 335 mJ0_coder_7d493 0 := ⟨caJ0_coder_7d493, (gws_in 527 (by decide +kernel) (by decide +kernel)), (gws_in 528 (by decide +kernel) (by decide +kernel)), (gws_in 529 (by decide +kernel) (by decide +kernel)), rfl⟩
theorem csJ0_492 : CallT RJ0 492 mJ0_isLatin1_aae02 0 := ⟨caJ0_isLatin1_aae02, (gws_in 537 (by decide +kernel) (by decide +kernel)), (gws_in 538 (by decide +kernel) (by decide +kernel)), (gws_in 539 (by decide +kernel) (by decide +kernel)), rfl⟩
theorem nar_c1 : narrow .byte (.int (iI 0)) = .int (iI 0) := by decide +kernel
theorem c_coder {σ : Sg} {post : Po} {i : Nat} (hi : i < 9) (h : post (some (vi 0)) σ) : Cl mJ0_coder_7d493 [vr (200 + i)] σ post := by
  refine Cl_of [some (vr (200 + i))] (by decide) (SubL_s SubL_0) (fun ad => Nat.le_refl _) ?_
  refine V_gstC kwC dJ0_coder_7d493_0 ?_
  refine V_if_eq (tgt := 13) dJ0_coder_7d493_3 rfl (by decide) (fun q => absurd q (by decide)) (fun _ => ?_)
  refine V_aload_n dJ0_coder_7d493_6 rfl rfl ?_
  refine V_sgetC kwD hi dJ0_coder_7d493_7 ?_
  refine V_goto (tgt := 14) dJ0_coder_7d493_10 rfl ?_
  exact V_nreturn (stk := []) (ty := .byte) rfl dJ0_coder_7d493_14 nar_c1 h
theorem c_isLatin1 {σ : Sg} {post : Po} {i : Nat} (hi : i < 9) (h : post (some (vi 1)) σ) : Cl mJ0_isLatin1_aae02 [vr (200 + i)] σ post := by
  refine Cl_of [some (vr (200 + i))] (by decide) (SubL_s SubL_0) (fun ad => Nat.le_refl _) ?_
  refine V_gstC kwC dJ0_isLatin1_aae02_0 ?_
  refine V_if_eq (tgt := 17) dJ0_isLatin1_aae02_3 rfl (by decide) (fun q => absurd q (by decide)) (fun _ => ?_)
  refine V_aload_n dJ0_isLatin1_aae02_6 rfl rfl ?_
  refine V_sgetC kwD hi dJ0_isLatin1_aae02_7 ?_
  refine V_if_ne (tgt := 17) dJ0_isLatin1_aae02_10 rfl (by decide) (fun q => absurd rfl q) (fun _ => ?_)
  refine V_iconst dJ0_isLatin1_aae02_13 ?_
  refine V_goto (tgt := 18) dJ0_isLatin1_aae02_14 rfl ?_
  exact V_zreturn (stk := []) rfl dJ0_isLatin1_aae02_18 (by decide) h
theorem iShr0 {a : Int} (h : rng a) : iShr a 0 = a := by
  unfold iShr
  have e : iI 0 &&& 31 = 0 := by decide +kernel
  rw [e, Int32.shiftRight_zero, iI_toInt h]
theorem slI_rng {i : Nat} (h : i < 9) : rng (slI i) ∧ 0 ≤ slI i ∧ slI i < 12 := by
  have := sl_small h
  unfold slI
  omega
theorem c_length {σ : Sg} {post : Po} {i : Nat} (hi : i < 9) (h : post (some (vi (slI i))) σ) : Cl mJ0_length_8abf5 [vr (200 + i)] σ post := by
  refine Cl_of [some (vr (200 + i))] (by decide) (SubL_s SubL_0) (fun ad => Nat.le_refl _) ?_
  refine V_aload_n dJ0_length_8abf5_0 rfl rfl ?_
  refine V_sgetV kwV hi dJ0_length_8abf5_1 ?_
  refine V_salen hi dJ0_length_8abf5_4 ?_
  refine V_aload_n dJ0_length_8abf5_5 rfl rfl ?_
  refine V_callT (av := []) (stk := [vi (slI i)]) csJ0_335 hi rfl rfl (by decide) (by simp [ctg]) dJ0_length_8abf5_6 (c_coder hi (post := pI fun z σ1 => z = 0 ∧ σ1 = σ) ⟨0, rfl, rfl, rfl⟩) ?_
  rintro _ σ1 ⟨z, rfl, rfl, rfl⟩
  refine V_ishr dJ0_length_8abf5_9 ?_
  rw [iShr0 (slI_rng hi).1]
  exact V_ireturn (stk := []) rfl dJ0_length_8abf5_10 h
theorem met_ci (l : Launch) {v : Value} (hv : v = .null ∨ ∃ t, v = .ref t) {i n : Int} (h0 : 0 ≤ i) (h1 : i < n) (hn : rng n) : Met l yJ3_checkIndex_8e157 (wsD mJ3_checkIndex_8e157) (rmD 0) (va_Pc [.int (iI i), .int (iI n), v] (fun _ => True)) (vp_Si (fun _ => True)) 0 0 (fun _ => False) := by
  have ri : rng i := ⟨by omega, by omega⟩
  refine Met.ofW (cc := cJ3_checkIndex_8e157) (maxL := 3) (ret := some .int) (by decide) rfl ?_
  intro p e s m args below meth c s₁ B hml hv0
  obtain ⟨rfl, -⟩ := hv0
  have hx := B.exec
  have hb := B.bytes
  have hr := B.returns
  have hlocks := B.notSynchronized
  have hcat : v.category = 1 := by rcases hv with rfl | ⟨t, rfl⟩ <;> rfl
  have hlen : (lg_sl [.int (iI i), .int (iI n), v]).length ≤ 3 := by
    rcases hv with rfl | ⟨t, rfl⟩ <;> exact Nat.le_refl _
  have hl := lv_entry ([.int (iI i), .int (iI n), v]) (n := 3) hlen
  rw [lg_entry_eq]
  generalize (lg_sl [.int (iI i), .int (iI n), v] ++ List.replicate (3 - (lg_sl [.int (iI i), .int (iI n), v]).length) Slot.unset).toArray = ls at hl ⊢
  refine lv_iload_n hx hb dJ3_checkIndex_8e157_0 rfl (lv_at hl 0 rfl) ?_
  refine lv_if_lt hx hb dJ3_checkIndex_8e157_1 (tgt := 9) rfl (fun q => absurd ((iI_lt0 ri).mp q) (by omega)) (fun _ => ?_)
  refine lv_iload_n hx hb dJ3_checkIndex_8e157_4 rfl (lv_at hl 0 rfl) ?_
  refine lv_iload_n hx hb dJ3_checkIndex_8e157_5 rfl (lv_at hl 1 rfl) ?_
  refine lv_icmp_lt hx hb dJ3_checkIndex_8e157_6 (tgt := 16) rfl (fun _ => ?_) (fun q => absurd ((iI_lt ri hn).mpr h1) q)
  refine lv_iload_n hx hb dJ3_checkIndex_8e157_16 rfl (lv_at hl 0 rfl) ?_
  exact W.iret hx hb hr (fun t ht _ => ⟨iI i, rfl, trivial, ht⟩) (fun q h => by cases h) dJ3_checkIndex_8e157_17
theorem cwCI : CallS RJ0 1059 mJ3_checkIndex_8e157 3 := ⟨caJ3_checkIndex_8e157, (gws_in 549 (by decide +kernel) (by decide +kernel)), (gws_in 550 (by decide +kernel) (by decide +kernel))⟩
theorem c_checkIndex {σ : Sg} {post : Po} {i n : Int} (h0 : 0 ≤ i) (h1 : i < n) (hn : rng n) (h : post none σ) : Cl mJ0_checkIndex_df160 [vi i, vi n] σ post := by
  refine Cl_of [some (vi i), some (vi n)] (by decide) (SubL_s (SubL_s SubL_0)) (fun ad => Nat.le_refl _) ?_
  refine V_iload_n dJ0_checkIndex_df160_0 rfl rfl ?_
  refine V_iload_n dJ0_checkIndex_df160_1 rfl rfl ?_
  intro p l e R s m args below meth c A ad dA D cells slots Q X hΦ hR H locs ls hB hP hS hL
  have key : ∀ v : Value, (v = .null ∨ ∃ t, v = .ref t) → va_Z "jdk/internal/util/Preconditions" "SIOOBE_FORMATTER" "Ljava/util/function/BiFunction;" v A s s.heap → W p l e R s m args below meth c H locs cells slots Q (F0 m (0 + 1 + 1) ls (.int (iI n) :: .int (iI i) :: [])) := by
    intro v hv hZ
    refine va_gets X.1 X.2.1 hZ hS X.2.2.2.1 (X.2.2.2.2.1 _ kwF) (fun _ h9 => h9) dJ0_checkIndex_df160_2 ?_
    have hrm := roomD (y := mJ0_checkIndex_df160) (y' := mJ3_checkIndex_8e157) X.2.2.2.2.2.1 (by decide) (by decide)
    have hr := va_runS (p := p) (l := l) (e := e) (R := R) (s := s) (m := m) (args := args) (below := below) (meth := meth) (c := c) (H := H) (locs := locs) (cells := cells) (slots := slots) (g := F0 m 5 ls (v :: .int (iI n) :: .int (iI i) :: [])) (As := [.int (iI i), .int (iI n), v]) (rest := []) ⟨X.1, X.2.1, X.2.2.1, X.2.2.2.1, X.2.2.2.2.1⟩ (met_ci l hv h0 h1 hn) ⟨callB_of 3 X.2.2.2.2.1 (gws_callee caJ3_checkIndex_8e157.1) rfl rfl rfl (X.2.2.2.2.1 _ caJ3_checkIndex_8e157.2.1) (X.2.2.2.2.1 _ cwCI.2.1) caJ3_checkIndex_8e157.2.2.1 hrm, X.2.2.2.2.1 _ cwCI.2.2⟩ ⟨fun a U g mk q => ⟨q.1, trivial⟩, fun U _ _ => ⟨rfl, trivial⟩⟩ rfl rfl hL.1 rfl (lv_room (by simp)) dJ0_checkIndex_df160_5 ⟨X.2.2.2.2.2.2.1.1, X.2.2.2.2.2.2.1.2⟩
    intro T hT X0
    obtain ⟨v', st₀, t, T', Lc', g0, X', hLc, e1, e2, ⟨r, hv', -, hh⟩, st⟩ := hr T hT X0
    cases hv'
    have hLe : Lc' = [] := by
      cases Lc' with
      | nil => rfl
      | cons q r => exact (hLc q List.mem_cons_self).elim
    subst hLe
    have hheap : T'.heap = H := by rw [e1, hh, g0]
    have w : W p l e R s m args below meth c H locs cells slots Q (F0 m (5 + 3) ls (.int r :: [])) := by
      refine lv_pop X.1 X.2.1 dJ0_checkIndex_df160_8 rfl ?_
      exact hR none σ H locs 9 ls h hB hP hS ⟨rfl, dJ0_checkIndex_df160_9⟩
    rw [List.append_nil] at X'
    obtain ⟨t2, a1, b1⟩ := w T' hheap X'
    exact ⟨t2, st t2 a1, b1⟩
  rcases X.2.2.2.2.2.2.2.2.2.2.2.2.2.2 with hZ | ⟨t, hZ⟩
  · exact key .null (Or.inl rfl) hZ
  · exact key (.ref t) (Or.inr ⟨t, rfl⟩) hZ
theorem cwJ1_9 : CallS RJ1 9 mJ0_checkIndex_df160 2 := ⟨caJ0_checkIndex_df160, (gws_in 544 (by decide +kernel) (by decide +kernel)), (gws_in 545 (by decide +kernel) (by decide +kernel))⟩
theorem cwJ0_495 : CallS RJ0 495 mJ1_charAt_3b067 2 := ⟨caJ1_charAt_3b067, (gws_in 541 (by decide +kernel) (by decide +kernel)), (gws_in 542 (by decide +kernel) (by decide +kernel))⟩
theorem c_latCharAt {σ : Sg} {post : Po} {i : Nat} {j : Int} (hi : i < 9) (hj : 0 ≤ j ∧ j < slI i) (h : post (some (vi (scI i j))) σ) : Cl mJ1_charAt_3b067 [vr (300 + i), vi j] σ post := by
  refine Cl_of [some (vr (300 + i)), some (vi j)] (by decide) (SubL_s (SubL_s SubL_0)) (fun ad => Nat.le_refl _) ?_
  refine V_iload_n dJ1_charAt_3b067_0 rfl rfl ?_
  refine V_aload_n dJ1_charAt_3b067_1 rfl rfl ?_
  refine V_salen hi dJ1_charAt_3b067_2 ?_
  refine V_callS (av := [vi j, vi (slI i)]) (stk := []) cwJ1_9 rfl rfl (by decide) (by simp [ctg]) dJ1_charAt_3b067_3 (c_checkIndex hj.1 hj.2 (slI_rng hi).1 (post := pV fun σ1 => σ1 = σ) ⟨rfl, rfl⟩) ?_
  rintro _ σ1 ⟨rfl, rfl⟩
  refine V_aload_n dJ1_charAt_3b067_6 rfl rfl ?_
  refine V_iload_n dJ1_charAt_3b067_7 rfl rfl ?_
  refine V_sbald hi hj dJ1_charAt_3b067_8 ?_
  refine V_sipush dJ1_charAt_3b067_9 (by decide) ?_
  refine V_iand dJ1_charAt_3b067_12 ?_
  refine V_i2c dJ1_charAt_3b067_13 ?_
  have e : ((j.toNat : Nat) : Int) = j := Int.toNat_of_nonneg hj.1
  have hjn : j.toNat < slen.getD i 0 := by have := hj.2; unfold slI at this; omega
  obtain ⟨q1, q2, -⟩ := sc_ok hi hjn
  rw [e] at q1 q2
  rw [q1]
  exact V_nreturn (stk := []) (ty := .char) rfl dJ1_charAt_3b067_14 q2 h
theorem c_charAt {σ : Sg} {post : Po} {i : Nat} {j : Int} (hi : i < 9) (hj : 0 ≤ j ∧ j < slI i) (h : post (some (vi (scI i j))) σ) : Cl mJ0_charAt_5068e [vr (200 + i), vi j] σ post := by
  refine Cl_of [some (vr (200 + i)), some (vi j)] (by decide) (SubL_s (SubL_s SubL_0)) (fun ad => Nat.le_refl _) ?_
  refine V_aload_n dJ0_charAt_5068e_0 rfl rfl ?_
  refine V_callT (av := []) (stk := []) csJ0_492 hi rfl rfl (by decide) (by simp [ctg]) dJ0_charAt_5068e_1 (c_isLatin1 hi (post := pI fun z σ1 => z = 1 ∧ σ1 = σ) ⟨1, rfl, rfl, rfl⟩) ?_
  rintro _ σ1 ⟨z, rfl, rfl, rfl⟩
  refine V_if_eq (tgt := 16) dJ0_charAt_5068e_4 rfl (by decide) (fun q => absurd q (by decide)) (fun _ => ?_)
  refine V_aload_n dJ0_charAt_5068e_7 rfl rfl ?_
  refine V_sgetV kwV hi dJ0_charAt_5068e_8 ?_
  refine V_iload_n dJ0_charAt_5068e_11 rfl rfl ?_
  refine V_callS (av := [vr (300 + i), vi j]) (stk := []) cwJ0_495 rfl rfl (by decide) (by simp [ctg]) dJ0_charAt_5068e_12 (c_latCharAt hi hj (post := pI fun z σ2 => z = scI i j ∧ σ2 = σ1) ⟨scI i j, rfl, rfl, rfl⟩) ?_
  rintro _ σ2 ⟨z, rfl, rfl, rfl⟩
  have e : ((j.toNat : Nat) : Int) = j := Int.toNat_of_nonneg hj.1
  have hjn : j.toNat < slen.getD i 0 := by have := hj.2; unfold slI at this; omega
  obtain ⟨-, q2, -⟩ := sc_ok hi hjn
  rw [e] at q2
  exact V_nreturn (stk := []) (ty := .char) rfl dJ0_charAt_5068e_15 q2 h
theorem V_slen {Φ : Ph} {y : Md} {pc : Nat} {L : Lc} {stk : List MV} {σ : Sg} {post : Po} {i idx : Nat} (hc : CallT y.1.cls idx mJ0_length_8abf5 0) (hi : i < 9) (hh : 1 < y.2.2.2.2) (h8 : (stk.map ctg).sum ≤ 8) (hd : decode y.2.1 pc = .ok (.invokevirtual idx, 3)) (kk : VP Φ y (pc + 3) L (vi (slI i) :: stk) σ post) : VP Φ y pc L (vr (200 + i) :: stk) σ post := by
  refine V_callT (av := []) hc hi rfl rfl hh h8 hd (c_length hi (post := pI fun z σ1 => z = slI i ∧ σ1 = σ) ⟨_, rfl, rfl, rfl⟩) ?_
  rintro _ σ1 ⟨z, rfl, rfl, rfl⟩
  exact kk
theorem V_schar {Φ : Ph} {y : Md} {pc : Nat} {L : Lc} {stk : List MV} {σ : Sg} {post : Po} {i idx : Nat} {j : Int} (hc : CallT y.1.cls idx mJ0_charAt_5068e 1) (hi : i < 9) (hj : 0 ≤ j ∧ j < slI i) (hh : 4 < y.2.2.2.2) (h8 : (stk.map ctg).sum ≤ 8) (hd : decode y.2.1 pc = .ok (.invokevirtual idx, 3)) (kk : VP Φ y (pc + 3) L (vi (scI i j) :: stk) σ post) : VP Φ y pc L (vi j :: vr (200 + i) :: stk) σ post := by
  refine V_callT (av := [vi j]) hc hi rfl rfl hh h8 hd (c_charAt hi hj (post := pI fun z σ1 => z = scI i j ∧ σ1 = σ) ⟨_, rfl, rfl, rfl⟩) ?_
  rintro _ σ1 ⟨z, rfl, rfl, rfl⟩
  exact kk
