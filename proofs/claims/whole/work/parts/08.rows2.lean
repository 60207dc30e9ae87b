/-! ===== THE ENGINE: fields, arrays, calls (printed by wip/whole/gen/mk06.py) ===== -/
/-- what the tables say of the field j of class c, as the pool of 'own' names it at idx -/
def FL (own : String) (idx c j : Nat) : Prop := ∃ (C : String) (T : u_T) (N : Nat) (ty0 : Nat → FieldType), vwCl[c]? = some (C, T, N) ∧ j < N ∧ (∀ w ∈ u_ws C T N, w ∈ gws) ∧ (∀ k, k < N → parseFieldDescriptor (T k).2.2.1 = some (ty0 k)) ∧ (∀ a, a < N → ∀ b, b < N → a ≠ b → (T a).2.1 ≠ (T b).2.1) ∧ Cond.fieldLink own idx (T j).1 (T j).2.1 (T j).2.2.1 ∈ gws ∧
  (fkd c j = 0 → ty0 j = .int ∧ (T j).2.2.2 = false) ∧ (fkd c j = 3 → ty0 j = .boolean ∧ (T j).2.2.2 = false) ∧ (fkd c j = 2 → (∃ n, ty0 j = .object n) ∧ (T j).2.2.2 = false)
theorem shpN {k c n : Nat} {C : String} {T : u_T} {N : Nat} (h : shp[k]? = some (0, c, n)) (hc : vwCl[c]? = some (C, T, N)) : n = N := by
  have key : ∀ q ∈ shp, q.1 = 0 → (vwCl[q.2.1]?).map (fun r => r.2.2) = some q.2.2 := by decide +kernel
  have h1 := key _ (List.mem_of_getElem? h) rfl
  have h2 : (vwCl[c]?).map (fun r => r.2.2) = some n := h1
  rw [hc] at h2
  exact (Option.some.inj h2).symm
theorem fs_get {ad : Nat → Nat} {row : Int → Int} {c k n j : Nat} (h : j < n) : ((List.range n).map (fldV ad row c k))[j]? = some (fldV ad row c k j) := by
  rw [List.getElem?_map, List.getElem?_range h]
  rfl
theorem fs_set {ad : Nat → Nat} {row : Int → Int} {c k n j : Nat} {v : Int} {x : Value} (hx : fldV ad (pt row j v) c k j = x) : ((List.range n).map (fldV ad row c k)).set j x = (List.range n).map (fldV ad (pt row j v) c k) := by
  apply List.ext_getElem?
  intro i
  by_cases hi : j = i
  · subst hi
    by_cases hn : j < n
    · rw [List.getElem?_set_self (by simpa using hn), fs_get hn, hx]
    · rw [List.getElem?_eq_none (by simp; omega), List.getElem?_eq_none (by simp; omega)]
  · rw [List.getElem?_set_ne hi, List.getElem?_map, List.getElem?_map]
    by_cases hn : i < n
    · rw [List.getElem?_range hn]
      simp only [Option.map_some]
      unfold fldV
      rw [pt_ne (b := (i : Int)) (fun q => hi (by omega))]
    · rw [List.getElem?_eq_none (by simp; omega)]
      rfl
theorem fldV_i {ad : Nat → Nat} {row : Int → Int} {c k j : Nat} (h : fkd c j = 0 ∨ fkd c j = 3) : fldV ad row c k j = .int (iI (row j)) := by
  unfold fldV
  rcases h with h | h <;> rw [h] <;> rfl
theorem fldV_r {ad : Nat → Nat} {row : Int → Int} {c k j : Nat} (h : fkd c j = 1) : fldV ad row c k j = .ref (ad (sof c k j)) := by
  unfold fldV
  rw [h]
  rfl
theorem fldV_m {ad : Nat → Nat} {row : Int → Int} {c k j : Nat} (h : fkd c j = 2) : fldV ad row c k j = .ref (ad (row j).toNat) := by
  unfold fldV
  rw [h]
  rfl
theorem V_getI {Φ : Ph} {y : Md} {pc : Nat} {L : Lc} {stk : List MV} {σ : Sg} {post : Po} {k c0 n j idx : Nat} {f : Int} (fl : FL y.1.cls idx c0 j) (hsh : shp[k]? = some (0, c0, n)) (hf : σ k j = f) (hk : fkd c0 j = 0 ∨ fkd c0 j = 3) (hd : decode y.2.1 pc = .ok (.getfield idx, 3)) (kk : VP Φ y (pc + 3) L (vi f :: stk) σ post) : VP Φ y pc L (vr k :: stk) σ post := by
  intro p l e R s m args below meth c A ad dA D cells slots Q X hΦ hR H locs ls hB hP hS hL
  obtain ⟨C, T, N, ty0, f1, f2, f3, f4, f5, f6, -⟩ := fl
  have hN := shpN hsh f1
  subst hN
  refine va_get (C := C) (T := T) (N := n) X.1 X.2.1 X.2.2.2.2.1 f3 X.2.2.2.1 X.2.2.2.2.2.2.2.2.2.1 hP k (wl_get hsh) f1 j f2 (X.2.2.2.2.1 _ f6) (fun _ h9 => h9) (fs_get f2) hd ?_
  subst hf
  rw [fldV_i hk]
  exact kk p l e R s m args below meth c A ad dA D cells slots Q X hΦ hR H locs ls hB hP hS hL
theorem V_getR {Φ : Ph} {y : Md} {pc : Nat} {L : Lc} {stk : List MV} {σ : Sg} {post : Po} {k c0 n j idx k2 : Nat} (fl : FL y.1.cls idx c0 j) (hsh : shp[k]? = some (0, c0, n)) (hf : sof c0 k j = k2) (hk : fkd c0 j = 1) (hd : decode y.2.1 pc = .ok (.getfield idx, 3)) (kk : VP Φ y (pc + 3) L (vr k2 :: stk) σ post) : VP Φ y pc L (vr k :: stk) σ post := by
  intro p l e R s m args below meth c A ad dA D cells slots Q X hΦ hR H locs ls hB hP hS hL
  obtain ⟨C, T, N, ty0, f1, f2, f3, f4, f5, f6, -⟩ := fl
  have hN := shpN hsh f1
  subst hN
  refine va_get (C := C) (T := T) (N := n) X.1 X.2.1 X.2.2.2.2.1 f3 X.2.2.2.1 X.2.2.2.2.2.2.2.2.2.1 hP k (wl_get hsh) f1 j f2 (X.2.2.2.2.1 _ f6) (fun _ h9 => h9) (fs_get f2) hd ?_
  subst hf
  rw [fldV_r hk]
  exact kk p l e R s m args below meth c A ad dA D cells slots Q X hΦ hR H locs ls hB hP hS hL
theorem V_getM {Φ : Ph} {y : Md} {pc : Nat} {L : Lc} {stk : List MV} {σ : Sg} {post : Po} {k c0 n j idx k2 : Nat} (fl : FL y.1.cls idx c0 j) (hsh : shp[k]? = some (0, c0, n)) (hf : σ k j = (k2 : Int)) (hk : fkd c0 j = 2) (hd : decode y.2.1 pc = .ok (.getfield idx, 3)) (kk : VP Φ y (pc + 3) L (vr k2 :: stk) σ post) : VP Φ y pc L (vr k :: stk) σ post := by
  intro p l e R s m args below meth c A ad dA D cells slots Q X hΦ hR H locs ls hB hP hS hL
  obtain ⟨C, T, N, ty0, f1, f2, f3, f4, f5, f6, -⟩ := fl
  have hN := shpN hsh f1
  subst hN
  refine va_get (C := C) (T := T) (N := n) X.1 X.2.1 X.2.2.2.2.1 f3 X.2.2.2.1 X.2.2.2.2.2.2.2.2.2.1 hP k (wl_get hsh) f1 j f2 (X.2.2.2.2.1 _ f6) (fun _ h9 => h9) (fs_get f2) hd ?_
  rw [fldV_m hk, hf, Int.toNat_natCast]
  exact kk p l e R s m args below meth c A ad dA D cells slots Q X hΦ hR H locs ls hB hP hS hL
theorem V_putI {Φ : Ph} {y : Md} {pc : Nat} {L : Lc} {stk : List MV} {σ : Sg} {post : Po} {k c0 n j idx : Nat} {v : Int} (fl : FL y.1.cls idx c0 j) (hsh : shp[k]? = some (0, c0, n)) (hk : fkd c0 j = 0) (hd : decode y.2.1 pc = .ok (.putfield idx, 3)) (kk : VP Φ y (pc + 3) L (stk) (up σ k j v) post) : VP Φ y pc L (vi v :: vr k :: stk) σ post := by
  intro p l e R s m args below meth c A ad dA D cells slots Q X hΦ hR H locs ls hB hP hS hL
  obtain ⟨C, T, N, ty0, f1, f2, f3, f4, f5, f6, g0, g3, g2⟩ := fl
  have hN := shpN hsh f1
  subst hN
  obtain ⟨hty, hfin⟩ := g0 hk
  refine va_put (C := C) (T := T) (N := n) (v := .int (iI v)) X.1 X.2.1 X.2.2.2.2.1 f3 ty0 f4 f5 X.2.2.2.1 X.2.2.2.2.2.2.2.2.2.1 hP (wl_D X.2.2.2.2.2.2.2.1 X.2.2.2.2.2.2.2.2.1) hS k (wl_get hsh) f1 j f2 (X.2.2.2.2.1 _ f6) (fun _ h9 => h9) hfin (f4 j f2) (by rw [hty]; rfl) (by rw [hty]; rfl) (by simpa using f2) hd (fun H1 locs1 hP1 hD1 hS1 => ?_)
  rw [fs_set (v := v) (by rw [fldV_i (Or.inl hk), pt_self])] at hP1
  have hP2 : va_P D vwCl ((wl ad dA σ).set k (ad k, cellE ad dA (pt (σ k) j v) k (0, c0, n))) H1 := hP1
  rw [wl_set hsh] at hP2
  exact kk p l e R s m args below meth c A ad dA D cells slots Q X hΦ hR H1 locs1 ls (hB.st hsh (fun h => by cases h)) hP2 hS1 hL
theorem V_putZ {Φ : Ph} {y : Md} {pc : Nat} {L : Lc} {stk : List MV} {σ : Sg} {post : Po} {k c0 n j idx : Nat} {v : Int} (fl : FL y.1.cls idx c0 j) (hsh : shp[k]? = some (0, c0, n)) (hk : fkd c0 j = 3) (hz : v = 0 ∨ v = 1) (hd : decode y.2.1 pc = .ok (.putfield idx, 3)) (kk : VP Φ y (pc + 3) L (stk) (up σ k j v) post) : VP Φ y pc L (vi v :: vr k :: stk) σ post := by
  intro p l e R s m args below meth c A ad dA D cells slots Q X hΦ hR H locs ls hB hP hS hL
  obtain ⟨C, T, N, ty0, f1, f2, f3, f4, f5, f6, g0, g3, g2⟩ := fl
  have hN := shpN hsh f1
  subst hN
  obtain ⟨hty, hfin⟩ := g3 hk
  refine va_put (C := C) (T := T) (N := n) (v := .int (iI v)) X.1 X.2.1 X.2.2.2.2.1 f3 ty0 f4 f5 X.2.2.2.1 X.2.2.2.2.2.2.2.2.2.1 hP (wl_D X.2.2.2.2.2.2.2.1 X.2.2.2.2.2.2.2.2.1) hS k (wl_get hsh) f1 j f2 (X.2.2.2.2.1 _ f6) (fun _ h9 => h9) hfin (f4 j f2) (by rw [hty]; exact nar_b hz) (by rw [hty]; rcases hz with rfl | rfl <;> decide +kernel) (by simpa using f2) hd (fun H1 locs1 hP1 hD1 hS1 => ?_)
  rw [fs_set (v := v) (by rw [fldV_i (Or.inr hk), pt_self])] at hP1
  have hP2 : va_P D vwCl ((wl ad dA σ).set k (ad k, cellE ad dA (pt (σ k) j v) k (0, c0, n))) H1 := hP1
  rw [wl_set hsh] at hP2
  exact kk p l e R s m args below meth c A ad dA D cells slots Q X hΦ hR H1 locs1 ls (hB.st hsh (fun h => by cases h)) hP2 hS1 hL
theorem V_putM {Φ : Ph} {y : Md} {pc : Nat} {L : Lc} {stk : List MV} {σ : Sg} {post : Po} {k c0 n j idx k2 : Nat} (fl : FL y.1.cls idx c0 j) (hsh : shp[k]? = some (0, c0, n)) (hk : fkd c0 j = 2) (hd : decode y.2.1 pc = .ok (.putfield idx, 3)) (kk : VP Φ y (pc + 3) L (stk) (up σ k j (k2 : Int)) post) : VP Φ y pc L (vr k2 :: vr k :: stk) σ post := by
  intro p l e R s m args below meth c A ad dA D cells slots Q X hΦ hR H locs ls hB hP hS hL
  obtain ⟨C, T, N, ty0, f1, f2, f3, f4, f5, f6, g0, g3, g2⟩ := fl
  have hN := shpN hsh f1
  subst hN
  obtain ⟨⟨nm, hty⟩, hfin⟩ := g2 hk
  refine va_put (C := C) (T := T) (N := n) (v := .ref (ad k2)) X.1 X.2.1 X.2.2.2.2.1 f3 ty0 f4 f5 X.2.2.2.1 X.2.2.2.2.2.2.2.2.2.1 hP (wl_D X.2.2.2.2.2.2.2.1 X.2.2.2.2.2.2.2.2.1) hS k (wl_get hsh) f1 j f2 (X.2.2.2.2.1 _ f6) (fun _ h9 => h9) hfin (f4 j f2) (by rw [hty]; rfl) (by rw [hty]; rfl) (by simpa using f2) hd (fun H1 locs1 hP1 hD1 hS1 => ?_)
  rw [fs_set (v := (k2 : Int)) (by rw [fldV_m hk, pt_self, Int.toNat_natCast])] at hP1
  have hP2 : va_P D vwCl ((wl ad dA σ).set k (ad k, cellE ad dA (pt (σ k) j (k2 : Int)) k (0, c0, n))) H1 := hP1
  rw [wl_set hsh] at hP2
  exact kk p l e R s m args below meth c A ad dA D cells slots Q X hΦ hR H1 locs1 ls (hB.st hsh (fun h => by cases h)) hP2 hS1 hL
theorem V_iald {Φ : Ph} {y : Md} {pc : Nat} {L : Lc} {stk : List MV} {σ : Sg} {post : Po} {k n : Nat} {i f : Int} (hsh : shp[k]? = some (1, n, 0)) (hi : 0 ≤ i ∧ i < (n : Int)) (hf : σ k i = f) (hd : decode y.2.1 pc = .ok (.iaload, 1)) (kk : VP Φ y (pc + 1) L (vi f :: stk) σ post) : VP Φ y pc L (vi i :: vr k :: stk) σ post := by
  intro p l e R s m args below meth c A ad dA D cells slots Q X hΦ hR H locs ls hB hP hS hL
  have hn := shp_small hsh
  have hr : rng i := ⟨by omega, by have := hi.2; have : n < 2147483648 := hn; omega⟩
  refine va_iald X.1 X.2.1 X.2.2.2.2.2.2.2.2.2.1 hP k 0 (wl_get hsh) rfl (iI_in hi.1 hi.2 hn) hd ?_
  rw [iI_clamp hi.1 hr, Int.toNat_of_nonneg hi.1, hf]
  exact kk p l e R s m args below meth c A ad dA D cells slots Q X hΦ hR H locs ls hB hP hS hL
theorem V_bald {Φ : Ph} {y : Md} {pc : Nat} {L : Lc} {stk : List MV} {σ : Sg} {post : Po} {k n : Nat} {i f : Int} (hsh : shp[k]? = some (2, n, 0)) (hi : 0 ≤ i ∧ i < (n : Int)) (hf : σ k i = f) (hd : decode y.2.1 pc = .ok (.baload, 1)) (kk : VP Φ y (pc + 1) L (vi f :: stk) σ post) : VP Φ y pc L (vi i :: vr k :: stk) σ post := by
  intro p l e R s m args below meth c A ad dA D cells slots Q X hΦ hR H locs ls hB hP hS hL
  have hn := shp_small hsh
  have hr : rng i := ⟨by omega, by have := hi.2; have : n < 2147483648 := hn; omega⟩
  refine va_bald X.1 X.2.1 X.2.2.2.2.2.2.2.2.2.1 hP k 1 (wl_get hsh) rfl (iI_in hi.1 hi.2 hn) hd ?_
  rw [iI_clamp hi.1 hr, Int.toNat_of_nonneg hi.1, hf]
  exact kk p l e R s m args below meth c A ad dA D cells slots Q X hΦ hR H locs ls hB hP hS hL
theorem V_zald {Φ : Ph} {y : Md} {pc : Nat} {L : Lc} {stk : List MV} {σ : Sg} {post : Po} {k n : Nat} {i f : Int} (hsh : shp[k]? = some (3, n, 0)) (hi : 0 ≤ i ∧ i < (n : Int)) (hf : σ k i = f) (hd : decode y.2.1 pc = .ok (.baload, 1)) (kk : VP Φ y (pc + 1) L (vi f :: stk) σ post) : VP Φ y pc L (vi i :: vr k :: stk) σ post := by
  intro p l e R s m args below meth c A ad dA D cells slots Q X hΦ hR H locs ls hB hP hS hL
  have hn := shp_small hsh
  have hr : rng i := ⟨by omega, by have := hi.2; have : n < 2147483648 := hn; omega⟩
  refine va_zald X.1 X.2.1 X.2.2.2.2.2.2.2.2.2.1 hP k 2 (wl_get hsh) rfl (iI_in hi.1 hi.2 hn) hd ?_
  rw [iI_clamp hi.1 hr, Int.toNat_of_nonneg hi.1, hf]
  exact kk p l e R s m args below meth c A ad dA D cells slots Q X hΦ hR H locs ls hB hP hS hL
theorem V_lald {Φ : Ph} {y : Md} {pc : Nat} {L : Lc} {stk : List MV} {σ : Sg} {post : Po} {k n : Nat} {i f : Int} (hsh : shp[k]? = some (4, n, 0)) (hi : 0 ≤ i ∧ i < (n : Int)) (hf : σ k i = f) (hd : decode y.2.1 pc = .ok (.laload, 1)) (kk : VP Φ y (pc + 1) L (vl f :: stk) σ post) : VP Φ y pc L (vi i :: vr k :: stk) σ post := by
  intro p l e R s m args below meth c A ad dA D cells slots Q X hΦ hR H locs ls hB hP hS hL
  have hn := shp_small hsh
  have hr : rng i := ⟨by omega, by have := hi.2; have : n < 2147483648 := hn; omega⟩
  refine va_lald X.1 X.2.1 X.2.2.2.2.2.2.2.2.2.1 hP k 3 (wl_get hsh) rfl (iI_in hi.1 hi.2 hn) hd ?_
  rw [iI_clamp hi.1 hr, Int.toNat_of_nonneg hi.1, hf]
  exact kk p l e R s m args below meth c A ad dA D cells slots Q X hΦ hR H locs ls hB hP hS hL
theorem upd_pt {row : Int → Int} {i x : Int} (hi : 0 ≤ i) : upd (fun j : Nat => iI (row j)) i.toNat (iI x) = fun j : Nat => iI (pt row i x j) := by
  funext j
  unfold upd pt
  by_cases h : j = i.toNat
  · rw [if_pos h, if_pos (by omega)]
  · rw [if_neg h, if_neg (by omega)]
theorem updL_pt {row : Int → Int} {i x : Int} (hi : 0 ≤ i) : vp_updL (fun j : Nat => lI (row j)) i.toNat (lI x) = fun j : Nat => lI (pt row i x j) := by
  funext j
  unfold vp_updL pt
  by_cases h : j = i.toNat
  · rw [if_pos h, if_pos (by omega)]
  · rw [if_neg h, if_neg (by omega)]
theorem vp_nar_b2 (x : Int) : vp_nar .byte (iI x) = iI (iByte x) := by
  rw [vp_nar_byte]
  unfold iByte
  rw [iI_of]
theorem vp_nar_z {x : Int} (h : x = 0 ∨ x = 1) : vp_nar .boolean (iI x) = iI x := by rcases h with rfl | rfl <;> decide +kernel
theorem V_iast {Φ : Ph} {y : Md} {pc : Nat} {L : Lc} {stk : List MV} {σ : Sg} {post : Po} {k n : Nat} {i x : Int} (hsh : shp[k]? = some (1, n, 0)) (hi : 0 ≤ i ∧ i < (n : Int)) (hd : decode y.2.1 pc = .ok (.iastore, 1)) (kk : VP Φ y (pc + 1) L (stk) (up σ k i (x)) post) : VP Φ y pc L (vi x :: vi i :: vr k :: stk) σ post := by
  intro p l e R s m args below meth c A ad dA D cells slots Q X hΦ hR H locs ls hB hP hS hL
  have hn := shp_small hsh
  have hr : rng i := ⟨by omega, by have := hi.2; have : n < 2147483648 := hn; omega⟩
  refine va_iast X.1 X.2.1 X.2.2.2.2.2.2.2.2.2.1 hP (wl_D X.2.2.2.2.2.2.2.1 X.2.2.2.2.2.2.2.2.1) hS k 0 (wl_get hsh) rfl (iI_in hi.1 hi.2 hn) hd (fun H1 locs1 hP1 hD1 hS1 => ?_)
  rw [iI_clamp hi.1 hr, upd_pt hi.1] at hP1
  have hP2 : va_P D vwCl ((wl ad dA σ).set k (ad k, cellE ad dA (pt (σ k) i (x)) k (1, n, 0))) H1 := hP1
  rw [wl_set hsh] at hP2
  exact kk p l e R s m args below meth c A ad dA D cells slots Q X hΦ hR H1 locs1 ls (hB.st hsh (fun h => by cases h)) hP2 hS1 hL
theorem V_bast {Φ : Ph} {y : Md} {pc : Nat} {L : Lc} {stk : List MV} {σ : Sg} {post : Po} {k n : Nat} {i x : Int} (hsh : shp[k]? = some (2, n, 0)) (hi : 0 ≤ i ∧ i < (n : Int)) (hd : decode y.2.1 pc = .ok (.bastore, 1)) (kk : VP Φ y (pc + 1) L (stk) (up σ k i (iByte x)) post) : VP Φ y pc L (vi x :: vi i :: vr k :: stk) σ post := by
  intro p l e R s m args below meth c A ad dA D cells slots Q X hΦ hR H locs ls hB hP hS hL
  have hn := shp_small hsh
  have hr : rng i := ⟨by omega, by have := hi.2; have : n < 2147483648 := hn; omega⟩
  refine va_bast X.1 X.2.1 X.2.2.2.2.2.2.2.2.2.1 hP (wl_D X.2.2.2.2.2.2.2.1 X.2.2.2.2.2.2.2.2.1) hS k 1 (wl_get hsh) rfl (iI_in hi.1 hi.2 hn) hd (fun H1 locs1 hP1 hD1 hS1 => ?_)
  rw [iI_clamp hi.1 hr, vp_nar_b2, upd_pt hi.1] at hP1
  have hP2 : va_P D vwCl ((wl ad dA σ).set k (ad k, cellE ad dA (pt (σ k) i (iByte x)) k (2, n, 0))) H1 := hP1
  rw [wl_set hsh] at hP2
  exact kk p l e R s m args below meth c A ad dA D cells slots Q X hΦ hR H1 locs1 ls (hB.st hsh (fun h => by cases h)) hP2 hS1 hL
theorem V_zast {Φ : Ph} {y : Md} {pc : Nat} {L : Lc} {stk : List MV} {σ : Sg} {post : Po} {k n : Nat} {i x : Int} (hsh : shp[k]? = some (3, n, 0)) (hi : 0 ≤ i ∧ i < (n : Int)) (hz : x = 0 ∨ x = 1) (hd : decode y.2.1 pc = .ok (.bastore, 1)) (kk : VP Φ y (pc + 1) L (stk) (up σ k i (x)) post) : VP Φ y pc L (vi x :: vi i :: vr k :: stk) σ post := by
  intro p l e R s m args below meth c A ad dA D cells slots Q X hΦ hR H locs ls hB hP hS hL
  have hn := shp_small hsh
  have hr : rng i := ⟨by omega, by have := hi.2; have : n < 2147483648 := hn; omega⟩
  refine va_zast X.1 X.2.1 X.2.2.2.2.2.2.2.2.2.1 hP (wl_D X.2.2.2.2.2.2.2.1 X.2.2.2.2.2.2.2.2.1) hS k 2 (wl_get hsh) rfl (iI_in hi.1 hi.2 hn) hd (fun H1 locs1 hP1 hD1 hS1 => ?_)
  rw [iI_clamp hi.1 hr, vp_nar_z hz, upd_pt hi.1] at hP1
  have hP2 : va_P D vwCl ((wl ad dA σ).set k (ad k, cellE ad dA (pt (σ k) i (x)) k (3, n, 0))) H1 := hP1
  rw [wl_set hsh] at hP2
  exact kk p l e R s m args below meth c A ad dA D cells slots Q X hΦ hR H1 locs1 ls (hB.st hsh (fun _ b => by unfold pt; split; exact hz; exact hB k n hsh b)) hP2 hS1 hL
theorem V_last {Φ : Ph} {y : Md} {pc : Nat} {L : Lc} {stk : List MV} {σ : Sg} {post : Po} {k n : Nat} {i x : Int} (hsh : shp[k]? = some (4, n, 0)) (hi : 0 ≤ i ∧ i < (n : Int)) (hd : decode y.2.1 pc = .ok (.lastore, 1)) (kk : VP Φ y (pc + 1) L (stk) (up σ k i (x)) post) : VP Φ y pc L (vl x :: vi i :: vr k :: stk) σ post := by
  intro p l e R s m args below meth c A ad dA D cells slots Q X hΦ hR H locs ls hB hP hS hL
  have hn := shp_small hsh
  have hr : rng i := ⟨by omega, by have := hi.2; have : n < 2147483648 := hn; omega⟩
  refine va_last X.1 X.2.1 X.2.2.2.2.2.2.2.2.2.1 hP (wl_D X.2.2.2.2.2.2.2.1 X.2.2.2.2.2.2.2.2.1) hS k 3 (wl_get hsh) rfl (iI_in hi.1 hi.2 hn) hd (fun H1 locs1 hP1 hD1 hS1 => ?_)
  rw [iI_clamp hi.1 hr, updL_pt hi.1] at hP1
  have hP2 : va_P D vwCl ((wl ad dA σ).set k (ad k, cellE ad dA (pt (σ k) i (x)) k (4, n, 0))) H1 := hP1
  rw [wl_set hsh] at hP2
  exact kk p l e R s m args below meth c A ad dA D cells slots Q X hΦ hR H1 locs1 ls (hB.st hsh (fun h => by cases h)) hP2 hS1 hL
theorem V_aald {Φ : Ph} {y : Md} {pc : Nat} {L : Lc} {stk : List MV} {σ : Sg} {post : Po} {k n : Nat} {i : Int} {k2 : Nat} (hsh : shp[k]? = some (5, n, 0)) (hi : 0 ≤ i ∧ i < (n : Int)) (hf : imT i.toNat = k2) (hd : decode y.2.1 pc = .ok (.aaload, 1)) (kk : VP Φ y (pc + 1) L (vr k2 :: stk) σ post) : VP Φ y pc L (vi i :: vr k :: stk) σ post := by
  intro p l e R s m args below meth c A ad dA D cells slots Q X hΦ hR H locs ls hB hP hS hL
  have hn := shp_small hsh
  have hr : rng i := ⟨by omega, by have := hi.2; have : n < 2147483648 := hn; omega⟩
  refine va_aldq X.1 X.2.1 X.2.2.2.2.2.2.2.2.2.1 hP k 4 (wl_get hsh) rfl (iI_in hi.1 hi.2 hn) hd ?_
  rw [iI_clamp hi.1 hr, hf]
  exact kk p l e R s m args below meth c A ad dA D cells slots Q X hΦ hR H locs ls hB hP hS hL
theorem V_alen1 {Φ : Ph} {y : Md} {pc : Nat} {L : Lc} {stk : List MV} {σ : Sg} {post : Po} {k n : Nat} {z : Int} (hsh : shp[k]? = some (1, n, 0)) (hz : (n : Int) = z) (hd : decode y.2.1 pc = .ok (.arraylength, 1)) (kk : VP Φ y (pc + 1) L (vi z :: stk) σ post) : VP Φ y pc L (vr k :: stk) σ post := by
  intro p l e R s m args below meth c A ad dA D cells slots Q X hΦ hR H locs ls hB hP hS hL
  refine va_alen X.1 X.2.1 X.2.2.2.2.2.2.2.2.2.1 hP k 0 (wl_get hsh) rfl (v := iI z) ?_ hd (kk p l e R s m args below meth c A ad dA D cells slots Q X hΦ hR H locs ls hB hP hS hL)
  subst hz
  exact (Int32.ofInt_eq_ofNat).symm
theorem V_alen2 {Φ : Ph} {y : Md} {pc : Nat} {L : Lc} {stk : List MV} {σ : Sg} {post : Po} {k n : Nat} {z : Int} (hsh : shp[k]? = some (2, n, 0)) (hz : (n : Int) = z) (hd : decode y.2.1 pc = .ok (.arraylength, 1)) (kk : VP Φ y (pc + 1) L (vi z :: stk) σ post) : VP Φ y pc L (vr k :: stk) σ post := by
  intro p l e R s m args below meth c A ad dA D cells slots Q X hΦ hR H locs ls hB hP hS hL
  refine va_alen X.1 X.2.1 X.2.2.2.2.2.2.2.2.2.1 hP k 1 (wl_get hsh) rfl (v := iI z) ?_ hd (kk p l e R s m args below meth c A ad dA D cells slots Q X hΦ hR H locs ls hB hP hS hL)
  subst hz
  exact (Int32.ofInt_eq_ofNat).symm
theorem V_alen4 {Φ : Ph} {y : Md} {pc : Nat} {L : Lc} {stk : List MV} {σ : Sg} {post : Po} {k n : Nat} {z : Int} (hsh : shp[k]? = some (4, n, 0)) (hz : (n : Int) = z) (hd : decode y.2.1 pc = .ok (.arraylength, 1)) (kk : VP Φ y (pc + 1) L (vi z :: stk) σ post) : VP Φ y pc L (vr k :: stk) σ post := by
  intro p l e R s m args below meth c A ad dA D cells slots Q X hΦ hR H locs ls hB hP hS hL
  refine va_alen X.1 X.2.1 X.2.2.2.2.2.2.2.2.2.1 hP k 3 (wl_get hsh) rfl (v := iI z) ?_ hd (kk p l e R s m args below meth c A ad dA D cells slots Q X hΦ hR H locs ls hB hP hS hL)
  subst hz
  exact (Int32.ofInt_eq_ofNat).symm
def cpR (f g : Int → Int) (sp dp n : Int) : Int → Int := fun b => if dp ≤ b ∧ b < dp + n then f (sp + (b - dp)) else g b
theorem cpR_eq {β : Type} (mk : Int → β) {f g : Int → Int} {sp dp n : Int} (h1 : 0 ≤ sp) (h2 : 0 ≤ dp) (h3 : 0 ≤ n) : va_cpy (fun j : Nat => mk (f j)) (fun j : Nat => mk (g j)) sp.toNat dp.toNat n.toNat = fun j : Nat => mk (cpR f g sp dp n j) := by
  funext j
  unfold va_cpy cpR
  by_cases h : dp.toNat ≤ j ∧ j < dp.toNat + n.toNat
  · rw [if_pos h, if_pos (by omega)]
    have e : ((sp.toNat + (j - dp.toNat) : Nat) : Int) = sp + ((j : Int) - dp) := by omega
    show mk (f ((sp.toNat + (j - dp.toNat) : Nat) : Int)) = _
    rw [e]
  · rw [if_neg h, if_neg (by omega)]
theorem V_copyI {Φ : Ph} {y : Md} {pc : Nat} {L : Lc} {stk : List MV} {σ : Sg} {post : Po} {k k1 n n1 idx : Nat} {sp dp z : Int} (hsh : shp[k]? = some (1, n, 0)) (hsh1 : shp[k1]? = some (1, n1, 0)) (h1 : 0 ≤ sp) (h2 : 0 ≤ dp) (h3 : 0 ≤ z) (h4 : sp + z ≤ (n : Int)) (h5 : dp + z ≤ (n1 : Int)) (hw : Cond.methodLink y.1.cls idx arraycopyName ∈ gws ∧ Cond.native arraycopyName ∈ gws ∧ Cond.static arraycopyName ∈ gws ∧ Cond.initialized "java/lang/System" ∈ gws) (hh : 1 ≤ y.2.2.2.2) (hst : stk = []) (hd : decode y.2.1 pc = .ok (.invokestatic idx, 3)) (kk : VP Φ y (pc + 3) L (stk) (st σ k1 (cpR (σ k) (σ k1) sp dp z)) post) : VP Φ y pc L (vi z :: vi dp :: vr k1 :: vi sp :: vr k :: stk) σ post := by
  intro p l e R s m args below meth c A ad dA D cells slots Q X hΦ hR H locs ls hB hP hS hL
  subst hst
  have hn := shp_small hsh
  have hn1 := shp_small hsh1
  dsimp only at hn hn1
  have r1 : rng sp := ⟨by omega, by omega⟩
  have r2 : rng dp := ⟨by omega, by omega⟩
  have r3 : rng z := ⟨by omega, by omega⟩
  have c1 := iI_clamp h1 r1
  have c2 := iI_clamp h2 r2
  have c3 := iI_clamp h3 r3
  have hy1 : 1 ≤ R.frames := Nat.le_trans hh X.2.2.2.2.2.1.1
  have hy2 : 30 ≤ R.locals := by have := X.2.2.2.2.2.1.2; omega
  refine va_copyi X.1 X.2.1 (X.2.2.1.trans hL.1.symm) X.2.2.2.1 (X.2.2.2.2.1 _ hw.1) (X.2.2.2.2.1 _ hw.2.1) (X.2.2.2.2.1 _ hw.2.2.1) (X.2.2.2.2.1 _ hw.2.2.2) X.2.2.2.2.2.2.2.2.2.1 hP (wl_D X.2.2.2.2.2.2.2.1 X.2.2.2.2.2.2.2.2.1) hS k k1 0 0 (wl_get hsh) (wl_get hsh1) rfl rfl rfl (fun q => by rw [iI_lt0 r1] at q; omega) (fun q => by rw [iI_lt0 r2] at q; omega) (fun q => by rw [iI_lt0 r3] at q; omega) (by rw [c1, c3]; show sp.toNat + z.toNat ≤ n; omega) (by rw [c2, c3]; show dp.toNat + z.toNat ≤ n1; omega) (fun i _ => rfl) hy1 (Nat.le_trans (show 0 + (nativeFrameWords "java/lang/System" "arraycopy" 5 + 11) ≤ 30 by decide +kernel) hy2) hd (fun H1 locs1 hP1 hD1 hS1 => ?_)
  rw [c1, c2, c3, cpR_eq iI h1 h2 h3] at hP1
  have hP2 : va_P D vwCl ((wl ad dA σ).set k1 (ad k1, cellE ad dA (cpR (σ k) (σ k1) sp dp z) k1 (1, n1, 0))) H1 := hP1
  rw [wl_set hsh1] at hP2
  exact kk p l e R s m args below meth c A ad dA D cells slots Q X hΦ hR H1 locs1 ls (hB.st hsh1 (fun h => by cases h)) hP2 hS1 hL
theorem V_copyZ {Φ : Ph} {y : Md} {pc : Nat} {L : Lc} {stk : List MV} {σ : Sg} {post : Po} {k k1 n n1 idx : Nat} {sp dp z : Int} (hsh : shp[k]? = some (3, n, 0)) (hsh1 : shp[k1]? = some (3, n1, 0)) (h1 : 0 ≤ sp) (h2 : 0 ≤ dp) (h3 : 0 ≤ z) (h4 : sp + z ≤ (n : Int)) (h5 : dp + z ≤ (n1 : Int)) (hw : Cond.methodLink y.1.cls idx arraycopyName ∈ gws ∧ Cond.native arraycopyName ∈ gws ∧ Cond.static arraycopyName ∈ gws ∧ Cond.initialized "java/lang/System" ∈ gws) (hh : 1 ≤ y.2.2.2.2) (hst : stk = []) (hd : decode y.2.1 pc = .ok (.invokestatic idx, 3)) (kk : VP Φ y (pc + 3) L (stk) (st σ k1 (cpR (σ k) (σ k1) sp dp z)) post) : VP Φ y pc L (vi z :: vi dp :: vr k1 :: vi sp :: vr k :: stk) σ post := by
  intro p l e R s m args below meth c A ad dA D cells slots Q X hΦ hR H locs ls hB hP hS hL
  subst hst
  have hn := shp_small hsh
  have hn1 := shp_small hsh1
  dsimp only at hn hn1
  have r1 : rng sp := ⟨by omega, by omega⟩
  have r2 : rng dp := ⟨by omega, by omega⟩
  have r3 : rng z := ⟨by omega, by omega⟩
  have c1 := iI_clamp h1 r1
  have c2 := iI_clamp h2 r2
  have c3 := iI_clamp h3 r3
  have hy1 : 1 ≤ R.frames := Nat.le_trans hh X.2.2.2.2.2.1.1
  have hy2 : 30 ≤ R.locals := by have := X.2.2.2.2.2.1.2; omega
  refine va_copyi X.1 X.2.1 (X.2.2.1.trans hL.1.symm) X.2.2.2.1 (X.2.2.2.2.1 _ hw.1) (X.2.2.2.2.1 _ hw.2.1) (X.2.2.2.2.1 _ hw.2.2.1) (X.2.2.2.2.1 _ hw.2.2.2) X.2.2.2.2.2.2.2.2.2.1 hP (wl_D X.2.2.2.2.2.2.2.1 X.2.2.2.2.2.2.2.2.1) hS k k1 2 2 (wl_get hsh) (wl_get hsh1) rfl rfl rfl (fun q => by rw [iI_lt0 r1] at q; omega) (fun q => by rw [iI_lt0 r2] at q; omega) (fun q => by rw [iI_lt0 r3] at q; omega) (by rw [c1, c3]; show sp.toNat + z.toNat ≤ n; omega) (by rw [c2, c3]; show dp.toNat + z.toNat ≤ n1; omega) (fun i _ => by rcases hB k n hsh (((iI sp).toNatClampNeg + i : Nat) : Int) with h | h <;> rw [h] <;> decide +kernel) hy1 (Nat.le_trans (show 0 + (nativeFrameWords "java/lang/System" "arraycopy" 5 + 11) ≤ 30 by decide +kernel) hy2) hd (fun H1 locs1 hP1 hD1 hS1 => ?_)
  rw [c1, c2, c3, cpR_eq iI h1 h2 h3] at hP1
  have hP2 : va_P D vwCl ((wl ad dA σ).set k1 (ad k1, cellE ad dA (cpR (σ k) (σ k1) sp dp z) k1 (3, n1, 0))) H1 := hP1
  rw [wl_set hsh1] at hP2
  exact kk p l e R s m args below meth c A ad dA D cells slots Q X hΦ hR H1 locs1 ls (hB.st hsh1 (fun _ b => by unfold cpR; split; exact hB k n hsh _; exact hB k1 n1 hsh1 b)) hP2 hS1 hL
theorem V_copyL {Φ : Ph} {y : Md} {pc : Nat} {L : Lc} {stk : List MV} {σ : Sg} {post : Po} {k k1 n n1 idx : Nat} {sp dp z : Int} (hsh : shp[k]? = some (4, n, 0)) (hsh1 : shp[k1]? = some (4, n1, 0)) (h1 : 0 ≤ sp) (h2 : 0 ≤ dp) (h3 : 0 ≤ z) (h4 : sp + z ≤ (n : Int)) (h5 : dp + z ≤ (n1 : Int)) (hw : Cond.methodLink y.1.cls idx arraycopyName ∈ gws ∧ Cond.native arraycopyName ∈ gws ∧ Cond.static arraycopyName ∈ gws ∧ Cond.initialized "java/lang/System" ∈ gws) (hh : 1 ≤ y.2.2.2.2) (hst : stk = []) (hd : decode y.2.1 pc = .ok (.invokestatic idx, 3)) (kk : VP Φ y (pc + 3) L (stk) (st σ k1 (cpR (σ k) (σ k1) sp dp z)) post) : VP Φ y pc L (vi z :: vi dp :: vr k1 :: vi sp :: vr k :: stk) σ post := by
  intro p l e R s m args below meth c A ad dA D cells slots Q X hΦ hR H locs ls hB hP hS hL
  subst hst
  have hn := shp_small hsh
  have hn1 := shp_small hsh1
  dsimp only at hn hn1
  have r1 : rng sp := ⟨by omega, by omega⟩
  have r2 : rng dp := ⟨by omega, by omega⟩
  have r3 : rng z := ⟨by omega, by omega⟩
  have c1 := iI_clamp h1 r1
  have c2 := iI_clamp h2 r2
  have c3 := iI_clamp h3 r3
  have hy1 : 1 ≤ R.frames := Nat.le_trans hh X.2.2.2.2.2.1.1
  have hy2 : 30 ≤ R.locals := by have := X.2.2.2.2.2.1.2; omega
  refine va_copyl X.1 X.2.1 (X.2.2.1.trans hL.1.symm) X.2.2.2.1 (X.2.2.2.2.1 _ hw.1) (X.2.2.2.2.1 _ hw.2.1) (X.2.2.2.2.1 _ hw.2.2.1) (X.2.2.2.2.1 _ hw.2.2.2) X.2.2.2.2.2.2.2.2.2.1 hP (wl_D X.2.2.2.2.2.2.2.1 X.2.2.2.2.2.2.2.2.1) hS k k1 3 3 (wl_get hsh) (wl_get hsh1) rfl rfl rfl (fun q => by rw [iI_lt0 r1] at q; omega) (fun q => by rw [iI_lt0 r2] at q; omega) (fun q => by rw [iI_lt0 r3] at q; omega) (by rw [c1, c3]; show sp.toNat + z.toNat ≤ n; omega) (by rw [c2, c3]; show dp.toNat + z.toNat ≤ n1; omega) (fun i _ => rfl) hy1 (Nat.le_trans (show 0 + (nativeFrameWords "java/lang/System" "arraycopy" 5 + 11) ≤ 30 by decide +kernel) hy2) hd (fun H1 locs1 hP1 hD1 hS1 => ?_)
  rw [c1, c2, c3, cpR_eq lI h1 h2 h3] at hP1
  have hP2 : va_P D vwCl ((wl ad dA σ).set k1 (ad k1, cellE ad dA (cpR (σ k) (σ k1) sp dp z) k1 (4, n1, 0))) H1 := hP1
  rw [wl_set hsh1] at hP2
  exact kk p l e R s m args below meth c A ad dA D cells slots Q X hΦ hR H1 locs1 ls (hB.st hsh1 (fun h => by cases h)) hP2 hS1 hL
/-- the words of a callee among the words that hold -/
theorem gws_callee {y' : Md} (h : Cond.code y'.1 y'.2.1 y'.2.2.1 y'.2.2.2.1 ∈ gws) : GoodIn gws (wsD y') := by
  intro w hw
  rcases List.mem_cons.mp hw with rfl | hw
  · exact ⟨h, good_of_word (gws_good h)⟩
  · exact ⟨hw, good_of_word (gws_good hw)⟩
/-- what every call needs -/
def CallA (y' : Md) (n : Nat) : Prop := Cond.code y'.1 y'.2.1 y'.2.2.1 y'.2.2.2.1 ∈ gws ∧ Cond.initialized y'.1.cls ∈ gws ∧ (y'.1.cls ≠ "java/lang/invoke/MethodHandle" ∧ y'.1.cls ≠ "java/lang/invoke/VarHandle" ∧ (parseMethodDescriptor y'.1.desc).map (fun d => d.parameters.length) = some n) ∧ y'.2.2.1 ≤ 11
def CallV (own : String) (idx : Nat) (y' : Md) (c n : Nat) : Prop := CallA y' n ∧ Cond.methodLink own idx y'.1 ∈ gws ∧ Cond.instanceMethod y'.1 ∈ gws ∧ Cond.selects y'.1.cls y'.1 y'.1 ∈ gws ∧ (vwCl[c]?).map (fun r => r.1) = some y'.1.cls
def CallS (own : String) (idx : Nat) (y' : Md) (n : Nat) : Prop := CallA y' n ∧ Cond.methodLink own idx y'.1 ∈ gws ∧ Cond.static y'.1 ∈ gws
def CallN (own : String) (idx : Nat) (y' : Md) (n : Nat) : Prop := CallA y' n ∧ Cond.static y'.1 ∈ gws ∧ ∃ host, (own, idx, y'.1, host) ∈ nestW
section VCALL
variable {p : Program} {l : Launch} {e : Env} {R : Room} {s : State} {m : MethodId} {args : Array Value} {below : List Frame} {meth : Method} {c : Code} {H : Heap} {locs : List Loc} {cells slots : Nat} {Q : State → Prop}
theorem Pz_blind {ad : Nat → Nat} {dA : Nat → ClassId} {D : va_G} {σ : Sg} {av : List Value} : FrameBlind (va_Pc av (Pz ad dA D σ)) := by
  intro a U g mk q
  obtain ⟨q0, qB, qA, qP, qK, qE⟩ := q
  exact ⟨q0, qB, qA, qP, va_K.moved (u := U) (U := U.calling g mk a) (Vm.Alike.refl U.vm) qK, qE.calling a g mk⟩
theorem Pz_pre {y : Md} {A : Nat → Prop} {ad : Nat → Nat} {dA : Nat → ClassId} {D : va_G} {σ : Sg} {av : List MV} (X : Cx y p R s m args c A ad dA D cells slots) (hB : okB σ) (hP : va_P D vwCl (wl ad dA σ) H) (hS : va_S A s.heap H locs) : ∀ U : State, U.heap = H → s.WarmedH U.vm → va_Pc (av.map (ren ad)) (Pz ad dA D σ) (av.map (ren ad)).toArray U := by
  intro U hU hW
  refine ⟨rfl, hB, X.2.2.2.2.2.2.2.1, by rw [hU]; exact hP, va_K.moved hW.alike X.2.2.2.2.2.2.2.2.2.1, X.2.2.2.2.2.2.2.2.2.2.go hW ?_ ?_⟩
  · rintro q ⟨k, hk, rfl⟩
    exact X.2.2.2.2.2.2.2.2.1 k hk
  · rw [hU]
    exact hS.2.1
/-- behind a call -/
theorem callZ {Φ : Ph} {y y' : Md} {A : Nat → Prop} {ad : Nat → Nat} {dA : Nat → ClassId} {D : va_G} {pc : Nat} {L : Lc} {ls : Array Slot} {stk st0 : List MV} {post post' : Po} {a : Array Value}
    (hr : va_Run p l e R s m args below meth c H locs cells slots 0 0 (F0 m pc ls (st0.map (ren ad))) (stk.map (ren ad)) (Qz y' ad dA D post' a) (inA ad))
    (X : Cx y p R s m args c A ad dA D cells slots) (hΦ : Φ s A ad) (hR : Rt y p l e R s m args below meth c A ad dA D cells slots Q post) (hS : va_S A s.heap H locs) (hL : LH ad ls y.2.2.1 L)
    (hk : ∀ r σ, post' r σ → VP Φ y (pc + 3) L (r.toList ++ stk) σ post) : W p l e R s m args below meth c H locs cells slots Q (F0 m pc ls (st0.map (ren ad))) := by
  intro T hT X0
  obtain ⟨v, st₀, t, T', Lc', h0, X', hLc, e1, e2, ⟨⟨r, σ', hv, hp, hB', hP'⟩, hz, hk1⟩, st⟩ := hr T hT X0
  cases hv
  rw [h0] at hz hk1
  have hA : ∀ q, inA ad q → A q := by
    rintro q ⟨k, h1, rfl⟩
    exact X.2.2.2.2.2.2.2.2.1 k h1
  have hS' : va_S A s.heap T'.heap (locs ++ Lc') := ⟨Nat.le_trans hS.1 (by rw [e1]; exact hz), fun q h1 h2 => by rw [e1, hk1 q (Nat.lt_of_lt_of_le h1 hS.1) (fun z => h2 (hA q z))]; exact hS.2.1 q h1 h2, fun q hq => by
      rcases List.mem_append.mp hq with h | h
      · exact hS.2.2 q h
      · exact hA _ (hLc q h)⟩
  have w := hk r σ' hp p l e R s m args below meth c A ad dA D cells slots Q X hΦ hR T'.heap (locs ++ Lc') ls hB' (by rw [e1]; exact hP') hS' hL
  obtain ⟨t2, a1, b1⟩ := w T' rfl X'
  refine ⟨t2, st t2 ?_, b1⟩
  have es : (r.toList ++ stk).map (ren ad) = (r.map (ren ad)).toList ++ stk.map (ren ad) := by cases r <;> rfl
  rw [es] at a1
  exact a1
end VCALL
theorem roomD {y y' : Md} {R : Room} (h : y.2.2.2.2 ≤ R.frames ∧ 30 * y.2.2.2.2 ≤ R.locals) (hh : y'.2.2.2.2 < y.2.2.2.2) (hm : y'.2.2.1 ≤ 11) : (rmD y'.2.2.2.2).frames + 1 ≤ R.frames ∧ 8 + (y'.2.2.1 + 11) + (rmD y'.2.2.2.2).locals ≤ R.locals := by
  refine ⟨?_, ?_⟩
  · show y'.2.2.2.2 + 1 ≤ R.frames
    omega
  · show 8 + (y'.2.2.1 + 11) + 30 * y'.2.2.2.2 ≤ R.locals
    omega
def ctg : MV → Nat
  | .inr (.inl _) => 2
  | _ => 1
theorem ctg_sum (ad : Nat → Nat) : ∀ stk : List MV, ((stk.map (ren ad)).map (fun v => v.category)).sum = (stk.map ctg).sum
  | [] => rfl
  | v :: r => by
    rw [List.map_cons, List.map_cons, List.sum_cons, List.map_cons, List.sum_cons, ctg_sum ad r]
    congr 1
    rcases v with z | z | k <;> rfl
theorem rev_map (ad : Nat → Nat) (av stk : List MV) : (av.reverse ++ stk).map (ren ad) = (av.map (ren ad)).reverse ++ stk.map (ren ad) := by
  rw [List.map_append, List.map_reverse]
theorem V_callV {Φ : Ph} {y : Md} {pc : Nat} {L : Lc} {stk : List MV} {σ : Sg} {post : Po} {y' : Md} {k c0 n0 n idx : Nat} {av st0 : List MV} {post' : Po} (hc : CallV y.1.cls idx y' c0 n) (hsh : shp[k]? = some (0, c0, n0)) (hn : av.length = n) (hs : st0 = av.reverse ++ vr k :: stk) (hh : y'.2.2.2.2 < y.2.2.2.2) (h8 : (stk.map ctg).sum ≤ 8) (hd : decode y.2.1 pc = .ok (.invokevirtual idx, 3)) (hM : Cl y' (vr k :: av) σ post') (hk : ∀ r σ, post' r σ → VP Φ y (pc + 3) L (r.toList ++ stk) σ post) : VP Φ y pc L st0 σ post := by
  intro p l e R s m args below meth c A ad dA D cells slots Q X hΦ hR H locs ls hB hP hS hL
  have hcode := hc.1.1
  have hini := X.2.2.2.2.1 _ hc.1.2.1
  have hrm := roomD X.2.2.2.2.2.1 hh hc.1.2.2.2
  have hst8 : 2 * (F0 m pc ls ((av.reverse ++ vr k :: stk).map (ren ad))).monitorRoom + ((stk.map (ren ad)).map fun v => v.category).sum ≤ 8 := lv_room (by rw [ctg_sum]; exact h8)
  subst hs
  have hcl : ∃ q : vw_C, vwCl[c0]? = some q ∧ q.1 = y'.1.cls := by
    have h := hc.2.2.2.2
    cases hq : vwCl[c0]? with
    | none => rw [hq] at h; cases h
    | some q => rw [hq] at h; exact ⟨q, rfl, Option.some.inj h⟩
  obtain ⟨q, hq1, hq2⟩ := hcl
  have hrec : ∃ cellB : Cell, H[ad k]? = some cellB ∧ cellB.vm.isStatics = false ∧ s.vm.findClass y'.1.cls = some cellB.cls := by
    rw [← hq2]
    exact va_recv X.2.2.2.2.2.2.2.2.2.1 hP hq1 (wl_get hsh)
  refine callZ (y' := y') (va_runV (C := y'.1.cls) (As := av.map (ren ad)) (b := ad k) ⟨X.1, X.2.1, X.2.2.1, X.2.2.2.1, X.2.2.2.2.1⟩ (hM l ad dA D) ⟨callB_of n X.2.2.2.2.1 (gws_callee hcode) rfl rfl rfl hini (X.2.2.2.2.1 _ hc.2.1) hc.1.2.2.1 hrm, X.2.2.2.2.1 _ hc.2.2.1, X.2.2.2.2.1 _ hc.2.2.2.1⟩ ⟨Pz_blind, hrec, Pz_pre (av := vr k :: av) X hB hP hS⟩ rfl (by rw [List.length_map]; exact hn) hL.1 (rev_map ad av (vr k :: stk)) hst8 hd ⟨X.2.2.2.2.2.2.1.1, X.2.2.2.2.2.2.1.2⟩) X hΦ hR hS hL hk
theorem V_callS {Φ : Ph} {y : Md} {pc : Nat} {L : Lc} {stk : List MV} {σ : Sg} {post : Po} {y' : Md} {n idx : Nat} {av st0 : List MV} {post' : Po} (hc : CallS y.1.cls idx y' n) (hn : av.length = n) (hs : st0 = av.reverse ++ stk) (hh : y'.2.2.2.2 < y.2.2.2.2) (h8 : (stk.map ctg).sum ≤ 8) (hd : decode y.2.1 pc = .ok (.invokestatic idx, 3)) (hM : Cl y' av σ post') (hk : ∀ r σ, post' r σ → VP Φ y (pc + 3) L (r.toList ++ stk) σ post) : VP Φ y pc L st0 σ post := by
  intro p l e R s m args below meth c A ad dA D cells slots Q X hΦ hR H locs ls hB hP hS hL
  have hcode := hc.1.1
  have hini := X.2.2.2.2.1 _ hc.1.2.1
  have hrm := roomD X.2.2.2.2.2.1 hh hc.1.2.2.2
  have hst8 : 2 * (F0 m pc ls ((av.reverse ++ stk).map (ren ad))).monitorRoom + ((stk.map (ren ad)).map fun v => v.category).sum ≤ 8 := lv_room (by rw [ctg_sum]; exact h8)
  subst hs
  refine callZ (y' := y') (va_runS (As := av.map (ren ad)) ⟨X.1, X.2.1, X.2.2.1, X.2.2.2.1, X.2.2.2.2.1⟩ (hM l ad dA D) ⟨callB_of n X.2.2.2.2.1 (gws_callee hcode) rfl rfl rfl hini (X.2.2.2.2.1 _ hc.2.1) hc.1.2.2.1 hrm, X.2.2.2.2.1 _ hc.2.2⟩ ⟨Pz_blind, Pz_pre (av := av) X hB hP hS⟩ rfl (by rw [List.length_map]; exact hn) hL.1 (rev_map ad av stk) hst8 hd ⟨X.2.2.2.2.2.2.1.1, X.2.2.2.2.2.2.1.2⟩) X hΦ hR hS hL hk
theorem V_callN {Φ : Ph} {y : Md} {pc : Nat} {L : Lc} {stk : List MV} {σ : Sg} {post : Po} {y' : Md} {n idx : Nat} {av st0 : List MV} {post' : Po} (hc : CallN y.1.cls idx y' n) (hn : av.length = n) (hs : st0 = av.reverse ++ stk) (hh : y'.2.2.2.2 < y.2.2.2.2) (h8 : (stk.map ctg).sum ≤ 8) (hd : decode y.2.1 pc = .ok (.invokestatic idx, 3)) (hM : Cl y' av σ post') (hk : ∀ r σ, post' r σ → VP Φ y (pc + 3) L (r.toList ++ stk) σ post) : VP Φ y pc L st0 σ post := by
  intro p l e R s m args below meth c A ad dA D cells slots Q X hΦ hR H locs ls hB hP hS hL
  have hcode := hc.1.1
  have hini := X.2.2.2.2.1 _ hc.1.2.1
  have hrm := roomD X.2.2.2.2.2.1 hh hc.1.2.2.2
  have hst8 : 2 * (F0 m pc ls ((av.reverse ++ stk).map (ren ad))).monitorRoom + ((stk.map (ren ad)).map fun v => v.category).sum ≤ 8 := lv_room (by rw [ctg_sum]; exact h8)
  subst hs
  obtain ⟨host, hnest⟩ := hc.2.2
  refine callZ (y' := y') (va_runSN (host := host) (As := av.map (ren ad)) ⟨X.1, X.2.1, X.2.2.1, X.2.2.2.1, X.2.2.2.2.1⟩ (hM l ad dA D) ⟨va_cnB n X.2.2.2.2.1 (gws_callee hcode) rfl rfl rfl (X.2.2.2.2.2.2.2.2.2.2.1 _ hnest) hini hc.1.2.2.1 hrm, X.2.2.2.2.1 _ hc.2.1, trivial⟩ ⟨Pz_blind, Pz_pre (av := av) X hB hP hS⟩ rfl (by rw [List.length_map]; exact hn) hL.1 (rev_map ad av stk) hst8 hd ⟨X.2.2.2.2.2.2.1.1, X.2.2.2.2.2.2.1.2⟩) X hΦ hR hS hL hk
