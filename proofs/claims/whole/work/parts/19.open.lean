/-! ===== the claim out of 33 steps and an invariant (printed by wip/whole/gen/mk19.py) ===== -/
theorem ad_apart {ws : va_W} {A : Nat → Prop} {l ps : List Nat} (hD : va_D A ws) (hl : ps.map (fun i => (ws[i]?).map (fun q => q.1)) = l.map some) (hn : va_nd ps = true) (hlen : l.length = 137) {g : Nat → Nat} : Ap (adF l g) ∧ ∀ k, k < 137 → A (adF l g k) := by
  have key : ∀ k, k < 137 → ∃ (i : Nat) (q : Nat × va_E), ps[k]? = some i ∧ ws[i]? = some q ∧ q.1 = adF l g k := by
    intro k hk
    have hk2 : k < l.length := by omega
    have e : (l.map some)[k]? = some (some l[k]) := by rw [List.getElem?_map, List.getElem?_eq_getElem hk2]; rfl
    rw [← hl, List.getElem?_map] at e
    cases hp : ps[k]? with
    | none => rw [hp] at e; cases e
    | some i =>
      rw [hp] at e
      have e2 : (ws[i]?).map (fun q => q.1) = some l[k] := Option.some.inj e
      cases hw : ws[i]? with
      | none => rw [hw] at e2; cases e2
      | some q =>
        rw [hw] at e2
        refine ⟨i, q, rfl, hw, ?_⟩
        unfold adF
        rw [if_pos hk, List.getD_eq_getElem?_getD, List.getElem?_eq_getElem hk2]
        exact Option.some.inj e2
  refine ⟨fun i j hi hj hij => ?_, fun k hk => ?_⟩
  · obtain ⟨a, q, h1, h2, h3⟩ := key i hi
    obtain ⟨a', q', h1', h2', h3'⟩ := key j hj
    have := hD.1 a a' q q' h2 h2' (by rw [h3, h3', hij])
    subst this
    exact va_nd_inj ps hn i j a h1 h1'
  · obtain ⟨a, q, h1, h2, h3⟩ := key k hk
    rw [← h3]
    exact hD.2 a q h2
set_option maxRecDepth 100000 in
set_option maxHeartbeats 8000000 in
theorem whole_open {Inv : Sg → Prop} (hI0 : Inv σ0) (s0 : St_feed Inv) (s1 : St_read Inv) (s2 : St_fault Inv) (s3 : St_count Inv) (s4 : St_head Inv) (s5 : St_name Inv) (s6 : St_mark Inv) (s7 : St_add Inv) (s8 : St_drop Inv) (s9 : St_asked Inv) (s10 : St_run Inv) (s11 : St_order Inv) (s12 : St_at Inv) (s13 : St_subAt Inv) (s14 : St_width Inv) (s15 : St_print Inv) (s16 : St_look Inv) (s17 : St_steps Inv) (s18 : St_finds Inv) (s19 : St_trouble Inv) (s20 : St_posted Inv) (s21 : St_posting Inv) (s22 : St_fit Inv) (s23 : St_putIn Inv) (s24 : St_takeOut Inv) (s25 : St_stale Inv) (s26 : St_saw Inv) (s27 : St_forget Inv) (s28 : St_story Inv) (s29 : St_near Inv) (s30 : St_join Inv) (s31 : St_keep Inv) (s32 : St_goBack Inv) {p : Program} {e : Env} {s : State} {m : MethodId} {below : List Frame} {meth : Method} {c : Code} (l : Launch) {b L : Nat} {xs : Nat → Int32} (hL : L ≤ 3072) (C0 : lw_At p s m meth c b L xs) : W p l e room_1 s m #[Value.ref b] below meth c s.heap [] 0 0 (lw_Z below #[Value.ref b] s) (entryFrame m ([Value.ref b] : List Value).toArray 4) := by
  obtain ⟨hx, hb, hr, hml, hown, hts, hX, hbl, hlocks, hgv⟩ := C0
  obtain ⟨D, dA, hK, hO⟩ := know_start hts
  obtain ⟨adK, adV, hE⟩ := ext_start hts hgv
  rw [lg_entry_eq]
  have hP0 : va_P D vwCl [] s.heap := fun k q hk => by simp at hk
  have hD0 : va_D (fun q => s.heap.size ≤ q) [] := ⟨fun i j x y hi => by simp at hi, fun k q hk => by simp at hk⟩
  have hgw : ∀ w ∈ gws, w.before #[Value.ref b] s = true := fun w hw => hts w (gws_sub hw)
  refine law_pre dA b p l e room_1 s m #[Value.ref b] below meth c (fun q => s.heap.size ≤ q) D _ ⟨hx, hb, hml, hown, hgw, ⟨by decide, by decide⟩, ⟨by decide, by decide⟩, fun _ h => h, hK, fun q hq => va_Nw.of rfl (hts _ (nest_tbl q hq)), hO, fun h => absurd h (by decide)⟩ ?_ s.heap [] _ hP0 hD0 va_S.rf (lv_entry [Value.ref b] (Nat.le_of_ble_eq_true rfl))
  intro ws H locs ls hp hP hD hS hl
  obtain ⟨hx', hm, fx, fm, rfl⟩ := hp
  have hl : lv_has ls 4 [(2, .ref hm), (1, .ref hx'), (0, .ref b)] := hl
  refine lv_iconst hx hb dL_law_16 rfl ?_
  refine lv_istore_n (lv' := [(3, .int (iI 0)), (2, .ref hm), (1, .ref hx'), (0, .ref b)]) hx hb dL_law_17 rfl hl (by decide) rfl (fun ls1 hl1 => ?_)
  obtain ⟨g, hg⟩ : ∃ g : Nat → Nat, g = fun k => if k = 500 then b else if 300 ≤ k then adV (k - 300) else adK (k - 200) := ⟨_, rfl⟩
  have hP2 := world_0 g hP
  have hap := ad_apart (l := [hx', (fx 68), (fx 26), (fx 0), (fx 1), (fx 14), (fx 15), (fx 16), (fx 17), (fx 18), (fx 19), (fx 20), (fx 21), (fx 22), (fx 23), (fx 24), (fx 25), (fx 27), (fx 28), (fx 29), (fx 30), (fx 31), (fx 32), (fx 33), (fx 34), (fx 35), (fx 36), (fx 37), (fx 38), (fx 39), (fx 40), (fx 41), (fx 42), (fx 43), (fx 44), (fx 45), (fx 46), (fx 47), (fx 48), (fx 49), (fx 50), (fx 2), (fx 3), (fx 4), (fx 5), (fx 6), (fx 7), (fx 8), (fx 9), (fx 10), (fx 11), (fx 12), (fx 13), (fx 51), (fx 52), (fx 53), (fx 54), (fx 55), (fx 56), (fx 57), (fx 58), (fx 59), (fx 60), (fx 61), (fx 62), (fx 64), (fx 63), (fx 65), (fx 67), (fx 66), (fx 69), (fx 70), (fx 71), (fx 72), (fx 73), (fx 74), (fx 75), (fx 76), (fx 77), (fx 78), (fx 79), (fx 80), (fx 81), (fx 82), (fx 83), (fx 84), (fx 85), (fx 86), (fx 87), (fx 88), (fx 89), (fx 90), (fx 91), (fx 92), hm, (fm 0), (fm 1), (fm 2), (fm 3), (fm 4), (fm 5), (fm 6), (fm 7), (fm 8), (fm 9), (fm 10), (fm 11), (fm 12), (fm 13), (fm 14), (fm 15), (fm 16), (fm 17), (fm 18), (fm 19), (fm 20), (fm 21), (fm 22), (fm 23), (fm 24), (fm 25), (fm 26), (fm 27), (fm 28), (fm 29), (fm 30), (fm 31), (fm 32), (fm 33), (fm 34), (fm 35), (fm 36), (fm 37), (fm 38), (fm 39), (fm 40), (fm 41)]) (ps := [136, 67, 109, 135, 134, 121, 120, 119, 118, 117, 116, 115, 114, 113, 112, 111, 110, 108, 107, 106, 105, 104, 103, 102, 101, 100, 99, 98, 97, 96, 95, 94, 93, 92, 91, 90, 89, 88, 87, 86, 85, 133, 132, 131, 130, 129, 128, 127, 126, 125, 124, 123, 122, 84, 83, 82, 81, 80, 79, 78, 77, 76, 75, 74, 73, 71, 72, 70, 68, 69, 66, 65, 64, 63, 62, 61, 60, 59, 58, 57, 56, 55, 54, 53, 52, 51, 50, 49, 48, 47, 46, 45, 44, 43, 42, 41, 40, 39, 38, 37, 36, 35, 34, 33, 32, 31, 30, 29, 28, 27, 26, 25, 24, 23, 22, 21, 20, 19, 18, 17, 16, 15, 14, 13, 12, 11, 10, 9, 8, 7, 6, 5, 4, 3, 2, 1, 0]) (g := g) hD rfl (by decide +kernel) rfl
  obtain ⟨ad, had⟩ : ∃ ad : Nat → Nat, ad = adF [hx', (fx 68), (fx 26), (fx 0), (fx 1), (fx 14), (fx 15), (fx 16), (fx 17), (fx 18), (fx 19), (fx 20), (fx 21), (fx 22), (fx 23), (fx 24), (fx 25), (fx 27), (fx 28), (fx 29), (fx 30), (fx 31), (fx 32), (fx 33), (fx 34), (fx 35), (fx 36), (fx 37), (fx 38), (fx 39), (fx 40), (fx 41), (fx 42), (fx 43), (fx 44), (fx 45), (fx 46), (fx 47), (fx 48), (fx 49), (fx 50), (fx 2), (fx 3), (fx 4), (fx 5), (fx 6), (fx 7), (fx 8), (fx 9), (fx 10), (fx 11), (fx 12), (fx 13), (fx 51), (fx 52), (fx 53), (fx 54), (fx 55), (fx 56), (fx 57), (fx 58), (fx 59), (fx 60), (fx 61), (fx 62), (fx 64), (fx 63), (fx 65), (fx 67), (fx 66), (fx 69), (fx 70), (fx 71), (fx 72), (fx 73), (fx 74), (fx 75), (fx 76), (fx 77), (fx 78), (fx 79), (fx 80), (fx 81), (fx 82), (fx 83), (fx 84), (fx 85), (fx 86), (fx 87), (fx 88), (fx 89), (fx 90), (fx 91), (fx 92), hm, (fm 0), (fm 1), (fm 2), (fm 3), (fm 4), (fm 5), (fm 6), (fm 7), (fm 8), (fm 9), (fm 10), (fm 11), (fm 12), (fm 13), (fm 14), (fm 15), (fm 16), (fm 17), (fm 18), (fm 19), (fm 20), (fm 21), (fm 22), (fm 23), (fm 24), (fm 25), (fm 26), (fm 27), (fm 28), (fm 29), (fm 30), (fm 31), (fm 32), (fm 33), (fm 34), (fm 35), (fm 36), (fm 37), (fm 38), (fm 39), (fm 40), (fm 41)] g := ⟨_, rfl⟩
  have ha0 : ad 0 = hx' := by rw [had]; rfl
  have ha94 : ad 94 = hm := by rw [had]; rfl
  have ha5 : ad 500 = b := by rw [had, hg]; rfl
  have hxt : Ext ad (fun q => s.heap.size ≤ q) s := hE ad (fun i hi => by rw [had, hg]; unfold adF; rw [if_neg (by omega)]; show (if 200 + i = 500 then b else if 300 ≤ 200 + i then adV (200 + i - 300) else adK (200 + i - 200)) = adK i; rw [if_neg (by omega), if_neg (by omega), show 200 + i - 200 = i by omega]) (fun i hi => by rw [had, hg]; unfold adF; rw [if_neg (by omega)]; show (if 300 + i = 500 then b else if 300 ≤ 300 + i then adV (300 + i - 300) else adK (300 + i - 200)) = adV i; rw [if_neg (by omega), if_pos (by omega), show 300 + i - 300 = i by omega])
  rw [← had] at hP2 hap
  have V := law_loop (Inv := Inv) (n0 := L) (xs := xs) hL s0 s1 s2 s3 s4 s5 s6 s7 s8 s9 s10 s11 s12 s13 s14 s15 s16 s17 s18 s19 s20 s21 s22 s23 s24 s25 s26 s27 s28 s29 s30 s31 s32 L 0 σ0 (by omega) (by omega) (by omega) (Or.inl hI0)
  have hLH : LH ad ls1 4 [some (vr 500), some (vr 0), some (vr 94), some (vi 0)] := by
    refine ⟨hl1.1, hl1.2.1, fun i v hv => ?_⟩
    rcases i with _ | _ | _ | _ | i
    · cases hv
      show ls1[0]? = some (.val (.ref (ad 500)))
      rw [ha5]
      exact lv_at hl1 3 rfl
    · cases hv
      show ls1[1]? = some (.val (.ref (ad 0)))
      rw [ha0]
      exact lv_at hl1 2 rfl
    · cases hv
      show ls1[2]? = some (.val (.ref (ad 94)))
      rw [ha94]
      exact lv_at hl1 1 rfl
    · cases hv
      exact lv_at hl1 0 rfl
    · simp at hv
  refine V p l e room_1 s m #[Value.ref b] below meth c (fun q => s.heap.size ≤ q) ad dA D 137 49577 _ ⟨hx, hb, hml, hown, hgw, ⟨by decide, by decide⟩, ⟨by decide, by decide⟩, hap.1, hap.2, hK, hxt⟩ ⟨by rw [ha5]; exact hX, by rw [ha5]; exact hbl, by rw [ha5]; exact Nat.not_le.mpr hbl⟩ ?_ H locs ls1 okB_0 hP2 hS hLH
  intro r σ H' locs' pc' ls' hpost hB' hP' hS' hi
  subst hpost
  refine va_forget (fun q hq => hS'.2.2 q hq) ?_
  refine W.widen (k := 600000) (n := 7302250) (by decide) (by decide) ?_
  exact lw_ret hx hb hr hlocks hi.1
