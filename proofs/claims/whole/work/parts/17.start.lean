/-! ===== the law's start (printed by wip/whole/gen/mk17.py) ===== -/
def tmS : Nat → Term := fun i => ([Term.string "BackPages$Press" 86, Term.string "BackPages$Press" 96, Term.string "BackPages$Press" 138, Term.string "BackPages$Press" 102, Term.string "BackPages$Reader" 100, Term.string "BackPages$Reader" 102, Term.string "BackPages$Reader" 128, Term.string "BackPages$Reader" 92, Term.string "BackPages$Reader" 98] : List Term).getD i (Term.int 0)
theorem ts1 : ∀ i, i < 9 → Cond.exactly (tmS i) "java/lang/String" ∈ flatC (Jvm.Cond.and given_1 narrow_1) := by decide +kernel
theorem ts2 : ∀ i, i < 9 → Cond.eq (.field (tmS i) "java/lang/String" "coder" "B") (.int 0) ∈ flatC (Jvm.Cond.and given_1 narrow_1) := by decide +kernel
theorem ts3 : ∀ i, i < 9 → Cond.arrayOf (.field (tmS i) "java/lang/String" "value" "[B") .byte ∈ flatC (Jvm.Cond.and given_1 narrow_1) := by decide +kernel
theorem ts4 : ∀ i, i < 9 → Cond.eq (.length (.field (tmS i) "java/lang/String" "value" "[B")) (.int (Int32.ofNat (slen.getD i 0))) ∈ flatC (Jvm.Cond.and given_1 narrow_1) := by decide +kernel
theorem ts5 : ∀ i, i < 9 → ∀ j, j < slen.getD i 0 → Cond.eq (.elem (.field (tmS i) "java/lang/String" "value" "[B") (.int (Int32.ofNat j))) (.int ((sbyt.getD i []).getD j 0)) ∈ flatC (Jvm.Cond.and given_1 narrow_1) := by decide +kernel
theorem ts6 : ∀ i, i < 9 → ∀ j, j < 9 → i ≠ j → Cond.not (Cond.eq (tmS i) (tmS j)) ∈ flatC (Jvm.Cond.and given_1 narrow_1) ∨ Cond.not (Cond.eq (tmS j) (tmS i)) ∈ flatC (Jvm.Cond.and given_1 narrow_1) := by decide +kernel
theorem nest_tbl : ∀ q ∈ nestW, Cond.methodLinkNest q.1 q.2.1 q.2.2.1 q.2.2.2 ∈ lw_tbl := by decide +kernel
theorem str_tbl : ∀ q ∈ strR, Cond.stringRef q.1 q.2.1 q.2.2.1 ∈ lw_tbl ∧ Term.string q.1 q.2.1 = tmS q.2.2.2 ∧ q.2.2.2 < 9 := by decide +kernel
theorem ext_start {s : State} {b : Nat} (hts : ∀ w ∈ lw_tbl, w.before #[Value.ref b] s = true) (hgv : (Jvm.Cond.and given_1 narrow_1).before #[Value.ref b] s = true) : ∃ adK adV : Nat → Nat, ∀ ad : Nat → Nat, (∀ i, i < 9 → ad (200 + i) = adK i) → (∀ i, i < 9 → ad (300 + i) = adV i) → Ext ad (fun q => s.heap.size ≤ q) s := by
  have hs := flat_of_before _ hgv
  have hA : ∀ a : Nat, a < s.heap.size → ¬ (fun q => s.heap.size ≤ q) a := fun a h => Nat.not_le.mpr h
  obtain ⟨adK, adV, hS, hev⟩ := vk_Sof (args := #[Value.ref b]) (s := s) (N := 9) (tm := tmS) (len := slen) (byt := sbyt) (A := fun q => s.heap.size ≤ q) (fun i hi => by have := sl_small hi; omega) (fun i hi => hs _ (ts1 i hi)) (fun i hi => hs _ (ts2 i hi)) (fun i hi => hs _ (ts3 i hi)) (fun i hi => hs _ (ts4 i hi)) (fun i hi j hj => hs _ (ts5 i hi j hj)) (fun i j hi hj hij => (ts6 i hi j hj hij).elim (fun h => Or.inl (hs _ h)) (fun h => Or.inr (hs _ h))) hA
  refine ⟨adK, adV, fun ad h1 h2 => ⟨fun q hq => va_Nw.of rfl (hts _ (nest_tbl q hq)), ?_, fun q hq => ?_, ?_, ?_⟩⟩
  · refine ⟨fun i hi => ?_, fun i j hi hj hij => ?_⟩
    · dsimp only
      rw [h1 i hi, h2 i hi]
      exact hS.1 i hi
    · dsimp only at hij
      rw [h1 i hi, h1 j hj] at hij
      exact hS.2 i j hi hj hij
  · obtain ⟨g1, g2, g3⟩ := str_tbl q hq
    rw [h1 _ g3]
    refine vk_R.of (hts _ g1) ?_
    rw [g2]
    exact hev _ g3
  · exact va_Zof (hts _ (List.mem_of_getElem? (i := 532) (by decide +kernel))) (hts _ (List.mem_of_getElem? (i := 100) (by decide +kernel))) (va_eqi (hs _ (show Cond.eq (.static "java/lang/String" "COMPACT_STRINGS" "Z") (.int 1) ∈ flatC (Jvm.Cond.and given_1 narrow_1) by decide +kernel))) hA
  · exact va_Zqof (hts _ (List.mem_of_getElem? (i := 548) (by decide +kernel))) (hts _ (List.mem_of_getElem? (i := 102) (by decide +kernel))) (hs _ (show Cond.isRef (.static "jdk/internal/util/Preconditions" "SIOOBE_FORMATTER" "Ljava/util/function/BiFunction;") ∈ flatC (Jvm.Cond.and given_1 narrow_1) by decide +kernel)) hA
theorem gws_sub {w : Cond} (h : w ∈ gws) : w ∈ lw_tbl := (List.mem_filter.mp h).1
theorem know_start {s : State} {b : Nat} (hts : ∀ w ∈ lw_tbl, w.before #[Value.ref b] s = true) : ∃ (D : va_G) (dA : Nat → ClassId), va_K D vwCl (tyl dA) s ∧ va_AO "BackPages$Book" s := by
  obtain ⟨c0, iS0, hKn0⟩ := u_known (C := RX0) (T := TX0) (N := 14) (n := 14) hts (fun w hw => gws_sub (hinX0 w hw)) (hts _ (List.mem_of_getElem? (i := 123) (by decide +kernel)))
  obtain ⟨c1, iS1, hKn1⟩ := u_known (C := RX1) (T := TX1) (N := 5) (n := 5) hts (fun w hw => gws_sub (hinX1 w hw)) (hts _ (List.mem_of_getElem? (i := 383) (by decide +kernel)))
  obtain ⟨c2, iS2, hKn2⟩ := u_known (C := RX2) (T := TX2) (N := 2) (n := 2) hts (fun w hw => gws_sub (hinX2 w hw)) (hts _ (List.mem_of_getElem? (i := 339) (by decide +kernel)))
  obtain ⟨c3, iS3, hKn3⟩ := u_known (C := RX3) (T := TX3) (N := 7) (n := 7) hts (fun w hw => gws_sub (hinX3 w hw)) (hts _ (List.mem_of_getElem? (i := 352) (by decide +kernel)))
  obtain ⟨c4, iS4, hKn4⟩ := u_known (C := RX4) (T := TX4) (N := 4) (n := 4) hts (fun w hw => gws_sub (hinX4 w hw)) (hts _ (List.mem_of_getElem? (i := 239) (by decide +kernel)))
  obtain ⟨c5, iS5, hKn5⟩ := u_known (C := RX5) (T := TX5) (N := 9) (n := 9) hts (fun w hw => gws_sub (hinX5 w hw)) (hts _ (List.mem_of_getElem? (i := 117) (by decide +kernel)))
  obtain ⟨c6, iS6, hKn6⟩ := u_known (C := RX6) (T := TX6) (N := 2) (n := 2) hts (fun w hw => gws_sub (hinX6 w hw)) (hts _ (List.mem_of_getElem? (i := 245) (by decide +kernel)))
  obtain ⟨c7, iS7, hKn7⟩ := u_known (C := RX7) (T := TX7) (N := 4) (n := 4) hts (fun w hw => gws_sub (hinX7 w hw)) (hts _ (List.mem_of_getElem? (i := 260) (by decide +kernel)))
  obtain ⟨c8, iS8, hKn8⟩ := u_known (C := RX8) (T := TX8) (N := 7) (n := 7) hts (fun w hw => gws_sub (hinX8 w hw)) (hts _ (List.mem_of_getElem? (i := 302) (by decide +kernel)))
  obtain ⟨c9, iS9, hKn9⟩ := u_known (C := RX9) (T := TX9) (N := 4) (n := 4) hts (fun w hw => gws_sub (hinX9 w hw)) (hts _ (List.mem_of_getElem? (i := 407) (by decide +kernel)))
  obtain ⟨c10, iS10, hKn10⟩ := u_known (C := RX11) (T := TX11) (N := 16) (n := 16) hts (fun w hw => gws_sub (hinX11 w hw)) (hts _ (List.mem_of_getElem? (i := 109) (by decide +kernel)))
  obtain ⟨c11, iS11, hKn11⟩ := u_known (C := RX12) (T := TX12) (N := 67) (n := 67) hts (fun w hw => gws_sub (hinX12 w hw)) (hts _ (List.mem_of_getElem? (i := 1171) (by decide +kernel)))
  obtain ⟨a1, k1, m1, g1, h1, j1⟩ := Cond.arrayClass_spec (hts _ (gws_sub aw1))
  obtain ⟨a2, k2, m2, g2, h2, j2⟩ := Cond.arrayClass_spec (hts _ (gws_sub aw2))
  obtain ⟨a3, k3, m3, g3, h3, j3⟩ := Cond.arrayClass_spec (hts _ (gws_sub aw3))
  obtain ⟨a4, k4, m4, g4, h4, j4⟩ := Cond.arrayClass_spec (hts _ (gws_sub aw4))
  have hover : (Cond.arrayOver (.object "BackPages$Book")).before #[Value.ref b] s = true := hts _ (List.mem_of_getElem? (i := 237) (by decide +kernel))
  obtain ⟨comp, a5, k5, hcomp, hidx, h5, j5, g5⟩ := Cond.arrayOver_spec hover
  refine ⟨(fun i => ([c0, c1, c2, c3, c4, c5, c6, c7, c8, c9, c10, c11] : List ClassId).getD i 0, fun i => ([iS0, iS1, iS2, iS3, iS4, iS5, iS6, iS7, iS8, iS9, iS10, iS11] : List (Nat → Nat)).getD i (fun _ => 0)), fun i => ([0, a1, a2, a3, a4, a5] : List ClassId).getD i 0, ⟨?_, ?_⟩, va_AO.of hover⟩
  · intro c q hq
    rcases c with _ | _ | _ | _ | _ | _ | _ | _ | _ | _ | _ | _ | c
    · cases hq; exact hKn0
    · cases hq; exact hKn1
    · cases hq; exact hKn2
    · cases hq; exact hKn3
    · cases hq; exact hKn4
    · cases hq; exact hKn5
    · cases hq; exact hKn6
    · cases hq; exact hKn7
    · cases hq; exact hKn8
    · cases hq; exact hKn9
    · cases hq; exact hKn10
    · cases hq; exact hKn11
    · simp [vwCl] at hq
  · intro k q hq
    rcases k with _ | _ | _ | _ | _ | k
    · cases hq; exact ⟨fun n z => ⟨fun k h => (by cases h), k1, h1, m1, j1⟩, g1⟩
    · cases hq; exact ⟨fun n z => ⟨fun k h => (by cases h), k2, h2, m2, j2⟩, g2⟩
    · cases hq; exact ⟨fun n z => ⟨fun k h => (by cases h), k3, h3, m3, j3⟩, g3⟩
    · cases hq; exact ⟨fun n z => ⟨fun k h => (by cases h), k4, h4, m4, j4⟩, g4⟩
    · cases hq; exact ⟨fun n z => ⟨fun k h => (by cases h), k5, h5, comp, j5⟩, k5, comp, h5, j5, hcomp, g5⟩
    · simp [tyl] at hq
