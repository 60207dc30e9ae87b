/-! ===== PURE HALF, by hand: the reference's printHead, linesOf, bytesOfAll ===== -/
theorem nM_z {B : Sg} (h : Int) {s : Int} (hz : ¬ 0 < nM B h (-2)) (hs : s ≠ -2) : ¬ 0 < nM B h s := by
  have : nM B h s ≤ nM B h (-2) := cnt_mono _ (fun i hi h1 => isM_iff.2 ⟨(isM_iff.1 h1).1, Or.inl rfl⟩)
  omega
theorem rL_z {B : Sg} (hW : WfB B) {h s : Int} (hz : ¬ 0 < nM B h s) : rL B h s = [] := by
  have := rL_len hW h s
  exact List.eq_nil_of_length_eq_zero (by omega)
theorem subsB_z {B : Sg} {how w h : Int} (hz : ¬ 0 < nM B h (-2)) : subsB B how w h = [] := by
  unfold subsB
  refine catN_nil _ (fun i hi => ?_)
  unfold subB
  rw [if_neg (nM_z h hz ?_)]
  have o := (ord_b (key := skey B how h) (n := (B 2 h).toNat) (i := i) (by omega) (by omega)).1
  omega
def prd (B : Sg) (h : Int) : Prop := fil B h = true ∨ 0 ≤ B 4 h ∨ B 5 h ≠ 0
theorem r_isPrinted {σ B : Sg} {post : Po} {h : Int} (hW : WfB B) (hR : RA (bk σ 94) B) (h0 : 0 ≤ h) (h1 : h < B 0 0) (ht : prd B h → post (some (vi 1)) σ) (hf : ¬ prd B h → post (some (vi 0)) σ) : Cl mX12_isPrinted [vr 94, vi h] σ post := by
  have wh := hW.1
  have wse := (hW.2.2.1 h h0 h1).2.1
  have wa := (hW.2.2.1 h h0 h1).2.2.1
  refine EX12_isPrinted (r_isFilled hW hR (by omega) (fun q => ⟨_, rfl, b1 (ht (Or.inl q))⟩) (fun q => ⟨_, rfl, b0 ⟨by omega, ?_⟩⟩))
  rw [Ra_see hR h0 h1, Ra_also hR h0 h1]
  refine ⟨by omega, fun c => ht (Or.inr (Or.inl c)), fun c => ⟨by omega, fun d => hf (fun z => ?_), fun d => ht (Or.inr (Or.inr d))⟩⟩
  rcases z with z | z | z
  · exact q z
  · exact c z
  · exact z d
theorem r_153 {σ B : Sg} {post : Po} {how w h : Int} {K Z : List Int} (hW : WfB B) (hP : PQ σ B how w) (w0 : 0 ≤ w ∧ w ≤ 80) (h0 : 0 ≤ h) (h1 : h < B 0 0) (hO : RO σ K) (hK : K.length ≤ 19000) (he : K ++ (if B 5 h ≠ 0 then alsB B how w (B 5 h) else []) = Z) (hp : ∀ σ' : Sg, FrJ Mp Jp σ σ' → RO σ' Z → post none σ') : V mX12_printHead 153 [some (vr 94), some (vi h), none, none, none] [] σ post := by
  have wh := hW.1
  have wa := (hW.2.2.1 h h0 h1).2.2.1
  refine BX12_printHead_153 ⟨by omega, ?_⟩
  rw [Ra_also hP.1 h0 h1]
  refine ⟨by omega, fun c => ?_, fun c => ?_⟩
  · rw [if_neg (fun z => z c), List.append_nil] at he
    rw [he] at hO
    exact hp σ FrJ.rf hO
  · rw [if_pos c] at he
    refine r_printAlso hW hP w0 h0 h1 c hO hK (fun σ1 hF1 O1 => ⟨rfl, hp σ1 hF1 ?_⟩)
    rw [← he]
    exact O1
theorem r_105 {σ B : Sg} {post : Po} {how w h x : Int} {K Z : List Int} (hW : WfB B) (hP : PQ σ B how w) (w0 : 0 ≤ w ∧ w ≤ 80) (h0 : 0 ≤ h) (h1 : h < B 0 0) (hx : x = 0 ∨ x = 1) (hO : RO σ K) (hK : K.length ≤ 18900) (he : K ++ ((if x = 1 ∧ B 4 h ≠ -1 then rowB w ([32, 32] ++ seeB ++ wbl (B 1 (B 4 h))) [] else []) ++ (if B 5 h ≠ 0 then alsB B how w (B 5 h) else [])) = Z) (hp : ∀ σ' : Sg, FrJ Mp Jp σ σ' → RO σ' Z → post none σ') : V mX12_printHead 105 [some (vr 94), some (vi h), none, some (vi x), none] [] σ post := by
  have wh := hW.1
  have wse := (hW.2.2.1 h h0 h1).2.1
  refine BX12_printHead_105 ⟨by omega, fun c => ?_, fun c => ⟨by omega, ?_⟩⟩
  · rw [if_neg (by omega), List.nil_append] at he
    exact r_153 hW hP w0 h0 h1 hO (by omega) he hp
  · rw [Ra_see hP.1 h0 h1]
    refine ⟨by omega, fun d => ?_, fun d => ?_⟩
    · rw [if_neg (by omega), List.nil_append] at he
      exact r_153 hW hP w0 h0 h1 hO (by omega) he hp
    · rw [if_pos (by omega)] at he
      refine r_beginRow (fun σ1 hF1 f1 c1 => ⟨rfl, r_begin2 (fun σ2 hF2 u2 => ⟨rfl, r_signSee u2 (by decide) (fun σ3 hF3 u3 => ⟨rfl, ?_⟩)⟩)⟩)
      have F3 : FrJ Mp Jp σ σ3 := ((hF1.mo (by decide) (by decide)).tr (hF2.mo (by decide) (by decide))).tr (hF3.mo (by decide) (by decide))
      have P3 := hP.fr F3 (by decide) (by decide)
      dsimp only
      rw [Ra_see P3.1 h0 h1]
      refine r_slot ⟨_, rfl, ?_⟩
      have l2 := wh_len hW (h := B 4 h) (by omega) wse.2
      obtain ⟨a1, a2, a3, a4⟩ := r_slotW hW P3.1 (h := B 4 h) (by omega) wse.2
      refine r_signWord u3 a1 a2 a3 a4 (by decide) (fun σ4 hF4 u4 => ⟨rfl, ?_⟩)
      have G4 : FrJ [110] [35] σ1 σ4 := (hF2.tr hF3).tr hF4
      have O4 : RO σ4 K := (hO.fr hF1 (by decide) (by decide)).fr G4 (by decide) (by decide)
      have ul : (([32, 32] ++ seeB) ++ wbl (B 1 (B 4 h))).length ≤ 18 := by unfold seeB; simp; omega
      refine r_unit1 O4 u4 (by omega) (by omega) (by rw [G4.2 33 (by decide)]; exact f1) (fun σ5 hF5 O5 c5 f5 => ⟨rfl, r_endLine O5 (by rw [List.length_append]; omega) (fun σ6 hF6 O6 c6 => ⟨rfl, ?_⟩)⟩)
      have F6 : FrJ Mp Jp σ σ6 := (((F3.tr (hF4.mo (by decide) (by decide))).tr (hF5.mo (by decide) (by decide))).tr (hF6.mo (by decide) (by decide)))
      refine r_153 hW (hP.fr F6 (by decide) (by decide)) w0 h0 h1 O6 (by rw [List.length_append, List.length_append]; simp only [List.length_cons, List.length_nil]; omega) ?_ (fun σ7 hF7 O7 => hp σ7 (F6.tr hF7) O7)
      rw [← he]
      unfold rowB rowT
      simp
/-- a head's row with its runs, then its subs -/
theorem r_body {σ B : Sg} {post : Po} {how w h src x2 x3 : Int} {L Z : List Int} (hW : WfB B) (hP : PQ σ B how w) (hh : how = 0 ∨ how = 1) (w0 : 0 ≤ w ∧ w ≤ 80) (h0 : 0 ≤ h) (h1 : h < B 0 0) (g0 : 0 ≤ src) (g1 : src < B 0 0) (r2 : rng x2) (hx : x3 = 0 ∨ x3 = 1) (hO : RO σ L) (hL : L.length ≤ 16000) (he : L ++ (rowB w (wbl (B 1 h)) ((rL B src (if x2 = 1 then -2 else -1)).map runB) ++ (if x2 = 1 then [] else subsB B how w src) ++ (if x3 = 1 ∧ B 4 h ≠ -1 then rowB w ([32, 32] ++ seeB ++ wbl (B 1 (B 4 h))) [] else []) ++ (if B 5 h ≠ 0 then alsB B how w (B 5 h) else [])) = Z) (hp : ∀ σ' : Sg, FrJ Mp Jp σ σ' → RO σ' Z → post none σ') :
  Cl mX12_beginRow [vr 94] σ (pV fun σ1 => Cl mX12_beginUnit [vr 94, vi 0] σ1 (pV fun σ2 => Cl mX12_slot [vi h, vi (-1)] σ2 (pI fun z3 σ3 => Cl mX12_signWord [vr 94, vi z3] σ3 (pV fun σ4 => Cl mX12_putUnit [vr 94] σ4 (pV fun σ5 => (¬ x2 = 1 → Cl mX12_tick [vr 94, vi src, vi (-1)] σ5 (pV fun σ6 => Cl mX12_putRuns [vr 94] σ6 (pV fun σ7 => Cl mX12_endLine [vr 94] σ7 (pV fun σ8 => (x2 = 1 → V mX12_printHead 105 [some (vr 94), some (vi h), none, some (vi x3), none] [] σ8 post) ∧ (¬ x2 = 1 → Cl mX12_printSubs [vr 94, vi src] σ8 (pV fun σ9 => V mX12_printHead 105 [some (vr 94), some (vi h), none, some (vi x3), none] [] σ9 post)))))) ∧ (x2 = 1 → Cl mX12_tick [vr 94, vi src, vi (-2)] σ5 (pV fun σ10 => Cl mX12_putRuns [vr 94] σ10 (pV fun σ11 => Cl mX12_endLine [vr 94] σ11 (pV fun σ12 => (x2 = 1 → V mX12_printHead 105 [some (vr 94), some (vi h), none, some (vi x3), none] [] σ12 post) ∧ (¬ x2 = 1 → Cl mX12_printSubs [vr 94, vi src] σ12 (pV fun σ13 => V mX12_printHead 105 [some (vr 94), some (vi h), none, some (vi x3), none] [] σ13 post))))))))))) := by
  have wh := hW.1
  have l1 := wh_len hW h0 h1
  obtain ⟨q, q0, q1, q2, q3⟩ := subsB_len hW (how := how) (w := w) g0 g1
  have n2 := nMb hW src (-2)
  have n1 := nMb hW src (-1)
  refine r_beginRow (fun σ1 hF1 f1 c1 => ⟨rfl, r_begin0 (fun σ2 hF2 u2 => ⟨rfl, r_slot ⟨_, rfl, ?_⟩⟩)⟩)
  have F2 : FrJ Mp Jp σ σ2 := (hF1.mo (by decide) (by decide)).tr (hF2.mo (by decide) (by decide))
  obtain ⟨a1, a2, a3, a4⟩ := r_slotW hW (hP.fr F2 (by decide) (by decide)).1 h0 h1
  refine r_signWord u2 a1 a2 a3 a4 (by simp) (fun σ3 hF3 u3 => ⟨rfl, ?_⟩)
  rw [List.nil_append] at u3
  have G3 : FrJ [110] [35] σ1 σ3 := hF2.tr hF3
  refine r_unit1 ((hO.fr hF1 (by decide) (by decide)).fr G3 (by decide) (by decide)) u3 (by omega) (by omega) (by rw [G3.2 33 (by decide)]; exact f1) (fun σ4 hF4 O4 c4 f4 => ⟨rfl, ?_⟩)
  have F4 : FrJ Mp Jp σ σ4 := (F2.tr (hF3.mo (by decide) (by decide))).tr (hF4.mo (by decide) (by decide))
  have P4 := hP.fr F4 (by decide) (by decide)
  have c4' : σ4 94 32 = (wbl (B 1 h)).length := by rw [c4, G3.2 32 (by decide), c1]; omega
  refine ⟨fun c => ?_, fun c => ?_⟩
  · rw [if_neg c, if_neg c] at he
    have rl := rowR_len hW w src (-1) (wbl (B 1 h))
    refine r_tickRuns hW P4 w0 (by omega) (by decide) O4 c4' f4 (by omega) (by rw [List.length_append]; omega) (fun σ5 hF5 O5 => ⟨fun z => absurd z c, fun _ => ?_⟩)
    refine r_printSubs hW (P4.fr hF5 (by decide) (by decide)) hh w0 g0 g1 O5 (by rw [List.length_append, List.length_append]; omega) (fun σ6 hF6 O6 => ⟨rfl, ?_⟩)
    have F6 : FrJ Mp Jp σ σ6 := (F4.tr hF5).tr hF6
    refine r_105 hW (hP.fr F6 (by decide) (by decide)) w0 h0 h1 hx O6 (by rw [List.length_append, List.length_append]; omega) ?_ (fun σ7 hF7 O7 => hp σ7 (F6.tr hF7) O7)
    rw [← he]
    simp
  · rw [if_pos c, if_pos c] at he
    have rl := rowR_len hW w src (-2) (wbl (B 1 h))
    refine r_tickRuns hW P4 w0 (by omega) (by decide) O4 c4' f4 (by omega) (by rw [List.length_append]; omega) (fun σ5 hF5 O5 => ⟨fun _ => ?_, fun z => absurd c z⟩)
    have F5 : FrJ Mp Jp σ σ5 := F4.tr hF5
    refine r_105 hW (hP.fr F5 (by decide) (by decide)) w0 h0 h1 hx O5 (by rw [List.length_append]; omega) ?_ (fun σ7 hF7 O7 => hp σ7 (F5.tr hF7) O7)
    rw [← he]
    simp
/-- how a way says whose marks, and folded or not -/
def wayOK (B : Sg) (h way src fold : Int) : Prop := (way = 0 ∧ src = h ∧ fold = 0) ∨ (way = 1 ∧ src = h ∧ fold = 1 ∧ fil B h = true) ∨ (way = 2 ∧ fold = 0 ∧ ¬ fil B h = true ∧ ∃ v : Nat, FS B h v ∧ src = chn B h v)
theorem way_src {B : Sg} {h way src fold : Int} (hW : WfB B) (h0 : 0 ≤ h) (h1 : h < B 0 0) (hw : wayOK B h way src fold) : 0 ≤ src ∧ src < B 0 0 := by
  rcases hw with ⟨_, e, _⟩ | ⟨_, e, _⟩ | ⟨_, _, _, v, hv, e⟩
  · omega
  · omega
  · rw [e]
    exact fil_range hW hv.1
theorem r_printHead {σ B : Sg} {post : Po} {how w h way src fold : Int} {L : List Int} (hW : WfB B) (hP : PQ σ B how w) (hh : how = 0 ∨ how = 1) (w0 : 0 ≤ w ∧ w ≤ 80) (h0 : 0 ≤ h) (h1 : h < B 0 0) (hw : wayOK B h way src fold) (hpr : prd B h) (hO : RO σ L) (hL : L.length ≤ 16000) (hp : ∀ σ' : Sg, FrJ Mp Jp σ σ' → RO σ' (L ++ hdB B how w h src fold) → post none σ') : Cl mX12_printHead [vr 94, vi h, vi way] σ post := by
  have wh := hW.1
  have sb := way_src hW h0 h1 hw
  have wse := (hW.2.2.1 h h0 h1).2.1
  have rw : rng way := by rcases hw with ⟨e, _⟩ | ⟨e, _⟩ | ⟨e, _⟩ <;> omega
  rcases hw with ⟨e1, e2, e3⟩ | ⟨e1, e2, e3, e4⟩ | ⟨e1, e3, e4, v, hv, e5⟩
  · subst e1 e2 e3
    refine EX12_printHead (r_isFilled hW hP.1 (by omega) (fun q => ⟨_, rfl, rw, fun z => absurd rfl z, fun _ => ⟨by decide, fun _ => ?_, fun z => absurd z (by decide)⟩⟩) (fun q => ⟨_, rfl, rw, fun z => absurd rfl z, fun _ => ⟨by decide, fun z => absurd rfl z, fun _ => ⟨by omega, ?_⟩⟩⟩))
    · have q' : 0 < nM B src (-2) := by unfold fil at q; rwa [decide_eq_true_iff] at q
      refine BX12_printHead_31 ⟨rw, fun _ => r_body hW hP hh w0 h0 h1 h0 h1 rw (Or.inr rfl) hO hL ?_ hp, fun z => absurd z (by decide)⟩
      unfold hdB
      rw [if_pos q', if_neg (show ¬ (0 : Int) = 1 by decide), if_neg (show ¬ (0 : Int) = 1 by decide)]
      simp only [true_and]
    · have q' : ¬ 0 < nM B src (-2) := by unfold fil at q; rwa [decide_eq_true_iff] at q
      rw [Ra_see hP.1 h0 h1]
      refine ⟨by omega, fun c => ?_, fun c => ?_⟩
      · have ha : B 5 src ≠ 0 := by
          rcases hpr with z | z | z
          · exact absurd z q
          · omega
          · exact z
        refine BX12_printHead_31 ⟨rw, fun _ => r_body hW hP hh w0 h0 h1 h0 h1 rw (Or.inl rfl) hO hL ?_ hp, fun z => absurd z (by decide)⟩
        unfold hdB
        rw [if_neg q', if_neg (show ¬ (src = src ∧ B 4 src ≠ -1) by omega), if_pos ha, if_pos ha, if_neg (show ¬ (0 : Int) = 1 by decide), if_neg (show ¬ (0 : Int) = 1 by decide), if_neg (by omega), rL_z hW (nM_z src q' (by decide)), subsB_z q']
        simp
      · refine r_printSee hW hP h0 h1 (by omega) hO (by omega) (fun σ1 hF1 O1 => ⟨rfl, ?_⟩)
        have l1 := wh_len hW h0 h1
        have l2 := wh_len hW (h := B 4 src) (by omega) wse.2
        refine r_153 hW (hP.fr hF1 (by decide) (by decide)) w0 h0 h1 O1 (by unfold rowB rowT seeB; simp only [List.length_append, List.length_cons, List.length_nil]; omega) ?_ (fun σ2 hF2 O2 => hp σ2 (hF1.tr hF2) O2)
        unfold hdB
        rw [if_neg q', if_pos (show src = src ∧ B 4 src ≠ -1 by omega), List.append_assoc]
  · subst e1 e2 e3
    have q' : 0 < nM B src (-2) := by unfold fil at e4; rwa [decide_eq_true_iff] at e4
    refine EX12_printHead (r_isFilled hW hP.1 (by omega) (fun q => ⟨_, rfl, rw, fun _ => ?_, fun z => absurd z (by decide)⟩) (fun q => absurd e4 q))
    refine BX12_printHead_31 ⟨rw, fun _ => r_body hW hP hh w0 h0 h1 h0 h1 rw (Or.inr rfl) hO hL ?_ hp, fun z => absurd z (by decide)⟩
    unfold hdB
    rw [if_pos q', if_pos (show (1 : Int) = 1 from rfl), if_pos (show (1 : Int) = 1 from rfl)]
    simp only [true_and]
  · subst e1 e3
    have q' : 0 < nM B src (-2) := by
      have := hv.1
      rw [← e5] at this
      unfold fil at this
      rwa [decide_eq_true_iff] at this
    have ne : src ≠ h := fun z => e4 (by rw [← z, e5]; exact hv.1)
    refine EX12_printHead (r_isFilled hW hP.1 (by omega) (fun q => absurd q e4) (fun q => ⟨_, rfl, rw, fun _ => ?_, fun z => absurd z (by decide)⟩))
    refine BX12_printHead_31 ⟨rw, fun z => absurd rfl z, fun _ => r_foundFrom hW hP.1 h0 h1 (fun v2 σ1 _ hv2 hF1 _ => ⟨_, rfl, ?_⟩) (fun hno => absurd hv (hno v))⟩
    rw [FS_uniq hv2 hv, ← e5]
    have F1 : FrJ Mp Jp σ σ1 := hF1.mo (by decide) (by decide)
    refine r_body hW (hP.fr F1 (by decide) (by decide)) hh w0 h0 h1 sb.1 sb.2 rw (Or.inl rfl) (hO.fr hF1 (by decide) (by decide)) hL ?_ (fun σ2 hF2 O2 => hp σ2 (F1.tr hF2) O2)
    unfold hdB
    rw [if_pos q', if_neg (show ¬ (0 : Int) = 1 by decide), if_neg (show ¬ (0 : Int) = 1 by decide), if_neg (show ¬ (2 : Int) = 1 by decide), if_neg (show ¬ (2 : Int) = 1 by decide), if_neg (show ¬ (src = h ∧ B 4 h ≠ -1) from fun z => ne z.1), if_neg (show ¬ ((0 : Int) = 1 ∧ B 4 h ≠ -1) by omega)]
theorem hdB_np {B : Sg} {how w h : Int} (h4 : -1 ≤ B 4 h) (hn : ¬ prd B h) : hdB B how w h h 0 = [] := by
  have a : ¬ 0 < nM B h (-2) := fun z => hn (Or.inl (by unfold fil; rwa [decide_eq_true_iff]))
  have b : ¬ 0 ≤ B 4 h := fun z => hn (Or.inr (Or.inl z))
  have c : ¬ B 5 h ≠ 0 := fun z => hn (Or.inr (Or.inr z))
  unfold hdB
  rw [if_neg a, if_neg (by omega), if_neg c, if_neg c]
  rfl
def gb (u : List Int) : Prop := ∀ x ∈ u, 0 ≤ x ∧ x < 128
theorem gb_app {u v : List Int} (hu : gb u) (hv : gb v) : gb (u ++ v) := fun x hx => (List.mem_append.1 hx).elim (hu x) (hv x)
theorem gb_gu {u : List Int} (h : gu u) : gb u := fun x hx => ⟨(h x hx).1, (h x hx).2.1⟩
theorem gb_nil : gb [] := fun x hx => by simp at hx
theorem getD_mm {L : List Int} {j : Nat} (hj : j < L.length) : L.getD j 0 ∈ L := by
  rw [List.getD_eq_getElem?_getD, List.getElem?_eq_getElem hj]
  exact List.getElem_mem hj
theorem gb_rowT {w : Int} : ∀ (us : List (List Int)) (col : Int), (∀ u ∈ us, gb u) → gb (rowT w col us)
  | [], _, _ => by rw [rowT]; intro x hx; simp at hx; omega
  | u :: us, col, h => by
    have hu := h u (by simp)
    have h1 := gb_rowT (w := w) us (col + 2 + u.length) (fun v hv => h v (by simp [hv]))
    have h2 := gb_rowT (w := w) us (4 + u.length) (fun v hv => h v (by simp [hv]))
    have c1 : gb [44, 32] := fun x hx => by simp at hx; omega
    have c2 : gb [44, 10, 32, 32, 32, 32] := fun x hx => by simp at hx; omega
    rw [rowT]
    split
    · exact gb_app (gb_app c1 hu) h1
    · exact gb_app (gb_app c2 hu) h2
theorem gb_rowB {w : Int} {u : List Int} {us : List (List Int)} (hu : gb u) (h : ∀ u ∈ us, gb u) : gb (rowB w u us) := gb_app hu (gb_rowT us _ h)
theorem gb_catN {f : Int → List Int} : ∀ n : Nat, (∀ i : Nat, i < n → gb (f i)) → gb (catN f n)
  | 0, _ => gb_nil
  | n + 1, h => gb_app (gb_catN n (fun i hi => h i (by omega))) (h n (by omega))
theorem Rep_mem {T : Int → Int} : ∀ (R : List (Int × Int × Int)) (p : Int), 1 ≤ p → Rep T p R → ∀ r ∈ R, 1 ≤ r.1 ∧ r.1 ≤ r.2.1 ∧ r.2.1 ≤ 99
  | [], _, _, _, r, hr => by simp at hr
  | (a, b, m) :: R, p, p0, h, r, hr => by
    obtain ⟨y1, _, y6⟩ := Rep_hd h
    rcases List.mem_cons.1 hr with e | e
    · rw [e]; exact ⟨by show 1 ≤ a; omega, y1.2.1, y1.2.2⟩
    · exact Rep_mem R (b + 1) (by omega) y6 r e
theorem gb_runs {B : Sg} (hW : WfB B) (h s : Int) : ∀ u ∈ (rL B h s).map runB, gb u := fun u hu => by
  obtain ⟨⟨a, b, m⟩, hr, e⟩ := List.mem_map.1 hu
  have := Rep_mem _ 1 (by decide) (rL_Rep hW h s) _ hr
  rw [← e]
  exact gb_gu (gu_run this.1 this.2.1 this.2.2)
theorem gb_wh {B : Sg} (hW : WfB B) {h : Int} (h0 : 0 ≤ h) (h1 : h < B 0 0) : gb (wbl (B 1 h)) := by
  have ww := (hW.2.2.1 h h0 h1).2.2.2.2 (-1) (by decide) (by have := (hW.2.2.1 h h0 h1).1; omega)
  unfold ew at ww
  rw [if_pos rfl] at ww
  exact gb_gu (gu_w ww)
theorem gb_see : gb seeB := by unfold seeB; intro x hx; simp at hx; omega
theorem gb_32 : gb [32, 32] := fun x hx => by simp at hx; omega
theorem gb_als {B : Sg} (hW : WfB B) (how w set : Int) : gb (alsB B how w set) := by
  have w0 := hW.1
  unfold alsB
  split
  · exact gb_nil
  · rename_i g gs e
    have hm : ∀ x, x ∈ g :: gs → gb (wbl (B 1 x)) := fun x hx => by
      rw [← e] at hx
      have b := alsL_mem _ (by omega) hx
      exact gb_wh hW b.1 b.2
    refine gb_rowB (gb_app (gb_app (gb_app gb_32 gb_see) (fun x hx => by simp at hx; omega)) (hm g (by simp))) (fun u hu => ?_)
    obtain ⟨x, hx, ex⟩ := List.mem_map.1 hu
    rw [← ex]
    exact hm x (by simp [hx])
theorem hd_by {B : Sg} (hW : WfB B) {how w h src fold : Int} (h0 : 0 ≤ h) (h1 : h < B 0 0) (g0 : 0 ≤ src) (g1 : src < B 0 0) : gb (hdB B how w h src fold) := by
  have wse := (hW.2.2.1 h h0 h1).2.1
  have see : B 4 h ≠ -1 → gb (wbl (B 1 (B 4 h))) := fun z => gb_wh hW (by omega) wse.2
  have sb : gb (subsB B how w src) := by
    unfold subsB
    refine gb_catN _ (fun i hi => ?_)
    unfold subB
    split
    · have o := (ord_b (key := skey B how src) (n := (B 2 src).toNat) (i := i) (by omega) (by omega)).1
      have ww := (hW.2.2.1 src g0 g1).2.2.2.2 (ord (skey B how src) (B 2 src).toNat i) (by omega) (by omega)
      exact gb_rowB (gb_app gb_32 (gb_gu (gu_w ww))) (gb_runs hW _ _)
    · exact gb_nil
  have wd := gb_wh hW h0 h1
  unfold hdB
  refine gb_app ?_ ?_
  · split
    · refine gb_app (gb_app (gb_rowB wd (gb_runs hW _ _)) ?_) ?_
      · split
        · exact gb_nil
        · exact sb
      · split
        · rename_i c
          exact gb_rowB (gb_app (gb_app gb_32 gb_see) (see c.2)) (fun u hu => by simp at hu)
        · exact gb_nil
    · split
      · rename_i c
        exact gb_rowB (gb_app (gb_app (gb_app wd (fun x hx => by simp at hx; omega)) gb_see) (see c.2)) (fun u hu => by simp at hu)
      · split
        · exact gb_rowB wd (fun u hu => by simp at hu)
        · exact gb_nil
  · split
    · exact gb_als hW _ _ _
    · exact gb_nil
theorem all_by {B : Sg} (hW : WfB B) (how w : Int) : ∀ n : Nat, (n : Int) ≤ B 0 0 → gb (allB B how w n)
  | 0, _ => gb_nil
  | n + 1, hn => by
    have o := (ord_b (key := hkey B how) (n := (B 0 0).toNat) (i := n) (by omega) (by omega)).1
    exact gb_app (all_by hW how w n (by omega)) (hd_by hW o.1 (by omega) o.1 (by omega))
theorem tens_take {L : List Int} : ∀ j : Nat, j < L.length → tens (L.take (j + 1)) = tens (L.take j) + (if L.getD j 0 = 10 then 1 else 0) := by
  intro j hj
  have et : L.take (j + 1) = L.take j ++ [L.getD j 0] := by
    rw [List.take_succ, List.getD_eq_getElem?_getD, List.getElem?_eq_getElem (by omega)]
    rfl
  rw [et, tens_app]
  congr 1
  rw [tens, tens, Int.add_zero]
theorem r_linesOf {σ B : Sg} {post : Po} {how w h way src fold : Int} (hW : WfB B) (hR : RA (bk σ 94) B) (hh : how = 0 ∨ how = 1) (h27 : σ 94 27 = how) (h28 : σ 94 28 = w) (w0 : 0 ≤ w ∧ w ≤ 80) (h0 : 0 ≤ h) (h1 : h < B 0 0) (hw : wayOK B h way src fold) (hpr : way = 0 ∨ prd B h) (hp : ∀ σ' : Sg, FrJ [107, 108, 109, 110] Jp σ σ' → post (some (vi (tens (hdB B how w h src fold)))) σ') : Cl mX12_linesOf [vr 94, vi h, vi way] σ post := by
  have wh := hW.1
  have sb := way_src hW h0 h1 hw
  have wse := (hW.2.2.1 h h0 h1).2.1
  have hlen : (hdB B how w h src fold).length ≤ 10000 := by
    obtain ⟨q, q0, q1, q2, q3⟩ := hd_len hW (how := how) (w := w) (fold := fold) h0 h1 sb.1 sb.2
    have := nMb hW src (-2)
    have := (cnt_b (fun g => has (B 5 h) g) 16).2
    omega
  have hby := hd_by hW (how := how) (w := w) (fold := fold) h0 h1 sb.1 sb.2
  have F0 : FrJ [107, 108, 109, 110] Jp σ (up σ 94 31 0) := FrJ.rf.j (by decide)
  have R0 : RA (bk (up σ 94 31 0) 94) B := hR.fr F0 (by decide) (by decide)
  have fin : ∀ (τ : Sg) (L : List Int), L = hdB B how w h src fold → FrJ [107, 108, 109, 110] Jp σ τ → RO τ L → V mX12_linesOf 28 [some (vr 94), none, none, some (vi 0), some (vi 0)] [] τ post := by
    intro τ L hL hF hO
    have hl : L.length ≤ 10000 := by rw [hL]; exact hlen
    have e31 := hO.1
    have loop : ∀ (n j : Nat), j + n = L.length → V mX12_linesOf 28 [some (vr 94), none, none, some (vi (tens (L.take j))), some (vi (j : Int))] [] τ post := by
      intro n
      induction n with
      | zero =>
        intro j hj
        refine BX12_linesOf_28 ⟨by omega, by rw [e31]; omega, fun _ => ?_, fun z => absurd (by rw [e31]; omega) z⟩
        rw [List.take_of_length_le (by omega), hL]
        exact hp τ hF
      | succ n ih =>
        intro j hj
        have st := tens_take (L := L) j (by omega)
        have step := ih (j + 1) (by omega)
        rw [st] at step
        have ej : τ 109 j = L.getD j 0 := hO.2 j (by omega)
        refine BX12_linesOf_28 ⟨by omega, by rw [e31]; omega, fun z => absurd z (by rw [e31]; omega), fun _ => ⟨by omega, ?_⟩⟩
        rw [ej]
        refine ⟨?_, fun c => ?_, fun c => ?_⟩
        · have := hby _ (getD_mm (L := hdB B how w h src fold) (by rw [← hL]; omega : j < _))
          rw [hL]
          omega
        · rw [if_neg c] at step
          exact r_one (by omega) ⟨_, rfl, step⟩
        · rw [if_pos c] at step
          exact r_one (by omega) ⟨_, rfl, step⟩
    exact loop L.length 0 (by omega)
  refine EX12_linesOf (r_findOrder hW R0 (by rw [up_f (by decide), h27]; exact hh) (fun σ1 hF1 ho => ⟨rfl, ?_⟩))
  rw [up_f (by decide), h27] at ho
  have F1 : FrJ [107, 108, 109, 110] Jp σ σ1 := F0.tr (hF1.mo (by decide) (by decide))
  have P1 : PQ σ1 B how w := ⟨hR.fr F1 (by decide) (by decide), by rw [F1.2 27 (by decide)]; exact h27, by rw [F1.2 28 (by decide)]; exact h28, ho⟩
  have O1 : RO σ1 [] := ⟨by rw [hF1.2 31 (by decide), up_s]; rfl, fun i hi => by simp at hi⟩
  refine r_isPrinted hW P1.1 h0 h1 (fun q => ⟨_, rfl, b1' ?_⟩) (fun q => ⟨_, rfl, b0' ?_⟩)
  · refine r_printHead hW P1 hh w0 h0 h1 hw q O1 (by simp) (fun σ2 hF2 O2 => ⟨rfl, fin σ2 _ rfl (F1.tr (hF2.mo (by decide) (by decide))) ?_⟩)
    exact O2
  · rcases hw with ⟨e1, e2, e3⟩ | ⟨e1, _⟩ | ⟨e1, _⟩
    · subst e1 e2 e3
      exact fin σ1 [] (hdB_np wse.1 q).symm F1 O1
    · rcases hpr with z | z
      · omega
      · exact absurd z q
    · rcases hpr with z | z
      · omega
      · exact absurd z q
