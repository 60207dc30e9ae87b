/-! ===== PURE HALF, by hand: the class's press, the subs ===== -/
theorem catN_le (f : Int → List Int) {m : Nat} : ∀ n : Nat, m ≤ n → (catN f m).length ≤ (catN f n).length
  | 0, h => by rw [show m = 0 by omega]; exact Nat.le_refl _
  | n + 1, h => by
    by_cases e : m = n + 1
    · rw [e]; exact Nat.le_refl _
    · have := catN_le f (m := m) n (by omega)
      rw [catN, List.length_append]
      omega
noncomputable def subX (B : Sg) (w h s set : Int) : List Int := if has set s = true then rowB w ([32, 32] ++ wbl (ew B h s)) ((rL B h s).map runB) else []
theorem c_subs93 {σ : Sg} {post : Po} {k : Nat} {L : List Int} {w h src lb see set : Int} {od : Int → Int} (hk : shp[k]? = some (0, 8, 7)) (hkk : 63 < k) (hW : WfB (bk σ 5)) (g0 : 0 ≤ src) (g1 : src < σ 5 0) (hO : ∀ i : Int, 0 ≤ i → i < σ 7 src → σ 58 i = od i ∧ 0 ≤ od i ∧ od i < σ 7 src) (hS : SH σ k L 0 w []) (w0 : 0 ≤ w ∧ w ≤ 80) (s0 : 0 ≤ set) (s1 : set < 64) (hL : (L.length : Int) + (catN (fun i => subX (bk σ 5) w src (od i) set) (σ 7 src).toNat).length ≤ 18700) (hp : ∀ σ' : Sg, Fr [k, k + 1, k + 2, 60, 61, 62, 63] σ σ' → SH σ' k (L ++ catN (fun i => subX (bk σ 5) w src (od i) set) (σ 7 src).toNat) 0 w [] → Cl mX4_setSee [vr 53, vr k, vr 5, vr (200 + 1), vi see] σ' (pV fun σ1 => V mX4_setHead 226 [some (vr 53), some (vr k), some (vr 5), some (vi h), none, none, some (vi lb), none, none, none, none] [] σ1 post)) : V mX4_setHead 93 [some (vr 53), some (vr k), some (vr 5), some (vi h), some (vi src), none, some (vi lb), some (vi see), some (vi set), some (vi 0), none] [] σ post := by
  have hk5 : shp[5]? = some (0, 0, 14) := rfl
  have wh := Wb_heads hW
  have ws : 0 ≤ σ 7 src ∧ σ 7 src ≤ 6 := Wb_subs hW g0 g1
  have loop : ∀ (n j : Nat) (τ : Sg), (j : Int) + n = σ 7 src → Fr [k, k + 1, k + 2, 60, 61, 62, 63] σ τ → SH τ k (L ++ catN (fun i => subX (bk σ 5) w src (od i) set) j) 0 w [] → V mX4_setHead 93 [some (vr 53), some (vr k), some (vr 5), some (vi h), some (vi src), none, some (vi lb), some (vi see), some (vi set), some (vi (j : Int)), none] [] τ post := by
    intro n
    induction n with
    | zero =>
      intro j τ hj hF hT
      have e7 : τ (5 + 2) src = σ 7 src := by rw [hF (5 + 2) (by simp; omega)]
      have ej : (σ 7 src).toNat = j := by omega
      rw [ej] at hp
      exact BX4_setHead_93 hk hk5 ⟨by omega, by omega, by rw [e7]; omega, fun _ => hp τ hF hT, fun z => absurd (by rw [e7]; omega) z⟩
    | succ n ih =>
      intro j τ hj hF hT
      have e7 : τ (5 + 2) src = σ 7 src := by rw [hF (5 + 2) (by simp; omega)]
      have e58 : τ 58 = σ 58 := hF 58 (by simp; omega)
      have b5 : ∀ υ : Sg, Fr [k, k + 1, k + 2, 60, 61, 62, 63] σ υ → bk υ 5 = bk σ 5 := fun υ hG => bkf (fun a x y => hG a (by simp; omega))
      obtain ⟨o1, o2, o3⟩ := hO j (by omega) (by omega)
      have cs : catN (fun i => subX (bk σ 5) w src (od i) set) (j + 1) = catN (fun i => subX (bk σ 5) w src (od i) set) j ++ subX (bk σ 5) w src (od j) set := rfl
      have le := catN_le (fun i => subX (bk σ 5) w src (od i) set) (m := j) (σ 7 src).toNat (by omega)
      refine BX4_setHead_93 hk hk5 ⟨by omega, by omega, by rw [e7]; omega, fun z => absurd z (by rw [e7]; omega), fun _ => ⟨by omega, ?_⟩⟩
      rw [e58, o1]
      refine c_isIn s0 (by omega) o2 (by omega) (fun hy => ⟨_, rfl, b1' ?_⟩) (fun hy => ⟨_, rfl, b0' (BX4_setHead_155 hk hk5 (ih (j + 1) τ (by omega) hF ?_))⟩)
      · have ww : WW (ew (bk σ 5) src (od j)) := Wb_ww hW g0 g1 (by omega) o3
        have wl := wbl_len ww
        have cl := ww.2.1
        refine c_putText hk (by decide) hT (by simp) (fun σ1 hF1 h1 => ⟨rfl, ?_⟩)
        rw [List.nil_append, tx_0] at h1
        have hG1 : Fr [k, k + 1, k + 2, 60, 61, 62, 63] σ σ1 := hF.tr (hF1.mo (by intro a ha; simp at ha ⊢; omega))
        refine c_wordOf hk5 (by rw [b5 σ1 hG1]; exact hW) g0 (by rw [hG1 5 (by simp; omega)]; exact g1) (by omega) (by rw [hG1 (5 + 2) (by simp; omega)]; exact o3) ⟨_, rfl, ?_⟩
        rw [b5 σ1 hG1]
        refine c_putWord hk h1 ww (by simp) (fun σ2 hF2 h2 => ⟨rfl, ?_⟩)
        have hG2 : Fr [k, k + 1, k + 2, 60, 61, 62, 63] σ σ2 := hG1.tr (hF2.mo (by intro a ha; simp at ha ⊢; omega))
        refine c_setRuns hk hkk (by rw [b5 σ2 hG2]; exact hW) h2 (by rw [List.length_append]; omega) (by simp) (by rw [List.length_append]; simp; omega) (gu_app (by rw [← tx_0]; exact gu_tx (by decide)) (gu_w ww)) w0 (by omega) (by omega) (fun σ3 hF3 h3 => ⟨rfl, BX4_setHead_155 hk hk5 (ih (j + 1) σ3 (by omega) (hG2.tr hF3) ?_)⟩)
        rw [b5 σ2 hG2] at h3
        have e : subX (bk σ 5) w src (od j) set = rowB w ([32, 32] ++ wbl (ew (bk σ 5) src (od j))) ((rL (bk σ 5) src (od j)).map runB) := if_pos hy
        rw [cs, e, ← List.append_assoc]
        exact h3
      · have e : subX (bk σ 5) w src (od j) set = [] := if_neg hy
        rw [cs, e, List.append_nil]
        exact hT
  exact loop (σ 7 src).toNat 0 σ (by omega) Fr.rf (by rw [catN, List.append_nil]; exact hS)
theorem als_ne {B : Sg} {how set : Int} (hW : WfB B) (s0 : 0 ≤ set) (hb : ∀ g : Int, 0 ≤ g → has set g = true → g < B 0 0) (hz : set ≠ 0) : alsL B how set (B 0 0).toNat ≠ [] := by
  have wh := hW.1
  have key : ∀ (n : Nat) (i : Nat), i < n → has set (ord (hkey B how) (B 0 0).toNat i) = true → alsL B how set n ≠ [] := by
    intro n
    induction n with
    | zero => intro i hi; omega
    | succ n ih =>
      intro i hi hs
      rw [alsL]
      by_cases e : i = n
      · subst e
        rw [if_pos hs]
        intro z
        have := congrArg List.length z
        rw [List.length_append] at this
        simp at this
      · intro z
        have := congrArg List.length z
        rw [List.length_append, List.length_nil] at this
        exact ih i (by omega) hs (List.eq_nil_of_length_eq_zero (by omega))
  obtain ⟨g, hg0, hg⟩ : ∃ g : Int, 0 ≤ g ∧ has set g = true := by
    by_cases c : ∃ g : Int, 0 ≤ g ∧ has set g = true
    · exact c
    · refine absurd (has_ext s0 (Int.le_refl 0) (fun i i0 => ?_)) hz
      rw [has_0]
      by_cases d : has set i = true
      · exact absurd ⟨i, i0, d⟩ c
      · exact Bool.eq_false_iff.2 d
  have g1 := hb g hg0 hg
  have e := ord_plc (key := hkey B how) (n := (B 0 0).toNat) (j := g) hg0 (by omega)
  have p0 : 0 ≤ plc (hkey B how) (B 0 0).toNat g ∧ plc (hkey B how) (B 0 0).toNat g < (B 0 0).toNat := by
    refine ⟨(cnt_b _ _).1, ?_⟩
    unfold plc
    have := cnt_lt (p := fun l => decide (hkey B how l < hkey B how g ∨ hkey B how l = hkey B how g ∧ l < g)) (q := fun _ => true) (B 0 0).toNat (fun i _ _ => rfl) ⟨g.toNat, by omega, rfl, by
      rw [decide_eq_true_iff]
      have : ((g.toNat : Nat) : Int) = g := by omega
      rw [this]
      omega⟩
    have t := (cnt_b (fun _ => true) (B 0 0).toNat).2
    omega
  refine key (B 0 0).toNat (plc (hkey B how) (B 0 0).toNat g).toNat (by omega) ?_
  have e2 : (((plc (hkey B how) (B 0 0).toNat g).toNat : Nat) : Int) = plc (hkey B how) (B 0 0).toNat g := by omega
  rw [e2, e]
  exact hg
