/-! ===== PURE HALF, by hand: what a text says, clause by clause ===== -/
noncomputable def pWd (t : Int → Int) (N p : Int) : (Int × Int) ⊕ (Int × Int) := @ite _ (at_ isL t N (sk isB t N p)) (Classical.propDecidable _) (@ite _ (fitW t (sk isB t N p) (sk isL t N (sk isB t N p))) (Classical.propDecidable _) (.inr (sk isB t N p, sk isL t N (sk isB t N p))) (.inl (3, sk isB t N p))) (.inl (1, sk isB t N p))
def putH (B : Sg) (c : Int) : Sg := fun j => match j with
  | 0 => fun x => if x = 0 then B 0 0 + 1 else B 0 7
  | 1 => pt (B 1) (B 0 0) c
  | 2 => pt (B 2) (B 0 0) 0
  | 4 => pt (B 4) (B 0 0) (-1)
  | 5 => pt (B 5) (B 0 0) 0
  | 6 => pt (B 6) (B 0 0) 0
  | j => B j
def putS (B : Sg) (h c : Int) : Sg := fun j => match j with
  | 2 => pt (B 2) h (B 2 h + 1)
  | 3 => pt (B 3) (h * 6 + B 2 h) c
  | j => B j
def putM (B : Sg) (h s p q m : Int) : Sg := fun j => match j with
  | 0 => fun x => if x = 0 then B 0 0 else B 0 7 + 1
  | 7 => pt (B 7) (B 0 7) h
  | 8 => pt (B 8) (B 0 7) s
  | 9 => pt (B 9) (B 0 7) p
  | 10 => pt (B 10) (B 0 7) q
  | 11 => pt (B 11) (B 0 7) m
  | j => B j
def setR (B : Sg) (r : Nat) (h v : Int) : Sg := fun j => if j = r then pt (B j) h v else B j
noncomputable def pHd (t : Int → Int) (N : Int) (B : Sg) (p : Int) : (Int × Int) ⊕ (Sg × Int × Int × Int) := match pWd t N p with
  | .inl f => .inl f
  | .inr (q, e) => if 0 ≤ hL B (pkW t q e) then .inr (B, hL B (pkW t q e), q, e) else if B 0 0 < 16 then .inr (putH B (pkW t q e), B 0 0, q, e) else .inl (4, q)
noncomputable def pSb (t : Int → Int) (N : Int) (B : Sg) (h p : Int) : (Int × Int) ⊕ (Sg × Int × Int) := match pWd t N p with
  | .inl f => .inl f
  | .inr (q, e) => if 0 ≤ sL B h (pkW t q e) then .inr (B, sL B h (pkW t q e), e) else if B 2 h < 6 then .inr (putS B h (pkW t q e), B 2 h, e) else .inl (4, q)
def nvl (t : Int → Int) (q : Int) : Nat → Int
  | 0 => 0
  | n + 1 => nvl t q n * 10 + t (q + n) - 48
noncomputable def pNm (t : Int → Int) (N lo hi p : Int) : (Int × Int) ⊕ (Int × Int) := @ite _ (at_ isF t N (sk isB t N p)) (Classical.propDecidable _) (if sk isF t N (sk isB t N p) - sk isB t N p ≤ 2 ∧ lo ≤ nvl t (sk isB t N p) (sk isF t N (sk isB t N p) - sk isB t N p).toNat ∧ nvl t (sk isB t N p) (sk isF t N (sk isB t N p) - sk isB t N p).toNat ≤ hi then .inr (nvl t (sk isB t N p) (sk isF t N (sk isB t N p) - sk isB t N p).toNat, sk isF t N (sk isB t N p)) else .inl (2, sk isB t N p)) (.inl (1, sk isB t N p))
noncomputable def pMn (t : Int → Int) (N p : Int) : (Int × Int) ⊕ (Int × Int) := @ite _ (at_ isL t N (sk isB t N p)) (Classical.propDecidable _) (@ite _ (isWd t (sk isB t N p) (sk isL t N (sk isB t N p)) (txB 6)) (Classical.propDecidable _) (.inr (1, sk isL t N (sk isB t N p))) (.inl (1, sk isB t N p))) (.inr (0, sk isB t N p))
def pEn (t : Int → Int) (N p : Int) : (Int × Int) ⊕ Int := if sk isB t N p < N ∧ t (sk isB t N p) = 59 then .inr (sk isB t N p + 1) else .inl (1, sk isB t N p)
noncomputable def pSl (t : Int → Int) (N : Int) (B : Sg) (h p : Int) : (Int × Int) ⊕ (Sg × Int × Int) := if sk isB t N p < N ∧ t (sk isB t N p) = 47 then pSb t N B h (sk isB t N p + 1) else .inr (B, -1, sk isB t N p)
noncomputable def pDs (t : Int → Int) (N v p : Int) : (Int × Int) ⊕ (Int × Int) := if sk isB t N p < N ∧ t (sk isB t N p) = 45 then pNm t N (v + 1) 99 (sk isB t N p + 1) else .inr (v, sk isB t N p)
noncomputable def pMark (t : Int → Int) (N : Int) (B : Sg) (p : Int) : (Int × Int) ⊕ (Sg × Int) := match pHd t N B p with
  | .inl f => .inl f
  | .inr (B1, h, _, e1) => match pSl t N B1 h e1 with
    | .inl f => .inl f
    | .inr (B2, s, e2) => match pNm t N 1 99 e2 with
      | .inl f => .inl f
      | .inr (v, e3) => match pDs t N v e3 with
        | .inl f => .inl f
        | .inr (w, e4) => match pMn t N e4 with
          | .inl f => .inl f
          | .inr (m, e5) => .inr (putM B2 h s v w m, e5)
noncomputable def pSee (t : Int → Int) (N : Int) (B : Sg) (p : Int) : (Int × Int) ⊕ (Sg × Int) := match pHd t N B p with
  | .inl f => .inl f
  | .inr (B1, h, q1, e1) => if B1 4 h ≠ -1 then .inl (6, q1) else match pHd t N B1 e1 with
    | .inl f => .inl f
    | .inr (B2, g, q2, e2) => if g = h then .inl (6, q2) else .inr (setR B2 4 h g, e2)
noncomputable def pAls (t : Int → Int) (N : Int) (B : Sg) (p : Int) : (Int × Int) ⊕ (Sg × Int) := match pHd t N B p with
  | .inl f => .inl f
  | .inr (B1, h, _, e1) => match pHd t N B1 e1 with
    | .inl f => .inl f
    | .inr (B2, g, q2, e2) => if g = h ∨ has (B2 5 h) g = true then .inl (6, q2) else .inr (setR B2 5 h (iOr (B2 5 h) (iShl 1 g)), e2)
noncomputable def pAsk (t : Int → Int) (N : Int) (B : Sg) (k p : Int) : (Int × Int) ⊕ (Sg × Int × Int) := match pHd t N B p with
  | .inl f => .inl f
  | .inr (B1, h, q1, e1) => if has k h = true then .inl (6, q1) else match pNm t N 0 99 e1 with
    | .inl f => .inl f
    | .inr (v, e2) => .inr (setR B1 6 h v, iOr k (iShl 1 h), e2)
/-- the body of a clause: book, sees, alsos, asked, place -/
noncomputable def pBody (t : Int → Int) (N : Int) (B : Sg) (s a k p : Int) : (Int × Int) ⊕ (Sg × Int × Int × Int × Int) :=
  @ite _ (isWd t p (sk isL t N p) (txB 7)) (Classical.propDecidable _) (if 60 ≤ B 0 7 then .inl (5, p) else match pMark t N B (sk isL t N p) with
    | .inl f => .inl f
    | .inr (B', e) => .inr (B', s, a, k, e))
  (@ite _ (isWd t p (sk isL t N p) (txB 8)) (Classical.propDecidable _) (if 8 ≤ s then .inl (5, p) else match pSee t N B (sk isL t N p) with
    | .inl f => .inl f
    | .inr (B', e) => .inr (B', s + 1, a, k, e))
  (@ite _ (isWd t p (sk isL t N p) (txB 4)) (Classical.propDecidable _) (if 8 ≤ a then .inl (5, p) else match pAls t N B (sk isL t N p) with
    | .inl f => .inl f
    | .inr (B', e) => .inr (B', s, a + 1, k, e))
  (@ite _ (isWd t p (sk isL t N p) (txB 5)) (Classical.propDecidable _) (match pAsk t N B k (sk isL t N p) with
    | .inl f => .inl f
    | .inr (B', k', e) => .inr (B', s, a, k', e))
  (.inl (1, p)))))
noncomputable def pCl (t : Int → Int) (N : Int) (B : Sg) (s a k p : Int) : (Int × Int) ⊕ (Sg × Int × Int × Int × Int) := match pBody t N B s a k p with
  | .inl f => .inl f
  | .inr (B', s', a', k', e) => match pEn t N e with
    | .inl f => .inl f
    | .inr e' => .inr (B', s', a', k', e')
noncomputable def pRun (t : Int → Int) (N : Int) : Nat → Sg → Int → Int → Int → Int → (Int × Int) ⊕ Sg
  | 0, B, _, _, _, _ => .inr B
  | n + 1, B, s, a, k, p => if sk isB t N p < N then (match pCl t N B s a k (sk isB t N p) with
    | .inl f => .inl f
    | .inr (B', s', a', k', e) => pRun t N n B' s' a' k' e) else .inr B
/-! well told -/
theorem WfB_ext {B B' : Sg} (h : ∀ j, j < 12 → B' j = B j) (hW : WfB B) : WfB B' := by
  have e : ∀ h s, ew B' h s = ew B h s := fun h' s => by unfold ew; rw [h 1 (by decide), h 3 (by decide)]
  have ea : alsoSum B' = alsoSum B := by unfold alsoSum; rw [h 0 (by decide), h 5 (by decide)]
  unfold WfB WfH WfM at hW ⊢
  simp only [e, ea, h 0 (by decide), h 2 (by decide), h 4 (by decide), h 5 (by decide), h 6 (by decide), h 7 (by decide), h 8 (by decide), h 9 (by decide), h 10 (by decide), h 11 (by decide)]
  exact hW
theorem putH_ew {B : Sg} {c h s : Int} (hW : WfB B) (h0 : 0 ≤ h) (h1 : h < B 0 0) : ew (putH B c) h s = ew B h s := by
  unfold ew
  show (if s = -1 then pt (B 1) (B 0 0) c h else B 3 (h * 6 + s)) = _
  rw [pt_ne (by omega)]
theorem putH_ok {B : Sg} {c : Int} (hW : WfB B) (hn : B 0 0 < 16) (hc : WW c) : WfB (putH B c) ∧ alsoSum (putH B c) = alsoSum B := by
  obtain ⟨w1, w2, w3, w4, w5⟩ := hW
  have ea : alsoSum (putH B c) = alsoSum B := by
    unfold alsoSum
    show sumN (fun h => cnt (fun g => has (pt (B 5) (B 0 0) 0 h) g) 16) (B 0 0 + 1).toNat = _
    rw [show (B 0 0 + 1).toNat = (B 0 0).toNat + 1 by omega, sumN, show ((B 0 0).toNat : Int) = B 0 0 by omega, pt_self]
    have z : cnt (fun g => has 0 g) 16 = 0 := by
      have := (cnt_b (fun g => has 0 g) 16).1
      by_cases c : 0 < cnt (fun g => has 0 g) 16
      · obtain ⟨i, _, hi⟩ := (cnt_pos _).1 c
        rw [has_0] at hi
        cases hi
      · omega
    rw [z, Int.add_zero]
    exact sumN_congr _ (fun i hi => by
      show cnt (fun g => has (pt (B 5) (B 0 0) 0 i) g) 16 = _
      rw [pt_ne (by omega)])
  refine ⟨⟨?_, w2, fun h h0 h1 => ?_, fun k k0 k1 => ?_, by rw [ea]; exact w5⟩, ea⟩
  · show 0 ≤ B 0 0 + 1 ∧ B 0 0 + 1 ≤ 16
    omega
  · have h1 : h < B 0 0 + 1 := h1
    unfold WfH
    show (0 ≤ pt (B 2) (B 0 0) 0 h ∧ pt (B 2) (B 0 0) 0 h ≤ 6) ∧ (-1 ≤ pt (B 4) (B 0 0) (-1) h ∧ pt (B 4) (B 0 0) (-1) h < B 0 0 + 1) ∧ (0 ≤ pt (B 5) (B 0 0) 0 h ∧ pt (B 5) (B 0 0) 0 h < 65536 ∧ ∀ g : Int, 0 ≤ g → has (pt (B 5) (B 0 0) 0 h) g = true → g < B 0 0 + 1) ∧ (0 ≤ pt (B 6) (B 0 0) 0 h ∧ pt (B 6) (B 0 0) 0 h ≤ 99) ∧ ∀ s : Int, -1 ≤ s → s < pt (B 2) (B 0 0) 0 h → WW (ew (putH B c) h s)
    by_cases e : h = B 0 0
    · subst e
      simp only [pt_self]
      refine ⟨by decide, by omega, ⟨by decide, by decide, fun g _ z => by rw [has_0] at z; cases z⟩, by decide, fun s s0 s1 => ?_⟩
      have : s = -1 := by omega
      subst this
      unfold ew
      show WW (if (-1 : Int) = -1 then pt (B 1) (B 0 0) c (B 0 0) else _)
      rw [if_pos rfl, pt_self]
      exact hc
    · simp only [pt_ne e]
      obtain ⟨a1, a2, a3, a4, a5⟩ := w3 h h0 (by omega)
      refine ⟨a1, by omega, ⟨a3.1, a3.2.1, fun g g0 z => by have := a3.2.2 g g0 z; omega⟩, a4, fun s s0 s1 => ?_⟩
      rw [putH_ew ⟨w1, w2, w3, w4, w5⟩ h0 (by omega)]
      exact a5 s s0 s1
  · have k1 : k < B 0 7 := k1
    obtain ⟨a1, a2, a3, a4⟩ := w4 k k0 k1
    unfold WfM
    show (0 ≤ B 7 k ∧ B 7 k < B 0 0 + 1) ∧ (-1 ≤ B 8 k ∧ B 8 k < pt (B 2) (B 0 0) 0 (B 7 k)) ∧ (1 ≤ B 9 k ∧ B 9 k ≤ B 10 k ∧ B 10 k ≤ 99) ∧ (B 11 k = 0 ∨ B 11 k = 1)
    rw [pt_ne (by omega)]
    exact ⟨by omega, a2, a3, a4⟩
theorem putS_ok {B : Sg} {h c : Int} (hW : WfB B) (h0 : 0 ≤ h) (h1 : h < B 0 0) (hn : B 2 h < 6) (hc : WW c) : WfB (putS B h c) ∧ alsoSum (putS B h c) = alsoSum B := by
  obtain ⟨w1, w2, w3, w4, w5⟩ := hW
  refine ⟨⟨w1, w2, fun g g0 g1 => ?_, fun k k0 k1 => ?_, w5⟩, rfl⟩
  · obtain ⟨a1, a2, a3, a4, a5⟩ := w3 g g0 g1
    unfold WfH
    show (0 ≤ pt (B 2) h (B 2 h + 1) g ∧ pt (B 2) h (B 2 h + 1) g ≤ 6) ∧ (-1 ≤ B 4 g ∧ B 4 g < B 0 0) ∧ (0 ≤ B 5 g ∧ B 5 g < 65536 ∧ ∀ x : Int, 0 ≤ x → has (B 5 g) x = true → x < B 0 0) ∧ (0 ≤ B 6 g ∧ B 6 g ≤ 99) ∧ ∀ s : Int, -1 ≤ s → s < pt (B 2) h (B 2 h + 1) g → WW (if s = -1 then B 1 g else pt (B 3) (h * 6 + B 2 h) c (g * 6 + s))
    by_cases e : g = h
    · subst e
      rw [pt_self]
      refine ⟨by omega, a2, a3, a4, fun s s0 s1 => ?_⟩
      by_cases d : s = -1
      · have := a5 s s0 (by omega)
        unfold ew at this
        rw [if_pos d] at this ⊢
        exact this
      · rw [if_neg d]
        by_cases f : s = B 2 g
        · rw [f, pt_self]; exact hc
        · rw [pt_ne (by omega)]
          have := a5 s s0 (by omega)
          unfold ew at this
          rw [if_neg d] at this
          exact this
    · rw [pt_ne e]
      refine ⟨a1, a2, a3, a4, fun s s0 s1 => ?_⟩
      have bh := (w3 h h0 h1).1
      have := a5 s s0 s1
      unfold ew at this
      by_cases d : s = -1
      · rw [if_pos d] at this ⊢
        exact this
      · rw [if_neg d] at this ⊢
        rw [pt_ne (by omega)]
        exact this
  · obtain ⟨a1, a2, a3, a4⟩ := w4 k k0 k1
    refine ⟨a1, ⟨a2.1, ?_⟩, a3, a4⟩
    show B 8 k < pt (B 2) h (B 2 h + 1) (B 7 k)
    by_cases e : B 7 k = h
    · rw [e, pt_self]; rw [e] at a2; omega
    · rw [pt_ne e]; exact a2.2
theorem putM_ok {B : Sg} {h s p q m : Int} (hW : WfB B) (h0 : 0 ≤ h) (h1 : h < B 0 0) (s0 : -1 ≤ s) (s1 : s < B 2 h) (p0 : 1 ≤ p) (pq : p ≤ q) (q1 : q ≤ 99) (hm : m = 0 ∨ m = 1) (hn : B 0 7 < 60) : WfB (putM B h s p q m) ∧ alsoSum (putM B h s p q m) = alsoSum B := by
  obtain ⟨w1, w2, w3, w4, w5⟩ := hW
  refine ⟨⟨w1, ?_, w3, fun k k0 k1 => ?_, w5⟩, rfl⟩
  · show 0 ≤ B 0 7 + 1 ∧ B 0 7 + 1 ≤ 60
    omega
  · have k1 : k < B 0 7 + 1 := k1
    unfold WfM
    show (0 ≤ pt (B 7) (B 0 7) h k ∧ pt (B 7) (B 0 7) h k < B 0 0) ∧ (-1 ≤ pt (B 8) (B 0 7) s k ∧ pt (B 8) (B 0 7) s k < B 2 (pt (B 7) (B 0 7) h k)) ∧ (1 ≤ pt (B 9) (B 0 7) p k ∧ pt (B 9) (B 0 7) p k ≤ pt (B 10) (B 0 7) q k ∧ pt (B 10) (B 0 7) q k ≤ 99) ∧ (pt (B 11) (B 0 7) m k = 0 ∨ pt (B 11) (B 0 7) m k = 1)
    by_cases e : k = B 0 7
    · subst e
      simp only [pt_self]
      exact ⟨⟨h0, h1⟩, ⟨s0, s1⟩, ⟨p0, pq, q1⟩, hm⟩
    · simp only [pt_ne e]
      exact w4 k k0 (by omega)
theorem setSee_ok {B : Sg} {h g : Int} (hW : WfB B) (g0 : 0 ≤ g) (g1 : g < B 0 0) : WfB (setR B 4 h g) ∧ alsoSum (setR B 4 h g) = alsoSum B := by
  obtain ⟨w1, w2, w3, w4, w5⟩ := hW
  refine ⟨⟨w1, w2, fun x x0 x1 => ?_, w4, w5⟩, rfl⟩
  obtain ⟨a1, a2, a3, a4, a5⟩ := w3 x x0 x1
  refine ⟨a1, ?_, a3, a4, a5⟩
  show -1 ≤ pt (B 4) h g x ∧ pt (B 4) h g x < B 0 0
  by_cases e : x = h
  · rw [e, pt_self]; omega
  · rw [pt_ne e]; exact a2
theorem setAsk_ok {B : Sg} {h v : Int} (hW : WfB B) (v0 : 0 ≤ v) (v1 : v ≤ 99) : WfB (setR B 6 h v) ∧ alsoSum (setR B 6 h v) = alsoSum B := by
  obtain ⟨w1, w2, w3, w4, w5⟩ := hW
  refine ⟨⟨w1, w2, fun x x0 x1 => ?_, w4, w5⟩, rfl⟩
  obtain ⟨a1, a2, a3, a4, a5⟩ := w3 x x0 x1
  refine ⟨a1, a2, a3, ?_, a5⟩
  show 0 ≤ pt (B 6) h v x ∧ pt (B 6) h v x ≤ 99
  by_cases e : x = h
  · rw [e, pt_self]; omega
  · rw [pt_ne e]; exact a4
theorem cnt_add1 {p q : Int → Bool} {a : Int} : ∀ n : Nat, (∀ i : Nat, i < n → q i = (p i || decide ((i : Int) = a))) → p a = false → cnt q n = cnt p n + (if 0 ≤ a ∧ a < n then 1 else 0)
  | 0, _, _ => by rw [cnt, cnt, if_neg (by omega)]; rfl
  | n + 1, h, hp => by
    have ih := cnt_add1 (p := p) (q := q) (a := a) n (fun i hi => h i (by omega)) hp
    have hn := h n (by omega)
    rw [cnt_s, cnt_s, ih, hn]
    by_cases e : (n : Int) = a
    · rw [e, hp, decide_eq_true rfl, if_neg (show ¬ (0 ≤ a ∧ a < a) by omega), if_pos (show 0 ≤ a ∧ a < ((n + 1 : Nat) : Int) by omega)]
      rfl
    · rw [decide_eq_false e, Bool.or_false]
      by_cases d : 0 ≤ a ∧ a < n
      · rw [if_pos d, if_pos (show 0 ≤ a ∧ a < ((n + 1 : Nat) : Int) by omega)]; omega
      · rw [if_neg d, if_neg (show ¬ (0 ≤ a ∧ a < ((n + 1 : Nat) : Int)) by omega)]; omega
theorem setAlso_ok {B : Sg} {h g : Int} (hW : WfB B) (h0 : 0 ≤ h) (h1 : h < B 0 0) (g0 : 0 ≤ g) (g1 : g < B 0 0) (hn : ¬ has (B 5 h) g = true) (ha : alsoSum B < 8) : WfB (setR B 5 h (iOr (B 5 h) (iShl 1 g))) ∧ alsoSum (setR B 5 h (iOr (B 5 h) (iShl 1 g))) = alsoSum B + 1 := by
  obtain ⟨w1, w2, w3, w4, w5⟩ := hW
  have ah := (w3 h h0 h1).2.2.1
  have s := iShl1_lt (h := g) (n := 16) g0 (by omega) (by decide)
  have o := iOr_lt (s := B 5 h) (t := iShl 1 g) (n := 16) (by decide) ah.1 ah.2.1 s.1 s.2
  have bits : ∀ i : Int, 0 ≤ i → has (iOr (B 5 h) (iShl 1 g)) i = (has (B 5 h) i || decide (i = g)) := fun i i0 => by
    rw [has_or ah.1 (by omega) s.1 (by omega), has_shl g0 (by omega) i0]
  have ea : alsoSum (setR B 5 h (iOr (B 5 h) (iShl 1 g))) = alsoSum B + 1 := by
    unfold alsoSum
    show sumN (fun x => cnt (fun y => has (pt (B 5) h (iOr (B 5 h) (iShl 1 g)) x) y) 16) (B 0 0).toNat = _
    have one : cnt (fun y => has (iOr (B 5 h) (iShl 1 g)) y) 16 = cnt (fun y => has (B 5 h) y) 16 + 1 := by
      have := cnt_add1 (p := fun y => has (B 5 h) y) (q := fun y => has (iOr (B 5 h) (iShl 1 g)) y) (a := g) 16 (fun i hi => bits i (by omega)) (Bool.eq_false_iff.2 hn)
      rw [if_pos (by omega)] at this
      exact this
    have e : sumN (fun x => cnt (fun y => has (pt (B 5) h (iOr (B 5 h) (iShl 1 g)) x) y) 16) (B 0 0).toNat = sumN (fun x => cnt (fun y => has (B 5 x) y) 16 + (if x = h then 1 else 0)) (B 0 0).toNat := sumN_congr _ (fun i hi => by
      by_cases d : (i : Int) = h
      · rw [d, pt_self, if_pos rfl]; exact one
      · rw [pt_ne d, if_neg d]; omega)
    rw [e, sumN_add (fun x => cnt (fun y => has (B 5 x) y) 16) (fun x => if x = h then 1 else 0), sumN_ind, if_pos (by omega)]
  refine ⟨⟨w1, w2, fun x x0 x1 => ?_, w4, by rw [ea]; omega⟩, ea⟩
  obtain ⟨a1, a2, a3, a4, a5⟩ := w3 x x0 x1
  refine ⟨a1, a2, ?_, a4, a5⟩
  show 0 ≤ pt (B 5) h (iOr (B 5 h) (iShl 1 g)) x ∧ pt (B 5) h (iOr (B 5 h) (iShl 1 g)) x < 65536 ∧ ∀ y : Int, 0 ≤ y → has (pt (B 5) h (iOr (B 5 h) (iShl 1 g)) x) y = true → y < B 0 0
  by_cases e : x = h
  · rw [e, pt_self]
    refine ⟨o.1, o.2, fun y y0 hy => ?_⟩
    rw [bits y y0, Bool.or_eq_true, decide_eq_true_iff] at hy
    rcases hy with z | z
    · exact ah.2.2 y y0 z
    · omega
  · rw [pt_ne e]; exact a3
/-! what a step gives -/
theorem pWd_ok {t : Int → Int} {N p q e : Int} (p1 : p ≤ N) (h : pWd t N p = .inr (q, e)) : p ≤ q ∧ q < e ∧ e ≤ N ∧ e - q ≤ 12 ∧ (∀ i : Int, q ≤ i → i < e → isL (t i) = true) := by
  unfold pWd at h
  by_cases c : at_ isL t N (sk isB t N p)
  · rw [if_pos c] at h
    by_cases d : fitW t (sk isB t N p) (sk isL t N (sk isB t N p))
    · rw [if_pos d] at h
      injection h with h
      injection h with hq he
      subst hq he
      have a := sk_b (f := isB) (t := t) p1
      obtain ⟨b1, b2, b3⟩ := sk_all (f := isL) (t := t) (N := N) (N - sk isB t N p).toNat (sk isB t N p) (by omega)
      refine ⟨a.1, ?_, b1.2, d.1, b2⟩
      rw [sk_go c.1 c.2]
      have := sk_b (f := isL) (t := t) (N := N) (p := sk isB t N p + 1) (by have := c.1; omega)
      omega
    · rw [if_neg d] at h; cases h
  · rw [if_neg c] at h; cases h
theorem hL_v {B : Sg} {c : Int} (hW : WfB B) : (hL B c = -1) ∨ (0 ≤ hL B c ∧ hL B c < B 0 0 ∧ B 1 (hL B c) = c) := by
  have w := hW.1
  have key : ∀ n : Nat, fnd (fun g => decide (B 1 g = c)) n = -1 ∨ (0 ≤ fnd (fun g => decide (B 1 g = c)) n ∧ fnd (fun g => decide (B 1 g = c)) n < n ∧ B 1 (fnd (fun g => decide (B 1 g = c)) n) = c) := by
    intro n
    induction n with
    | zero => exact Or.inl rfl
    | succ n ih =>
      rw [fnd]
      rcases ih with a | ⟨a1, a2, a3⟩
      · rw [if_neg (by omega)]
        by_cases d : B 1 n = c
        · rw [if_pos (decide_eq_true d)]
          exact Or.inr ⟨by omega, by omega, d⟩
        · rw [if_neg (by rw [decide_eq_true_iff]; exact d)]
          exact Or.inl rfl
      · rw [if_pos a1]
        exact Or.inr ⟨a1, by omega, a3⟩
  rcases key (B 0 0).toNat with a | ⟨a1, a2, a3⟩
  · exact Or.inl a
  · exact Or.inr ⟨a1, by unfold hL; omega, a3⟩
theorem sL_v {B : Sg} {h c : Int} (h0 : 0 ≤ h) (hs : 0 ≤ B 2 h) : (sL B h c = -1) ∨ (0 ≤ sL B h c ∧ sL B h c < B 2 h ∧ B 3 (h * 6 + sL B h c) = c) := by
  have key : ∀ n : Nat, fnd (fun s => decide (B 3 (h * 6 + s) = c)) n = -1 ∨ (0 ≤ fnd (fun s => decide (B 3 (h * 6 + s) = c)) n ∧ fnd (fun s => decide (B 3 (h * 6 + s) = c)) n < n ∧ B 3 (h * 6 + fnd (fun s => decide (B 3 (h * 6 + s) = c)) n) = c) := by
    intro n
    induction n with
    | zero => exact Or.inl rfl
    | succ n ih =>
      rw [fnd]
      rcases ih with a | ⟨a1, a2, a3⟩
      · rw [if_neg (by omega)]
        by_cases d : B 3 (h * 6 + n) = c
        · rw [if_pos (decide_eq_true d)]
          exact Or.inr ⟨by omega, by omega, d⟩
        · rw [if_neg (by rw [decide_eq_true_iff]; exact d)]
          exact Or.inl rfl
      · rw [if_pos a1]
        exact Or.inr ⟨a1, by omega, a3⟩
  unfold sL
  rw [if_neg (by omega)]
  rcases key (B 2 h).toNat with a | ⟨a1, a2, a3⟩
  · exact Or.inl a
  · exact Or.inr ⟨a1, by omega, a3⟩
theorem pHd_ok {t : Int → Int} {N p h q e : Int} {B B' : Sg} (hW : WfB B) (p1 : p ≤ N) (hp : pHd t N B p = .inr (B', h, q, e)) : (WfB B' ∧ alsoSum B' = alsoSum B ∧ B' 0 7 = B 0 7) ∧ (0 ≤ h ∧ h < B' 0 0) ∧ (B' 1 h = pkW t q e ∧ wlen (B' 1 h) = e - q) ∧ (p ≤ q ∧ q < e ∧ e ≤ N) ∧ (∀ g : Int, 0 ≤ g → g < B 0 0 → g < B' 0 0) ∧ (∀ g : Int, g < B 0 0 → B' 4 g = B 4 g ∧ B' 2 g = B 2 g) := by
  have w := hW.1
  unfold pHd at hp
  cases hw : pWd t N p with
  | inl f => rw [hw] at hp; cases hp
  | inr qe =>
    obtain ⟨q', e'⟩ := qe
    rw [hw] at hp
    obtain ⟨a1, a2, a3, a4, a5⟩ := pWd_ok p1 hw
    obtain ⟨k1, k2⟩ := pkW_ww a5 a2 a4
    dsimp only at hp
    split at hp
    · rename_i c
      injection hp with hp
      injection hp with x1 hp
      injection hp with x2 hp
      injection hp with x3 x4
      subst x1 x2 x3 x4
      rcases hL_v (c := pkW t q' e') hW with z | ⟨z1, z2, z3⟩
      · omega
      · exact ⟨⟨hW, rfl, rfl⟩, ⟨z1, z2⟩, ⟨z3, by rw [z3]; exact k2⟩, ⟨a1, a2, a3⟩, fun g _ z => z, fun g _ => ⟨rfl, rfl⟩⟩
    · split at hp
      · rename_i c d
        injection hp with hp
        injection hp with x1 hp
        injection hp with x2 hp
        injection hp with x3 x4
        subst x1 x2 x3 x4
        obtain ⟨o1, o2⟩ := putH_ok hW d k1
        have e1 : putH B (pkW t q' e') 1 (B 0 0) = pkW t q' e' := pt_self
        refine ⟨⟨o1, o2, rfl⟩, ⟨w.1, ?_⟩, ⟨e1, by rw [e1]; exact k2⟩, ⟨a1, a2, a3⟩, fun g _ z => ?_, fun g z => ⟨?_, ?_⟩⟩
        · show B 0 0 < B 0 0 + 1; omega
        · show g < B 0 0 + 1; omega
        · show pt (B 4) (B 0 0) (-1) g = B 4 g
          rw [pt_ne (by omega)]
        · show pt (B 2) (B 0 0) 0 g = B 2 g
          rw [pt_ne (by omega)]
      · cases hp
theorem pSb_ok {t : Int → Int} {N p h s e : Int} {B B' : Sg} (hW : WfB B) (h0 : 0 ≤ h) (h1 : h < B 0 0) (p1 : p ≤ N) (hp : pSb t N B h p = .inr (B', s, e)) : (WfB B' ∧ alsoSum B' = alsoSum B ∧ B' 0 7 = B 0 7 ∧ B' 0 0 = B 0 0) ∧ (0 ≤ s ∧ s < B' 2 h) ∧ (p ≤ e ∧ e ≤ N) := by
  have w := (hW.2.2.1 h h0 h1).1
  unfold pSb at hp
  cases hw : pWd t N p with
  | inl f => rw [hw] at hp; cases hp
  | inr qe =>
    obtain ⟨q', e'⟩ := qe
    rw [hw] at hp
    obtain ⟨a1, a2, a3, a4, a5⟩ := pWd_ok p1 hw
    obtain ⟨k1, k2⟩ := pkW_ww a5 a2 a4
    dsimp only at hp
    split at hp
    · rename_i c
      injection hp with hp
      injection hp with x1 hp
      injection hp with x2 x3
      subst x1 x2 x3
      rcases sL_v (c := pkW t q' e') h0 w.1 with z | ⟨z1, z2, z3⟩
      · omega
      · exact ⟨⟨hW, rfl, rfl, rfl⟩, ⟨z1, z2⟩, by omega⟩
    · split at hp
      · rename_i c d
        injection hp with hp
        injection hp with x1 hp
        injection hp with x2 x3
        subst x1 x2 x3
        obtain ⟨o1, o2⟩ := putS_ok hW h0 h1 d k1
        refine ⟨⟨o1, o2, rfl, rfl⟩, ⟨w.1, ?_⟩, by omega⟩
        show B 2 h < pt (B 2) h (B 2 h + 1) h
        rw [pt_self]; omega
      · cases hp
