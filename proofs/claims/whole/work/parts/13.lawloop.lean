/-! ===== the law's loop out of its 33 steps (printed by wip/whole/gen/mklaw2.py) ===== -/
/-- the two books that read() changes for one another -/
def prm (k : Nat) : Nat := if 5 ≤ k ∧ k < 17 then k + 36 else if 41 ≤ k ∧ k < 53 then k - 36 else k
def swp (σ : Sg) : Sg := fun k => if k = 0 then (fun j => if j = 1 then ((prm (σ 0 1).toNat : Nat) : Int) else σ 0 j) else if k = 3 then (fun j => if j = 5 then ((prm (σ 3 5).toNat : Nat) : Int) else σ 3 j) else σ (prm k)
theorem prm_prm (k : Nat) : prm (prm k) = k := by
  unfold prm
  split
  · rw [if_neg (by omega), if_pos (by omega)]; omega
  · split
    · rw [if_pos (by omega)]; omega
    · rfl
theorem prm_hi {k : Nat} (h : 53 ≤ k) : prm k = k := by
  unfold prm
  rw [if_neg (by omega), if_neg (by omega)]
theorem prm_lt {k : Nat} (h : k < 137) : prm k < 137 := by
  unfold prm
  split
  · omega
  · split <;> omega
theorem prm_shp : ∀ k, k < 137 → shp[prm k]? = shp[k]? := by decide +kernel
theorem fld_prm : ∀ k, k < 137 → ∀ q ∈ shp[k]?, q.1 = 0 → ∀ j, j < q.2.2 → fkd q.2.1 j = 1 → prm (sof q.2.1 (prm k) j) = sof q.2.1 k j := by decide +kernel
theorem fld_mut : ∀ k, k < 137 → ∀ q ∈ shp[k]?, q.1 = 0 → ∀ j, j < q.2.2 → fkd q.2.1 j = 2 → ((k == 0 && j == 1) || (k == 3 && j == 5)) = true := by decide +kernel
theorem sof_k0 : ∀ k, k < 137 → ∀ q ∈ shp[k]?, q.1 = 0 → ∀ j, j < q.2.2 → fkd q.2.1 j = 1 → sof q.2.1 k j < 137 := by decide +kernel
theorem prm_im (j : Nat) : prm (imT j) = imT j := by unfold imT; split <;> rfl
theorem prm_0 : prm 0 = 0 := rfl
theorem prm_3 : prm 3 = 3 := rfl
theorem cell_swp (ad : Nat → Nat) (dA : Nat → ClassId) (σ : Sg) {k : Nat} (hk : k < 137) {q : Nat × Nat × Nat} (hq : shp[k]? = some q) : cellE (fun i => ad (prm i)) dA (swp σ k) k q = cellE ad dA (σ (prm k)) (prm k) q := by
  have hrow : ∀ j : Int, ¬ (k = 0 ∧ j = 1) → ¬ (k = 3 ∧ j = 5) → swp σ k j = σ (prm k) j := by
    intro j h1 h2
    unfold swp
    by_cases h0 : k = 0
    · subst h0
      rw [if_pos rfl]
      show (if j = 1 then _ else σ 0 j) = σ 0 j
      rw [if_neg (fun z => h1 ⟨rfl, z⟩)]
    · rw [if_neg h0]
      by_cases h3 : k = 3
      · subst h3
        rw [if_pos rfl]
        show (if j = 5 then _ else σ 3 j) = σ 3 j
        rw [if_neg (fun z => h2 ⟨rfl, z⟩)]
      · rw [if_neg h3]
  obtain ⟨t, a, b⟩ := q
  have hne : t ≠ 0 → k ≠ 0 ∧ k ≠ 3 := by
    intro ht
    refine ⟨fun z => ?_, fun z => ?_⟩ <;> subst z <;> (have := hq; exact ht (by have e := Option.some.inj hq; exact (congrArg Prod.fst e).symm))
  unfold cellE
  split
  · -- an object
    show Sum.inr (a, (List.range b).map (fldV (fun i => ad (prm i)) (swp σ k) a k)) = Sum.inr (a, (List.range b).map (fldV ad (σ (prm k)) a (prm k)))
    congr 2
    apply List.map_congr_left
    intro j hj
    have hj' : j < b := List.mem_range.mp hj
    next h0 =>
    have ht : t = 0 := h0
    by_cases f1 : fkd a j = 1
    · rw [fldV_r f1, fldV_r f1]
      have e := fld_prm k hk (t, a, b) (by rw [hq]; rfl) ht j hj' f1
      show Value.ref (ad (prm (sof a k j))) = _
      rw [← e, prm_prm]
    · by_cases f2 : fkd a j = 2
      · rw [fldV_m f2, fldV_m f2]
        have hm := fld_mut k hk (t, a, b) (by rw [hq]; rfl) ht j hj' f2
        simp only [Bool.or_eq_true, Bool.and_eq_true, beq_iff_eq] at hm
        rcases hm with ⟨rfl, rfl⟩ | ⟨rfl, rfl⟩
        · show Value.ref (ad (prm (swp σ 0 ((1 : Nat) : Int)).toNat)) = Value.ref (ad (σ 0 ((1 : Nat) : Int)).toNat)
          have e : swp σ 0 ((1 : Nat) : Int) = ((prm (σ 0 1).toNat : Nat) : Int) := rfl
          rw [e, Int.toNat_natCast, prm_prm]
          rfl
        · show Value.ref (ad (prm (swp σ 3 ((5 : Nat) : Int)).toNat)) = Value.ref (ad (σ 3 ((5 : Nat) : Int)).toNat)
          have e : swp σ 3 ((5 : Nat) : Int) = ((prm (σ 3 5).toNat : Nat) : Int) := rfl
          rw [e, Int.toNat_natCast, prm_prm]
          rfl
      · have hv : ∀ (ad : Nat → Nat) (row : Int → Int) (k : Nat), fldV ad row a k j = .int (iI (row j)) := by
          intro ad row k
          unfold fldV
          split
          · next h => exact absurd h f1
          · next h => exact absurd h f2
          · rfl
        rw [hv, hv, hrow j (fun z => ?_) (fun z => ?_)]
        · obtain ⟨rfl, hz⟩ := z
          have hj1 : j = 1 := by omega
          subst hj1
          have e := Option.some.inj hq
          cases e
          exact f2 rfl
        · obtain ⟨rfl, hz⟩ := z
          have hj1 : j = 5 := by omega
          subst hj1
          have e := Option.some.inj hq
          cases e
          exact f2 rfl
  · next h0 =>
    have hh := hne (show t ≠ 0 by show t ≠ 0; rw [show t = 4 from h0]; decide)
    have e : (fun j : Nat => lI (swp σ k j)) = fun j : Nat => lI (σ (prm k) j) := by
      funext j
      rw [hrow j (fun z => hh.1 z.1) (fun z => hh.2 z.1)]
    rw [e]
  · have e : (fun j : Nat => some ((fun i => ad (prm i)) (imT j))) = fun j : Nat => some (ad (imT j)) := by
      funext j
      show some (ad (prm (imT j))) = _
      rw [prm_im]
    rw [e]
  · next t' h0 h4 h5 =>
    have hh := hne (show t ≠ 0 from h0)
    have e : (fun j : Nat => iI (swp σ k j)) = fun j : Nat => iI (σ (prm k) j) := by
      funext j
      rw [hrow j (fun z => hh.1 z.1) (fun z => hh.2 z.1)]
    rw [e]
theorem wl_swp {ad : Nat → Nat} {dA : Nat → ClassId} {D : va_G} {σ : Sg} {H : Heap} (h : va_P D vwCl (wl ad dA σ) H) : va_P D vwCl (wl (fun i => ad (prm i)) dA (swp σ)) H := by
  intro k q hq
  have hk : k < 137 := by
    have h1 := (List.getElem?_eq_some_iff.mp hq).1
    simpa [wl] using h1
  have hs : k < shp.length := by rw [shp_len]; exact hk
  have hsh : shp[k]? = some shp[k] := List.getElem?_eq_getElem hs
  rw [wl_get hsh] at hq
  cases hq
  rw [cell_swp ad dA σ hk hsh]
  exact h (prm k) _ (wl_get (by rw [prm_shp k hk]; exact hsh))
def fixV : MV → Prop
  | .inr (.inr k) => prm k = k
  | _ => True
theorem ren_fix {ad : Nat → Nat} {v : MV} (h : fixV v) : ren (fun i => ad (prm i)) v = ren ad v := by
  rcases v with z | z | k
  · rfl
  · rfl
  · show Value.ref (ad (prm k)) = Value.ref (ad k)
    rw [show prm k = k from h]
theorem okB_swp {σ : Sg} (h : okB σ) : okB (swp σ) := by
  intro k n hk i
  have h1 := shp_lt hk
  have hrow : swp σ k = σ (prm k) := by
    unfold swp
    rw [if_neg (fun z => by subst z; cases Option.some.inj hk), if_neg (fun z => by subst z; cases Option.some.inj hk)]
  rw [hrow]
  exact h (prm k) n (by rw [prm_shp k h1]; exact hk) i
/-- the cells of the two books may be taken for one another -/
theorem V_swp {n0 : Nat} {xs : Nat → Int32} {y : Md} {pc : Nat} {L : Lc} {σ : Sg} {P : Option MV → Prop} (hL0 : ∀ (i : Nat) (v : MV), L[i]? = some (some v) → fixV v) (hP0 : ∀ r, P r → ∀ v ∈ r, fixV v) (h : VP (ΦL n0 xs) y pc L [] (swp σ) (fun r _ => P r)) : VP (ΦL n0 xs) y pc L [] σ (fun r _ => P r) := by
  intro p l e R s m args below meth c A ad dA D cells slots Q X hΦ hR H locs ls hB hP hS hL
  refine h p l e R s m args below meth c A (fun i => ad (prm i)) dA D cells slots Q ?_ hΦ ?_ H locs ls (okB_swp hB) (wl_swp hP) hS ?_
  · obtain ⟨x1, x2, x3, x4, x5, x6, x7, x8, x9, x10, x11⟩ := X
    refine ⟨x1, x2, x3, x4, x5, x6, x7, fun i j hi hj hij => ?_, fun k hk => x9 _ (prm_lt hk), x10, ?_⟩
    rotate_left
    · obtain ⟨y1, y2, y3, y4⟩ := x11
      have e2 : (fun i => (fun i => ad (prm i)) (200 + i)) = fun i => ad (200 + i) := by funext i; show ad (prm (200 + i)) = _; rw [prm_hi (by omega)]
      have e3 : (fun i => (fun i => ad (prm i)) (300 + i)) = fun i => ad (300 + i) := by funext i; show ad (prm (300 + i)) = _; rw [prm_hi (by omega)]
      refine ⟨y1, ?_, fun q hq => ?_, y4⟩
      · rw [e2, e3]; exact y2
      · show vk_R _ _ _ (ad (prm (200 + q.2.2.2))) s
        rw [prm_hi (by omega)]
        exact y3 q hq
    have := x8 _ _ (prm_lt hi) (prm_lt hj) hij
    rw [← prm_prm i, this, prm_prm]
  · intro r σ' H' locs' pc' ls' hp hB' hP' hS' hi
    have hP2 := wl_swp hP'
    have e : (fun i => (fun i => ad (prm i)) (prm i)) = ad := by funext i; show ad (prm (prm i)) = ad i; rw [prm_prm]
    rw [e] at hP2
    have w := hR r (swp σ') H' locs' pc' ls' hp (okB_swp hB') hP2 hS' hi
    have es : r.toList.map (ren fun i => ad (prm i)) = r.toList.map (ren ad) := by
      cases r with
      | none => rfl
      | some v => exact congrArg (fun z => [z]) (ren_fix (hP0 _ hp v rfl))
    rw [es]
    exact w
  · refine ⟨hL.1, hL.2.1, fun i v hv => ?_⟩
    rw [ren_fix (hL0 i v hv)]
    exact hL.2.2 i v hv
theorem Cl2 {y y' : Md} {av av' : List MV} {σ : Sg} {P P' : Int → Int → Sg → Prop} (h : Cl y av σ (pI fun z σ1 => Cl y' av' σ1 (pI fun z2 σ2 => P z z2 σ2))) (hp : ∀ z z2 σ2, P z z2 σ2 → P' z z2 σ2) : Cl y av σ (pI fun z σ1 => Cl y' av' σ1 (pI fun z2 σ2 => P' z z2 σ2)) := by
  refine Cl.mono h ?_
  rintro r σ1 ⟨z, rfl, h1⟩
  refine ⟨z, rfl, Cl.mono h1 ?_⟩
  rintro r2 σ2 ⟨z2, rfl, h2⟩
  exact ⟨z2, rfl, hp _ _ _ h2⟩

def St_feed (Inv : Sg → Prop) : Prop := ∀ (σ : Sg) (a1 a2 : Int), rng a1 → rngL a2 → Inv σ → Cl mX11_feed [vr 0, vi a1, vl a2] σ (pI fun z σ1 => Cl mX12_feed [vr 94, vi a1, vl a2] σ1 (pI fun z2 σ2 => z = z2 ∧ rng z ∧ (Inv σ2 ∨ Inv (swp σ2))))
def St_read (Inv : Sg → Prop) : Prop := ∀ (σ : Sg), Inv σ → Cl mX11_read [vr 0] σ (pI fun z σ1 => Cl mX12_read [vr 94] σ1 (pI fun z2 σ2 => z = z2 ∧ rng z ∧ (Inv σ2 ∨ Inv (swp σ2))))
def St_fault (Inv : Sg → Prop) : Prop := ∀ (σ : Sg), Inv σ → Cl mX11_fault [vr 0] σ (pI fun z σ1 => Cl mX12_fault [vr 94] σ1 (pI fun z2 σ2 => z = z2 ∧ rng z ∧ (Inv σ2 ∨ Inv (swp σ2))))
def St_count (Inv : Sg → Prop) : Prop := ∀ (σ : Sg) (a1 : Int), rng a1 → Inv σ → Cl mX11_count [vr 0, vi a1] σ (pI fun z σ1 => Cl mX12_count [vr 94, vi a1] σ1 (pI fun z2 σ2 => z = z2 ∧ rng z ∧ (Inv σ2 ∨ Inv (swp σ2))))
def St_head (Inv : Sg → Prop) : Prop := ∀ (σ : Sg) (a1 a2 : Int), rng a1 → rng a2 → Inv σ → Cl mX11_head [vr 0, vi a1, vi a2] σ (pI fun z σ1 => Cl mX12_head [vr 94, vi a1, vi a2] σ1 (pI fun z2 σ2 => z = z2 ∧ rng z ∧ (Inv σ2 ∨ Inv (swp σ2))))
def St_name (Inv : Sg → Prop) : Prop := ∀ (σ : Sg) (a1 a2 a3 : Int), rng a1 → rng a2 → rng a3 → Inv σ → Cl mX11_name [vr 0, vi a1, vi a2, vi a3] σ (pI fun z σ1 => Cl mX12_name [vr 94, vi a1, vi a2, vi a3] σ1 (pI fun z2 σ2 => z = z2 ∧ rng z ∧ (Inv σ2 ∨ Inv (swp σ2))))
def St_mark (Inv : Sg → Prop) : Prop := ∀ (σ : Sg) (a1 a2 : Int), rng a1 → rng a2 → Inv σ → Cl mX11_mark [vr 0, vi a1, vi a2] σ (pI fun z σ1 => Cl mX12_mark [vr 94, vi a1, vi a2] σ1 (pI fun z2 σ2 => z = z2 ∧ rng z ∧ (Inv σ2 ∨ Inv (swp σ2))))
def St_add (Inv : Sg → Prop) : Prop := ∀ (σ : Sg) (a1 a2 a3 a4 a5 : Int), rng a1 → rng a2 → rng a3 → rng a4 → (a5 = 0 ∨ a5 = 1) → Inv σ → Cl mX11_add [vr 0, vi a1, vi a2, vi a3, vi a4, vi a5] σ (pI fun z σ1 => Cl mX12_add [vr 94, vi a1, vi a2, vi a3, vi a4, vi a5] σ1 (pI fun z2 σ2 => z = z2 ∧ rng z ∧ (Inv σ2 ∨ Inv (swp σ2))))
def St_drop (Inv : Sg → Prop) : Prop := ∀ (σ : Sg) (a1 : Int), rng a1 → Inv σ → Cl mX11_drop [vr 0, vi a1] σ (pI fun z σ1 => Cl mX12_drop [vr 94, vi a1] σ1 (pI fun z2 σ2 => z = z2 ∧ rng z ∧ (Inv σ2 ∨ Inv (swp σ2))))
def St_asked (Inv : Sg → Prop) : Prop := ∀ (σ : Sg) (a1 a2 : Int), rng a1 → rng a2 → Inv σ → Cl mX11_asked [vr 0, vi a1, vi a2] σ (pI fun z σ1 => Cl mX12_asked [vr 94, vi a1, vi a2] σ1 (pI fun z2 σ2 => z = z2 ∧ rng z ∧ (Inv σ2 ∨ Inv (swp σ2))))
def St_run (Inv : Sg → Prop) : Prop := ∀ (σ : Sg) (a1 a2 a3 a4 : Int), rng a1 → rng a2 → rng a3 → rng a4 → Inv σ → Cl mX11_run [vr 0, vi a1, vi a2, vi a3, vi a4] σ (pI fun z σ1 => Cl mX12_run [vr 94, vi a1, vi a2, vi a3, vi a4] σ1 (pI fun z2 σ2 => z = z2 ∧ rng z ∧ (Inv σ2 ∨ Inv (swp σ2))))
def St_order (Inv : Sg → Prop) : Prop := ∀ (σ : Sg) (a1 : Int), rng a1 → Inv σ → Cl mX11_order [vr 0, vi a1] σ (pI fun z σ1 => Cl mX12_order [vr 94, vi a1] σ1 (pI fun z2 σ2 => z = z2 ∧ rng z ∧ (Inv σ2 ∨ Inv (swp σ2))))
def St_at (Inv : Sg → Prop) : Prop := ∀ (σ : Sg) (a1 : Int), rng a1 → Inv σ → Cl mX11_at [vr 0, vi a1] σ (pI fun z σ1 => Cl mX12_at [vr 94, vi a1] σ1 (pI fun z2 σ2 => z = z2 ∧ rng z ∧ (Inv σ2 ∨ Inv (swp σ2))))
def St_subAt (Inv : Sg → Prop) : Prop := ∀ (σ : Sg) (a1 a2 : Int), rng a1 → rng a2 → Inv σ → Cl mX11_subAt [vr 0, vi a1, vi a2] σ (pI fun z σ1 => Cl mX12_subAt [vr 94, vi a1, vi a2] σ1 (pI fun z2 σ2 => z = z2 ∧ rng z ∧ (Inv σ2 ∨ Inv (swp σ2))))
def St_width (Inv : Sg → Prop) : Prop := ∀ (σ : Sg) (a1 : Int), rng a1 → Inv σ → Cl mX11_width [vr 0, vi a1] σ (pI fun z σ1 => Cl mX12_width [vr 94, vi a1] σ1 (pI fun z2 σ2 => z = z2 ∧ rng z ∧ (Inv σ2 ∨ Inv (swp σ2))))
def St_print (Inv : Sg → Prop) : Prop := ∀ (σ : Sg) (a1 : Int), rng a1 → Inv σ → Cl mX11_print [vr 0, vi a1] σ (pI fun z σ1 => Cl mX12_print [vr 94, vi a1] σ1 (pI fun z2 σ2 => z = z2 ∧ rng z ∧ (Inv σ2 ∨ Inv (swp σ2))))
def St_look (Inv : Sg → Prop) : Prop := ∀ (σ : Sg) (a1 a2 : Int), rng a1 → rng a2 → Inv σ → Cl mX11_look [vr 0, vi a1, vi a2] σ (pI fun z σ1 => Cl mX12_look [vr 94, vi a1, vi a2] σ1 (pI fun z2 σ2 => z = z2 ∧ rng z ∧ (Inv σ2 ∨ Inv (swp σ2))))
def St_steps (Inv : Sg → Prop) : Prop := ∀ (σ : Sg) (a1 a2 : Int), rng a1 → rng a2 → Inv σ → Cl mX11_steps [vr 0, vi a1, vi a2] σ (pI fun z σ1 => Cl mX12_steps [vr 94, vi a1, vi a2] σ1 (pI fun z2 σ2 => z = z2 ∧ rng z ∧ (Inv σ2 ∨ Inv (swp σ2))))
def St_finds (Inv : Sg → Prop) : Prop := ∀ (σ : Sg) (a1 a2 : Int), rng a1 → rng a2 → Inv σ → Cl mX11_finds [vr 0, vi a1, vi a2] σ (pI fun z σ1 => Cl mX12_finds [vr 94, vi a1, vi a2] σ1 (pI fun z2 σ2 => z = z2 ∧ rng z ∧ (Inv σ2 ∨ Inv (swp σ2))))
def St_trouble (Inv : Sg → Prop) : Prop := ∀ (σ : Sg) (a1 a2 : Int), rng a1 → rng a2 → Inv σ → Cl mX11_trouble [vr 0, vi a1, vi a2] σ (pI fun z σ1 => Cl mX12_trouble [vr 94, vi a1, vi a2] σ1 (pI fun z2 σ2 => z = z2 ∧ rng z ∧ (Inv σ2 ∨ Inv (swp σ2))))
def St_posted (Inv : Sg → Prop) : Prop := ∀ (σ : Sg) (a1 : Int), rng a1 → Inv σ → Cl mX11_posted [vr 0, vi a1] σ (pI fun z σ1 => Cl mX12_posted [vr 94, vi a1] σ1 (pI fun z2 σ2 => z = z2 ∧ rng z ∧ (Inv σ2 ∨ Inv (swp σ2))))
def St_posting (Inv : Sg → Prop) : Prop := ∀ (σ : Sg) (a1 a2 : Int), rng a1 → rng a2 → Inv σ → Cl mX11_posting [vr 0, vi a1, vi a2] σ (pI fun z σ1 => Cl mX12_posting [vr 94, vi a1, vi a2] σ1 (pI fun z2 σ2 => z = z2 ∧ rng z ∧ (Inv σ2 ∨ Inv (swp σ2))))
def St_fit (Inv : Sg → Prop) : Prop := ∀ (σ : Sg) (a1 a2 : Int), rng a1 → rng a2 → Inv σ → Cl mX11_fit [vr 0, vi a1, vi a2] σ (pI fun z σ1 => Cl mX12_fit [vr 94, vi a1, vi a2] σ1 (pI fun z2 σ2 => z = z2 ∧ rng z ∧ (Inv σ2 ∨ Inv (swp σ2))))
def St_putIn (Inv : Sg → Prop) : Prop := ∀ (σ : Sg) (a1 a2 : Int), rng a1 → rng a2 → Inv σ → Cl mX11_putIn [vr 0, vi a1, vi a2] σ (pI fun z σ1 => Cl mX12_putIn [vr 94, vi a1, vi a2] σ1 (pI fun z2 σ2 => z = z2 ∧ rng z ∧ (Inv σ2 ∨ Inv (swp σ2))))
def St_takeOut (Inv : Sg → Prop) : Prop := ∀ (σ : Sg) (a1 a2 : Int), rng a1 → rng a2 → Inv σ → Cl mX11_takeOut [vr 0, vi a1, vi a2] σ (pI fun z σ1 => Cl mX12_takeOut [vr 94, vi a1, vi a2] σ1 (pI fun z2 σ2 => z = z2 ∧ rng z ∧ (Inv σ2 ∨ Inv (swp σ2))))
def St_stale (Inv : Sg → Prop) : Prop := ∀ (σ : Sg) (a1 : Int), rng a1 → Inv σ → Cl mX11_stale [vr 0, vi a1] σ (pI fun z σ1 => Cl mX12_stale [vr 94, vi a1] σ1 (pI fun z2 σ2 => z = z2 ∧ rng z ∧ (Inv σ2 ∨ Inv (swp σ2))))
def St_saw (Inv : Sg → Prop) : Prop := ∀ (σ : Sg) (a1 a2 : Int), rng a1 → rng a2 → Inv σ → Cl mX11_saw [vr 0, vi a1, vi a2] σ (pI fun z σ1 => Cl mX12_saw [vr 94, vi a1, vi a2] σ1 (pI fun z2 σ2 => z = z2 ∧ rng z ∧ (Inv σ2 ∨ Inv (swp σ2))))
def St_forget (Inv : Sg → Prop) : Prop := ∀ (σ : Sg), Inv σ → Cl mX11_forget [vr 0] σ (pI fun z σ1 => Cl mX12_forget [vr 94] σ1 (pI fun z2 σ2 => z = z2 ∧ rng z ∧ (Inv σ2 ∨ Inv (swp σ2))))
def St_story (Inv : Sg → Prop) : Prop := ∀ (σ : Sg) (a1 a2 : Int), rng a1 → rng a2 → Inv σ → Cl mX11_story [vr 0, vi a1, vi a2] σ (pI fun z σ1 => Cl mX12_story [vr 94, vi a1, vi a2] σ1 (pI fun z2 σ2 => z = z2 ∧ rng z ∧ (Inv σ2 ∨ Inv (swp σ2))))
def St_near (Inv : Sg → Prop) : Prop := ∀ (σ : Sg) (a1 a2 : Int), rng a1 → rng a2 → Inv σ → Cl mX11_near [vr 0, vi a1, vi a2] σ (pI fun z σ1 => Cl mX12_near [vr 94, vi a1, vi a2] σ1 (pI fun z2 σ2 => z = z2 ∧ rng z ∧ (Inv σ2 ∨ Inv (swp σ2))))
def St_join (Inv : Sg → Prop) : Prop := ∀ (σ : Sg) (a1 a2 : Int), rng a1 → rng a2 → Inv σ → Cl mX11_join [vr 0, vi a1, vi a2] σ (pI fun z σ1 => Cl mX12_join [vr 94, vi a1, vi a2] σ1 (pI fun z2 σ2 => z = z2 ∧ rng z ∧ (Inv σ2 ∨ Inv (swp σ2))))
def St_keep (Inv : Sg → Prop) : Prop := ∀ (σ : Sg) (a1 : Int), rng a1 → Inv σ → Cl mX11_keep [vr 0, vi a1] σ (pI fun z σ1 => Cl mX12_keep [vr 94, vi a1] σ1 (pI fun z2 σ2 => z = z2 ∧ rng z ∧ (Inv σ2 ∨ Inv (swp σ2))))
def St_goBack (Inv : Sg → Prop) : Prop := ∀ (σ : Sg) (a1 : Int), rng a1 → Inv σ → Cl mX11_goBack [vr 0, vi a1] σ (pI fun z σ1 => Cl mX12_goBack [vr 94, vi a1] σ1 (pI fun z2 σ2 => z = z2 ∧ rng z ∧ (Inv σ2 ∨ Inv (swp σ2))))
set_option maxRecDepth 100000 in
theorem law_loop {Inv : Sg → Prop} {n0 : Nat} {xs : Nat → Int32} (hn0 : n0 ≤ 3072) (s0 : St_feed Inv) (s1 : St_read Inv) (s2 : St_fault Inv) (s3 : St_count Inv) (s4 : St_head Inv) (s5 : St_name Inv) (s6 : St_mark Inv) (s7 : St_add Inv) (s8 : St_drop Inv) (s9 : St_asked Inv) (s10 : St_run Inv) (s11 : St_order Inv) (s12 : St_at Inv) (s13 : St_subAt Inv) (s14 : St_width Inv) (s15 : St_print Inv) (s16 : St_look Inv) (s17 : St_steps Inv) (s18 : St_finds Inv) (s19 : St_trouble Inv) (s20 : St_posted Inv) (s21 : St_posting Inv) (s22 : St_fit Inv) (s23 : St_putIn Inv) (s24 : St_takeOut Inv) (s25 : St_stale Inv) (s26 : St_saw Inv) (s27 : St_forget Inv) (s28 : St_story Inv) (s29 : St_near Inv) (s30 : St_join Inv) (s31 : St_keep Inv) (s32 : St_goBack Inv) : ∀ (n : Nat) (x3 : Int) (σ : Sg), (n0 : Int) - x3 ≤ n → 0 ≤ x3 → x3 ≤ 3100 → Inv σ ∨ Inv (swp σ) → VP (ΦL n0 xs) mL 18 [some (vr 500), some (vr 0), some (vr 94), some (vi x3)] [] σ (fun r _ => r = some (vi 1)) := by
  intro n
  induction n with
  | zero =>
    intro x3 σ hn h0 h1 hI
    refine BL_law_18 (by omega) ⟨⟨by omega, by omega⟩, ⟨by omega, by omega⟩, fun _ => rfl, fun q => ?_⟩
    omega
  | succ n ih =>
    have main : ∀ (x3 : Int) (σ : Sg), (n0 : Int) - x3 ≤ ((n + 1 : Nat) : Int) → 0 ≤ x3 → x3 ≤ 3100 → Inv σ → VP (ΦL n0 xs) mL 18 [some (vr 500), some (vr 0), some (vr 94), some (vi x3)] [] σ (fun r _ => r = some (vi 1)) := by
      intro x3 σ hn h0 h1 hI
      refine BL_law_18 (by omega) ⟨⟨by omega, by omega⟩, ⟨by omega, by omega⟩, fun _ => rfl, fun q => ?_⟩
      refine ⟨by omega, fun _ => ih (x3 + 6) σ (by omega) (by omega) (by omega) (Or.inl hI), ?_⟩
      have nxt : ∀ (z z2 : Int) (σ2 : Sg), (z = z2 ∧ rng z ∧ (Inv σ2 ∨ Inv (swp σ2))) → (rng z) ∧ ((rng z2) ∧ ((z = z2 → VP (ΦL n0 xs) mL 18 [some (vr 500), some (vr 0), some (vr 94), some (vi (x3 + 6))] [] σ2 (fun r _ => r = some (vi 1))) ∧ (¬ z = z2 → (fun (r : Option MV) (_ : Sg) => r = some (vi 1)) (some (vi 0)) σ2))) := by
        rintro z z2 σ2 ⟨rfl, hz, hI2⟩
        exact ⟨hz, hz, fun _ => ih (x3 + 6) σ2 (by omega) (by omega) (by omega) hI2, fun w => absurd rfl w⟩
      refine ⟨?_, ?_, ?_, ?_, ?_, ?_, ?_, ?_, ?_, ?_, ?_, ?_, ?_, ?_, ?_, ?_, ?_, ?_, ?_, ?_, ?_, ?_, ?_, ?_, ?_, ?_, ?_, ?_, ?_, ?_, ?_, ?_, ?_⟩
      · intro _
        repeat (refine ⟨by first | exact sx_rng _ _ | omega, ?_⟩)
        exact Cl2 (s0 σ _ _ (sx_rng _ _) (rngL_of _) hI) nxt
      · intro _
        repeat (refine ⟨by first | exact sx_rng _ _ | omega, ?_⟩)
        exact Cl2 (s1 σ  hI) nxt
      · intro _
        repeat (refine ⟨by first | exact sx_rng _ _ | omega, ?_⟩)
        exact Cl2 (s2 σ  hI) nxt
      · intro _
        repeat (refine ⟨by first | exact sx_rng _ _ | omega, ?_⟩)
        exact Cl2 (s3 σ _ (sx_rng _ _) hI) nxt
      · intro _
        repeat (refine ⟨by first | exact sx_rng _ _ | omega, ?_⟩)
        exact Cl2 (s4 σ _ _ (sx_rng _ _) (sx_rng _ _) hI) nxt
      · intro _
        repeat (refine ⟨by first | exact sx_rng _ _ | omega, ?_⟩)
        exact Cl2 (s5 σ _ _ _ (sx_rng _ _) (sx_rng _ _) (sx_rng _ _) hI) nxt
      · intro _
        repeat (refine ⟨by first | exact sx_rng _ _ | omega, ?_⟩)
        exact Cl2 (s6 σ _ _ (sx_rng _ _) (sx_rng _ _) hI) nxt
      · intro _
        repeat (refine ⟨by first | exact sx_rng _ _ | omega, ?_⟩)
        refine ⟨fun q => ?_, fun q => ?_⟩
        · refine Cl.mono (s7 σ _ _ _ _ 0 (sx_rng _ _) (sx_rng _ _) (sx_rng _ _) (sx_rng _ _) (by decide) hI) ?_
          rintro r σ1 ⟨z, rfl, g1⟩
          refine ⟨z, rfl, fun _ => ?_, fun w => absurd q w⟩
          refine Cl.mono g1 ?_
          rintro r2 σ2 ⟨z2, rfl, g2⟩
          exact ⟨z2, rfl, nxt _ _ _ g2⟩
        · refine Cl.mono (s7 σ _ _ _ _ 1 (sx_rng _ _) (sx_rng _ _) (sx_rng _ _) (sx_rng _ _) (by decide) hI) ?_
          rintro r σ1 ⟨z, rfl, g1⟩
          refine ⟨z, rfl, fun w => absurd w q, fun _ => ?_⟩
          refine Cl.mono g1 ?_
          rintro r2 σ2 ⟨z2, rfl, g2⟩
          exact ⟨z2, rfl, nxt _ _ _ g2⟩
      · intro _
        repeat (refine ⟨by first | exact sx_rng _ _ | omega, ?_⟩)
        exact Cl2 (s8 σ _ (sx_rng _ _) hI) nxt
      · intro _
        repeat (refine ⟨by first | exact sx_rng _ _ | omega, ?_⟩)
        exact Cl2 (s9 σ _ _ (sx_rng _ _) (sx_rng _ _) hI) nxt
      · intro _
        repeat (refine ⟨by first | exact sx_rng _ _ | omega, ?_⟩)
        exact Cl2 (s10 σ _ _ _ _ (sx_rng _ _) (sx_rng _ _) (sx_rng _ _) (sx_rng _ _) hI) nxt
      · intro _
        repeat (refine ⟨by first | exact sx_rng _ _ | omega, ?_⟩)
        exact Cl2 (s11 σ _ (sx_rng _ _) hI) nxt
      · intro _
        repeat (refine ⟨by first | exact sx_rng _ _ | omega, ?_⟩)
        exact Cl2 (s12 σ _ (sx_rng _ _) hI) nxt
      · intro _
        repeat (refine ⟨by first | exact sx_rng _ _ | omega, ?_⟩)
        exact Cl2 (s13 σ _ _ (sx_rng _ _) (sx_rng _ _) hI) nxt
      · intro _
        repeat (refine ⟨by first | exact sx_rng _ _ | omega, ?_⟩)
        exact Cl2 (s14 σ _ (sx_rng _ _) hI) nxt
      · intro _
        repeat (refine ⟨by first | exact sx_rng _ _ | omega, ?_⟩)
        exact Cl2 (s15 σ _ (sx_rng _ _) hI) nxt
      · intro _
        repeat (refine ⟨by first | exact sx_rng _ _ | omega, ?_⟩)
        exact Cl2 (s16 σ _ _ (sx_rng _ _) (sx_rng _ _) hI) nxt
      · intro _
        repeat (refine ⟨by first | exact sx_rng _ _ | omega, ?_⟩)
        exact Cl2 (s17 σ _ _ (sx_rng _ _) (sx_rng _ _) hI) nxt
      · intro _
        repeat (refine ⟨by first | exact sx_rng _ _ | omega, ?_⟩)
        exact Cl2 (s18 σ _ _ (sx_rng _ _) (sx_rng _ _) hI) nxt
      · intro _
        repeat (refine ⟨by first | exact sx_rng _ _ | omega, ?_⟩)
        exact Cl2 (s19 σ _ _ (sx_rng _ _) (sx_rng _ _) hI) nxt
      · intro _
        repeat (refine ⟨by first | exact sx_rng _ _ | omega, ?_⟩)
        exact Cl2 (s20 σ _ (sx_rng _ _) hI) nxt
      · intro _
        repeat (refine ⟨by first | exact sx_rng _ _ | omega, ?_⟩)
        exact Cl2 (s21 σ _ _ (sx_rng _ _) (sx_rng _ _) hI) nxt
      · intro _
        repeat (refine ⟨by first | exact sx_rng _ _ | omega, ?_⟩)
        exact Cl2 (s22 σ _ _ (sx_rng _ _) (sx_rng _ _) hI) nxt
      · intro _
        repeat (refine ⟨by first | exact sx_rng _ _ | omega, ?_⟩)
        exact Cl2 (s23 σ _ _ (sx_rng _ _) (sx_rng _ _) hI) nxt
      · intro _
        repeat (refine ⟨by first | exact sx_rng _ _ | omega, ?_⟩)
        exact Cl2 (s24 σ _ _ (sx_rng _ _) (sx_rng _ _) hI) nxt
      · intro _
        repeat (refine ⟨by first | exact sx_rng _ _ | omega, ?_⟩)
        exact Cl2 (s25 σ _ (sx_rng _ _) hI) nxt
      · intro _
        repeat (refine ⟨by first | exact sx_rng _ _ | omega, ?_⟩)
        exact Cl2 (s26 σ _ _ (sx_rng _ _) (sx_rng _ _) hI) nxt
      · intro _
        repeat (refine ⟨by first | exact sx_rng _ _ | omega, ?_⟩)
        exact Cl2 (s27 σ  hI) nxt
      · intro _
        repeat (refine ⟨by first | exact sx_rng _ _ | omega, ?_⟩)
        exact Cl2 (s28 σ _ _ (sx_rng _ _) (sx_rng _ _) hI) nxt
      · intro _
        repeat (refine ⟨by first | exact sx_rng _ _ | omega, ?_⟩)
        exact Cl2 (s29 σ _ _ (sx_rng _ _) (sx_rng _ _) hI) nxt
      · intro _
        repeat (refine ⟨by first | exact sx_rng _ _ | omega, ?_⟩)
        exact Cl2 (s30 σ _ _ (sx_rng _ _) (sx_rng _ _) hI) nxt
      · intro _
        repeat (refine ⟨by first | exact sx_rng _ _ | omega, ?_⟩)
        exact Cl2 (s31 σ _ (sx_rng _ _) hI) nxt
      · intro _
        repeat (refine ⟨by first | exact sx_rng _ _ | omega, ?_⟩)
        exact Cl2 (s32 σ _ (sx_rng _ _) hI) nxt
    intro x3 σ hn h0 h1 hI
    rcases hI with hI | hI
    · exact main x3 σ hn h0 h1 hI
    · refine V_swp (P := fun r => r = some (vi 1)) ?_ ?_ (main x3 (swp σ) hn h0 h1 hI)
      · intro i v hv
        rcases i with _ | _ | _ | _ | i
        · cases hv; rfl
        · cases hv; rfl
        · cases hv; rfl
        · cases hv; trivial
        · simp at hv
      · rintro r rfl v hv
        cases hv
        trivial
