/-! ===== PURE HALF, by hand: the invariant kept; small methods; the small steps ===== -/
def ic (k : Nat) : Prop := k = 0 ∨ k = 3 ∨ k = 4 ∨ (5 ≤ k ∧ k ≤ 40) ∨ (90 ≤ k ∧ k ≤ 92) ∨ (95 ≤ k ∧ k ≤ 106) ∨ k = 118 ∨ k = 119 ∨ (122 ≤ k ∧ k ≤ 135)
def jc : List Int := [0, 7, 14, 19, 27, 28, 47]
theorem kv_congr {σ σ' : Sg} (i : Int) (h : ∀ k, 122 ≤ k → k ≤ 135 → σ' k = σ k) : kv σ' i = kv σ i := by
  funext j
  rcases j with _ | _ | _ | _ | _ | _ | _ | j
  · show (fun x => if x = 0 then σ' 122 i else σ' 129 i) = fun x => if x = 0 then σ 122 i else σ 129 i
    rw [h 122 (by decide) (by decide), h 129 (by decide) (by decide)]
  · show (fun y => σ' 123 (16 * i + y)) = fun y => σ 123 (16 * i + y)
    rw [h 123 (by decide) (by decide)]
  · show (fun y => σ' 124 (112 * i + y)) = fun y => σ 124 (112 * i + y)
    rw [h 124 (by decide) (by decide)]
  · show (fun y => σ' 125 (1344 * i + y)) = fun y => σ 125 (1344 * i + y)
    rw [h 125 (by decide) (by decide)]
  · show (fun y => σ' 126 (16 * i + y)) = fun y => σ 126 (16 * i + y)
    rw [h 126 (by decide) (by decide)]
  · show (fun y => σ' 127 (16 * i + y)) = fun y => σ 127 (16 * i + y)
    rw [h 127 (by decide) (by decide)]
  · show (fun y => σ' 128 (16 * i + y)) = fun y => σ 128 (16 * i + y)
    rw [h 128 (by decide) (by decide)]
  · show (if j + 7 < 12 then (fun y => σ' (j + 7 + 123) (60 * i + y)) else fun _ => 0) = if j + 7 < 12 then (fun y => σ (j + 7 + 123) (60 * i + y)) else fun _ => 0
    by_cases q : j + 7 < 12
    · rw [if_pos q, if_pos q, h _ (by omega) (by omega)]
    · rw [if_neg q, if_neg q]
theorem TxOK.co {σ σ' : Sg} (h : TxOK σ) (h3 : σ' 3 0 = σ 3 0) (h94 : σ' 94 14 = σ 94 14) (h4 : σ' 4 = σ 4) (h6 : σ' 106 = σ 106) : TxOK σ' := by
  unfold TxOK
  rw [h3, h94, h4, h6]
  exact h
theorem PaOK.co {σ σ' : Sg} (h : PaOK σ) (h0 : σ' 90 0 = σ 90 0) (h94 : σ' 94 47 = σ 94 47) (h1 : σ' 91 = σ 91) (h2 : σ' 92 = σ 92) (h3 : σ' 118 = σ 118) (h4 : σ' 119 = σ 119) : PaOK σ' := by
  unfold PaOK
  rw [h0, h94, h1, h2, h3, h4]
  exact h
theorem ImOK.co {σ σ' : Sg} {k : Nat} {i : Int} (h : ImOK σ k i) (h0 : ∀ j, j < 12 → σ' (k + j) = σ (k + j)) (h1 : ∀ k, 122 ≤ k → k ≤ 135 → σ' k = σ k) : ImOK σ' k i := by
  unfold ImOK
  rw [kv_congr i h1, h1 135 (by decide) (by decide), bk_congr (σ := σ) (σ' := σ') (k := k) (k' := k) (congrFun (h0 0 (by decide)) 0) (congrFun (h0 0 (by decide)) 7) (fun j _ h2 => h0 j h2), show σ' k = σ k from h0 0 (by decide)]
  exact h
theorem PrOK.co {σ σ' : Sg} (h : PrOK σ) (h0 : σ' 0 3 = σ 0 3 ∧ σ' 0 4 = σ 0 4) (h1 : σ' 1 = σ 1) (h5 : bk σ' 5 = bk σ 5) (h53 : σ' 53 2 = σ 53 2) (h55 : σ' 55 = σ 55) (h64 : σ' 64 1 = σ 64 1 ∧ σ' 64 2 = σ 64 2) (h65 : σ' 65 = σ 65) : PrOK σ' := by
  have e : σ' 5 0 = σ 5 0 := congrFun (congrFun h5 0) 0
  unfold PrOK
  rw [h0.1, h0.2, h1, h5, h53, h55, h64.1, h64.2, h65, e]
  exact h
theorem bk5 {σ σ' : Sg} (hc : ∀ k, 5 ≤ k → k ≤ 16 → σ' k = σ k) : bk σ' 5 = bk σ 5 :=
  bk_congr (congrFun (hc 5 (by decide) (by decide)) 0) (congrFun (hc 5 (by decide) (by decide)) 7) (fun j _ _ => hc _ (by omega) (by omega))
theorem bk94 {σ σ' : Sg} (h0 : σ' 94 0 = σ 94 0) (h7 : σ' 94 7 = σ 94 7) (hc : ∀ k, 95 ≤ k → k ≤ 105 → σ' k = σ k) : bk σ' 94 = bk σ 94 :=
  bk_congr h0 h7 (fun j _ _ => hc _ (by omega) (by omega))
theorem Inv.keep {σ σ' : Sg} (h : Inv σ) (hc : ∀ k, ic k → σ' k = σ k) (hj : ∀ j, j ∈ jc → σ' 94 j = σ 94 j) (hp : σ 0 9 = 1 → PrOK σ → PrOK σ') : Inv σ' := by
  obtain ⟨h1, h2, h3, ⟨h4, h5⟩, ⟨h6, h7⟩, h8⟩ := h
  have e0 := hc 0 (by unfold ic; omega)
  have e3 := hc 3 (by unfold ic; omega)
  have e4 := hc 4 (by unfold ic; omega)
  have b5 : bk σ' 5 = bk σ 5 := bk5 (fun k a b => hc k (by unfold ic; omega))
  have b94 : bk σ' 94 = bk σ 94 := bk94 (hj 0 (by decide)) (hj 7 (by decide)) (fun k a b => hc k (by unfold ic; omega))
  refine ⟨?_, h2.co (by rw [e3]) (hj 14 (by decide)) e4 (hc 106 (by unfold ic; omega)), h3.co (by rw [hc 90 (by unfold ic; omega)]) (hj 47 (by decide)) (hc 91 (by unfold ic; omega)) (hc 92 (by unfold ic; omega)) (hc 118 (by unfold ic; omega)) (hc 119 (by unfold ic; omega)), ⟨by rw [b5]; exact h4, by rw [b5, b94]; exact h5⟩, ⟨h6.co (fun j hj => hc _ (by unfold ic; omega)) (fun k a b => hc k (by unfold ic; omega)), h7.co (fun j hj => hc _ (by unfold ic; omega)) (fun k a b => hc k (by unfold ic; omega))⟩, ?_⟩
  · unfold ScOK
    rw [e0, e3, hj 19 (by decide), hj 27 (by decide), hj 28 (by decide)]
    exact h1
  · rw [e0]
    exact fun q => hp q (h8 q)
/-- what a query may change -/
theorem Inv.fr {σ σ1 σ2 : Sg} {M N : List Nat} {J : List Int} (h : Inv σ) (h1 : Fr M σ σ1) (h2 : FrJ N J σ1 σ2) (hM : ∀ k ∈ M, ¬ ic k ∧ k ≠ 94 ∧ k ≠ 1 ∧ k ≠ 53 ∧ k ≠ 55 ∧ k ≠ 64 ∧ k ≠ 65) (hN : ∀ k ∈ N, ¬ ic k ∧ 94 < k) (hJ : ∀ j ∈ J, j ∉ jc) : Inv σ2 := by
  have key : ∀ k, k ≠ 94 → (ic k ∨ k = 1 ∨ k = 53 ∨ k = 55 ∨ k = 64 ∨ k = 65) → σ2 k = σ k := by
    intro k h94 hk
    have a1 : k ∉ M := fun hm => by
      have := hM k hm
      rcases hk with hk | hk | hk | hk | hk | hk
      · exact this.1 hk
      all_goals omega
    have a2 : k ∉ N := fun hn => by
      have := hN k hn
      rcases hk with hk | hk | hk | hk | hk | hk
      · exact this.1 hk
      all_goals omega
    rw [h2.1 k a2 h94, h1 k a1]
  have i94 : ∀ k, ic k → k ≠ 94 := fun k hk => by unfold ic at hk; omega
  refine h.keep (fun k hk => key k (i94 k hk) (Or.inl hk)) (fun j hj => ?_) (fun q hp => ?_)
  · rw [h2.2 j (fun z => hJ j z hj), h1 94 (fun hm => (hM 94 hm).2.1 rfl)]
  · have k0 := key 0 (by decide) (Or.inl (by unfold ic; omega))
    have k64 := key 64 (by decide) (by omega)
    exact hp.co ⟨by rw [k0], by rw [k0]⟩ (key 1 (by decide) (by omega)) (bk5 (fun k a b => key k (by omega) (Or.inl (by unfold ic; omega)))) (by rw [key 53 (by decide) (by omega)]) (key 55 (by decide) (by omega)) ⟨by rw [k64], by rw [k64]⟩ (key 65 (by decide) (by omega))
/-! answers of yes and no -/
theorem b1 {A B : Prop} (h : A) : rng 1 ∧ (¬ (1 : Int) = 0 → A) ∧ ((1 : Int) = 0 → B) := ⟨by decide, fun _ => h, fun q => absurd q (by decide)⟩
theorem b1' {A B : Prop} (h : A) : rng 1 ∧ ((1 : Int) = 0 → B) ∧ (¬ (1 : Int) = 0 → A) := ⟨by decide, fun q => absurd q (by decide), fun _ => h⟩
theorem b0 {A B : Prop} (h : B) : rng 0 ∧ (¬ (0 : Int) = 0 → A) ∧ ((0 : Int) = 0 → B) := ⟨by decide, fun q => absurd rfl q, fun _ => h⟩
theorem b0' {A B : Prop} (h : B) : rng 0 ∧ ((0 : Int) = 0 → B) ∧ (¬ (0 : Int) = 0 → A) := ⟨by decide, fun _ => h, fun q => absurd rfl q⟩
theorem c_hasHead {σ : Sg} {post : Po} {k : Nat} {h : Int} (hk : shp[k]? = some (0, 0, 14)) (rh : rng h) (rn : rng (σ k 0)) (ht : 0 ≤ h → h < σ k 0 → post (some (vi 1)) σ) (hf : ¬ (0 ≤ h ∧ h < σ k 0) → post (some (vi 0)) σ) : Cl mX0_hasHead [vr k, vi h] σ post :=
  EX0_hasHead hk ⟨rh, fun q => hf (by omega), fun q => ⟨rn, fun q2 => hf (by omega), fun q2 => ht (by omega) (by omega)⟩⟩
theorem c_hasMark {σ : Sg} {post : Po} {k : Nat} {h : Int} (hk : shp[k]? = some (0, 0, 14)) (rh : rng h) (rn : rng (σ k 7)) (ht : 0 ≤ h → h < σ k 7 → post (some (vi 1)) σ) (hf : ¬ (0 ≤ h ∧ h < σ k 7) → post (some (vi 0)) σ) : Cl mX0_hasMark [vr k, vi h] σ post :=
  EX0_hasMark hk ⟨rh, fun q => hf (by omega), fun q => ⟨rn, fun q2 => hf (by omega), fun q2 => ht (by omega) (by omega)⟩⟩
theorem c_hasEntry {σ : Sg} {post : Po} {k : Nat} {h s : Int} (hk : shp[k]? = some (0, 0, 14)) (rh : rng h) (rs : rng s) (hW : WfB (bk σ k)) (ht : 0 ≤ h → h < σ k 0 → -1 ≤ s → s < σ (k + 2) h → post (some (vi 1)) σ) (hf : ¬ ((0 ≤ h ∧ h < σ k 0) ∧ -1 ≤ s ∧ s < σ (k + 2) h) → post (some (vi 0)) σ) : Cl mX0_hasEntry [vr k, vi h, vi s] σ post := by
  have w := Wb_heads hW
  refine EX0_hasEntry hk (c_hasHead hk rh (by omega) (fun a b => ⟨_, rfl, b1' ?_⟩) (fun q => ⟨_, rfl, b0' (hf (fun z => q z.1))⟩))
  have := Wb_subs hW a b
  exact ⟨rs, fun q => hf (by omega), fun q => ⟨by omega, by omega, fun q2 => hf (by omega), fun q2 => ht a b (by omega) (by omega)⟩⟩
theorem c_wordOf {σ : Sg} {post : Po} {k : Nat} {h s : Int} (hk : shp[k]? = some (0, 0, 14)) (hW : WfB (bk σ k)) (h0 : 0 ≤ h) (h1 : h < σ k 0) (s0 : -1 ≤ s) (s1 : s < σ (k + 2) h) (hp : post (some (vl (ew (bk σ k) h s))) σ) : Cl mX0_wordOf [vr k, vi h, vi s] σ post := by
  have w := Wb_heads hW
  have w2 := Wb_subs hW h0 h1
  unfold ew at hp
  refine EX0_wordOf hk ⟨by omega, fun q => ⟨by omega, ?_⟩, fun q => ⟨by omega, ?_⟩⟩
  · rw [if_neg q] at hp; exact hp
  · rw [if_pos q] at hp; exact hp
theorem c_isPage {σ : Sg} {post : Po} {p : Int} (rp : rng p) (ht : 1 ≤ p → p ≤ 99 → post (some (vi 1)) σ) (hf : ¬ (1 ≤ p ∧ p ≤ 99) → post (some (vi 0)) σ) : Cl mX11_isPage [vi p] σ post :=
  EX11_isPage ⟨rp, fun q => hf (by omega), fun q => ⟨fun q2 => hf (by omega), fun q2 => ht (by omega) (by omega)⟩⟩
theorem c_isImage {σ : Sg} {post : Po} {p : Int} (rp : rng p) (ht : 0 ≤ p → p < 2 → post (some (vi 1)) σ) (hf : ¬ (0 ≤ p ∧ p < 2) → post (some (vi 0)) σ) : Cl mX11_isImage [vi p] σ post :=
  EX11_isImage ⟨rp, fun q => hf (by omega), fun q => ⟨fun q2 => hf (by omega), fun q2 => ht (by omega) (by omega)⟩⟩
theorem c_isIn {σ : Sg} {post : Po} {s h : Int} (s0 : 0 ≤ s) (s1 : s < 2147483648) (h0 : 0 ≤ h) (h1 : h < 32) (ht : has s h = true → post (some (vi 1)) σ) (hf : ¬ has s h = true → post (some (vi 0)) σ) : Cl mX11_isIn [vi s, vi h] σ post := by
  refine EX11_isIn ?_
  rw [has_e s0 s1 h0 h1]
  by_cases q : has s h = true
  · rw [if_pos q]; exact ⟨fun z => absurd rfl z, fun _ => ht q⟩
  · rw [if_neg q]; exact ⟨fun _ => hf q, fun z => absurd z (by decide)⟩
theorem r_has {σ : Sg} {post : Po} {s h : Int} (s0 : 0 ≤ s) (s1 : s < 2147483648) (h0 : 0 ≤ h) (h1 : h < 32) (ht : has s h = true → post (some (vi 1)) σ) (hf : ¬ has s h = true → post (some (vi 0)) σ) : Cl mX12_has [vi s, vi h] σ post := by
  refine EX12_has ?_
  rw [has_e s0 s1 h0 h1]
  by_cases q : has s h = true
  · rw [if_pos q]; exact ⟨fun z => absurd rfl z, fun _ => ht q⟩
  · rw [if_neg q]; exact ⟨fun _ => hf q, fun z => absurd z (by decide)⟩
theorem r_in {σ : Sg} {post : Po} {v a b : Int} (rv : rngL v) (ra : rngL a) (rb : rngL b) (ht : a ≤ v → v ≤ b → post (some (vi 1)) σ) (hf : ¬ (a ≤ v ∧ v ≤ b) → post (some (vi 0)) σ) : Cl mX12_in [vl v, vl a, vl b] σ post :=
  EX12_in ⟨rv, ra, fun q => hf (by omega), fun q => ⟨rb, fun q2 => hf (by omega), fun q2 => ht (by omega) (by omega)⟩⟩
theorem r_one {σ : Sg} {post : Po} {v : Int} (hv : v = 0 ∨ v = 1) (hp : post (some (vi v)) σ) : Cl mX12_one [vi v] σ post := by
  refine EX12_one ⟨by omega, fun q => ?_, fun q => ?_⟩
  · rw [q] at hp; exact hp
  · rw [show v = 1 by omega] at hp; exact hp
theorem r_isPage {σ : Sg} {post : Po} {p : Int} (rp : rng p) (ht : 1 ≤ p → p ≤ 99 → post (some (vi 1)) σ) (hf : ¬ (1 ≤ p ∧ p ≤ 99) → post (some (vi 0)) σ) : Cl mX12_isPage [vi p] σ post :=
  EX12_isPage ⟨rp, r_in (by omega) (by omega) (by omega) (fun a b => ⟨_, rfl, Or.inr rfl, ht a b⟩) (fun q => ⟨_, rfl, Or.inl rfl, hf q⟩)⟩
theorem r_noHead {σ : Sg} {post : Po} {h : Int} (rh : rng h) (rn : 0 ≤ σ 94 0 ∧ σ 94 0 ≤ 16) (ht : 0 ≤ h → h < σ 94 0 → post (some (vi 0)) σ) (hf : ¬ (0 ≤ h ∧ h < σ 94 0) → post (some (vi 1)) σ) : Cl mX12_noHead [vr 94, vi h] σ post :=
  EX12_noHead ⟨rh, by omega, r_in (by omega) (by omega) (by omega) (fun a b => ⟨_, rfl, b1 (ht a (by omega))⟩) (fun q => ⟨_, rfl, b0 (hf (by omega))⟩)⟩
theorem r_noSub {σ : Sg} {post : Po} {h s : Int} (h0 : 0 ≤ h) (h1 : h < 16) (rs : rng s) (rn : 0 ≤ σ 95 h ∧ σ 95 h ≤ 6) (ht : -1 ≤ s → s < σ 95 h → post (some (vi 0)) σ) (hf : ¬ (-1 ≤ s ∧ s < σ 95 h) → post (some (vi 1)) σ) : Cl mX12_noSub [vr 94, vi h, vi s] σ post :=
  EX12_noSub ⟨rs, by omega, by omega, r_in (by omega) (by omega) (by omega) (fun a b => ⟨_, rfl, b1 (ht a (by omega))⟩) (fun q => ⟨_, rfl, b0 (hf (by omega))⟩)⟩
theorem r_slot {σ : Sg} {post : Po} {h s : Int} (hp : post (some (vi (7 * h + 1 + s))) σ) : Cl mX12_slot [vi h, vi s] σ post := EX12_slot hp
/-! the small steps -/
theorem s_fault : St_fault Inv := by
  intro σ hI
  obtain ⟨h1, h2, h3⟩ := hI.1.2.1
  refine EX11_fault ⟨_, rfl, EX12_fault ⟨_, rfl, h1, by omega, Or.inl hI⟩⟩
theorem s_order : St_order Inv := by
  intro σ x rx hI
  have hI' := hI
  obtain ⟨⟨h1, h2, ⟨h3, h3'⟩, h4, h5⟩, h6, h7, ⟨h8, h9⟩, ⟨h10, h11⟩, h12⟩ := hI
  have fin : ∀ τ : Sg, τ = up (up (up σ 0 3 x) 0 9 0) 94 27 x → 0 ≤ x → x ≤ 1 → Inv τ := by
    intro τ e x0 x1
    have e0 : ∀ j, j ≠ 3 → j ≠ 9 → τ 0 j = σ 0 j := fun j a b => by rw [e, up_o (by decide), up_f b, up_f a]
    have e9 : τ 0 9 = 0 := by rw [e, up_o (by decide), up_s]
    have e3 : τ 0 3 = x := by rw [e, up_o (by decide), up_f (by decide), up_s]
    have e94 : ∀ j, j ≠ 27 → τ 94 j = σ 94 j := fun j a => by rw [e, up_f a, up_o (by decide), up_o (by decide)]
    have e27 : τ 94 27 = x := by rw [e, up_s]
    have ek : ∀ k, k ≠ 0 → k ≠ 94 → τ k = σ k := fun k a b => by rw [e, up_r b, up_r a, up_r a]
    refine ⟨⟨by rw [e0 1 (by decide) (by decide), ek 3 (by decide) (by decide)]; exact h1, by rw [ek 3 (by decide) (by decide), e94 19 (by decide)]; exact h2, by rw [e3, e27]; exact ⟨rfl, by omega⟩, by rw [e0 4 (by decide) (by decide), e94 28 (by decide)]; exact h4, by rw [e9]; exact Or.inl rfl⟩, h6.co (by rw [ek 3 (by decide) (by decide)]) (e94 14 (by decide)) (ek 4 (by decide) (by decide)) (ek 106 (by decide) (by decide)), h7.co (by rw [ek 90 (by decide) (by decide)]) (e94 47 (by decide)) (ek 91 (by decide) (by decide)) (ek 92 (by decide) (by decide)) (ek 118 (by decide) (by decide)) (ek 119 (by decide) (by decide)), ⟨?_, ?_⟩, ⟨h10.co (fun j hj => ek _ (by omega) (by omega)) (fun k a b => ek k (by omega) (by omega)), h11.co (fun j hj => ek _ (by omega) (by omega)) (fun k a b => ek k (by omega) (by omega))⟩, fun q => by rw [e9] at q; cases q⟩
    · rw [bk5 (σ := σ) (σ' := τ) (fun k a b => ek k (by omega) (by omega))]; exact h8
    · rw [bk5 (σ := σ) (σ' := τ) (fun k a b => ek k (by omega) (by omega)), bk94 (σ := σ) (σ' := τ) (e94 0 (by decide)) (e94 7 (by decide)) (fun k a b => ek k (by omega) (by omega))]; exact h9
  refine EX11_order ⟨rx, fun q => ⟨_, rfl, ?_⟩, fun q => ⟨fun q2 => ⟨_, rfl, ?_⟩, fun q2 => ⟨_, rfl, ?_⟩⟩⟩
  · exact EX12_order ⟨rx, r_in (by omega) (by omega) (by omega) (fun a b => absurd a (by omega)) (fun _ => ⟨_, rfl, b0 ⟨_, rfl, rfl, by decide, Or.inl hI'⟩⟩)⟩
  · exact EX12_order ⟨rx, r_in (by omega) (by omega) (by omega) (fun a b => ⟨_, rfl, b1 ⟨_, rfl, by rw [up_o (by decide), up_o (by decide)]; exact h3, by omega, Or.inl (fin _ rfl (by omega) (by omega))⟩⟩) (fun q3 => absurd (by omega) q3)⟩
  · exact EX12_order ⟨rx, r_in (by omega) (by omega) (by omega) (fun a b => absurd b (by omega)) (fun _ => ⟨_, rfl, b0 ⟨_, rfl, rfl, by decide, Or.inl hI'⟩⟩)⟩
