/-! ===== PURE HALF, by hand: the class's press, a head ===== -/
theorem c_226 {σ : Sg} {post : Po} {k : Nat} {L X : List Int} {w h how lb : Int} (hk : shp[k]? = some (0, 8, 7)) (hkk : 63 < k) (hW : WfB (bk σ 5)) (h0 : 0 ≤ h) (h1 : h < σ 5 0) (hO : ∀ i : Int, 0 ≤ i → i < σ 5 0 → σ 55 i = ord (hkey (bk σ 5) how) (σ 5 0).toNat i) (hS : SH σ k (L ++ X) 0 w []) (hL : ((L ++ X).length : Int) ≤ 18700) (w0 : 0 ≤ w ∧ w ≤ 80) (hlb : lb = tens L) (hp : ∀ σ' : Sg, Fr [k, k + 1, k + 2] σ σ' → SH σ' k (L ++ (X ++ (if σ 10 h ≠ 0 then alsB (bk σ 5) how w (σ 10 h) else []))) 0 w [] → post (some (vi (tens (X ++ (if σ 10 h ≠ 0 then alsB (bk σ 5) how w (σ 10 h) else []))))) σ') : V mX4_setHead 226 [some (vr 53), some (vr k), some (vr 5), some (vi h), none, none, some (vi lb), none, none, none, none] [] σ post := by
  have hk5 : shp[5]? = some (0, 0, 14) := rfl
  have wh := Wb_heads hW
  have wa : 0 ≤ σ 10 h ∧ σ 10 h < 65536 ∧ ∀ g : Int, 0 ≤ g → has (σ 10 h) g = true → g < σ 5 0 := Wb_also hW h0 h1
  refine BX4_setHead_226 hk hk5 ⟨by omega, ?_⟩
  show Cl mX4_setAlso [vr 53, vr k, vr 5, vi (σ 10 h)] σ _
  refine c_setAlso (how := how) hk hkk hW (fun i i0 i1 => ⟨hO i i0 i1, ?_⟩) hS (by omega) w0 wa.1 wa.2.1 (fun z => als_ne hW wa.1 wa.2.2 z) (fun z => ⟨rfl, ?_⟩) (fun z σ' hF hY => ⟨rfl, ?_⟩)
  · have := ord_b (key := hkey (bk σ 5) how) (n := (σ 5 0).toNat) i0 (by omega)
    rw [hO i i0 i1]
    omega
  · have e : (if σ 10 h ≠ 0 then alsB (bk σ 5) how w (σ 10 h) else []) = [] := if_neg (fun y => y z)
    rw [e, List.append_nil] at hp
    have t := hS.2.1
    rw [tens_app] at t
    show post (some (vi (σ k 2 - lb))) σ
    rw [show σ k 2 - lb = tens X by omega]
    exact hp σ Fr.rf hS
  · have e : (if σ 10 h ≠ 0 then alsB (bk σ 5) how w (σ 10 h) else []) = alsB (bk σ 5) how w (σ 10 h) := if_pos z
    rw [e] at hp
    have t := hY.2.1
    rw [List.append_assoc, tens_app] at t
    show post (some (vi (σ' k 2 - lb))) σ'
    rw [show σ' k 2 - lb = tens (X ++ alsB (bk σ 5) how w (σ 10 h)) by omega]
    rw [List.append_assoc] at hY
    exact hp σ' hF hY
