/-! ===== shapes of parts of named cells (printed by wip/whole/gen/mk09.py) ===== -/
theorem sh0_1 {k : Nat} (h : shp[k]? = some (0, 0, 14)) : shp[k + 1]? = some (4, 16, 0) := (show ∀ k, k < 137 → shp[k]? = some (0, 0, 14) → shp[k + 1]? = some (4, 16, 0) by decide +kernel) k (shp_lt h) h
theorem sh0_2 {k : Nat} (h : shp[k]? = some (0, 0, 14)) : shp[k + 2]? = some (1, 16, 0) := (show ∀ k, k < 137 → shp[k]? = some (0, 0, 14) → shp[k + 2]? = some (1, 16, 0) by decide +kernel) k (shp_lt h) h
theorem sh0_3 {k : Nat} (h : shp[k]? = some (0, 0, 14)) : shp[k + 3]? = some (4, 96, 0) := (show ∀ k, k < 137 → shp[k]? = some (0, 0, 14) → shp[k + 3]? = some (4, 96, 0) by decide +kernel) k (shp_lt h) h
theorem sh0_4 {k : Nat} (h : shp[k]? = some (0, 0, 14)) : shp[k + 4]? = some (1, 16, 0) := (show ∀ k, k < 137 → shp[k]? = some (0, 0, 14) → shp[k + 4]? = some (1, 16, 0) by decide +kernel) k (shp_lt h) h
theorem sh0_5 {k : Nat} (h : shp[k]? = some (0, 0, 14)) : shp[k + 5]? = some (1, 16, 0) := (show ∀ k, k < 137 → shp[k]? = some (0, 0, 14) → shp[k + 5]? = some (1, 16, 0) by decide +kernel) k (shp_lt h) h
theorem sh0_6 {k : Nat} (h : shp[k]? = some (0, 0, 14)) : shp[k + 6]? = some (1, 16, 0) := (show ∀ k, k < 137 → shp[k]? = some (0, 0, 14) → shp[k + 6]? = some (1, 16, 0) by decide +kernel) k (shp_lt h) h
theorem sh0_7 {k : Nat} (h : shp[k]? = some (0, 0, 14)) : shp[k + 7]? = some (1, 60, 0) := (show ∀ k, k < 137 → shp[k]? = some (0, 0, 14) → shp[k + 7]? = some (1, 60, 0) by decide +kernel) k (shp_lt h) h
theorem sh0_8 {k : Nat} (h : shp[k]? = some (0, 0, 14)) : shp[k + 8]? = some (1, 60, 0) := (show ∀ k, k < 137 → shp[k]? = some (0, 0, 14) → shp[k + 8]? = some (1, 60, 0) by decide +kernel) k (shp_lt h) h
theorem sh0_9 {k : Nat} (h : shp[k]? = some (0, 0, 14)) : shp[k + 9]? = some (1, 60, 0) := (show ∀ k, k < 137 → shp[k]? = some (0, 0, 14) → shp[k + 9]? = some (1, 60, 0) by decide +kernel) k (shp_lt h) h
theorem sh0_10 {k : Nat} (h : shp[k]? = some (0, 0, 14)) : shp[k + 10]? = some (1, 60, 0) := (show ∀ k, k < 137 → shp[k]? = some (0, 0, 14) → shp[k + 10]? = some (1, 60, 0) by decide +kernel) k (shp_lt h) h
theorem sh0_11 {k : Nat} (h : shp[k]? = some (0, 0, 14)) : shp[k + 11]? = some (3, 60, 0) := (show ∀ k, k < 137 → shp[k]? = some (0, 0, 14) → shp[k + 11]? = some (3, 60, 0) by decide +kernel) k (shp_lt h) h
theorem sh6_1 {k : Nat} (h : shp[k]? = some (0, 6, 2)) : shp[k + 1]? = some (1, 16, 0) := (show ∀ k, k < 137 → shp[k]? = some (0, 6, 2) → shp[k + 1]? = some (1, 16, 0) by decide +kernel) k (shp_lt h) h
theorem sh6_2 {k : Nat} (h : shp[k]? = some (0, 6, 2)) : shp[k + 2]? = some (4, 16, 0) := (show ∀ k, k < 137 → shp[k]? = some (0, 6, 2) → shp[k + 2]? = some (4, 16, 0) by decide +kernel) k (shp_lt h) h
theorem sh7_1 {k : Nat} (h : shp[k]? = some (0, 7, 4)) : shp[k + 1]? = some (1, 60, 0) := (show ∀ k, k < 137 → shp[k]? = some (0, 7, 4) → shp[k + 1]? = some (1, 60, 0) by decide +kernel) k (shp_lt h) h
theorem sh7_2 {k : Nat} (h : shp[k]? = some (0, 7, 4)) : shp[k + 2]? = some (1, 60, 0) := (show ∀ k, k < 137 → shp[k]? = some (0, 7, 4) → shp[k + 2]? = some (1, 60, 0) by decide +kernel) k (shp_lt h) h
theorem sh7_3 {k : Nat} (h : shp[k]? = some (0, 7, 4)) : shp[k + 3]? = some (3, 60, 0) := (show ∀ k, k < 137 → shp[k]? = some (0, 7, 4) → shp[k + 3]? = some (3, 60, 0) by decide +kernel) k (shp_lt h) h
def outN (k : Nat) : Nat := if k = 64 then 3072 else 0
theorem sh8_1 {k : Nat} (h : shp[k]? = some (0, 8, 7)) : shp[k + 1]? = some (2, outN k, 0) := (show ∀ k, k < 137 → shp[k]? = some (0, 8, 7) → shp[k + 1]? = some (2, outN k, 0) by decide +kernel) k (shp_lt h) h
theorem sh8_2 {k : Nat} (h : shp[k]? = some (0, 8, 7)) : shp[k + 2]? = some (2, 40, 0) := (show ∀ k, k < 137 → shp[k]? = some (0, 8, 7) → shp[k + 2]? = some (2, 40, 0) by decide +kernel) k (shp_lt h) h
theorem imT_sh (j : Nat) : shp[imT j]? = some (0, 0, 14) := by unfold imT; split <;> rfl
theorem r2L {z : Int} (h : rng z) : rngL z := ⟨by have := h.1; omega, by have := h.2; omega⟩
theorem is0 {k : Nat} (h : shp[k]? = some (0, 0, 14)) : k = 5 ∨ k = 17 ∨ k = 29 ∨ k = 41 := (show ∀ k, k < 137 → shp[k]? = some (0, 0, 14) → k = 5 ∨ k = 17 ∨ k = 29 ∨ k = 41 by decide +kernel) k (shp_lt h) h
theorem is6 {k : Nat} (h : shp[k]? = some (0, 6, 2)) : k = 54 ∨ k = 57 := (show ∀ k, k < 137 → shp[k]? = some (0, 6, 2) → k = 54 ∨ k = 57 by decide +kernel) k (shp_lt h) h
theorem is7 {k : Nat} (h : shp[k]? = some (0, 7, 4)) : k = 60 ∨ k = 70 ∨ k = 74 := (show ∀ k, k < 137 → shp[k]? = some (0, 7, 4) → k = 60 ∨ k = 70 ∨ k = 74 by decide +kernel) k (shp_lt h) h
theorem is8 {k : Nat} (h : shp[k]? = some (0, 8, 7)) : k = 64 ∨ k = 67 := (show ∀ k, k < 137 → shp[k]? = some (0, 8, 7) → k = 64 ∨ k = 67 by decide +kernel) k (shp_lt h) h
