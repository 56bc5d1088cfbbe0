/-! six flags in one number: read and set -/
theorem ba0 : ∀ b0 b1 b2 b3 b4 b5 : Bool, and32 ((b2i b0 + 2 * b2i b1 + 4 * b2i b2 + 8 * b2i b3 + 16 * b2i b4 + 32 * b2i b5) / 2 ^ (0 : Int).toNat) 1 = b2i b0 := by decide
theorem bo0 : ∀ b0 b1 b2 b3 b4 b5 : Bool, or32 (b2i b0 + 2 * b2i b1 + 4 * b2i b2 + 8 * b2i b3 + 16 * b2i b4 + 32 * b2i b5) ((1 : Int) * 2 ^ (0 : Int).toNat) = b2i true + 2 * b2i b1 + 4 * b2i b2 + 8 * b2i b3 + 16 * b2i b4 + 32 * b2i b5 := by decide
theorem ba1 : ∀ b0 b1 b2 b3 b4 b5 : Bool, and32 ((b2i b0 + 2 * b2i b1 + 4 * b2i b2 + 8 * b2i b3 + 16 * b2i b4 + 32 * b2i b5) / 2 ^ (1 : Int).toNat) 1 = b2i b1 := by decide
theorem bo1 : ∀ b0 b1 b2 b3 b4 b5 : Bool, or32 (b2i b0 + 2 * b2i b1 + 4 * b2i b2 + 8 * b2i b3 + 16 * b2i b4 + 32 * b2i b5) ((1 : Int) * 2 ^ (1 : Int).toNat) = b2i b0 + 2 * b2i true + 4 * b2i b2 + 8 * b2i b3 + 16 * b2i b4 + 32 * b2i b5 := by decide
theorem ba2 : ∀ b0 b1 b2 b3 b4 b5 : Bool, and32 ((b2i b0 + 2 * b2i b1 + 4 * b2i b2 + 8 * b2i b3 + 16 * b2i b4 + 32 * b2i b5) / 2 ^ (2 : Int).toNat) 1 = b2i b2 := by decide
theorem bo2 : ∀ b0 b1 b2 b3 b4 b5 : Bool, or32 (b2i b0 + 2 * b2i b1 + 4 * b2i b2 + 8 * b2i b3 + 16 * b2i b4 + 32 * b2i b5) ((1 : Int) * 2 ^ (2 : Int).toNat) = b2i b0 + 2 * b2i b1 + 4 * b2i true + 8 * b2i b3 + 16 * b2i b4 + 32 * b2i b5 := by decide
theorem ba3 : ∀ b0 b1 b2 b3 b4 b5 : Bool, and32 ((b2i b0 + 2 * b2i b1 + 4 * b2i b2 + 8 * b2i b3 + 16 * b2i b4 + 32 * b2i b5) / 2 ^ (3 : Int).toNat) 1 = b2i b3 := by decide
theorem bo3 : ∀ b0 b1 b2 b3 b4 b5 : Bool, or32 (b2i b0 + 2 * b2i b1 + 4 * b2i b2 + 8 * b2i b3 + 16 * b2i b4 + 32 * b2i b5) ((1 : Int) * 2 ^ (3 : Int).toNat) = b2i b0 + 2 * b2i b1 + 4 * b2i b2 + 8 * b2i true + 16 * b2i b4 + 32 * b2i b5 := by decide
theorem ba4 : ∀ b0 b1 b2 b3 b4 b5 : Bool, and32 ((b2i b0 + 2 * b2i b1 + 4 * b2i b2 + 8 * b2i b3 + 16 * b2i b4 + 32 * b2i b5) / 2 ^ (4 : Int).toNat) 1 = b2i b4 := by decide
theorem bo4 : ∀ b0 b1 b2 b3 b4 b5 : Bool, or32 (b2i b0 + 2 * b2i b1 + 4 * b2i b2 + 8 * b2i b3 + 16 * b2i b4 + 32 * b2i b5) ((1 : Int) * 2 ^ (4 : Int).toNat) = b2i b0 + 2 * b2i b1 + 4 * b2i b2 + 8 * b2i b3 + 16 * b2i true + 32 * b2i b5 := by decide
theorem ba5 : ∀ b0 b1 b2 b3 b4 b5 : Bool, and32 ((b2i b0 + 2 * b2i b1 + 4 * b2i b2 + 8 * b2i b3 + 16 * b2i b4 + 32 * b2i b5) / 2 ^ (5 : Int).toNat) 1 = b2i b5 := by decide
theorem bo5 : ∀ b0 b1 b2 b3 b4 b5 : Bool, or32 (b2i b0 + 2 * b2i b1 + 4 * b2i b2 + 8 * b2i b3 + 16 * b2i b4 + 32 * b2i b5) ((1 : Int) * 2 ^ (5 : Int).toNat) = b2i b0 + 2 * b2i b1 + 4 * b2i b2 + 8 * b2i b3 + 16 * b2i b4 + 32 * b2i true := by decide
theorem bits_and {s : Int → Bool} {i : Int} (h : 0 ≤ i ∧ i < 6) : and32 (bits s / 2 ^ i.toNat) 1 = b2i (s i) := by
  have : i = 0 ∨ i = 1 ∨ i = 2 ∨ i = 3 ∨ i = 4 ∨ i = 5 := by omega
  unfold bits
  rcases this with rfl | rfl | rfl | rfl | rfl | rfl
  · exact ba0 _ _ _ _ _ _
  · exact ba1 _ _ _ _ _ _
  · exact ba2 _ _ _ _ _ _
  · exact ba3 _ _ _ _ _ _
  · exact ba4 _ _ _ _ _ _
  · exact ba5 _ _ _ _ _ _
theorem bits_or {s : Int → Bool} {i : Int} (h : 0 ≤ i ∧ i < 6) : or32 (bits s) ((1 : Int) * 2 ^ i.toNat) = bits (setB s i) := by
  have : i = 0 ∨ i = 1 ∨ i = 2 ∨ i = 3 ∨ i = 4 ∨ i = 5 := by omega
  unfold bits
  rcases this with rfl | rfl | rfl | rfl | rfl | rfl
  · exact bo0 _ _ _ _ _ _
  · exact bo1 _ _ _ _ _ _
  · exact bo2 _ _ _ _ _ _
  · exact bo3 _ _ _ _ _ _
  · exact bo4 _ _ _ _ _ _
  · exact bo5 _ _ _ _ _ _
