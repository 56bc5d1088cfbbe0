/-! MATHEMATICS: keys of rows, bits, segments. -/
/-- a row's key: 1, and its numbers behind it as digits of base 16 -/
def keyOf (l : List Int) : Int := l.foldl (fun k s => 16 * k + s) 1
def dg (l : List Int) : Prop := ∀ s ∈ l, 0 ≤ s ∧ s < 16
theorem keyOf_snoc (l : List Int) (s : Int) : keyOf (l ++ [s]) = 16 * keyOf l + s := by
  unfold keyOf
  rw [List.foldl_append]
  rfl
theorem dg_app {l m : List Int} (h : dg (l ++ m)) : dg l ∧ dg m := ⟨fun s hs => h s (List.mem_append_left _ hs), fun s hs => h s (List.mem_append_right _ hs)⟩
theorem dg_snoc {l : List Int} {s : Int} (h : dg (l ++ [s])) : dg l ∧ 0 ≤ s ∧ s < 16 := ⟨(dg_app h).1, h s (List.mem_append_right _ List.mem_cons_self)⟩
theorem snoc_cases (l : List Int) : l = [] ∨ ∃ m s, l = m ++ [s] := by
  rcases List.eq_nil_or_concat l with h | ⟨m, s, h⟩
  · exact Or.inl h
  · exact Or.inr ⟨m, s, by rw [h, List.concat_eq_append]⟩
theorem key_bd : ∀ (n : Nat) (l : List Int), l.length = n → dg l → (16 : Int) ^ n ≤ keyOf l ∧ keyOf l < 2 * (16 : Int) ^ n
  | 0, l, h, _ => by
    rw [List.length_eq_zero_iff.mp h]
    exact ⟨Int.le_refl _, by decide⟩
  | n + 1, l, h, hd => by
    rcases snoc_cases l with rfl | ⟨m, s, rfl⟩
    · cases h
    · rw [List.length_append] at h
      obtain ⟨h1, h2⟩ := key_bd n m (by simpa using h) (dg_snoc hd).1
      have h3 := (dg_snoc hd).2
      rw [keyOf_snoc, Int.pow_succ]
      omega
theorem p16_pos (n : Nat) : (1 : Int) ≤ (16 : Int) ^ n := by
  induction n with
  | zero => exact Int.le_refl _
  | succ n ih => rw [Int.pow_succ]; omega
theorem p16_le {n m : Nat} (h : n ≤ m) : (16 : Int) ^ n ≤ (16 : Int) ^ m := by
  induction h with
  | refl => exact Int.le_refl _
  | step _ ih => rw [Int.pow_succ]; have := p16_pos n; omega
theorem key_pos {l : List Int} (h : dg l) : 1 ≤ keyOf l := Int.le_trans (p16_pos _) (key_bd _ l rfl h).1
/-- a key of at most 13 numbers is a small one -/
theorem key_lt {l : List Int} (h : dg l) (hl : l.length ≤ 13) : keyOf l < 9007199254740992 := by
  have h1 := (key_bd _ l rfl h).2
  have h2 := p16_le hl
  have h3 : (16 : Int) ^ 13 = 4503599627370496 := by decide
  omega
theorem key_div {l : List Int} {s : Int} (h : dg (l ++ [s])) : keyOf (l ++ [s]) / 16 = keyOf l ∧ keyOf (l ++ [s]) % 16 = s := by
  have := (dg_snoc h).2
  rw [keyOf_snoc]
  omega
theorem key_len {l m : List Int} (hl : dg l) (hm : dg m) (h : keyOf l = keyOf m) : l.length = m.length := by
  have h1 := key_bd _ l rfl hl
  have h2 := key_bd _ m rfl hm
  rcases Nat.lt_trichotomy l.length m.length with h3 | h3 | h3
  · have h4 := p16_le (Nat.succ_le_of_lt h3)
    rw [Int.pow_succ] at h4
    have := p16_pos l.length
    omega
  · exact h3
  · have h4 := p16_le (Nat.succ_le_of_lt h3)
    rw [Int.pow_succ] at h4
    have := p16_pos m.length
    omega
theorem key_inj : ∀ (n : Nat) (l m : List Int), l.length = n → dg l → dg m → keyOf l = keyOf m → l = m
  | 0, l, m, hn, hl, hm, h => by
    have := key_len hl hm h
    rw [List.length_eq_zero_iff.mp hn, List.length_eq_zero_iff.mp (this.symm.trans hn)]
  | n + 1, l, m, hn, hl, hm, h => by
    have hlen := key_len hl hm h
    rcases snoc_cases l with rfl | ⟨l', s, rfl⟩
    · cases hn
    rcases snoc_cases m with rfl | ⟨m', t, rfl⟩
    · rw [hn] at hlen; cases hlen
    obtain ⟨a1, a2⟩ := key_div hl
    obtain ⟨b1, b2⟩ := key_div hm
    rw [h] at a1 a2
    rw [List.length_append] at hn
    have := key_inj n l' m' (by simpa using hn) (dg_snoc hl).1 (dg_snoc hm).1 (a1.symm.trans b1)
    rw [this, ← a2, b2]
theorem key_eq {l m : List Int} (hl : dg l) (hm : dg m) : keyOf l = keyOf m ↔ l = m := ⟨key_inj _ l m rfl hl hm, fun h => by rw [h]⟩
/-! bits -/
theorem or64_key {x s : Int} (hx : 0 ≤ x) (hx2 : x < 9007199254740992) (hs : 0 ≤ s) (hs2 : s < 16) : or64 (x * 16) (wr32 s) = 16 * x + s := by
  rw [wr_id ⟨by omega, by omega⟩]
  obtain ⟨a, rfl⟩ := Int.eq_ofNat_of_zero_le hx
  obtain ⟨b, rfl⟩ := Int.eq_ofNat_of_zero_le hs
  have hb : b < 2 ^ 4 := by omega
  have e := Nat.two_pow_add_eq_or_of_lt hb a
  unfold or64
  have h1 : Int64.ofInt ((a : Int) * 16) = Int64.ofNat (2 ^ 4 * a) := by
    rw [show (a : Int) * 16 = ((2 ^ 4 * a : Nat) : Int) by omega]
    exact Int64.ofInt_eq_ofNat
  have h2 : Int64.ofInt (b : Int) = Int64.ofNat b := Int64.ofInt_eq_ofNat
  rw [h1, h2]
  have h3 : (Int64.ofNat (2 ^ 4 * a) ||| Int64.ofNat b).toBitVec.toNat = 2 ^ 4 * a + b := by
    rw [Int64.toBitVec_or, BitVec.toNat_or, Int64.toBitVec_ofNat', Int64.toBitVec_ofNat', BitVec.toNat_ofNat, BitVec.toNat_ofNat, Nat.mod_eq_of_lt (by omega), Nat.mod_eq_of_lt (by omega), ← e]
  show (Int64.ofNat (2 ^ 4 * a) ||| Int64.ofNat b).toBitVec.toInt = _
  rw [BitVec.toInt_eq_toNat_of_lt (by rw [h3]; omega), h3]
  omega
theorem and32_15 (x : Int) : and32 x 15 = x % 16 := by
  unfold and32
  have h3 : (Int32.ofInt x &&& Int32.ofInt 15).toBitVec.toNat = (x % 16).toNat := by
    rw [Int32.toBitVec_and, BitVec.toNat_and]
    show (BitVec.ofInt 32 x).toNat &&& (2 ^ 4 - 1) = _
    rw [Nat.and_two_pow_sub_one_eq_mod, BitVec.toNat_ofInt]
    omega
  show (Int32.ofInt x &&& Int32.ofInt 15).toBitVec.toInt = _
  rw [BitVec.toInt_eq_toNat_of_lt (by rw [h3]; omega), h3]
  omega
theorem and64_15 (x : Int) : and64 x 15 = x % 16 := by
  unfold and64
  have h3 : (Int64.ofInt x &&& Int64.ofInt 15).toBitVec.toNat = (x % 16).toNat := by
    rw [Int64.toBitVec_and, BitVec.toNat_and]
    show (BitVec.ofInt 64 x).toNat &&& (2 ^ 4 - 1) = _
    rw [Nat.and_two_pow_sub_one_eq_mod, BitVec.toNat_ofInt]
    omega
  show (Int64.ofInt x &&& Int64.ofInt 15).toBitVec.toInt = _
  rw [BitVec.toInt_eq_toNat_of_lt (by rw [h3]; omega), h3]
  omega
