/-! NUMBERS: what the small machine's ints are on the real one. -/
theorem n_toI {x : Int} (h1 : -2147483648 ≤ x) (h2 : x < 2147483648) : (Int32.ofInt x).toInt = x := Int32.toInt_ofInt_of_le (by omega) (by omega)
theorem n_toL {x : Int} (h1 : -9223372036854775808 ≤ x) (h2 : x < 9223372036854775808) : (Int64.ofInt x).toInt = x := Int64.toInt_ofInt_of_le (by omega) (by omega)
theorem n_eq {x y : Int} (hx : inR x) (hy : inR y) : Int32.ofInt x = Int32.ofInt y ↔ x = y := by
  rw [← Int32.toInt_inj, n_toI hx.1 hx.2, n_toI hy.1 hy.2]
theorem n_lt {x y : Int} (hx : inR x) (hy : inR y) : Int32.ofInt x < Int32.ofInt y ↔ x < y := by
  rw [Int32.lt_iff_toInt_lt, n_toI hx.1 hx.2, n_toI hy.1 hy.2]
theorem n_le {x y : Int} (hx : inR x) (hy : inR y) : Int32.ofInt x ≤ Int32.ofInt y ↔ x ≤ y := by
  rw [Int32.le_iff_toInt_le, n_toI hx.1 hx.2, n_toI hy.1 hy.2]
theorem n_0 : Int32.ofInt 0 = 0 := rfl
theorem in_0 : inR 0 := by decide
theorem n_eq0 {x : Int} (hx : inR x) : Int32.ofInt x = 0 ↔ x = 0 := n_eq hx in_0
theorem n_lt0 {x : Int} (hx : inR x) : Int32.ofInt x < 0 ↔ x < 0 := n_lt hx in_0
theorem n_gt0 {x : Int} (hx : inR x) : 0 < Int32.ofInt x ↔ 0 < x := n_lt in_0 hx
theorem n_le0 {x : Int} (hx : inR x) : Int32.ofInt x ≤ 0 ↔ x ≤ 0 := n_le hx in_0
theorem n_ge0 {x : Int} (hx : inR x) : 0 ≤ Int32.ofInt x ↔ 0 ≤ x := n_le in_0 hx
theorem wr_in (x : Int) : inR (wr32 x) := by
  have h1 := Int32.toInt_lt (Int32.ofInt x)
  have h2 := Int32.le_toInt (Int32.ofInt x)
  unfold wr32
  constructor <;> omega
theorem wr_of (x : Int) : Int32.ofInt (wr32 x) = Int32.ofInt x := Int32.ofInt_toInt _
theorem n_nI {j : Int} (h : 0 ≤ j) : Int32.ofInt j = nI j.toNat := by
  have e : j = (j.toNat : Int) := by omega
  rw [e, Int32.ofInt_eq_ofNat]
  rfl
theorem n_clamp {j : Int} (h : 0 ≤ j) (h2 : j < 2147483648) : (Int32.ofInt j).toNatClampNeg = j.toNat := by
  rw [n_nI h, nI_clamp (by omega)]
theorem n_in {j : Int} {n : Nat} (h : 0 ≤ j) (h2 : j < n) (h3 : n < 2 ^ 31) : vp_in (Int32.ofInt j) n := by
  rw [n_nI h]
  exact vp_in_nI (by omega) h3
theorem n_nneg {j : Int} (h : 0 ≤ j) (h2 : j < 2147483648) : ¬ Int32.ofInt j < 0 := by
  rw [n_lt0 ⟨by omega, h2⟩]; omega
theorem n_irem {x y : Int} (hy : 0 < y) (hx1 : -2147483648 ≤ x) (hx2 : x < 2147483648) (hy2 : y < 2147483648) : Int32.ofInt x - Int32.ofInt x / Int32.ofInt y * Int32.ofInt y = Int32.ofInt (x.tmod y) := by
  apply Int32.toInt_inj.mp
  have b := tmod_bounds (a := x) hy
  rw [rem_toInt, n_toI hx1 hx2, n_toI (by omega) hy2, n_toI (by omega) (by omega)]
theorem n_ne0 {y : Int} (hy : 0 < y) (hy2 : y < 2147483648) : ¬ Int32.ofInt y = 0 := by
  rw [n_eq0 ⟨by omega, hy2⟩]; omega
theorem n_ne0L {y : Int} (hy : 0 < y) (hy2 : y < 9223372036854775808) : ¬ Int64.ofInt y = 0 := by
  intro h
  have h1 := congrArg Int64.toInt h
  rw [n_toL (by omega) hy2] at h1
  have h0 : (0 : Int64).toInt = 0 := by decide
  omega
theorem n_lN {x : Int} (h : 0 ≤ x) : Int64.ofInt x = lN x.toNat := by
  have e : x = (x.toNat : Int) := by omega
  rw [e, Int64.ofInt_eq_ofNat]
  rfl
theorem n_ldiv {x y : Int} (h1 : 0 ≤ x) (h2 : x < 9223372036854775808) (h3 : 0 < y) (h4 : y < 9223372036854775808) : Int64.ofInt x / Int64.ofInt y = Int64.ofInt (x / y) := by
  have e : x / y = ((x.toNat / y.toNat : Nat) : Int) := by
    rw [Int.natCast_ediv, Int.toNat_of_nonneg h1, Int.toNat_of_nonneg (by omega)]
  rw [n_lN h1, n_lN (by omega : 0 ≤ y), pk_lDiv (by omega) (by omega) (by omega), e, Int64.ofInt_eq_ofNat]
  rfl
theorem n_lrem {x y : Int} (h1 : 0 ≤ x) (h2 : x < 9223372036854775808) (h3 : 0 < y) (h4 : y < 9223372036854775808) : Int64.ofInt x - Int64.ofInt x / Int64.ofInt y * Int64.ofInt y = Int64.ofInt (x % y) := by
  have e : x % y = ((x.toNat % y.toNat : Nat) : Int) := by
    rw [Int.natCast_emod, Int.toNat_of_nonneg h1, Int.toNat_of_nonneg (by omega)]
  rw [n_lN h1, n_lN (by omega : 0 ≤ y), pk_lRem (by omega) (by omega) (by omega), e, Int64.ofInt_eq_ofNat]
  rfl
theorem n_tn (x : Int) : (Int32.ofInt x).toBitVec.toNat = (x % 4294967296).toNat := by
  rw [Int32.toBitVec_ofInt, BitVec.toNat_ofInt]
  rfl
theorem n_tnL (x : Int) : (Int64.ofInt x).toBitVec.toNat = (x % 18446744073709551616).toNat := by
  rw [Int64.toBitVec_ofInt, BitVec.toNat_ofInt]
  rfl
theorem n_mulmod (x : Int) (k N : Nat) (hN : 0 < N) : ((x * 2 ^ k) % (N : Int)).toNat = (x % (N : Int)).toNat * 2 ^ k % N := by
  have h0 : 0 ≤ x % (N : Int) := Int.emod_nonneg _ (by omega)
  obtain ⟨r, hr⟩ := Int.eq_ofNat_of_zero_le h0
  have e : (x * 2 ^ k) % (N : Int) = ((r * 2 ^ k % N : Nat) : Int) := by
    rw [Int.mul_emod, hr, Int.natCast_emod, Int.natCast_mul, Int.natCast_pow]
    rw [show ((2 : Nat) : Int) = 2 from rfl]
    rw [Int.mul_emod (r : Int) (2 ^ k)]
    have hr2 : (r : Int) % (N : Int) = r := by rw [← hr, Int.emod_emod]
    rw [hr2]
  rw [e, hr]
  rfl
theorem n_sh32 : ∀ k, k < 32 → ((Int32.ofInt (k : Nat) &&& 31).toBitVec.smod 32).toNat = k := by decide +kernel
theorem n_ush32 : ∀ k, k < 32 → (((Int32.ofInt (k : Nat)).toUInt32 &&& Int32.toUInt32 31).toBitVec % 32).toNat = k := by decide +kernel
theorem n_sh64 : ∀ k, k < 64 → (((Int32.ofInt (k : Nat)).toInt64 &&& 63).toBitVec.smod 64).toNat = k := by decide +kernel
theorem n_ush64 : ∀ k, k < 64 → (((Int32.ofInt (k : Nat)).toInt64.toUInt64 &&& Int64.toUInt64 63).toBitVec % 64).toNat = k := by decide +kernel
theorem n_ishl {x y : Int} (h1 : 0 ≤ y) (h2 : y < 32) : Int32.ofInt x <<< (Int32.ofInt y &&& 31) = Int32.ofInt (x * 2 ^ y.toNat) := by
  have e : y = (y.toNat : Int) := by omega
  have hk := n_sh32 y.toNat (by omega)
  rw [← e] at hk
  apply Int32.toBitVec_inj.mp
  apply BitVec.eq_of_toNat_eq
  rw [pk_shl _ _ _ hk, n_tn, n_tn]
  exact (n_mulmod x y.toNat 4294967296 (by decide)).symm
theorem n_ishr {x y : Int} (h1 : 0 ≤ y) (h2 : y < 32) (h3 : -2147483648 ≤ x) (h4 : x < 2147483648) : Int32.ofInt x >>> (Int32.ofInt y &&& 31) = Int32.ofInt (x / 2 ^ y.toNat) := by
  have e : y = (y.toNat : Int) := by omega
  have hk := n_sh32 y.toNat (by omega)
  rw [← e] at hk
  have h5 := pk_shr (Int32.ofInt x) _ _ hk
  rw [n_toI h3 h4, Int.shiftRight_eq_div_pow] at h5
  have h6 := Int32.toInt_lt (Int32.ofInt x >>> (Int32.ofInt y &&& 31))
  have h7 := Int32.le_toInt (Int32.ofInt x >>> (Int32.ofInt y &&& 31))
  have e2 : ((2 ^ y.toNat : Nat) : Int) = 2 ^ y.toNat := by rw [Int.natCast_pow]; rfl
  rw [e2] at h5
  apply Int32.toInt_inj.mp
  rw [n_toI (by omega) (by omega)]
  exact h5
theorem n_iushr {x y : Int} (h1 : 0 ≤ y) (h2 : y < 32) : ((Int32.ofInt x).toUInt32 >>> ((Int32.ofInt y).toUInt32 &&& Int32.toUInt32 31)).toInt32 = Int32.ofInt (x % 4294967296 / 2 ^ y.toNat) := by
  have e : y = (y.toNat : Int) := by omega
  have hk := n_ush32 y.toNat (by omega)
  rw [← e] at hk
  have e2 : ((2 ^ y.toNat : Nat) : Int) = 2 ^ y.toNat := by rw [Int.natCast_pow]; rfl
  have h0 : 0 ≤ x % 4294967296 := Int.emod_nonneg _ (by decide)
  have e3 : x % 4294967296 / 2 ^ y.toNat = (((x % 4294967296).toNat / 2 ^ y.toNat : Nat) : Int) := by
    rw [Int.natCast_ediv, Int.toNat_of_nonneg h0, e2]
  have h8 : (x % 4294967296).toNat / 2 ^ y.toNat ≤ (x % 4294967296).toNat := Nat.div_le_self _ _
  apply Int32.toBitVec_inj.mp
  apply BitVec.eq_of_toNat_eq
  rw [pk_ushr _ _ _ hk, n_tn, n_tn, e3]
  have h9 : x % 4294967296 < 4294967296 := Int.emod_lt_of_pos _ (by decide)
  generalize (x % 4294967296).toNat / 2 ^ y.toNat = d at h8 ⊢
  rw [Int.emod_eq_of_lt (by omega) (by omega)]
  rfl
theorem n_lshl {x y : Int} (h1 : 0 ≤ y) (h2 : y < 64) : Int64.ofInt x <<< ((Int32.ofInt y).toInt64 &&& 63) = Int64.ofInt (x * 2 ^ y.toNat) := by
  have e : y = (y.toNat : Int) := by omega
  have hk := n_sh64 y.toNat (by omega)
  rw [← e] at hk
  apply Int64.toBitVec_inj.mp
  apply BitVec.eq_of_toNat_eq
  show ((Int64.ofInt x).toBitVec <<< ((((Int32.ofInt y).toInt64 &&& 63)).toBitVec.smod 64).toNat).toNat = _
  rw [hk, BitVec.toNat_shiftLeft, Nat.shiftLeft_eq, n_tnL, n_tnL]
  exact (n_mulmod x y.toNat 18446744073709551616 (by decide)).symm
theorem n_lushr {x y : Int} (h1 : 0 ≤ y) (h2 : y < 64) : ((Int64.ofInt x).toUInt64 >>> ((Int32.ofInt y).toInt64.toUInt64 &&& Int64.toUInt64 63)).toInt64 = Int64.ofInt (x % 18446744073709551616 / 2 ^ y.toNat) := by
  have e : y = (y.toNat : Int) := by omega
  have hk := n_ush64 y.toNat (by omega)
  rw [← e] at hk
  have e2 : ((2 ^ y.toNat : Nat) : Int) = 2 ^ y.toNat := by rw [Int.natCast_pow]; rfl
  have h0 : 0 ≤ x % 18446744073709551616 := Int.emod_nonneg _ (by decide)
  have e3 : x % 18446744073709551616 / 2 ^ y.toNat = (((x % 18446744073709551616).toNat / 2 ^ y.toNat : Nat) : Int) := by
    rw [Int.natCast_ediv, Int.toNat_of_nonneg h0, e2]
  have h8 : (x % 18446744073709551616).toNat / 2 ^ y.toNat ≤ (x % 18446744073709551616).toNat := Nat.div_le_self _ _
  have e4 : ((Int64.ofInt x).toUInt64 >>> ((Int32.ofInt y).toInt64.toUInt64 &&& Int64.toUInt64 63)).toInt64.toBitVec = (Int64.ofInt x).toBitVec >>> y.toNat := by
    rw [← hk]
    exact UInt64.toBitVec_shiftRight _ _
  apply Int64.toBitVec_inj.mp
  apply BitVec.eq_of_toNat_eq
  rw [e4, BitVec.toNat_ushiftRight, Nat.shiftRight_eq_div_pow, n_tnL, n_tnL, e3]
  have h9 : x % 18446744073709551616 < 18446744073709551616 := Int.emod_lt_of_pos _ (by decide)
  generalize (x % 18446744073709551616).toNat / 2 ^ y.toNat = d at h8 ⊢
  rw [Int.emod_eq_of_lt (by omega) (by omega)]
  rfl
theorem n_i2l {x : Int} (h1 : -2147483648 ≤ x) (h2 : x < 2147483648) : (Int32.ofInt x).toInt64 = Int64.ofInt x := by
  apply Int64.toInt_inj.mp
  rw [Int32.toInt_toInt64, n_toI h1 h2, n_toL (by omega) (by omega)]
theorem n_l2i (x : Int) : (Int64.ofInt x).toInt32 = Int32.ofInt x := Int64.toInt32_ofInt
theorem n_i2b (x : Int) : (Int32.ofInt x).toInt8.toInt32 = Int32.ofInt ((x + 128) % 256 - 128) := by
  apply Int32.toInt_inj.mp
  rw [n_toI (by omega) (by omega), Int8.toInt_toInt32, Int32.toInt_toInt8, Int32.toInt_ofInt]
  simp only [Int.bmod, Int32.size]
  split <;> split <;> omega
theorem n_i2c (x : Int) : ((Int32.ofInt x).toUInt32 % 65536).toInt32 = Int32.ofInt (x % 65536) := by
  rw [pk_char, n_tn, n_nI (by omega)]
  congr 1
  omega
theorem n_lcmp {x y : Int} (hx : in64 x) (hy : in64 y) : lg_cmp (Int64.ofInt x) (Int64.ofInt y) = Int32.ofInt (if x < y then -1 else if x = y then 0 else 1) := by
  have e1 : (Int64.ofInt x > Int64.ofInt y) ↔ y < x := by
    show Int64.ofInt y < Int64.ofInt x ↔ _
    rw [Int64.lt_iff_toInt_lt, n_toL hx.1 hx.2, n_toL hy.1 hy.2]
  have e2 : (Int64.ofInt x = Int64.ofInt y) ↔ x = y := by
    rw [← Int64.toInt_inj, n_toL hx.1 hx.2, n_toL hy.1 hy.2]
  unfold lg_cmp
  simp only [e1, e2]
  rcases Int.lt_trichotomy x y with h | h | h
  · rw [if_neg (by omega), if_neg (by omega), if_pos h]; rfl
  · rw [if_neg (by omega), if_pos h, if_neg (by omega), if_pos h]; rfl
  · rw [if_pos h, if_neg (by omega), if_neg (by omega)]; rfl
theorem n_narB {v : Int} (h1 : -128 ≤ v) (h2 : v < 128) : vp_nar .byte (Int32.ofInt v) = Int32.ofInt v := by
  rw [vp_nar_byte, n_i2b, show (v + 128) % 256 - 128 = v by omega]
theorem n_narZ {v : Int} (h1 : 0 ≤ v) (h2 : v ≤ 1) : vp_nar .boolean (Int32.ofInt v) = Int32.ofInt v := by
  rcases (show v = 0 ∨ v = 1 by omega) with rfl | rfl <;> decide
theorem n_min {x y : Int} (hx : inR x) (hy : inR y) : (if Int32.ofInt y < Int32.ofInt x then Int32.ofInt y else Int32.ofInt x) = Int32.ofInt (min x y) := by
  by_cases h : y < x
  · rw [if_pos ((n_lt hy hx).mpr h), Int.min_eq_right (by omega)]
  · rw [if_neg (fun q => h ((n_lt hy hx).mp q)), Int.min_eq_left (by omega)]
theorem n_max {x y : Int} (hx : inR x) (hy : inR y) : (if Int32.ofInt x < Int32.ofInt y then Int32.ofInt y else Int32.ofInt x) = Int32.ofInt (max x y) := by
  by_cases h : x < y
  · rw [if_pos ((n_lt hx hy).mpr h), Int.max_eq_right (by omega)]
  · rw [if_neg (fun q => h ((n_lt hx hy).mp q)), Int.max_eq_left (by omega)]
theorem n_abs {x : Int} (hx : inR x) : (if 0 ≤ Int32.ofInt x then Int32.ofInt x else 0 - Int32.ofInt x) = Int32.ofInt (if x < 0 then -x else x) := by
  by_cases h : x < 0
  · rw [if_neg (fun q => by have := (n_ge0 hx).mp q; omega), if_pos h, Int32.ofInt_neg, Int32.zero_sub]
  · rw [if_pos ((n_ge0 hx).mpr (by omega)), if_neg h]
theorem n_and (x y : Int) : Int32.ofInt (and32 x y) = Int32.ofInt x &&& Int32.ofInt y := Int32.ofInt_toInt _
theorem n_or (x y : Int) : Int32.ofInt (or32 x y) = Int32.ofInt x ||| Int32.ofInt y := Int32.ofInt_toInt _
theorem n_andL (x y : Int) : Int64.ofInt (and64 x y) = Int64.ofInt x &&& Int64.ofInt y := Int64.ofInt_toInt _
theorem n_orL (x y : Int) : Int64.ofInt (or64 x y) = Int64.ofInt x ||| Int64.ofInt y := Int64.ofInt_toInt _
