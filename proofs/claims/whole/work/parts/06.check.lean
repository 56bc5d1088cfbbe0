/-! THE TABLES HELD AGAINST THE BYTES: each instruction in the small machine's words is what the bytes say. -/
set_option maxRecDepth 100000 in
theorem chk_0 : chkR 0 10 = true := by decide +kernel
set_option maxRecDepth 100000 in
theorem chk_10 : chkR 10 10 = true := by decide +kernel
set_option maxRecDepth 100000 in
theorem chk_20 : chkR 20 10 = true := by decide +kernel
set_option maxRecDepth 100000 in
theorem chk_30 : chkR 30 10 = true := by decide +kernel
set_option maxRecDepth 100000 in
theorem chk_40 : chkR 40 10 = true := by decide +kernel
set_option maxRecDepth 100000 in
theorem chk_50 : chkR 50 10 = true := by decide +kernel
set_option maxRecDepth 100000 in
theorem chk_60 : chkR 60 10 = true := by decide +kernel
set_option maxRecDepth 100000 in
theorem chk_70 : chkR 70 10 = true := by decide +kernel
set_option maxRecDepth 100000 in
theorem chk_80 : chkR 80 10 = true := by decide +kernel
set_option maxRecDepth 100000 in
theorem chk_90 : chkR 90 10 = true := by decide +kernel
set_option maxRecDepth 100000 in
theorem chk_100 : chkR 100 10 = true := by decide +kernel
set_option maxRecDepth 100000 in
theorem chk_110 : chkR 110 10 = true := by decide +kernel
set_option maxRecDepth 100000 in
theorem chk_120 : chkR 120 10 = true := by decide +kernel
set_option maxRecDepth 100000 in
theorem chk_130 : chkR 130 10 = true := by decide +kernel
set_option maxRecDepth 100000 in
theorem chk_140 : chkR 140 10 = true := by decide +kernel
set_option maxRecDepth 100000 in
theorem chk_150 : chkR 150 10 = true := by decide +kernel
set_option maxRecDepth 100000 in
theorem chk_160 : chkR 160 10 = true := by decide +kernel
set_option maxRecDepth 100000 in
theorem chk_170 : chkR 170 10 = true := by decide +kernel
set_option maxRecDepth 100000 in
theorem chk_180 : chkR 180 10 = true := by decide +kernel
set_option maxRecDepth 100000 in
theorem chk_190 : chkR 190 10 = true := by decide +kernel
set_option maxRecDepth 100000 in
theorem chk_200 : chkR 200 10 = true := by decide +kernel
set_option maxRecDepth 100000 in
theorem chk_210 : chkR 210 10 = true := by decide +kernel
set_option maxRecDepth 100000 in
theorem chk_220 : chkR 220 10 = true := by decide +kernel
set_option maxRecDepth 100000 in
theorem chk_230 : chkR 230 10 = true := by decide +kernel
set_option maxRecDepth 100000 in
theorem chk_240 : chkR 240 10 = true := by decide +kernel
set_option maxRecDepth 100000 in
theorem chk_250 : chkR 250 10 = true := by decide +kernel
set_option maxRecDepth 100000 in
theorem chk_260 : chkR 260 10 = true := by decide +kernel
set_option maxRecDepth 100000 in
theorem chk_270 : chkR 270 10 = true := by decide +kernel
set_option maxRecDepth 100000 in
theorem chk_280 : chkR 280 10 = true := by decide +kernel
set_option maxRecDepth 100000 in
theorem chk_290 : chkR 290 8 = true := by decide +kernel
set_option maxRecDepth 100000 in
theorem chkL_0 : (((tbl 298).drop 0).take 40).all (fun e => chk 298 e.1 e.2) = true := by decide +kernel
set_option maxRecDepth 100000 in
theorem chkL_40 : (((tbl 298).drop 40).take 40).all (fun e => chk 298 e.1 e.2) = true := by decide +kernel
set_option maxRecDepth 100000 in
theorem chkL_80 : (((tbl 298).drop 80).take 40).all (fun e => chk 298 e.1 e.2) = true := by decide +kernel
set_option maxRecDepth 100000 in
theorem chkL_120 : (((tbl 298).drop 120).take 40).all (fun e => chk 298 e.1 e.2) = true := by decide +kernel
set_option maxRecDepth 100000 in
theorem chkL_160 : (((tbl 298).drop 160).take 40).all (fun e => chk 298 e.1 e.2) = true := by decide +kernel
set_option maxRecDepth 100000 in
theorem chkL_200 : (((tbl 298).drop 200).take 40).all (fun e => chk 298 e.1 e.2) = true := by decide +kernel
set_option maxRecDepth 100000 in
theorem chkL_240 : (((tbl 298).drop 240).take 40).all (fun e => chk 298 e.1 e.2) = true := by decide +kernel
set_option maxRecDepth 100000 in
theorem chkL_280 : (((tbl 298).drop 280).take 40).all (fun e => chk 298 e.1 e.2) = true := by decide +kernel
set_option maxRecDepth 100000 in
theorem chkL_320 : (((tbl 298).drop 320).take 40).all (fun e => chk 298 e.1 e.2) = true := by decide +kernel
set_option maxRecDepth 100000 in
theorem chkL_360 : (((tbl 298).drop 360).take 40).all (fun e => chk 298 e.1 e.2) = true := by decide +kernel
set_option maxRecDepth 100000 in
theorem chkL_400 : (((tbl 298).drop 400).take 40).all (fun e => chk 298 e.1 e.2) = true := by decide +kernel
set_option maxRecDepth 100000 in
theorem chkL_440 : (((tbl 298).drop 440).take 40).all (fun e => chk 298 e.1 e.2) = true := by decide +kernel
set_option maxRecDepth 100000 in
theorem chkL_480 : (((tbl 298).drop 480).take 40).all (fun e => chk 298 e.1 e.2) = true := by decide +kernel
set_option maxRecDepth 100000 in
theorem chkL_520 : (((tbl 298).drop 520).take 40).all (fun e => chk 298 e.1 e.2) = true := by decide +kernel
set_option maxRecDepth 100000 in
theorem chkL_560 : (((tbl 298).drop 560).take 40).all (fun e => chk 298 e.1 e.2) = true := by decide +kernel
set_option maxRecDepth 100000 in
theorem chkL_600 : (((tbl 298).drop 600).take 40).all (fun e => chk 298 e.1 e.2) = true := by decide +kernel
set_option maxRecDepth 100000 in
theorem chkL_640 : (((tbl 298).drop 640).take 40).all (fun e => chk 298 e.1 e.2) = true := by decide +kernel
set_option maxRecDepth 100000 in
theorem chkL_680 : (((tbl 298).drop 680).take 40).all (fun e => chk 298 e.1 e.2) = true := by decide +kernel
set_option maxRecDepth 100000 in
theorem chkL_720 : (((tbl 298).drop 720).take 40).all (fun e => chk 298 e.1 e.2) = true := by decide +kernel
set_option maxRecDepth 100000 in
theorem chkL_760 : (((tbl 298).drop 760).take 40).all (fun e => chk 298 e.1 e.2) = true := by decide +kernel
theorem chk_use {a n y : Nat} (h : chkR a n = true) (h1 : a ≤ y) (h2 : y < a + n) : ∀ e ∈ tbl y, chk y e.1 e.2 = true := by
  have h3 := List.all_eq_true.mp h (y - a) (List.mem_range.mpr (by omega))
  rw [show a + (y - a) = y by omega] at h3
  exact List.all_eq_true.mp h3
theorem chk_slice {l : List (Nat × Ins)} {y : Nat} {e : Nat × Ins} {j : Nat} (q : Nat) (h : (((l.drop q).take 40).all (fun e => chk y e.1 e.2)) = true) (hj : l[j]? = some e) (h1 : q ≤ j) (h2 : j < q + 40) : chk y e.1 e.2 = true := by
  refine List.all_eq_true.mp h e (List.mem_of_getElem? (i := j - q) ?_)
  rw [List.getElem?_take, if_pos (by omega), List.getElem?_drop, show q + (j - q) = j by omega]
  exact hj
theorem lenL : (tbl 298).length = 780 := by decide +kernel
theorem chk_law : ∀ e ∈ tbl 298, chk 298 e.1 e.2 = true := by
  intro e he
  obtain ⟨j, hj⟩ := List.getElem?_of_mem he
  have hl : j < 780 := by rw [← lenL]; exact (List.getElem?_eq_some_iff.mp hj).1
  rcases Nat.lt_or_ge j 40 with h | h
  · exact chk_slice 0 chkL_0 hj (by omega) (by omega)
  rcases Nat.lt_or_ge j 80 with h | h
  · exact chk_slice 40 chkL_40 hj (by omega) (by omega)
  rcases Nat.lt_or_ge j 120 with h | h
  · exact chk_slice 80 chkL_80 hj (by omega) (by omega)
  rcases Nat.lt_or_ge j 160 with h | h
  · exact chk_slice 120 chkL_120 hj (by omega) (by omega)
  rcases Nat.lt_or_ge j 200 with h | h
  · exact chk_slice 160 chkL_160 hj (by omega) (by omega)
  rcases Nat.lt_or_ge j 240 with h | h
  · exact chk_slice 200 chkL_200 hj (by omega) (by omega)
  rcases Nat.lt_or_ge j 280 with h | h
  · exact chk_slice 240 chkL_240 hj (by omega) (by omega)
  rcases Nat.lt_or_ge j 320 with h | h
  · exact chk_slice 280 chkL_280 hj (by omega) (by omega)
  rcases Nat.lt_or_ge j 360 with h | h
  · exact chk_slice 320 chkL_320 hj (by omega) (by omega)
  rcases Nat.lt_or_ge j 400 with h | h
  · exact chk_slice 360 chkL_360 hj (by omega) (by omega)
  rcases Nat.lt_or_ge j 440 with h | h
  · exact chk_slice 400 chkL_400 hj (by omega) (by omega)
  rcases Nat.lt_or_ge j 480 with h | h
  · exact chk_slice 440 chkL_440 hj (by omega) (by omega)
  rcases Nat.lt_or_ge j 520 with h | h
  · exact chk_slice 480 chkL_480 hj (by omega) (by omega)
  rcases Nat.lt_or_ge j 560 with h | h
  · exact chk_slice 520 chkL_520 hj (by omega) (by omega)
  rcases Nat.lt_or_ge j 600 with h | h
  · exact chk_slice 560 chkL_560 hj (by omega) (by omega)
  rcases Nat.lt_or_ge j 640 with h | h
  · exact chk_slice 600 chkL_600 hj (by omega) (by omega)
  rcases Nat.lt_or_ge j 680 with h | h
  · exact chk_slice 640 chkL_640 hj (by omega) (by omega)
  rcases Nat.lt_or_ge j 720 with h | h
  · exact chk_slice 680 chkL_680 hj (by omega) (by omega)
  rcases Nat.lt_or_ge j 760 with h | h
  · exact chk_slice 720 chkL_720 hj (by omega) (by omega)
  rcases Nat.lt_or_ge j 800 with h | h
  · exact chk_slice 760 chkL_760 hj (by omega) (by omega)
  omega
theorem chk_lt : ∀ y, y < 299 → ∀ e ∈ tbl y, chk y e.1 e.2 = true := by
  intro y hy
  rcases Nat.lt_or_ge y 10 with h | h
  · exact chk_use chk_0 (by omega) (by omega)
  rcases Nat.lt_or_ge y 20 with h | h
  · exact chk_use chk_10 (by omega) (by omega)
  rcases Nat.lt_or_ge y 30 with h | h
  · exact chk_use chk_20 (by omega) (by omega)
  rcases Nat.lt_or_ge y 40 with h | h
  · exact chk_use chk_30 (by omega) (by omega)
  rcases Nat.lt_or_ge y 50 with h | h
  · exact chk_use chk_40 (by omega) (by omega)
  rcases Nat.lt_or_ge y 60 with h | h
  · exact chk_use chk_50 (by omega) (by omega)
  rcases Nat.lt_or_ge y 70 with h | h
  · exact chk_use chk_60 (by omega) (by omega)
  rcases Nat.lt_or_ge y 80 with h | h
  · exact chk_use chk_70 (by omega) (by omega)
  rcases Nat.lt_or_ge y 90 with h | h
  · exact chk_use chk_80 (by omega) (by omega)
  rcases Nat.lt_or_ge y 100 with h | h
  · exact chk_use chk_90 (by omega) (by omega)
  rcases Nat.lt_or_ge y 110 with h | h
  · exact chk_use chk_100 (by omega) (by omega)
  rcases Nat.lt_or_ge y 120 with h | h
  · exact chk_use chk_110 (by omega) (by omega)
  rcases Nat.lt_or_ge y 130 with h | h
  · exact chk_use chk_120 (by omega) (by omega)
  rcases Nat.lt_or_ge y 140 with h | h
  · exact chk_use chk_130 (by omega) (by omega)
  rcases Nat.lt_or_ge y 150 with h | h
  · exact chk_use chk_140 (by omega) (by omega)
  rcases Nat.lt_or_ge y 160 with h | h
  · exact chk_use chk_150 (by omega) (by omega)
  rcases Nat.lt_or_ge y 170 with h | h
  · exact chk_use chk_160 (by omega) (by omega)
  rcases Nat.lt_or_ge y 180 with h | h
  · exact chk_use chk_170 (by omega) (by omega)
  rcases Nat.lt_or_ge y 190 with h | h
  · exact chk_use chk_180 (by omega) (by omega)
  rcases Nat.lt_or_ge y 200 with h | h
  · exact chk_use chk_190 (by omega) (by omega)
  rcases Nat.lt_or_ge y 210 with h | h
  · exact chk_use chk_200 (by omega) (by omega)
  rcases Nat.lt_or_ge y 220 with h | h
  · exact chk_use chk_210 (by omega) (by omega)
  rcases Nat.lt_or_ge y 230 with h | h
  · exact chk_use chk_220 (by omega) (by omega)
  rcases Nat.lt_or_ge y 240 with h | h
  · exact chk_use chk_230 (by omega) (by omega)
  rcases Nat.lt_or_ge y 250 with h | h
  · exact chk_use chk_240 (by omega) (by omega)
  rcases Nat.lt_or_ge y 260 with h | h
  · exact chk_use chk_250 (by omega) (by omega)
  rcases Nat.lt_or_ge y 270 with h | h
  · exact chk_use chk_260 (by omega) (by omega)
  rcases Nat.lt_or_ge y 280 with h | h
  · exact chk_use chk_270 (by omega) (by omega)
  rcases Nat.lt_or_ge y 290 with h | h
  · exact chk_use chk_280 (by omega) (by omega)
  rcases Nat.lt_or_ge y 298 with h | h
  · exact chk_use chk_290 (by omega) (by omega)
  rw [show y = 298 by omega]
  exact chk_law
theorem tbl_out {y : Nat} (h : 299 ≤ y) : tbl y = [] := by
  have hl : tbls.length = 299 := by decide +kernel
  show tbls.getD y [] = []
  rw [List.getD_eq_getElem?_getD, List.getElem?_eq_none (by omega)]
  rfl
theorem cd_mem {y pc : Nat} {i : Ins} (h : cd y pc = some i) : (pc, i) ∈ tbl y := by
  unfold cd at h
  cases hf : (tbl y).find? (fun e => e.1 == pc) with
  | none => rw [hf] at h; cases h
  | some e =>
    rw [hf] at h
    have h1 := List.mem_of_find?_eq_some hf
    have h2 := List.find?_some hf
    simp only [beq_iff_eq] at h2
    cases h
    subst h2
    exact h1
/-- what stands in the tables is what the bytes say -/
theorem cd_chk {y pc : Nat} {i : Ins} (h : cd y pc = some i) : y < 299 ∧ chk y pc i = true := by
  have hm := cd_mem h
  by_cases hy : y < 299
  · exact ⟨hy, chk_lt y hy _ hm⟩
  · rw [tbl_out (by omega)] at hm
    cases hm
