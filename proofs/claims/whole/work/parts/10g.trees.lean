/-! TREES, printed by a program: what each method's run comes to. -/
-- 213 SyllableMakerModel.act()V
theorem t_213 {x0 : Int} {M : Mem} {Q : AV → Mem → Prop} (h0 : gO 12 x0) (h : inR (M x0 63) ∧ (if (M x0 63) = 12 then (WR 213 13 [some (vR x0), some (vI 267)] [] M Q) else (WR 213 54 [some (vR x0), some (vI 0)] [] M Q))) : WC 213 [vR x0] M Q := by
  show WR 213 0 [some (vR x0), none] [] M Q
  refine g_7 (a := 0) (b := 0) (nx := 1) (by decide +kernel) rfl ?_
  refine g_50 (a := 12) (b := 63) (nx := 4) (by decide +kernel) h0 ?_
  refine g_1 (a := 12) (b := 0) (nx := 6) (by decide +kernel) ?_
  obtain ⟨r1, h⟩ := h
  by_cases c2 : (M x0 63) = 12
  · rw [if_pos c2] at h
    refine g_41f (a := 1) (b := 52) (nx := 9) (by decide +kernel) (by rw [wr_id r1, wr_id (show inR 12 by decide)]; exact fun hz => ((cb_1 _ _).mp hz) c2) ?_
    refine g_1 (a := 267) (b := 0) (nx := 12) (by decide +kernel) ?_
    refine g_8 (a := 1) (b := 0) (nx := 13) (by decide +kernel) rfl (ls' := [some (vR x0), some (vI 267)]) rfl ?_
    exact h
  · rw [if_neg c2] at h
    refine g_41t (a := 1) (b := 52) (nx := 9) (by decide +kernel) (by rw [wr_id r1, wr_id (show inR 12 by decide)]; exact (cb_1 _ _).mpr c2) ?_
    refine g_1 (a := 0) (b := 0) (nx := 53) (by decide +kernel) ?_
    refine g_8 (a := 1) (b := 0) (nx := 54) (by decide +kernel) rfl (ls' := [some (vR x0), some (vI 0)]) rfl ?_
    exact h
theorem t_213_13 {x0 x1 : Int} {M : Mem} {Q : AV → Mem → Prop} (h0 : gO 12 x0) (h : inR x1 ∧ (if 3204 ≤ x1 then (WR 213 54 [some (vR x0), some (vI 0)] [] (upM M x0 63 ((M x0 63) - 1)) Q) else ((gA 20 (M x0 62) x1) ∧ (gA 20 (M x0 62) (x1 - 267)) ∧ WR 213 13 [some (vR x0), some (vI (x1 + 1))] [] (upM M (M x0 62) (x1 - 267) (M (M x0 62) x1)) Q))) : WR 213 13 [some (vR x0), some (vI x1)] [] M Q := by
  refine g_5 (a := 1) (b := 0) (nx := 14) (by decide +kernel) rfl ?_
  refine g_1 (a := 3204) (b := 0) (nx := 17) (by decide +kernel) ?_
  obtain ⟨r1, h⟩ := h
  by_cases c2 : 3204 ≤ x1
  · rw [if_pos c2] at h
    refine g_41t (a := 3) (b := 42) (nx := 20) (by decide +kernel) (by rw [wr_id r1, wr_id (show inR 3204 by decide)]; exact (cb_3 _ _).mpr c2) ?_
    refine g_7 (a := 0) (b := 0) (nx := 43) (by decide +kernel) rfl ?_
    refine g_13 (a := 0) (b := 0) (nx := 44) (by decide +kernel) rfl ?_
    refine g_50 (a := 12) (b := 63) (nx := 47) (by decide +kernel) h0 ?_
    refine g_1 (a := 1) (b := 0) (nx := 48) (by decide +kernel) ?_
    refine g_16 (a := 0) (b := 0) (nx := 49) (by decide +kernel) ?_
    refine g_53 (a := 12) (b := 63) (nx := 52) (by decide +kernel) h0 ?_
    refine g_1 (a := 0) (b := 0) (nx := 53) (by decide +kernel) ?_
    refine g_8 (a := 1) (b := 0) (nx := 54) (by decide +kernel) rfl (ls' := [some (vR x0), some (vI 0)]) rfl ?_
    exact h
  · rw [if_neg c2] at h
    refine g_41f (a := 3) (b := 42) (nx := 20) (by decide +kernel) (by rw [wr_id r1, wr_id (show inR 3204 by decide)]; exact fun hz => c2 ((cb_3 _ _).mp hz)) ?_
    refine g_7 (a := 0) (b := 0) (nx := 21) (by decide +kernel) rfl ?_
    refine g_52 (a := 12) (b := 62) (nx := 24) (by decide +kernel) h0 ?_
    refine g_5 (a := 1) (b := 0) (nx := 25) (by decide +kernel) rfl ?_
    refine g_1 (a := 267) (b := 0) (nx := 28) (by decide +kernel) ?_
    refine g_16 (a := 0) (b := 0) (nx := 29) (by decide +kernel) ?_
    refine g_7 (a := 0) (b := 0) (nx := 30) (by decide +kernel) rfl ?_
    refine g_52 (a := 12) (b := 62) (nx := 33) (by decide +kernel) h0 ?_
    refine g_5 (a := 1) (b := 0) (nx := 34) (by decide +kernel) rfl ?_
    refine g_61 (a := 0) (b := 0) (nx := 35) (by decide +kernel) h.1 ?_
    replace h := h.2
    refine g_62 (a := 0) (b := 0) (nx := 36) (by decide +kernel) h.1 ?_
    replace h := h.2
    refine g_11 (a := 1) (b := 1) (nx := 39) (by decide +kernel) rfl rfl (ls' := [some (vR x0), some (vI (x1 + 1))]) rfl ?_
    refine g_44 (a := 0) (b := 13) (nx := 42) (by decide +kernel) ?_
    exact h
theorem t_213_54 {x0 x1 : Int} {M : Mem} {Q : AV → Mem → Prop} (h0 : gO 12 x0) (h : inR x1 ∧ (if 267 ≤ x1 then (WV 282 [vR x0] (upM M x0 63 ((M x0 63) + 1)) (fun M2 => Q (vI 0) M2)) else ((gA 20 (M x0 61) x1) ∧ (gA 20 (M x0 62) ((267 * (M x0 63)) + x1)) ∧ WR 213 54 [some (vR x0), some (vI (x1 + 1))] [] (upM M (M x0 62) ((267 * (M x0 63)) + x1) (M (M x0 61) x1)) Q))) : WR 213 54 [some (vR x0), some (vI x1)] [] M Q := by
  refine g_5 (a := 1) (b := 0) (nx := 55) (by decide +kernel) rfl ?_
  refine g_1 (a := 267) (b := 0) (nx := 58) (by decide +kernel) ?_
  obtain ⟨r1, h⟩ := h
  by_cases c4 : 267 ≤ x1
  · rw [if_pos c4] at h
    refine g_41t (a := 3) (b := 88) (nx := 61) (by decide +kernel) (by rw [wr_id r1, wr_id (show inR 267 by decide)]; exact (cb_3 _ _).mpr c4) ?_
    refine g_7 (a := 0) (b := 0) (nx := 89) (by decide +kernel) rfl ?_
    refine g_13 (a := 0) (b := 0) (nx := 90) (by decide +kernel) rfl ?_
    refine g_50 (a := 12) (b := 63) (nx := 93) (by decide +kernel) h0 ?_
    refine g_1 (a := 1) (b := 0) (nx := 94) (by decide +kernel) ?_
    refine g_15 (a := 0) (b := 0) (nx := 95) (by decide +kernel) ?_
    refine g_53 (a := 12) (b := 63) (nx := 98) (by decide +kernel) h0 ?_
    refine g_7 (a := 0) (b := 0) (nx := 99) (by decide +kernel) rfl ?_
    refine g_80 (a := 282) (b := 0) (nx := 102) (by decide +kernel) (r := x0) (As := []) (st' := []) (z := 282) rfl rfl rfl (Nat.le_of_ble_eq_true rfl) h0.2 (Nat.le_of_ble_eq_true rfl) rfl (c_V (by decide +kernel) h (fun M2 h => ?_))
    exact g_90 (a := 0) (b := 0) (nx := 103) (by decide +kernel) h
  · rw [if_neg c4] at h
    refine g_41f (a := 3) (b := 88) (nx := 61) (by decide +kernel) (by rw [wr_id r1, wr_id (show inR 267 by decide)]; exact fun hz => c4 ((cb_3 _ _).mp hz)) ?_
    refine g_7 (a := 0) (b := 0) (nx := 62) (by decide +kernel) rfl ?_
    refine g_52 (a := 12) (b := 62) (nx := 65) (by decide +kernel) h0 ?_
    refine g_1 (a := 267) (b := 0) (nx := 68) (by decide +kernel) ?_
    refine g_7 (a := 0) (b := 0) (nx := 69) (by decide +kernel) rfl ?_
    refine g_50 (a := 12) (b := 63) (nx := 72) (by decide +kernel) h0 ?_
    refine g_17 (a := 0) (b := 0) (nx := 73) (by decide +kernel) ?_
    refine g_5 (a := 1) (b := 0) (nx := 74) (by decide +kernel) rfl ?_
    refine g_15 (a := 0) (b := 0) (nx := 75) (by decide +kernel) ?_
    refine g_7 (a := 0) (b := 0) (nx := 76) (by decide +kernel) rfl ?_
    refine g_52 (a := 12) (b := 61) (nx := 79) (by decide +kernel) h0 ?_
    refine g_5 (a := 1) (b := 0) (nx := 80) (by decide +kernel) rfl ?_
    refine g_61 (a := 0) (b := 0) (nx := 81) (by decide +kernel) h.1 ?_
    replace h := h.2
    refine g_62 (a := 0) (b := 0) (nx := 82) (by decide +kernel) h.1 ?_
    replace h := h.2
    refine g_11 (a := 1) (b := 1) (nx := 85) (by decide +kernel) rfl rfl (ls' := [some (vR x0), some (vI (x1 + 1))]) rfl ?_
    refine g_44 (a := 0) (b := 54) (nx := 88) (by decide +kernel) ?_
    exact h
-- 214 SyllableMakerModel.undo()I
theorem t_214 {x0 : Int} {M : Mem} {Q : AV → Mem → Prop} (h0 : gO 12 x0) (h : inR (M x0 63) ∧ (if (M x0 63) = 0 then (Q (vI (-1)) M) else (WR 214 21 [some (vR x0), some (vI 0)] [] (upM M x0 63 ((M x0 63) - 1)) Q))) : WC 214 [vR x0] M Q := by
  show WR 214 0 [some (vR x0), none] [] M Q
  refine g_7 (a := 0) (b := 0) (nx := 1) (by decide +kernel) rfl ?_
  refine g_50 (a := 12) (b := 63) (nx := 4) (by decide +kernel) h0 ?_
  obtain ⟨r1, h⟩ := h
  by_cases c2 : (M x0 63) = 0
  · rw [if_pos c2] at h
    refine g_40f (a := 1) (b := 9) (nx := 7) (by decide +kernel) r1 (by exact fun hz => ((cb_1 _ _).mp hz) c2) ?_
    refine g_1 (a := (-1)) (b := 0) (nx := 8) (by decide +kernel) ?_
    exact g_91 (b := 0) (nx := 9) (by decide +kernel) h
  · rw [if_neg c2] at h
    refine g_40t (a := 1) (b := 9) (nx := 7) (by decide +kernel) r1 (by exact (cb_1 _ _).mpr c2) ?_
    refine g_7 (a := 0) (b := 0) (nx := 10) (by decide +kernel) rfl ?_
    refine g_13 (a := 0) (b := 0) (nx := 11) (by decide +kernel) rfl ?_
    refine g_50 (a := 12) (b := 63) (nx := 14) (by decide +kernel) h0 ?_
    refine g_1 (a := 1) (b := 0) (nx := 15) (by decide +kernel) ?_
    refine g_16 (a := 0) (b := 0) (nx := 16) (by decide +kernel) ?_
    refine g_53 (a := 12) (b := 63) (nx := 19) (by decide +kernel) h0 ?_
    refine g_1 (a := 0) (b := 0) (nx := 20) (by decide +kernel) ?_
    refine g_8 (a := 1) (b := 0) (nx := 21) (by decide +kernel) rfl (ls' := [some (vR x0), some (vI 0)]) rfl ?_
    exact h
theorem t_214_21 {x0 x1 : Int} {M : Mem} {Q : AV → Mem → Prop} (h0 : gO 12 x0) (h : inR x1 ∧ (if 267 ≤ x1 then (WV 282 [vR x0] M (fun M2 => Q (vI (M2 x0 63)) M2)) else ((gA 20 (M x0 62) ((267 * (M x0 63)) + x1)) ∧ (gA 20 (M x0 61) x1) ∧ WR 214 21 [some (vR x0), some (vI (x1 + 1))] [] (upM M (M x0 61) x1 (M (M x0 62) ((267 * (M x0 63)) + x1))) Q))) : WR 214 21 [some (vR x0), some (vI x1)] [] M Q := by
  refine g_5 (a := 1) (b := 0) (nx := 22) (by decide +kernel) rfl ?_
  refine g_1 (a := 267) (b := 0) (nx := 25) (by decide +kernel) ?_
  obtain ⟨r1, h⟩ := h
  by_cases c4 : 267 ≤ x1
  · rw [if_pos c4] at h
    refine g_41t (a := 3) (b := 55) (nx := 28) (by decide +kernel) (by rw [wr_id r1, wr_id (show inR 267 by decide)]; exact (cb_3 _ _).mpr c4) ?_
    refine g_7 (a := 0) (b := 0) (nx := 56) (by decide +kernel) rfl ?_
    refine g_80 (a := 282) (b := 0) (nx := 59) (by decide +kernel) (r := x0) (As := []) (st' := []) (z := 282) rfl rfl rfl (Nat.le_of_ble_eq_true rfl) h0.2 (Nat.le_of_ble_eq_true rfl) rfl (c_V (by decide +kernel) h (fun M2 h => ?_))
    refine g_7 (a := 0) (b := 0) (nx := 60) (by decide +kernel) rfl ?_
    refine g_50 (a := 12) (b := 63) (nx := 63) (by decide +kernel) h0 ?_
    exact g_91 (b := 0) (nx := 64) (by decide +kernel) h
  · rw [if_neg c4] at h
    refine g_41f (a := 3) (b := 55) (nx := 28) (by decide +kernel) (by rw [wr_id r1, wr_id (show inR 267 by decide)]; exact fun hz => c4 ((cb_3 _ _).mp hz)) ?_
    refine g_7 (a := 0) (b := 0) (nx := 29) (by decide +kernel) rfl ?_
    refine g_52 (a := 12) (b := 61) (nx := 32) (by decide +kernel) h0 ?_
    refine g_5 (a := 1) (b := 0) (nx := 33) (by decide +kernel) rfl ?_
    refine g_7 (a := 0) (b := 0) (nx := 34) (by decide +kernel) rfl ?_
    refine g_52 (a := 12) (b := 62) (nx := 37) (by decide +kernel) h0 ?_
    refine g_1 (a := 267) (b := 0) (nx := 40) (by decide +kernel) ?_
    refine g_7 (a := 0) (b := 0) (nx := 41) (by decide +kernel) rfl ?_
    refine g_50 (a := 12) (b := 63) (nx := 44) (by decide +kernel) h0 ?_
    refine g_17 (a := 0) (b := 0) (nx := 45) (by decide +kernel) ?_
    refine g_5 (a := 1) (b := 0) (nx := 46) (by decide +kernel) rfl ?_
    refine g_15 (a := 0) (b := 0) (nx := 47) (by decide +kernel) ?_
    refine g_61 (a := 0) (b := 0) (nx := 48) (by decide +kernel) h.1 ?_
    replace h := h.2
    refine g_62 (a := 0) (b := 0) (nx := 49) (by decide +kernel) h.1 ?_
    replace h := h.2
    refine g_11 (a := 1) (b := 1) (nx := 52) (by decide +kernel) rfl rfl (ls' := [some (vR x0), some (vI (x1 + 1))]) rfl ?_
    refine g_44 (a := 0) (b := 21) (nx := 55) (by decide +kernel) ?_
    exact h
-- 215 SyllableMakerModel.learn(I)I
theorem t_215 {x0 x1 : Int} {M : Mem} {Q : AV → Mem → Prop} (h0 : gO 12 x0) (h : WI 177 [vL (wr32 x1), vL 0, vL (wr32 ((M x0 56) - 1))] M (fun y2 M1 => inR y2 ∧ (if y2 = 0 then (Q (vI (-1)) M1) else ((gA 20 (M1 x0 61) 0) ∧ inR (M1 (M1 x0 61) 0) ∧ (if (M1 (M1 x0 61) 0) = 20 then (Q (vI (-1)) M1) else (WV 213 [vR x0] M1 (fun M5 => (gA 20 (M5 x0 61) 0) ∧ (gA 20 (M5 x0 61) 0) ∧ (gA 20 (M5 x0 61) 0) ∧ (gA 20 ((upM M5 (M5 x0 61) 0 ((M5 (M5 x0 61) 0) + 1)) x0 58) x1) ∧ (gA 20 ((upM M5 (M5 x0 61) 0 ((M5 (M5 x0 61) 0) + 1)) x0 61) (1 + (M5 (M5 x0 61) 0))) ∧ WR 215 66 [some (vR x0), some (vI x1), some (vI (M5 (M5 x0 61) 0)), some (vI 0)] [] (upM (upM M5 (M5 x0 61) 0 ((M5 (M5 x0 61) 0) + 1)) ((upM M5 (M5 x0 61) 0 ((M5 (M5 x0 61) 0) + 1)) x0 61) (1 + (M5 (M5 x0 61) 0)) ((upM M5 (M5 x0 61) 0 ((M5 (M5 x0 61) 0) + 1)) ((upM M5 (M5 x0 61) 0 ((M5 (M5 x0 61) 0) + 1)) x0 58) x1)) Q))))))) : WC 215 [vR x0, vI x1] M Q := by
  show WR 215 0 [some (vR x0), some (vI x1), none, none] [] M Q
  refine g_5 (a := 1) (b := 0) (nx := 1) (by decide +kernel) rfl ?_
  refine g_35 (a := 0) (b := 0) (nx := 2) (by decide +kernel) ?_
  refine g_2 (a := 0) (b := 0) (nx := 3) (by decide +kernel) ?_
  refine g_7 (a := 0) (b := 0) (nx := 4) (by decide +kernel) rfl ?_
  refine g_50 (a := 12) (b := 56) (nx := 7) (by decide +kernel) h0 ?_
  refine g_1 (a := 1) (b := 0) (nx := 8) (by decide +kernel) ?_
  refine g_16 (a := 0) (b := 0) (nx := 9) (by decide +kernel) ?_
  refine g_35 (a := 0) (b := 0) (nx := 10) (by decide +kernel) ?_
  refine g_82 (a := 177) (b := 3) (nx := 13) (by decide +kernel) (As := [vL (wr32 x1), vL 0, vL (wr32 ((M x0 56) - 1))]) (st' := []) (z := 177) rfl rfl rfl (Nat.le_of_ble_eq_true rfl) (Nat.le_of_ble_eq_true rfl) rfl (c_I (by decide +kernel) h (fun y2 M1 h => ?_))
  obtain ⟨r3, h⟩ := h
  by_cases c8 : y2 = 0
  · rw [if_pos c8] at h
    refine g_40t (a := 0) (b := 27) (nx := 16) (by decide +kernel) r3 (by exact (cb_0 _ _).mpr c8) ?_
    refine g_1 (a := (-1)) (b := 0) (nx := 28) (by decide +kernel) ?_
    exact g_91 (b := 0) (nx := 29) (by decide +kernel) h
  · rw [if_neg c8] at h
    refine g_40f (a := 0) (b := 27) (nx := 16) (by decide +kernel) r3 (by exact fun hz => c8 ((cb_0 _ _).mp hz)) ?_
    refine g_7 (a := 0) (b := 0) (nx := 17) (by decide +kernel) rfl ?_
    refine g_52 (a := 12) (b := 61) (nx := 20) (by decide +kernel) h0 ?_
    refine g_1 (a := 0) (b := 0) (nx := 21) (by decide +kernel) ?_
    refine g_61 (a := 0) (b := 0) (nx := 22) (by decide +kernel) h.1 ?_
    replace h := h.2
    refine g_1 (a := 20) (b := 0) (nx := 24) (by decide +kernel) ?_
    obtain ⟨r4, h⟩ := h
    by_cases c7 : (M1 (M1 x0 61) 0) = 20
    · rw [if_pos c7] at h
      refine g_41f (a := 1) (b := 29) (nx := 27) (by decide +kernel) (by rw [wr_id r4, wr_id (show inR 20 by decide)]; exact fun hz => ((cb_1 _ _).mp hz) c7) ?_
      refine g_1 (a := (-1)) (b := 0) (nx := 28) (by decide +kernel) ?_
      exact g_91 (b := 0) (nx := 29) (by decide +kernel) h
    · rw [if_neg c7] at h
      refine g_41t (a := 1) (b := 29) (nx := 27) (by decide +kernel) (by rw [wr_id r4, wr_id (show inR 20 by decide)]; exact (cb_1 _ _).mpr c7) ?_
      refine g_7 (a := 0) (b := 0) (nx := 30) (by decide +kernel) rfl ?_
      refine g_80 (a := 213) (b := 0) (nx := 33) (by decide +kernel) (r := x0) (As := []) (st' := []) (z := 213) rfl rfl rfl (Nat.le_of_ble_eq_true rfl) h0.2 (Nat.le_of_ble_eq_true rfl) rfl (c_V (by decide +kernel) h (fun M5 h => ?_))
      refine g_7 (a := 0) (b := 0) (nx := 34) (by decide +kernel) rfl ?_
      refine g_52 (a := 12) (b := 61) (nx := 37) (by decide +kernel) h0 ?_
      refine g_1 (a := 0) (b := 0) (nx := 38) (by decide +kernel) ?_
      refine g_61 (a := 0) (b := 0) (nx := 39) (by decide +kernel) h.1 ?_
      replace h := h.2
      refine g_8 (a := 2) (b := 0) (nx := 40) (by decide +kernel) rfl (ls' := [some (vR x0), some (vI x1), some (vI (M5 (M5 x0 61) 0)), none]) rfl ?_
      refine g_7 (a := 0) (b := 0) (nx := 41) (by decide +kernel) rfl ?_
      refine g_52 (a := 12) (b := 61) (nx := 44) (by decide +kernel) h0 ?_
      refine g_1 (a := 0) (b := 0) (nx := 45) (by decide +kernel) ?_
      refine g_14 (a := 0) (b := 0) (nx := 46) (by decide +kernel) rfl rfl ?_
      refine g_61 (a := 0) (b := 0) (nx := 47) (by decide +kernel) h.1 ?_
      replace h := h.2
      refine g_1 (a := 1) (b := 0) (nx := 48) (by decide +kernel) ?_
      refine g_15 (a := 0) (b := 0) (nx := 49) (by decide +kernel) ?_
      refine g_62 (a := 0) (b := 0) (nx := 50) (by decide +kernel) h.1 ?_
      replace h := h.2
      refine g_7 (a := 0) (b := 0) (nx := 51) (by decide +kernel) rfl ?_
      refine g_52 (a := 12) (b := 61) (nx := 54) (by decide +kernel) h0 ?_
      refine g_1 (a := 1) (b := 0) (nx := 55) (by decide +kernel) ?_
      refine g_5 (a := 2) (b := 0) (nx := 56) (by decide +kernel) rfl ?_
      refine g_15 (a := 0) (b := 0) (nx := 57) (by decide +kernel) ?_
      refine g_7 (a := 0) (b := 0) (nx := 58) (by decide +kernel) rfl ?_
      refine g_52 (a := 12) (b := 58) (nx := 61) (by decide +kernel) h0 ?_
      refine g_5 (a := 1) (b := 0) (nx := 62) (by decide +kernel) rfl ?_
      refine g_61 (a := 0) (b := 0) (nx := 63) (by decide +kernel) h.1 ?_
      replace h := h.2
      refine g_62 (a := 0) (b := 0) (nx := 64) (by decide +kernel) h.1 ?_
      replace h := h.2
      refine g_1 (a := 0) (b := 0) (nx := 65) (by decide +kernel) ?_
      refine g_8 (a := 3) (b := 0) (nx := 66) (by decide +kernel) rfl (ls' := [some (vR x0), some (vI x1), some (vI (M5 (M5 x0 61) 0)), some (vI 0)]) rfl ?_
      exact h
theorem t_215_66 {x0 x1 x2 x3 : Int} {M : Mem} {Q : AV → Mem → Prop} (h0 : gO 12 x0) (h : inR x3 ∧ (if 12 ≤ x3 then (Q (vI (100 + x2)) M) else ((gA 20 (M x0 57) ((12 * x1) + x3)) ∧ (gA 20 (M x0 61) ((21 + (12 * x2)) + x3)) ∧ WR 215 66 [some (vR x0), some (vI x1), some (vI x2), some (vI (x3 + 1))] [] (upM M (M x0 61) ((21 + (12 * x2)) + x3) (M (M x0 57) ((12 * x1) + x3))) Q))) : WR 215 66 [some (vR x0), some (vI x1), some (vI x2), some (vI x3)] [] M Q := by
  refine g_5 (a := 3) (b := 0) (nx := 67) (by decide +kernel) rfl ?_
  refine g_1 (a := 12) (b := 0) (nx := 69) (by decide +kernel) ?_
  obtain ⟨r1, h⟩ := h
  by_cases c2 : 12 ≤ x3
  · rw [if_pos c2] at h
    refine g_41t (a := 3) (b := 103) (nx := 72) (by decide +kernel) (by rw [wr_id r1, wr_id (show inR 12 by decide)]; exact (cb_3 _ _).mpr c2) ?_
    refine g_1 (a := 100) (b := 0) (nx := 105) (by decide +kernel) ?_
    refine g_5 (a := 2) (b := 0) (nx := 106) (by decide +kernel) rfl ?_
    refine g_15 (a := 0) (b := 0) (nx := 107) (by decide +kernel) ?_
    exact g_91 (b := 0) (nx := 108) (by decide +kernel) h
  · rw [if_neg c2] at h
    refine g_41f (a := 3) (b := 103) (nx := 72) (by decide +kernel) (by rw [wr_id r1, wr_id (show inR 12 by decide)]; exact fun hz => c2 ((cb_3 _ _).mp hz)) ?_
    refine g_7 (a := 0) (b := 0) (nx := 73) (by decide +kernel) rfl ?_
    refine g_52 (a := 12) (b := 61) (nx := 76) (by decide +kernel) h0 ?_
    refine g_1 (a := 21) (b := 0) (nx := 78) (by decide +kernel) ?_
    refine g_1 (a := 12) (b := 0) (nx := 80) (by decide +kernel) ?_
    refine g_5 (a := 2) (b := 0) (nx := 81) (by decide +kernel) rfl ?_
    refine g_17 (a := 0) (b := 0) (nx := 82) (by decide +kernel) ?_
    refine g_15 (a := 0) (b := 0) (nx := 83) (by decide +kernel) ?_
    refine g_5 (a := 3) (b := 0) (nx := 84) (by decide +kernel) rfl ?_
    refine g_15 (a := 0) (b := 0) (nx := 85) (by decide +kernel) ?_
    refine g_7 (a := 0) (b := 0) (nx := 86) (by decide +kernel) rfl ?_
    refine g_52 (a := 12) (b := 57) (nx := 89) (by decide +kernel) h0 ?_
    refine g_1 (a := 12) (b := 0) (nx := 91) (by decide +kernel) ?_
    refine g_5 (a := 1) (b := 0) (nx := 92) (by decide +kernel) rfl ?_
    refine g_17 (a := 0) (b := 0) (nx := 93) (by decide +kernel) ?_
    refine g_5 (a := 3) (b := 0) (nx := 94) (by decide +kernel) rfl ?_
    refine g_15 (a := 0) (b := 0) (nx := 95) (by decide +kernel) ?_
    refine g_61 (a := 0) (b := 0) (nx := 96) (by decide +kernel) h.1 ?_
    replace h := h.2
    refine g_62 (a := 0) (b := 0) (nx := 97) (by decide +kernel) h.1 ?_
    replace h := h.2
    refine g_11 (a := 3) (b := 1) (nx := 100) (by decide +kernel) rfl rfl (ls' := [some (vR x0), some (vI x1), some (vI x2), some (vI (x3 + 1))]) rfl ?_
    refine g_44 (a := 0) (b := 66) (nx := 103) (by decide +kernel) ?_
    exact h
-- 216 SyllableMakerModel.forget(I)I
theorem t_216 {x0 x1 : Int} {M : Mem} {Q : AV → Mem → Prop} (h0 : gO 12 x0) (h : (gA 20 (M x0 61) 0) ∧ WI 177 [vL (wr32 (x1 - 100)), vL 0, vL (wr32 ((M (M x0 61) 0) - 1))] M (fun y2 M1 => inR y2 ∧ (if y2 = 0 then (Q (vI (-1)) M1) else (WV 213 [vR x0] M1 (fun M4 => (gA 20 (M4 x0 61) 0) ∧ (gA 20 (M4 x0 61) 0) ∧ WR 216 41 [some (vR x0), some (vI x1), some (vI (x1 - 100)), some (vI (x1 - 100)), none] [] (upM M4 (M4 x0 61) 0 ((M4 (M4 x0 61) 0) - 1)) Q))))) : WC 216 [vR x0, vI x1] M Q := by
  show WR 216 0 [some (vR x0), some (vI x1), none, none, none] [] M Q
  refine g_5 (a := 1) (b := 0) (nx := 1) (by decide +kernel) rfl ?_
  refine g_1 (a := 100) (b := 0) (nx := 3) (by decide +kernel) ?_
  refine g_16 (a := 0) (b := 0) (nx := 4) (by decide +kernel) ?_
  refine g_8 (a := 2) (b := 0) (nx := 5) (by decide +kernel) rfl (ls' := [some (vR x0), some (vI x1), some (vI (x1 - 100)), none, none]) rfl ?_
  refine g_5 (a := 2) (b := 0) (nx := 6) (by decide +kernel) rfl ?_
  refine g_35 (a := 0) (b := 0) (nx := 7) (by decide +kernel) ?_
  refine g_2 (a := 0) (b := 0) (nx := 8) (by decide +kernel) ?_
  refine g_7 (a := 0) (b := 0) (nx := 9) (by decide +kernel) rfl ?_
  refine g_52 (a := 12) (b := 61) (nx := 12) (by decide +kernel) h0 ?_
  refine g_1 (a := 0) (b := 0) (nx := 13) (by decide +kernel) ?_
  refine g_61 (a := 0) (b := 0) (nx := 14) (by decide +kernel) h.1 ?_
  replace h := h.2
  refine g_1 (a := 1) (b := 0) (nx := 15) (by decide +kernel) ?_
  refine g_16 (a := 0) (b := 0) (nx := 16) (by decide +kernel) ?_
  refine g_35 (a := 0) (b := 0) (nx := 17) (by decide +kernel) ?_
  refine g_82 (a := 177) (b := 3) (nx := 20) (by decide +kernel) (As := [vL (wr32 (x1 - 100)), vL 0, vL (wr32 ((M (M x0 61) 0) - 1))]) (st' := []) (z := 177) rfl rfl rfl (Nat.le_of_ble_eq_true rfl) (Nat.le_of_ble_eq_true rfl) rfl (c_I (by decide +kernel) h (fun y2 M1 h => ?_))
  obtain ⟨r3, h⟩ := h
  by_cases c6 : y2 = 0
  · rw [if_pos c6] at h
    refine g_40f (a := 1) (b := 25) (nx := 23) (by decide +kernel) r3 (by exact fun hz => ((cb_1 _ _).mp hz) c6) ?_
    refine g_1 (a := (-1)) (b := 0) (nx := 24) (by decide +kernel) ?_
    exact g_91 (b := 0) (nx := 25) (by decide +kernel) h
  · rw [if_neg c6] at h
    refine g_40t (a := 1) (b := 25) (nx := 23) (by decide +kernel) r3 (by exact (cb_1 _ _).mpr c6) ?_
    refine g_7 (a := 0) (b := 0) (nx := 26) (by decide +kernel) rfl ?_
    refine g_80 (a := 213) (b := 0) (nx := 29) (by decide +kernel) (r := x0) (As := []) (st' := []) (z := 213) rfl rfl rfl (Nat.le_of_ble_eq_true rfl) h0.2 (Nat.le_of_ble_eq_true rfl) rfl (c_V (by decide +kernel) h (fun M4 h => ?_))
    refine g_7 (a := 0) (b := 0) (nx := 30) (by decide +kernel) rfl ?_
    refine g_52 (a := 12) (b := 61) (nx := 33) (by decide +kernel) h0 ?_
    refine g_1 (a := 0) (b := 0) (nx := 34) (by decide +kernel) ?_
    refine g_14 (a := 0) (b := 0) (nx := 35) (by decide +kernel) rfl rfl ?_
    refine g_61 (a := 0) (b := 0) (nx := 36) (by decide +kernel) h.1 ?_
    replace h := h.2
    refine g_1 (a := 1) (b := 0) (nx := 37) (by decide +kernel) ?_
    refine g_16 (a := 0) (b := 0) (nx := 38) (by decide +kernel) ?_
    refine g_62 (a := 0) (b := 0) (nx := 39) (by decide +kernel) h.1 ?_
    replace h := h.2
    refine g_5 (a := 2) (b := 0) (nx := 40) (by decide +kernel) rfl ?_
    refine g_8 (a := 3) (b := 0) (nx := 41) (by decide +kernel) rfl (ls' := [some (vR x0), some (vI x1), some (vI (x1 - 100)), some (vI (x1 - 100)), none]) rfl ?_
    exact h
theorem t_216_41 {x0 x1 x2 x3 : Int} {l4 : Option AV} {M : Mem} {Q : AV → Mem → Prop} (h0 : gO 12 x0) (h : (gA 20 (M x0 61) 0) ∧ inR x3 ∧ (inR (M (M x0 61) 0) ∧ (if (M (M x0 61) 0) ≤ x3 then ((gA 20 (M x0 61) 0) ∧ Q (vI (M (M x0 61) 0)) M) else ((gA 20 (M x0 61) (2 + x3)) ∧ (gA 20 (M x0 61) (1 + x3)) ∧ WR 216 70 [some (vR x0), some (vI x1), some (vI x2), some (vI x3), some (vI 0)] [] (upM M (M x0 61) (1 + x3) (M (M x0 61) (2 + x3))) Q)))) : WR 216 41 [some (vR x0), some (vI x1), some (vI x2), some (vI x3), l4] [] M Q := by
  refine g_5 (a := 3) (b := 0) (nx := 42) (by decide +kernel) rfl ?_
  refine g_7 (a := 0) (b := 0) (nx := 43) (by decide +kernel) rfl ?_
  refine g_52 (a := 12) (b := 61) (nx := 46) (by decide +kernel) h0 ?_
  refine g_1 (a := 0) (b := 0) (nx := 47) (by decide +kernel) ?_
  refine g_61 (a := 0) (b := 0) (nx := 48) (by decide +kernel) h.1 ?_
  replace h := h.2
  obtain ⟨r1, h⟩ := h
  obtain ⟨r2, h⟩ := h
  by_cases c3 : (M (M x0 61) 0) ≤ x3
  · rw [if_pos c3] at h
    refine g_41t (a := 3) (b := 119) (nx := 51) (by decide +kernel) (by rw [wr_id r1, wr_id r2]; exact (cb_3 _ _).mpr c3) ?_
    refine g_7 (a := 0) (b := 0) (nx := 120) (by decide +kernel) rfl ?_
    refine g_52 (a := 12) (b := 61) (nx := 123) (by decide +kernel) h0 ?_
    refine g_1 (a := 0) (b := 0) (nx := 124) (by decide +kernel) ?_
    refine g_61 (a := 0) (b := 0) (nx := 125) (by decide +kernel) h.1 ?_
    replace h := h.2
    exact g_91 (b := 0) (nx := 126) (by decide +kernel) h
  · rw [if_neg c3] at h
    refine g_41f (a := 3) (b := 119) (nx := 51) (by decide +kernel) (by rw [wr_id r1, wr_id r2]; exact fun hz => c3 ((cb_3 _ _).mp hz)) ?_
    refine g_7 (a := 0) (b := 0) (nx := 52) (by decide +kernel) rfl ?_
    refine g_52 (a := 12) (b := 61) (nx := 55) (by decide +kernel) h0 ?_
    refine g_1 (a := 1) (b := 0) (nx := 56) (by decide +kernel) ?_
    refine g_5 (a := 3) (b := 0) (nx := 57) (by decide +kernel) rfl ?_
    refine g_15 (a := 0) (b := 0) (nx := 58) (by decide +kernel) ?_
    refine g_7 (a := 0) (b := 0) (nx := 59) (by decide +kernel) rfl ?_
    refine g_52 (a := 12) (b := 61) (nx := 62) (by decide +kernel) h0 ?_
    refine g_1 (a := 2) (b := 0) (nx := 63) (by decide +kernel) ?_
    refine g_5 (a := 3) (b := 0) (nx := 64) (by decide +kernel) rfl ?_
    refine g_15 (a := 0) (b := 0) (nx := 65) (by decide +kernel) ?_
    refine g_61 (a := 0) (b := 0) (nx := 66) (by decide +kernel) h.1 ?_
    replace h := h.2
    refine g_62 (a := 0) (b := 0) (nx := 67) (by decide +kernel) h.1 ?_
    replace h := h.2
    refine g_1 (a := 0) (b := 0) (nx := 68) (by decide +kernel) ?_
    refine g_8 (a := 4) (b := 0) (nx := 70) (by decide +kernel) rfl (ls' := [some (vR x0), some (vI x1), some (vI x2), some (vI x3), some (vI 0)]) rfl ?_
    exact h
theorem t_216_70 {x0 x1 x2 x3 x4 : Int} {M : Mem} {Q : AV → Mem → Prop} (h0 : gO 12 x0) (h : inR x4 ∧ (if 12 ≤ x4 then (WR 216 41 [some (vR x0), some (vI x1), some (vI x2), some (vI (x3 + 1)), some (vI x4)] [] M Q) else ((gA 20 (M x0 61) ((33 + (12 * x3)) + x4)) ∧ (gA 20 (M x0 61) ((21 + (12 * x3)) + x4)) ∧ WR 216 70 [some (vR x0), some (vI x1), some (vI x2), some (vI x3), some (vI (x4 + 1))] [] (upM M (M x0 61) ((21 + (12 * x3)) + x4) (M (M x0 61) ((33 + (12 * x3)) + x4))) Q))) : WR 216 70 [some (vR x0), some (vI x1), some (vI x2), some (vI x3), some (vI x4)] [] M Q := by
  refine g_5 (a := 4) (b := 0) (nx := 72) (by decide +kernel) rfl ?_
  refine g_1 (a := 12) (b := 0) (nx := 74) (by decide +kernel) ?_
  obtain ⟨r1, h⟩ := h
  by_cases c2 : 12 ≤ x4
  · rw [if_pos c2] at h
    refine g_41t (a := 3) (b := 113) (nx := 77) (by decide +kernel) (by rw [wr_id r1, wr_id (show inR 12 by decide)]; exact (cb_3 _ _).mpr c2) ?_
    refine g_11 (a := 3) (b := 1) (nx := 116) (by decide +kernel) rfl rfl (ls' := [some (vR x0), some (vI x1), some (vI x2), some (vI (x3 + 1)), some (vI x4)]) rfl ?_
    refine g_44 (a := 0) (b := 41) (nx := 119) (by decide +kernel) ?_
    exact h
  · rw [if_neg c2] at h
    refine g_41f (a := 3) (b := 113) (nx := 77) (by decide +kernel) (by rw [wr_id r1, wr_id (show inR 12 by decide)]; exact fun hz => c2 ((cb_3 _ _).mp hz)) ?_
    refine g_7 (a := 0) (b := 0) (nx := 78) (by decide +kernel) rfl ?_
    refine g_52 (a := 12) (b := 61) (nx := 81) (by decide +kernel) h0 ?_
    refine g_1 (a := 21) (b := 0) (nx := 83) (by decide +kernel) ?_
    refine g_1 (a := 12) (b := 0) (nx := 85) (by decide +kernel) ?_
    refine g_5 (a := 3) (b := 0) (nx := 86) (by decide +kernel) rfl ?_
    refine g_17 (a := 0) (b := 0) (nx := 87) (by decide +kernel) ?_
    refine g_15 (a := 0) (b := 0) (nx := 88) (by decide +kernel) ?_
    refine g_5 (a := 4) (b := 0) (nx := 90) (by decide +kernel) rfl ?_
    refine g_15 (a := 0) (b := 0) (nx := 91) (by decide +kernel) ?_
    refine g_7 (a := 0) (b := 0) (nx := 92) (by decide +kernel) rfl ?_
    refine g_52 (a := 12) (b := 61) (nx := 95) (by decide +kernel) h0 ?_
    refine g_1 (a := 33) (b := 0) (nx := 97) (by decide +kernel) ?_
    refine g_1 (a := 12) (b := 0) (nx := 99) (by decide +kernel) ?_
    refine g_5 (a := 3) (b := 0) (nx := 100) (by decide +kernel) rfl ?_
    refine g_17 (a := 0) (b := 0) (nx := 101) (by decide +kernel) ?_
    refine g_15 (a := 0) (b := 0) (nx := 102) (by decide +kernel) ?_
    refine g_5 (a := 4) (b := 0) (nx := 104) (by decide +kernel) rfl ?_
    refine g_15 (a := 0) (b := 0) (nx := 105) (by decide +kernel) ?_
    refine g_61 (a := 0) (b := 0) (nx := 106) (by decide +kernel) h.1 ?_
    replace h := h.2
    refine g_62 (a := 0) (b := 0) (nx := 107) (by decide +kernel) h.1 ?_
    replace h := h.2
    refine g_11 (a := 4) (b := 1) (nx := 110) (by decide +kernel) rfl rfl (ls' := [some (vR x0), some (vI x1), some (vI x2), some (vI x3), some (vI (x4 + 1))]) rfl ?_
    refine g_44 (a := 0) (b := 70) (nx := 113) (by decide +kernel) ?_
    exact h
-- 217 SyllableMakerModel.cost(II)I
theorem t_217 {x0 x1 x2 : Int} {M : Mem} {Q : AV → Mem → Prop} (h0 : gO 12 x0) (h : WI 177 [vL (wr32 x1), vL 0, vL 5] M (fun y2 M1 => inR y2 ∧ (if y2 = 0 then (Q (vI (-1)) M1) else (WI 177 [vL (wr32 x2), vL 0, vL 999] M1 (fun y5 M4 => inR y5 ∧ (if y5 = 0 then (Q (vI (-1)) M4) else ((gA 20 (M4 x0 61) (261 + x1)) ∧ inR (M4 (M4 x0 61) (261 + x1)) ∧ (inR x2 ∧ (if (M4 (M4 x0 61) (261 + x1)) = x2 then (Q (vI (-1)) M4) else (WV 213 [vR x0] M4 (fun M9 => (gA 20 (M9 x0 61) (261 + x1)) ∧ (gA 20 (M9 x0 61) (261 + x1)) ∧ Q (vI (M9 (M9 x0 61) (261 + x1))) (upM M9 (M9 x0 61) (261 + x1) x2)))))))))))) : WC 217 [vR x0, vI x1, vI x2] M Q := by
  show WR 217 0 [some (vR x0), some (vI x1), some (vI x2), none] [] M Q
  refine g_5 (a := 1) (b := 0) (nx := 1) (by decide +kernel) rfl ?_
  refine g_35 (a := 0) (b := 0) (nx := 2) (by decide +kernel) ?_
  refine g_2 (a := 0) (b := 0) (nx := 3) (by decide +kernel) ?_
  refine g_2 (a := 5) (b := 0) (nx := 6) (by decide +kernel) ?_
  refine g_82 (a := 177) (b := 3) (nx := 9) (by decide +kernel) (As := [vL (wr32 x1), vL 0, vL 5]) (st' := []) (z := 177) rfl rfl rfl (Nat.le_of_ble_eq_true rfl) (Nat.le_of_ble_eq_true rfl) rfl (c_I (by decide +kernel) h (fun y2 M1 h => ?_))
  obtain ⟨r3, h⟩ := h
  by_cases c13 : y2 = 0
  · rw [if_pos c13] at h
    refine g_40t (a := 0) (b := 38) (nx := 12) (by decide +kernel) r3 (by exact (cb_0 _ _).mpr c13) ?_
    refine g_1 (a := (-1)) (b := 0) (nx := 39) (by decide +kernel) ?_
    exact g_91 (b := 0) (nx := 40) (by decide +kernel) h
  · rw [if_neg c13] at h
    refine g_40f (a := 0) (b := 38) (nx := 12) (by decide +kernel) r3 (by exact fun hz => c13 ((cb_0 _ _).mp hz)) ?_
    refine g_5 (a := 2) (b := 0) (nx := 13) (by decide +kernel) rfl ?_
    refine g_35 (a := 0) (b := 0) (nx := 14) (by decide +kernel) ?_
    refine g_2 (a := 0) (b := 0) (nx := 15) (by decide +kernel) ?_
    refine g_2 (a := 999) (b := 0) (nx := 18) (by decide +kernel) ?_
    refine g_82 (a := 177) (b := 3) (nx := 21) (by decide +kernel) (As := [vL (wr32 x2), vL 0, vL 999]) (st' := []) (z := 177) rfl rfl rfl (Nat.le_of_ble_eq_true rfl) (Nat.le_of_ble_eq_true rfl) rfl (c_I (by decide +kernel) h (fun y5 M4 h => ?_))
    obtain ⟨r6, h⟩ := h
    by_cases c12 : y5 = 0
    · rw [if_pos c12] at h
      refine g_40t (a := 0) (b := 38) (nx := 24) (by decide +kernel) r6 (by exact (cb_0 _ _).mpr c12) ?_
      refine g_1 (a := (-1)) (b := 0) (nx := 39) (by decide +kernel) ?_
      exact g_91 (b := 0) (nx := 40) (by decide +kernel) h
    · rw [if_neg c12] at h
      refine g_40f (a := 0) (b := 38) (nx := 24) (by decide +kernel) r6 (by exact fun hz => c12 ((cb_0 _ _).mp hz)) ?_
      refine g_7 (a := 0) (b := 0) (nx := 25) (by decide +kernel) rfl ?_
      refine g_52 (a := 12) (b := 61) (nx := 28) (by decide +kernel) h0 ?_
      refine g_1 (a := 261) (b := 0) (nx := 31) (by decide +kernel) ?_
      refine g_5 (a := 1) (b := 0) (nx := 32) (by decide +kernel) rfl ?_
      refine g_15 (a := 0) (b := 0) (nx := 33) (by decide +kernel) ?_
      refine g_61 (a := 0) (b := 0) (nx := 34) (by decide +kernel) h.1 ?_
      replace h := h.2
      refine g_5 (a := 2) (b := 0) (nx := 35) (by decide +kernel) rfl ?_
      obtain ⟨r7, h⟩ := h
      obtain ⟨r8, h⟩ := h
      by_cases c11 : (M4 (M4 x0 61) (261 + x1)) = x2
      · rw [if_pos c11] at h
        refine g_41f (a := 1) (b := 40) (nx := 38) (by decide +kernel) (by rw [wr_id r7, wr_id r8]; exact fun hz => ((cb_1 _ _).mp hz) c11) ?_
        refine g_1 (a := (-1)) (b := 0) (nx := 39) (by decide +kernel) ?_
        exact g_91 (b := 0) (nx := 40) (by decide +kernel) h
      · rw [if_neg c11] at h
        refine g_41t (a := 1) (b := 40) (nx := 38) (by decide +kernel) (by rw [wr_id r7, wr_id r8]; exact (cb_1 _ _).mpr c11) ?_
        refine g_7 (a := 0) (b := 0) (nx := 41) (by decide +kernel) rfl ?_
        refine g_80 (a := 213) (b := 0) (nx := 44) (by decide +kernel) (r := x0) (As := []) (st' := []) (z := 213) rfl rfl rfl (Nat.le_of_ble_eq_true rfl) h0.2 (Nat.le_of_ble_eq_true rfl) rfl (c_V (by decide +kernel) h (fun M9 h => ?_))
        refine g_7 (a := 0) (b := 0) (nx := 45) (by decide +kernel) rfl ?_
        refine g_52 (a := 12) (b := 61) (nx := 48) (by decide +kernel) h0 ?_
        refine g_1 (a := 261) (b := 0) (nx := 51) (by decide +kernel) ?_
        refine g_5 (a := 1) (b := 0) (nx := 52) (by decide +kernel) rfl ?_
        refine g_15 (a := 0) (b := 0) (nx := 53) (by decide +kernel) ?_
        refine g_61 (a := 0) (b := 0) (nx := 54) (by decide +kernel) h.1 ?_
        replace h := h.2
        refine g_8 (a := 3) (b := 0) (nx := 55) (by decide +kernel) rfl (ls' := [some (vR x0), some (vI x1), some (vI x2), some (vI (M9 (M9 x0 61) (261 + x1)))]) rfl ?_
        refine g_7 (a := 0) (b := 0) (nx := 56) (by decide +kernel) rfl ?_
        refine g_52 (a := 12) (b := 61) (nx := 59) (by decide +kernel) h0 ?_
        refine g_1 (a := 261) (b := 0) (nx := 62) (by decide +kernel) ?_
        refine g_5 (a := 1) (b := 0) (nx := 63) (by decide +kernel) rfl ?_
        refine g_15 (a := 0) (b := 0) (nx := 64) (by decide +kernel) ?_
        refine g_5 (a := 2) (b := 0) (nx := 65) (by decide +kernel) rfl ?_
        refine g_62 (a := 0) (b := 0) (nx := 66) (by decide +kernel) h.1 ?_
        replace h := h.2
        refine g_5 (a := 3) (b := 0) (nx := 67) (by decide +kernel) rfl ?_
        exact g_91 (b := 0) (nx := 68) (by decide +kernel) h
-- 218 SyllableMakerModel.costOf(I)I
theorem t_218 {x0 x1 : Int} {M : Mem} {Q : AV → Mem → Prop} (h0 : gO 12 x0) (h : (gA 20 (M x0 61) (261 + x1)) ∧ Q (vI (M (M x0 61) (261 + x1))) M) : WC 218 [vR x0, vI x1] M Q := by
  show WR 218 0 [some (vR x0), some (vI x1)] [] M Q
  refine g_7 (a := 0) (b := 0) (nx := 1) (by decide +kernel) rfl ?_
  refine g_52 (a := 12) (b := 61) (nx := 4) (by decide +kernel) h0 ?_
  refine g_1 (a := 261) (b := 0) (nx := 7) (by decide +kernel) ?_
  refine g_5 (a := 1) (b := 0) (nx := 8) (by decide +kernel) rfl ?_
  refine g_15 (a := 0) (b := 0) (nx := 9) (by decide +kernel) ?_
  refine g_61 (a := 0) (b := 0) (nx := 10) (by decide +kernel) h.1 ?_
  replace h := h.2
  exact g_91 (b := 0) (nx := 11) (by decide +kernel) h
-- 219 SyllableMakerModel.isThere(I)Z
theorem t_219 {x0 x1 : Int} {M : Mem} {Q : AV → Mem → Prop} (h0 : gO 12 x0) (h : WI 177 [vL (wr32 x1), vL 0, vL (wr32 ((M x0 56) - 1))] M (fun y2 M1 => inR y2 ∧ (if y2 = 0 then ((gA 20 (M1 x0 61) 0) ∧ WI 177 [vL (wr32 x1), vL 100, vL (wr32 ((100 + (M1 (M1 x0 61) 0)) - 1))] M1 (fun y5 M4 => inR y5 ∧ (if y5 = 0 then (Q (vI 0) M4) else (Q (vI 1) M4)))) else (Q (vI 1) M1)))) : WC 219 [vR x0, vI x1] M Q := by
  show WR 219 0 [some (vR x0), some (vI x1)] [] M Q
  refine g_5 (a := 1) (b := 0) (nx := 1) (by decide +kernel) rfl ?_
  refine g_35 (a := 0) (b := 0) (nx := 2) (by decide +kernel) ?_
  refine g_2 (a := 0) (b := 0) (nx := 3) (by decide +kernel) ?_
  refine g_7 (a := 0) (b := 0) (nx := 4) (by decide +kernel) rfl ?_
  refine g_50 (a := 12) (b := 56) (nx := 7) (by decide +kernel) h0 ?_
  refine g_1 (a := 1) (b := 0) (nx := 8) (by decide +kernel) ?_
  refine g_16 (a := 0) (b := 0) (nx := 9) (by decide +kernel) ?_
  refine g_35 (a := 0) (b := 0) (nx := 10) (by decide +kernel) ?_
  refine g_82 (a := 177) (b := 3) (nx := 13) (by decide +kernel) (As := [vL (wr32 x1), vL 0, vL (wr32 ((M x0 56) - 1))]) (st' := []) (z := 177) rfl rfl rfl (Nat.le_of_ble_eq_true rfl) (Nat.le_of_ble_eq_true rfl) rfl (c_I (by decide +kernel) h (fun y2 M1 h => ?_))
  obtain ⟨r3, h⟩ := h
  by_cases c8 : y2 = 0
  · rw [if_pos c8] at h
    refine g_40f (a := 1) (b := 39) (nx := 16) (by decide +kernel) r3 (by exact fun hz => ((cb_1 _ _).mp hz) c8) ?_
    refine g_5 (a := 1) (b := 0) (nx := 17) (by decide +kernel) rfl ?_
    refine g_35 (a := 0) (b := 0) (nx := 18) (by decide +kernel) ?_
    refine g_2 (a := 100) (b := 0) (nx := 21) (by decide +kernel) ?_
    refine g_1 (a := 100) (b := 0) (nx := 23) (by decide +kernel) ?_
    refine g_7 (a := 0) (b := 0) (nx := 24) (by decide +kernel) rfl ?_
    refine g_52 (a := 12) (b := 61) (nx := 27) (by decide +kernel) h0 ?_
    refine g_1 (a := 0) (b := 0) (nx := 28) (by decide +kernel) ?_
    refine g_61 (a := 0) (b := 0) (nx := 29) (by decide +kernel) h.1 ?_
    replace h := h.2
    refine g_15 (a := 0) (b := 0) (nx := 30) (by decide +kernel) ?_
    refine g_1 (a := 1) (b := 0) (nx := 31) (by decide +kernel) ?_
    refine g_16 (a := 0) (b := 0) (nx := 32) (by decide +kernel) ?_
    refine g_35 (a := 0) (b := 0) (nx := 33) (by decide +kernel) ?_
    refine g_82 (a := 177) (b := 3) (nx := 36) (by decide +kernel) (As := [vL (wr32 x1), vL 100, vL (wr32 ((100 + (M1 (M1 x0 61) 0)) - 1))]) (st' := []) (z := 177) rfl rfl rfl (Nat.le_of_ble_eq_true rfl) (Nat.le_of_ble_eq_true rfl) rfl (c_I (by decide +kernel) h (fun y5 M4 h => ?_))
    obtain ⟨r6, h⟩ := h
    by_cases c7 : y5 = 0
    · rw [if_pos c7] at h
      refine g_40t (a := 0) (b := 43) (nx := 39) (by decide +kernel) r6 (by exact (cb_0 _ _).mpr c7) ?_
      refine g_1 (a := 0) (b := 0) (nx := 44) (by decide +kernel) ?_
      exact g_91z (b := 0) (nx := 45) (by decide +kernel) (by decide) h
    · rw [if_neg c7] at h
      refine g_40f (a := 0) (b := 43) (nx := 39) (by decide +kernel) r6 (by exact fun hz => c7 ((cb_0 _ _).mp hz)) ?_
      refine g_1 (a := 1) (b := 0) (nx := 40) (by decide +kernel) ?_
      refine g_44 (a := 0) (b := 44) (nx := 43) (by decide +kernel) ?_
      exact g_91z (b := 0) (nx := 45) (by decide +kernel) (by decide) h
  · rw [if_neg c8] at h
    refine g_40t (a := 1) (b := 39) (nx := 16) (by decide +kernel) r3 (by exact (cb_1 _ _).mpr c8) ?_
    refine g_1 (a := 1) (b := 0) (nx := 40) (by decide +kernel) ?_
    refine g_44 (a := 0) (b := 44) (nx := 43) (by decide +kernel) ?_
    exact g_91z (b := 0) (nx := 45) (by decide +kernel) (by decide) h
-- 220 SyllableMakerModel.isSaid(I)Z
theorem t_220 {x0 x1 : Int} {M : Mem} {Q : AV → Mem → Prop} (h0 : gO 12 x0) (h : WI 177 [vL (wr32 x1), vL 0, vL (wr32 ((M x0 56) - 1))] M (fun y2 M1 => (0 ≤ y2 ∧ y2 ≤ 1) ∧ Q (vI y2) M1)) : WC 220 [vR x0, vI x1] M Q := by
  show WR 220 0 [some (vR x0), some (vI x1)] [] M Q
  refine g_5 (a := 1) (b := 0) (nx := 1) (by decide +kernel) rfl ?_
  refine g_35 (a := 0) (b := 0) (nx := 2) (by decide +kernel) ?_
  refine g_2 (a := 0) (b := 0) (nx := 3) (by decide +kernel) ?_
  refine g_7 (a := 0) (b := 0) (nx := 4) (by decide +kernel) rfl ?_
  refine g_50 (a := 12) (b := 56) (nx := 7) (by decide +kernel) h0 ?_
  refine g_1 (a := 1) (b := 0) (nx := 8) (by decide +kernel) ?_
  refine g_16 (a := 0) (b := 0) (nx := 9) (by decide +kernel) ?_
  refine g_35 (a := 0) (b := 0) (nx := 10) (by decide +kernel) ?_
  refine g_82 (a := 177) (b := 3) (nx := 13) (by decide +kernel) (As := [vL (wr32 x1), vL 0, vL (wr32 ((M x0 56) - 1))]) (st' := []) (z := 177) rfl rfl rfl (Nat.le_of_ble_eq_true rfl) (Nat.le_of_ble_eq_true rfl) rfl (c_I (by decide +kernel) h (fun y2 M1 h => ?_))
  exact g_91z (b := 0) (nx := 14) (by decide +kernel) h.1 h.2
-- 221 SyllableMakerModel.longOf(I)I
theorem t_221 {x0 x1 : Int} {M : Mem} {Q : AV → Mem → Prop} (h0 : gO 12 x0) (h : inR x1 ∧ (if 100 ≤ x1 then ((gA 20 (M x0 61) ((1 + x1) - 100)) ∧ Q (vI (M (M x0 61) ((1 + x1) - 100))) M) else ((gA 20 (M x0 58) x1) ∧ Q (vI (M (M x0 58) x1)) M))) : WC 221 [vR x0, vI x1] M Q := by
  show WR 221 0 [some (vR x0), some (vI x1)] [] M Q
  refine g_5 (a := 1) (b := 0) (nx := 1) (by decide +kernel) rfl ?_
  refine g_1 (a := 100) (b := 0) (nx := 3) (by decide +kernel) ?_
  obtain ⟨r1, h⟩ := h
  by_cases c2 : 100 ≤ x1
  · rw [if_pos c2] at h
    refine g_41t (a := 3) (b := 15) (nx := 6) (by decide +kernel) (by rw [wr_id r1, wr_id (show inR 100 by decide)]; exact (cb_3 _ _).mpr c2) ?_
    refine g_7 (a := 0) (b := 0) (nx := 16) (by decide +kernel) rfl ?_
    refine g_52 (a := 12) (b := 61) (nx := 19) (by decide +kernel) h0 ?_
    refine g_1 (a := 1) (b := 0) (nx := 20) (by decide +kernel) ?_
    refine g_5 (a := 1) (b := 0) (nx := 21) (by decide +kernel) rfl ?_
    refine g_15 (a := 0) (b := 0) (nx := 22) (by decide +kernel) ?_
    refine g_1 (a := 100) (b := 0) (nx := 24) (by decide +kernel) ?_
    refine g_16 (a := 0) (b := 0) (nx := 25) (by decide +kernel) ?_
    refine g_61 (a := 0) (b := 0) (nx := 26) (by decide +kernel) h.1 ?_
    replace h := h.2
    exact g_91 (b := 0) (nx := 27) (by decide +kernel) h
  · rw [if_neg c2] at h
    refine g_41f (a := 3) (b := 15) (nx := 6) (by decide +kernel) (by rw [wr_id r1, wr_id (show inR 100 by decide)]; exact fun hz => c2 ((cb_3 _ _).mp hz)) ?_
    refine g_7 (a := 0) (b := 0) (nx := 7) (by decide +kernel) rfl ?_
    refine g_52 (a := 12) (b := 58) (nx := 10) (by decide +kernel) h0 ?_
    refine g_5 (a := 1) (b := 0) (nx := 11) (by decide +kernel) rfl ?_
    refine g_61 (a := 0) (b := 0) (nx := 12) (by decide +kernel) h.1 ?_
    replace h := h.2
    refine g_44 (a := 0) (b := 26) (nx := 15) (by decide +kernel) ?_
    exact g_91 (b := 0) (nx := 27) (by decide +kernel) h
-- 222 SyllableMakerModel.soundAt(II)I
theorem t_222 {x0 x1 x2 : Int} {M : Mem} {Q : AV → Mem → Prop} (h0 : gO 12 x0) (h : inR x1 ∧ (if 100 ≤ x1 then ((gA 20 (M x0 61) ((21 + (12 * (x1 - 100))) + x2)) ∧ Q (vI (M (M x0 61) ((21 + (12 * (x1 - 100))) + x2))) M) else ((gA 20 (M x0 57) ((12 * x1) + x2)) ∧ Q (vI (M (M x0 57) ((12 * x1) + x2))) M))) : WC 222 [vR x0, vI x1, vI x2] M Q := by
  show WR 222 0 [some (vR x0), some (vI x1), some (vI x2)] [] M Q
  refine g_5 (a := 1) (b := 0) (nx := 1) (by decide +kernel) rfl ?_
  refine g_1 (a := 100) (b := 0) (nx := 3) (by decide +kernel) ?_
  obtain ⟨r1, h⟩ := h
  by_cases c2 : 100 ≤ x1
  · rw [if_pos c2] at h
    refine g_41t (a := 3) (b := 20) (nx := 6) (by decide +kernel) (by rw [wr_id r1, wr_id (show inR 100 by decide)]; exact (cb_3 _ _).mpr c2) ?_
    refine g_7 (a := 0) (b := 0) (nx := 21) (by decide +kernel) rfl ?_
    refine g_52 (a := 12) (b := 61) (nx := 24) (by decide +kernel) h0 ?_
    refine g_1 (a := 21) (b := 0) (nx := 26) (by decide +kernel) ?_
    refine g_1 (a := 12) (b := 0) (nx := 28) (by decide +kernel) ?_
    refine g_5 (a := 1) (b := 0) (nx := 29) (by decide +kernel) rfl ?_
    refine g_1 (a := 100) (b := 0) (nx := 31) (by decide +kernel) ?_
    refine g_16 (a := 0) (b := 0) (nx := 32) (by decide +kernel) ?_
    refine g_17 (a := 0) (b := 0) (nx := 33) (by decide +kernel) ?_
    refine g_15 (a := 0) (b := 0) (nx := 34) (by decide +kernel) ?_
    refine g_5 (a := 2) (b := 0) (nx := 35) (by decide +kernel) rfl ?_
    refine g_15 (a := 0) (b := 0) (nx := 36) (by decide +kernel) ?_
    refine g_61 (a := 0) (b := 0) (nx := 37) (by decide +kernel) h.1 ?_
    replace h := h.2
    exact g_91 (b := 0) (nx := 38) (by decide +kernel) h
  · rw [if_neg c2] at h
    refine g_41f (a := 3) (b := 20) (nx := 6) (by decide +kernel) (by rw [wr_id r1, wr_id (show inR 100 by decide)]; exact fun hz => c2 ((cb_3 _ _).mp hz)) ?_
    refine g_7 (a := 0) (b := 0) (nx := 7) (by decide +kernel) rfl ?_
    refine g_52 (a := 12) (b := 57) (nx := 10) (by decide +kernel) h0 ?_
    refine g_1 (a := 12) (b := 0) (nx := 12) (by decide +kernel) ?_
    refine g_5 (a := 1) (b := 0) (nx := 13) (by decide +kernel) rfl ?_
    refine g_17 (a := 0) (b := 0) (nx := 14) (by decide +kernel) ?_
    refine g_5 (a := 2) (b := 0) (nx := 15) (by decide +kernel) rfl ?_
    refine g_15 (a := 0) (b := 0) (nx := 16) (by decide +kernel) ?_
    refine g_61 (a := 0) (b := 0) (nx := 17) (by decide +kernel) h.1 ?_
    replace h := h.2
    refine g_44 (a := 0) (b := 37) (nx := 20) (by decide +kernel) ?_
    exact g_91 (b := 0) (nx := 38) (by decide +kernel) h
-- 223 SyllableMakerModel.at(II)I
theorem t_223 {x0 x1 x2 : Int} {M : Mem} {Q : AV → Mem → Prop} (h0 : gO 12 x0) (h : WI 219 [vR x0, vI x1] M (fun y2 M1 => inR y2 ∧ (if y2 = 0 then (Q (vI (-1)) M1) else (WI 221 [vR x0, vI x1] M1 (fun y5 M4 => WI 177 [vL (wr32 x2), vL 0, vL (wr32 (y5 - 1))] M4 (fun y7 M6 => inR y7 ∧ (if y7 = 0 then (Q (vI (-1)) M6) else (WI 222 [vR x0, vI x1, vI x2] M6 (fun y10 M9 => Q (vI y10) M9))))))))) : WC 223 [vR x0, vI x1, vI x2] M Q := by
  show WR 223 0 [some (vR x0), some (vI x1), some (vI x2)] [] M Q
  refine g_7 (a := 0) (b := 0) (nx := 1) (by decide +kernel) rfl ?_
  refine g_5 (a := 1) (b := 0) (nx := 2) (by decide +kernel) rfl ?_
  refine g_80 (a := 219) (b := 1) (nx := 5) (by decide +kernel) (r := x0) (As := [vI x1]) (st' := []) (z := 219) rfl rfl rfl (Nat.le_of_ble_eq_true rfl) h0.2 (Nat.le_of_ble_eq_true rfl) rfl (c_I (by decide +kernel) h (fun y2 M1 h => ?_))
  obtain ⟨r3, h⟩ := h
  by_cases c12 : y2 = 0
  · rw [if_pos c12] at h
    refine g_40t (a := 0) (b := 34) (nx := 8) (by decide +kernel) r3 (by exact (cb_0 _ _).mpr c12) ?_
    refine g_1 (a := (-1)) (b := 0) (nx := 35) (by decide +kernel) ?_
    exact g_91 (b := 0) (nx := 36) (by decide +kernel) h
  · rw [if_neg c12] at h
    refine g_40f (a := 0) (b := 34) (nx := 8) (by decide +kernel) r3 (by exact fun hz => c12 ((cb_0 _ _).mp hz)) ?_
    refine g_5 (a := 2) (b := 0) (nx := 9) (by decide +kernel) rfl ?_
    refine g_35 (a := 0) (b := 0) (nx := 10) (by decide +kernel) ?_
    refine g_2 (a := 0) (b := 0) (nx := 11) (by decide +kernel) ?_
    refine g_7 (a := 0) (b := 0) (nx := 12) (by decide +kernel) rfl ?_
    refine g_5 (a := 1) (b := 0) (nx := 13) (by decide +kernel) rfl ?_
    refine g_80 (a := 221) (b := 1) (nx := 16) (by decide +kernel) (r := x0) (As := [vI x1]) (st' := [vL 0, vL (wr32 x2)]) (z := 221) rfl rfl rfl (Nat.le_of_ble_eq_true rfl) h0.2 (Nat.le_of_ble_eq_true rfl) rfl (c_I (by decide +kernel) h (fun y5 M4 h => ?_))
    refine g_1 (a := 1) (b := 0) (nx := 17) (by decide +kernel) ?_
    refine g_16 (a := 0) (b := 0) (nx := 18) (by decide +kernel) ?_
    refine g_35 (a := 0) (b := 0) (nx := 19) (by decide +kernel) ?_
    refine g_82 (a := 177) (b := 3) (nx := 22) (by decide +kernel) (As := [vL (wr32 x2), vL 0, vL (wr32 (y5 - 1))]) (st' := []) (z := 177) rfl rfl rfl (Nat.le_of_ble_eq_true rfl) (Nat.le_of_ble_eq_true rfl) rfl (c_I (by decide +kernel) h (fun y7 M6 h => ?_))
    obtain ⟨r8, h⟩ := h
    by_cases c11 : y7 = 0
    · rw [if_pos c11] at h
      refine g_40t (a := 0) (b := 34) (nx := 25) (by decide +kernel) r8 (by exact (cb_0 _ _).mpr c11) ?_
      refine g_1 (a := (-1)) (b := 0) (nx := 35) (by decide +kernel) ?_
      exact g_91 (b := 0) (nx := 36) (by decide +kernel) h
    · rw [if_neg c11] at h
      refine g_40f (a := 0) (b := 34) (nx := 25) (by decide +kernel) r8 (by exact fun hz => c11 ((cb_0 _ _).mp hz)) ?_
      refine g_7 (a := 0) (b := 0) (nx := 26) (by decide +kernel) rfl ?_
      refine g_5 (a := 1) (b := 0) (nx := 27) (by decide +kernel) rfl ?_
      refine g_5 (a := 2) (b := 0) (nx := 28) (by decide +kernel) rfl ?_
      refine g_80 (a := 222) (b := 2) (nx := 31) (by decide +kernel) (r := x0) (As := [vI x1, vI x2]) (st' := []) (z := 222) rfl rfl rfl (Nat.le_of_ble_eq_true rfl) h0.2 (Nat.le_of_ble_eq_true rfl) rfl (c_I (by decide +kernel) h (fun y10 M9 h => ?_))
      refine g_44 (a := 0) (b := 35) (nx := 34) (by decide +kernel) ?_
      exact g_91 (b := 0) (nx := 36) (by decide +kernel) h
-- 224 SyllableMakerModel.sound(II)I
theorem t_224 {x0 x1 x2 : Int} {M : Mem} {Q : AV → Mem → Prop} (h0 : gO 12 x0) (h : WI 177 [vL (wr32 x1), vL 0, vL (wr32 ((M x0 38) - 1))] M (fun y2 M1 => inR y2 ∧ (if y2 = 0 then (Q (vI (-1)) M1) else (inR x2 ∧ (if x2 = 0 then ((gA 20 (M1 x0 49) x1) ∧ Q (vI (97 + (M1 (M1 x0 49) x1))) M1) else (if x2 = 1 then ((gA 20 (M1 x0 50) x1) ∧ Q (vI (M1 (M1 x0 50) x1)) M1) else (if x2 = 2 then ((gA 20 (M1 x0 51) x1) ∧ Q (vI (M1 (M1 x0 51) x1)) M1) else (Q (vI (-1)) M1)))))))) : WC 224 [vR x0, vI x1, vI x2] M Q := by
  show WR 224 0 [some (vR x0), some (vI x1), some (vI x2)] [] M Q
  refine g_5 (a := 1) (b := 0) (nx := 1) (by decide +kernel) rfl ?_
  refine g_35 (a := 0) (b := 0) (nx := 2) (by decide +kernel) ?_
  refine g_2 (a := 0) (b := 0) (nx := 3) (by decide +kernel) ?_
  refine g_7 (a := 0) (b := 0) (nx := 4) (by decide +kernel) rfl ?_
  refine g_50 (a := 12) (b := 38) (nx := 7) (by decide +kernel) h0 ?_
  refine g_1 (a := 1) (b := 0) (nx := 8) (by decide +kernel) ?_
  refine g_16 (a := 0) (b := 0) (nx := 9) (by decide +kernel) ?_
  refine g_35 (a := 0) (b := 0) (nx := 10) (by decide +kernel) ?_
  refine g_82 (a := 177) (b := 3) (nx := 13) (by decide +kernel) (As := [vL (wr32 x1), vL 0, vL (wr32 ((M x0 38) - 1))]) (st' := []) (z := 177) rfl rfl rfl (Nat.le_of_ble_eq_true rfl) (Nat.le_of_ble_eq_true rfl) rfl (c_I (by decide +kernel) h (fun y2 M1 h => ?_))
  obtain ⟨r3, h⟩ := h
  by_cases c8 : y2 = 0
  · rw [if_pos c8] at h
    refine g_40f (a := 1) (b := 20) (nx := 16) (by decide +kernel) r3 (by exact fun hz => ((cb_1 _ _).mp hz) c8) ?_
    refine g_1 (a := (-1)) (b := 0) (nx := 17) (by decide +kernel) ?_
    refine g_44 (a := 0) (b := 65) (nx := 20) (by decide +kernel) ?_
    exact g_91 (b := 0) (nx := 66) (by decide +kernel) h
  · rw [if_neg c8] at h
    refine g_40t (a := 1) (b := 20) (nx := 16) (by decide +kernel) r3 (by exact (cb_1 _ _).mpr c8) ?_
    refine g_5 (a := 2) (b := 0) (nx := 21) (by decide +kernel) rfl ?_
    obtain ⟨r4, h⟩ := h
    by_cases c7 : x2 = 0
    · rw [if_pos c7] at h
      refine g_40f (a := 1) (b := 36) (nx := 24) (by decide +kernel) r4 (by exact fun hz => ((cb_1 _ _).mp hz) c7) ?_
      refine g_1 (a := 97) (b := 0) (nx := 26) (by decide +kernel) ?_
      refine g_7 (a := 0) (b := 0) (nx := 27) (by decide +kernel) rfl ?_
      refine g_52 (a := 12) (b := 49) (nx := 30) (by decide +kernel) h0 ?_
      refine g_5 (a := 1) (b := 0) (nx := 31) (by decide +kernel) rfl ?_
      refine g_61 (a := 0) (b := 0) (nx := 32) (by decide +kernel) h.1 ?_
      replace h := h.2
      refine g_15 (a := 0) (b := 0) (nx := 33) (by decide +kernel) ?_
      refine g_44 (a := 0) (b := 65) (nx := 36) (by decide +kernel) ?_
      exact g_91 (b := 0) (nx := 66) (by decide +kernel) h
    · rw [if_neg c7] at h
      refine g_40t (a := 1) (b := 36) (nx := 24) (by decide +kernel) r4 (by exact (cb_1 _ _).mpr c7) ?_
      refine g_5 (a := 2) (b := 0) (nx := 37) (by decide +kernel) rfl ?_
      refine g_1 (a := 1) (b := 0) (nx := 38) (by decide +kernel) ?_
      by_cases c6 : x2 = 1
      · rw [if_pos c6] at h
        refine g_41f (a := 1) (b := 50) (nx := 41) (by decide +kernel) (by rw [wr_id r4, wr_id (show inR 1 by decide)]; exact fun hz => ((cb_1 _ _).mp hz) c6) ?_
        refine g_7 (a := 0) (b := 0) (nx := 42) (by decide +kernel) rfl ?_
        refine g_52 (a := 12) (b := 50) (nx := 45) (by decide +kernel) h0 ?_
        refine g_5 (a := 1) (b := 0) (nx := 46) (by decide +kernel) rfl ?_
        refine g_61 (a := 0) (b := 0) (nx := 47) (by decide +kernel) h.1 ?_
        replace h := h.2
        refine g_44 (a := 0) (b := 65) (nx := 50) (by decide +kernel) ?_
        exact g_91 (b := 0) (nx := 66) (by decide +kernel) h
      · rw [if_neg c6] at h
        refine g_41t (a := 1) (b := 50) (nx := 41) (by decide +kernel) (by rw [wr_id r4, wr_id (show inR 1 by decide)]; exact (cb_1 _ _).mpr c6) ?_
        refine g_5 (a := 2) (b := 0) (nx := 51) (by decide +kernel) rfl ?_
        refine g_1 (a := 2) (b := 0) (nx := 52) (by decide +kernel) ?_
        by_cases c5 : x2 = 2
        · rw [if_pos c5] at h
          refine g_41f (a := 1) (b := 64) (nx := 55) (by decide +kernel) (by rw [wr_id r4, wr_id (show inR 2 by decide)]; exact fun hz => ((cb_1 _ _).mp hz) c5) ?_
          refine g_7 (a := 0) (b := 0) (nx := 56) (by decide +kernel) rfl ?_
          refine g_52 (a := 12) (b := 51) (nx := 59) (by decide +kernel) h0 ?_
          refine g_5 (a := 1) (b := 0) (nx := 60) (by decide +kernel) rfl ?_
          refine g_61 (a := 0) (b := 0) (nx := 61) (by decide +kernel) h.1 ?_
          replace h := h.2
          refine g_44 (a := 0) (b := 65) (nx := 64) (by decide +kernel) ?_
          exact g_91 (b := 0) (nx := 66) (by decide +kernel) h
        · rw [if_neg c5] at h
          refine g_41t (a := 1) (b := 64) (nx := 55) (by decide +kernel) (by rw [wr_id r4, wr_id (show inR 2 by decide)]; exact (cb_1 _ _).mpr c5) ?_
          refine g_1 (a := (-1)) (b := 0) (nx := 65) (by decide +kernel) ?_
          exact g_91 (b := 0) (nx := 66) (by decide +kernel) h
-- 225 SyllableMakerModel.isPeak(I)Z
theorem t_225 {x0 x1 : Int} {M : Mem} {Q : AV → Mem → Prop} (h0 : gO 12 x0) (h : (gA 20 (M x0 51) x1) ∧ inR (M (M x0 51) x1) ∧ (if (M (M x0 51) x1) = 1 then (Q (vI 1) M) else (Q (vI 0) M))) : WC 225 [vR x0, vI x1] M Q := by
  show WR 225 0 [some (vR x0), some (vI x1)] [] M Q
  refine g_7 (a := 0) (b := 0) (nx := 1) (by decide +kernel) rfl ?_
  refine g_52 (a := 12) (b := 51) (nx := 4) (by decide +kernel) h0 ?_
  refine g_5 (a := 1) (b := 0) (nx := 5) (by decide +kernel) rfl ?_
  refine g_61 (a := 0) (b := 0) (nx := 6) (by decide +kernel) h.1 ?_
  replace h := h.2
  refine g_1 (a := 1) (b := 0) (nx := 7) (by decide +kernel) ?_
  obtain ⟨r1, h⟩ := h
  by_cases c2 : (M (M x0 51) x1) = 1
  · rw [if_pos c2] at h
    refine g_41f (a := 1) (b := 14) (nx := 10) (by decide +kernel) (by rw [wr_id r1, wr_id (show inR 1 by decide)]; exact fun hz => ((cb_1 _ _).mp hz) c2) ?_
    refine g_1 (a := 1) (b := 0) (nx := 11) (by decide +kernel) ?_
    refine g_44 (a := 0) (b := 15) (nx := 14) (by decide +kernel) ?_
    exact g_91z (b := 0) (nx := 16) (by decide +kernel) (by decide) h
  · rw [if_neg c2] at h
    refine g_41t (a := 1) (b := 14) (nx := 10) (by decide +kernel) (by rw [wr_id r1, wr_id (show inR 1 by decide)]; exact (cb_1 _ _).mpr c2) ?_
    refine g_1 (a := 0) (b := 0) (nx := 15) (by decide +kernel) ?_
    exact g_91z (b := 0) (nx := 16) (by decide +kernel) (by decide) h
-- 226 SyllableMakerModel.areOne(II)Z
theorem t_226 {x0 x1 x2 : Int} {M : Mem} {Q : AV → Mem → Prop} (h0 : gO 12 x0) (h : WI 225 [vR x0, vI x1] M (fun y2 M1 => inR y2 ∧ (if y2 = 0 then (Q (vI 0) M1) else (WI 225 [vR x0, vI x2] M1 (fun y5 M4 => inR y5 ∧ (if y5 = 0 then (Q (vI 0) M4) else (inR x1 ∧ (inR x2 ∧ (if x1 = x2 then (Q (vI 1) M4) else (WR 226 27 [some (vR x0), some (vI x1), some (vI x2), some (vI 0)] [] M4 Q)))))))))) : WC 226 [vR x0, vI x1, vI x2] M Q := by
  show WR 226 0 [some (vR x0), some (vI x1), some (vI x2), none] [] M Q
  refine g_7 (a := 0) (b := 0) (nx := 1) (by decide +kernel) rfl ?_
  refine g_5 (a := 1) (b := 0) (nx := 2) (by decide +kernel) rfl ?_
  refine g_80 (a := 225) (b := 1) (nx := 5) (by decide +kernel) (r := x0) (As := [vI x1]) (st' := []) (z := 225) rfl rfl rfl (Nat.le_of_ble_eq_true rfl) h0.2 (Nat.le_of_ble_eq_true rfl) rfl (c_I (by decide +kernel) h (fun y2 M1 h => ?_))
  obtain ⟨r3, h⟩ := h
  by_cases c11 : y2 = 0
  · rw [if_pos c11] at h
    refine g_40t (a := 0) (b := 16) (nx := 8) (by decide +kernel) r3 (by exact (cb_0 _ _).mpr c11) ?_
    refine g_1 (a := 0) (b := 0) (nx := 17) (by decide +kernel) ?_
    exact g_91z (b := 0) (nx := 18) (by decide +kernel) (by decide) h
  · rw [if_neg c11] at h
    refine g_40f (a := 0) (b := 16) (nx := 8) (by decide +kernel) r3 (by exact fun hz => c11 ((cb_0 _ _).mp hz)) ?_
    refine g_7 (a := 0) (b := 0) (nx := 9) (by decide +kernel) rfl ?_
    refine g_5 (a := 2) (b := 0) (nx := 10) (by decide +kernel) rfl ?_
    refine g_80 (a := 225) (b := 1) (nx := 13) (by decide +kernel) (r := x0) (As := [vI x2]) (st' := []) (z := 225) rfl rfl rfl (Nat.le_of_ble_eq_true rfl) h0.2 (Nat.le_of_ble_eq_true rfl) rfl (c_I (by decide +kernel) h (fun y5 M4 h => ?_))
    obtain ⟨r6, h⟩ := h
    by_cases c10 : y5 = 0
    · rw [if_pos c10] at h
      refine g_40f (a := 1) (b := 18) (nx := 16) (by decide +kernel) r6 (by exact fun hz => ((cb_1 _ _).mp hz) c10) ?_
      refine g_1 (a := 0) (b := 0) (nx := 17) (by decide +kernel) ?_
      exact g_91z (b := 0) (nx := 18) (by decide +kernel) (by decide) h
    · rw [if_neg c10] at h
      refine g_40t (a := 1) (b := 18) (nx := 16) (by decide +kernel) r6 (by exact (cb_1 _ _).mpr c10) ?_
      refine g_5 (a := 1) (b := 0) (nx := 19) (by decide +kernel) rfl ?_
      refine g_5 (a := 2) (b := 0) (nx := 20) (by decide +kernel) rfl ?_
      obtain ⟨r7, h⟩ := h
      obtain ⟨r8, h⟩ := h
      by_cases c9 : x1 = x2
      · rw [if_pos c9] at h
        refine g_41f (a := 1) (b := 25) (nx := 23) (by decide +kernel) (by rw [wr_id r7, wr_id r8]; exact fun hz => ((cb_1 _ _).mp hz) c9) ?_
        refine g_1 (a := 1) (b := 0) (nx := 24) (by decide +kernel) ?_
        exact g_91z (b := 0) (nx := 25) (by decide +kernel) (by decide) h
      · rw [if_neg c9] at h
        refine g_41t (a := 1) (b := 25) (nx := 23) (by decide +kernel) (by rw [wr_id r7, wr_id r8]; exact (cb_1 _ _).mpr c9) ?_
        refine g_1 (a := 0) (b := 0) (nx := 26) (by decide +kernel) ?_
        refine g_8 (a := 3) (b := 0) (nx := 27) (by decide +kernel) rfl (ls' := [some (vR x0), some (vI x1), some (vI x2), some (vI 0)]) rfl ?_
        exact h
theorem t_226_27 {x0 x1 x2 x3 : Int} {M : Mem} {Q : AV → Mem → Prop} (h0 : gO 12 x0) (h : inR x3 ∧ (inR (M x0 40) ∧ (if (M x0 40) ≤ x3 then (Q (vI 0) M) else ((gA 20 (M x0 54) (2 * x3)) ∧ inR (M (M x0 54) (2 * x3)) ∧ (inR x1 ∧ (if (M (M x0 54) (2 * x3)) = x1 then ((gA 20 (M x0 54) ((2 * x3) + 1)) ∧ inR (M (M x0 54) ((2 * x3) + 1)) ∧ (inR x2 ∧ (if (M (M x0 54) ((2 * x3) + 1)) = x2 then (Q (vI 1) M) else (WR 226 27 [some (vR x0), some (vI x1), some (vI x2), some (vI (x3 + 1))] [] M Q)))) else (WR 226 27 [some (vR x0), some (vI x1), some (vI x2), some (vI (x3 + 1))] [] M Q))))))) : WR 226 27 [some (vR x0), some (vI x1), some (vI x2), some (vI x3)] [] M Q := by
  refine g_5 (a := 3) (b := 0) (nx := 28) (by decide +kernel) rfl ?_
  refine g_7 (a := 0) (b := 0) (nx := 29) (by decide +kernel) rfl ?_
  refine g_50 (a := 12) (b := 40) (nx := 32) (by decide +kernel) h0 ?_
  obtain ⟨r1, h⟩ := h
  obtain ⟨r2, h⟩ := h
  by_cases c9 : (M x0 40) ≤ x3
  · rw [if_pos c9] at h
    refine g_41t (a := 3) (b := 69) (nx := 35) (by decide +kernel) (by rw [wr_id r1, wr_id r2]; exact (cb_3 _ _).mpr c9) ?_
    refine g_1 (a := 0) (b := 0) (nx := 70) (by decide +kernel) ?_
    exact g_91z (b := 0) (nx := 71) (by decide +kernel) (by decide) h
  · rw [if_neg c9] at h
    refine g_41f (a := 3) (b := 69) (nx := 35) (by decide +kernel) (by rw [wr_id r1, wr_id r2]; exact fun hz => c9 ((cb_3 _ _).mp hz)) ?_
    refine g_7 (a := 0) (b := 0) (nx := 36) (by decide +kernel) rfl ?_
    refine g_52 (a := 12) (b := 54) (nx := 39) (by decide +kernel) h0 ?_
    refine g_1 (a := 2) (b := 0) (nx := 40) (by decide +kernel) ?_
    refine g_5 (a := 3) (b := 0) (nx := 41) (by decide +kernel) rfl ?_
    refine g_17 (a := 0) (b := 0) (nx := 42) (by decide +kernel) ?_
    refine g_61 (a := 0) (b := 0) (nx := 43) (by decide +kernel) h.1 ?_
    replace h := h.2
    refine g_5 (a := 1) (b := 0) (nx := 44) (by decide +kernel) rfl ?_
    obtain ⟨r3, h⟩ := h
    obtain ⟨r4, h⟩ := h
    by_cases c8 : (M (M x0 54) (2 * x3)) = x1
    · rw [if_pos c8] at h
      refine g_41f (a := 1) (b := 63) (nx := 47) (by decide +kernel) (by rw [wr_id r3, wr_id r4]; exact fun hz => ((cb_1 _ _).mp hz) c8) ?_
      refine g_7 (a := 0) (b := 0) (nx := 48) (by decide +kernel) rfl ?_
      refine g_52 (a := 12) (b := 54) (nx := 51) (by decide +kernel) h0 ?_
      refine g_1 (a := 2) (b := 0) (nx := 52) (by decide +kernel) ?_
      refine g_5 (a := 3) (b := 0) (nx := 53) (by decide +kernel) rfl ?_
      refine g_17 (a := 0) (b := 0) (nx := 54) (by decide +kernel) ?_
      refine g_1 (a := 1) (b := 0) (nx := 55) (by decide +kernel) ?_
      refine g_15 (a := 0) (b := 0) (nx := 56) (by decide +kernel) ?_
      refine g_61 (a := 0) (b := 0) (nx := 57) (by decide +kernel) h.1 ?_
      replace h := h.2
      refine g_5 (a := 2) (b := 0) (nx := 58) (by decide +kernel) rfl ?_
      obtain ⟨r5, h⟩ := h
      obtain ⟨r6, h⟩ := h
      by_cases c7 : (M (M x0 54) ((2 * x3) + 1)) = x2
      · rw [if_pos c7] at h
        refine g_41f (a := 1) (b := 63) (nx := 61) (by decide +kernel) (by rw [wr_id r5, wr_id r6]; exact fun hz => ((cb_1 _ _).mp hz) c7) ?_
        refine g_1 (a := 1) (b := 0) (nx := 62) (by decide +kernel) ?_
        exact g_91z (b := 0) (nx := 63) (by decide +kernel) (by decide) h
      · rw [if_neg c7] at h
        refine g_41t (a := 1) (b := 63) (nx := 61) (by decide +kernel) (by rw [wr_id r5, wr_id r6]; exact (cb_1 _ _).mpr c7) ?_
        refine g_11 (a := 3) (b := 1) (nx := 66) (by decide +kernel) rfl rfl (ls' := [some (vR x0), some (vI x1), some (vI x2), some (vI (x3 + 1))]) rfl ?_
        refine g_44 (a := 0) (b := 27) (nx := 69) (by decide +kernel) ?_
        exact h
    · rw [if_neg c8] at h
      refine g_41t (a := 1) (b := 63) (nx := 47) (by decide +kernel) (by rw [wr_id r3, wr_id r4]; exact (cb_1 _ _).mpr c8) ?_
      refine g_11 (a := 3) (b := 1) (nx := 66) (by decide +kernel) rfl rfl (ls' := [some (vR x0), some (vI x1), some (vI x2), some (vI (x3 + 1))]) rfl ?_
      refine g_44 (a := 0) (b := 27) (nx := 69) (by decide +kernel) ?_
      exact h
-- 227 SyllableMakerModel.looksAt(I)V
theorem t_227 {x0 x1 : Int} {M : Mem} {Q : AV → Mem → Prop} (h0 : gO 12 x0) (h : WI 221 [vR x0, vI x1] M (fun y2 M1 => WR 227 11 [some (vR x0), some (vI x1), some (vI 0)] [] (upM M1 x0 69 y2) Q)) : WC 227 [vR x0, vI x1] M Q := by
  show WR 227 0 [some (vR x0), some (vI x1), none] [] M Q
  refine g_7 (a := 0) (b := 0) (nx := 1) (by decide +kernel) rfl ?_
  refine g_7 (a := 0) (b := 0) (nx := 2) (by decide +kernel) rfl ?_
  refine g_5 (a := 1) (b := 0) (nx := 3) (by decide +kernel) rfl ?_
  refine g_80 (a := 221) (b := 1) (nx := 6) (by decide +kernel) (r := x0) (As := [vI x1]) (st' := [vR x0]) (z := 221) rfl rfl rfl (Nat.le_of_ble_eq_true rfl) h0.2 (Nat.le_of_ble_eq_true rfl) rfl (c_I (by decide +kernel) h (fun y2 M1 h => ?_))
  refine g_53 (a := 12) (b := 69) (nx := 9) (by decide +kernel) h0 ?_
  refine g_1 (a := 0) (b := 0) (nx := 10) (by decide +kernel) ?_
  refine g_8 (a := 2) (b := 0) (nx := 11) (by decide +kernel) rfl (ls' := [some (vR x0), some (vI x1), some (vI 0)]) rfl ?_
  exact h
theorem t_227_11 {x0 x1 x2 : Int} {M : Mem} {Q : AV → Mem → Prop} (h0 : gO 12 x0) (h : inR x2 ∧ (inR (M x0 69) ∧ (if (M x0 69) ≤ x2 then (WV 228 [vR x0] M (fun M3 => Q (vI 0) M3)) else (WI 222 [vR x0, vI x1, vI x2] M (fun y6 M5 => (gA 20 (M x0 64) x2) ∧ WR 227 11 [some (vR x0), some (vI x1), some (vI (x2 + 1))] [] (upM M5 (M x0 64) x2 y6) Q))))) : WR 227 11 [some (vR x0), some (vI x1), some (vI x2)] [] M Q := by
  refine g_5 (a := 2) (b := 0) (nx := 12) (by decide +kernel) rfl ?_
  refine g_7 (a := 0) (b := 0) (nx := 13) (by decide +kernel) rfl ?_
  refine g_50 (a := 12) (b := 69) (nx := 16) (by decide +kernel) h0 ?_
  obtain ⟨r1, h⟩ := h
  obtain ⟨r2, h⟩ := h
  by_cases c7 : (M x0 69) ≤ x2
  · rw [if_pos c7] at h
    refine g_41t (a := 3) (b := 37) (nx := 19) (by decide +kernel) (by rw [wr_id r1, wr_id r2]; exact (cb_3 _ _).mpr c7) ?_
    refine g_7 (a := 0) (b := 0) (nx := 38) (by decide +kernel) rfl ?_
    refine g_80 (a := 228) (b := 0) (nx := 41) (by decide +kernel) (r := x0) (As := []) (st' := []) (z := 228) rfl rfl rfl (Nat.le_of_ble_eq_true rfl) h0.2 (Nat.le_of_ble_eq_true rfl) rfl (c_V (by decide +kernel) h (fun M3 h => ?_))
    exact g_90 (a := 0) (b := 0) (nx := 42) (by decide +kernel) h
  · rw [if_neg c7] at h
    refine g_41f (a := 3) (b := 37) (nx := 19) (by decide +kernel) (by rw [wr_id r1, wr_id r2]; exact fun hz => c7 ((cb_3 _ _).mp hz)) ?_
    refine g_7 (a := 0) (b := 0) (nx := 20) (by decide +kernel) rfl ?_
    refine g_52 (a := 12) (b := 64) (nx := 23) (by decide +kernel) h0 ?_
    refine g_5 (a := 2) (b := 0) (nx := 24) (by decide +kernel) rfl ?_
    refine g_7 (a := 0) (b := 0) (nx := 25) (by decide +kernel) rfl ?_
    refine g_5 (a := 1) (b := 0) (nx := 26) (by decide +kernel) rfl ?_
    refine g_5 (a := 2) (b := 0) (nx := 27) (by decide +kernel) rfl ?_
    refine g_80 (a := 222) (b := 2) (nx := 30) (by decide +kernel) (r := x0) (As := [vI x1, vI x2]) (st' := [vI x2, vR (M x0 64)]) (z := 222) rfl rfl rfl (Nat.le_of_ble_eq_true rfl) h0.2 (Nat.le_of_ble_eq_true rfl) rfl (c_I (by decide +kernel) h (fun y6 M5 h => ?_))
    refine g_62 (a := 0) (b := 0) (nx := 31) (by decide +kernel) h.1 ?_
    replace h := h.2
    refine g_11 (a := 2) (b := 1) (nx := 34) (by decide +kernel) rfl rfl (ls' := [some (vR x0), some (vI x1), some (vI (x2 + 1))]) rfl ?_
    refine g_44 (a := 0) (b := 11) (nx := 37) (by decide +kernel) ?_
    exact h
-- 228 SyllableMakerModel.laysHearts()V
theorem t_228 {x0 : Int} {M : Mem} {Q : AV → Mem → Prop} (h0 : gO 12 x0) (h : WR 228 7 [some (vR x0), some (vI 0)] [] (upM M x0 70 0) Q) : WC 228 [vR x0] M Q := by
  show WR 228 0 [some (vR x0), none] [] M Q
  refine g_7 (a := 0) (b := 0) (nx := 1) (by decide +kernel) rfl ?_
  refine g_1 (a := 0) (b := 0) (nx := 2) (by decide +kernel) ?_
  refine g_53 (a := 12) (b := 70) (nx := 5) (by decide +kernel) h0 ?_
  refine g_1 (a := 0) (b := 0) (nx := 6) (by decide +kernel) ?_
  refine g_8 (a := 1) (b := 0) (nx := 7) (by decide +kernel) rfl (ls' := [some (vR x0), some (vI 0)]) rfl ?_
  exact h
theorem t_228_7 {x0 x1 : Int} {M : Mem} {Q : AV → Mem → Prop} (h0 : gO 12 x0) (h : inR x1 ∧ (inR (M x0 69) ∧ (if (M x0 69) ≤ x1 then (Q (vI 0) M) else ((gA 20 (M x0 64) x1) ∧ WI 225 [vR x0, vI (M (M x0 64) x1)] M (fun y4 M3 => inR y4 ∧ (if y4 = 0 then (WR 228 7 [some (vR x0), some (vI (x1 + 1))] [] M3 Q) else ((gA 20 (M3 x0 65) (M3 x0 70)) ∧ inR (x1 + 1) ∧ (inR ((upM M3 (M3 x0 65) (M3 x0 70) x1) x0 69) ∧ (if ((upM M3 (M3 x0 65) (M3 x0 70) x1) x0 69) ≤ (x1 + 1) then ((gA 20 ((upM M3 (M3 x0 65) (M3 x0 70) x1) x0 66) ((upM M3 (M3 x0 65) (M3 x0 70) x1) x0 70)) ∧ (gA 20 ((upM (upM M3 (M3 x0 65) (M3 x0 70) x1) ((upM M3 (M3 x0 65) (M3 x0 70) x1) x0 66) ((upM M3 (M3 x0 65) (M3 x0 70) x1) x0 70) 1) x0 66) ((upM (upM M3 (M3 x0 65) (M3 x0 70) x1) ((upM M3 (M3 x0 65) (M3 x0 70) x1) x0 66) ((upM M3 (M3 x0 65) (M3 x0 70) x1) x0 70) 1) x0 70)) ∧ WR 228 7 [some (vR x0), some (vI (x1 + ((upM (upM M3 (M3 x0 65) (M3 x0 70) x1) ((upM M3 (M3 x0 65) (M3 x0 70) x1) x0 66) ((upM M3 (M3 x0 65) (M3 x0 70) x1) x0 70) 1) ((upM (upM M3 (M3 x0 65) (M3 x0 70) x1) ((upM M3 (M3 x0 65) (M3 x0 70) x1) x0 66) ((upM M3 (M3 x0 65) (M3 x0 70) x1) x0 70) 1) x0 66) ((upM (upM M3 (M3 x0 65) (M3 x0 70) x1) ((upM M3 (M3 x0 65) (M3 x0 70) x1) x0 66) ((upM M3 (M3 x0 65) (M3 x0 70) x1) x0 70) 1) x0 70))))] [] (upM (upM (upM M3 (M3 x0 65) (M3 x0 70) x1) ((upM M3 (M3 x0 65) (M3 x0 70) x1) x0 66) ((upM M3 (M3 x0 65) (M3 x0 70) x1) x0 70) 1) x0 70 (((upM (upM M3 (M3 x0 65) (M3 x0 70) x1) ((upM M3 (M3 x0 65) (M3 x0 70) x1) x0 66) ((upM M3 (M3 x0 65) (M3 x0 70) x1) x0 70) 1) x0 70) + 1)) Q) else ((gA 20 ((upM M3 (M3 x0 65) (M3 x0 70) x1) x0 64) x1) ∧ (gA 20 ((upM M3 (M3 x0 65) (M3 x0 70) x1) x0 64) (x1 + 1)) ∧ WI 226 [vR x0, vI ((upM M3 (M3 x0 65) (M3 x0 70) x1) ((upM M3 (M3 x0 65) (M3 x0 70) x1) x0 64) x1), vI ((upM M3 (M3 x0 65) (M3 x0 70) x1) ((upM M3 (M3 x0 65) (M3 x0 70) x1) x0 64) (x1 + 1))] (upM M3 (M3 x0 65) (M3 x0 70) x1) (fun y9 M8 => inR y9 ∧ (if y9 = 0 then ((gA 20 ((upM M3 (M3 x0 65) (M3 x0 70) x1) x0 66) ((upM M3 (M3 x0 65) (M3 x0 70) x1) x0 70)) ∧ (gA 20 ((upM M8 ((upM M3 (M3 x0 65) (M3 x0 70) x1) x0 66) ((upM M3 (M3 x0 65) (M3 x0 70) x1) x0 70) 1) x0 66) ((upM M8 ((upM M3 (M3 x0 65) (M3 x0 70) x1) x0 66) ((upM M3 (M3 x0 65) (M3 x0 70) x1) x0 70) 1) x0 70)) ∧ WR 228 7 [some (vR x0), some (vI (x1 + ((upM M8 ((upM M3 (M3 x0 65) (M3 x0 70) x1) x0 66) ((upM M3 (M3 x0 65) (M3 x0 70) x1) x0 70) 1) ((upM M8 ((upM M3 (M3 x0 65) (M3 x0 70) x1) x0 66) ((upM M3 (M3 x0 65) (M3 x0 70) x1) x0 70) 1) x0 66) ((upM M8 ((upM M3 (M3 x0 65) (M3 x0 70) x1) x0 66) ((upM M3 (M3 x0 65) (M3 x0 70) x1) x0 70) 1) x0 70))))] [] (upM (upM M8 ((upM M3 (M3 x0 65) (M3 x0 70) x1) x0 66) ((upM M3 (M3 x0 65) (M3 x0 70) x1) x0 70) 1) x0 70 (((upM M8 ((upM M3 (M3 x0 65) (M3 x0 70) x1) x0 66) ((upM M3 (M3 x0 65) (M3 x0 70) x1) x0 70) 1) x0 70) + 1)) Q) else ((gA 20 ((upM M3 (M3 x0 65) (M3 x0 70) x1) x0 66) ((upM M3 (M3 x0 65) (M3 x0 70) x1) x0 70)) ∧ (gA 20 ((upM M8 ((upM M3 (M3 x0 65) (M3 x0 70) x1) x0 66) ((upM M3 (M3 x0 65) (M3 x0 70) x1) x0 70) 2) x0 66) ((upM M8 ((upM M3 (M3 x0 65) (M3 x0 70) x1) x0 66) ((upM M3 (M3 x0 65) (M3 x0 70) x1) x0 70) 2) x0 70)) ∧ WR 228 7 [some (vR x0), some (vI (x1 + ((upM M8 ((upM M3 (M3 x0 65) (M3 x0 70) x1) x0 66) ((upM M3 (M3 x0 65) (M3 x0 70) x1) x0 70) 2) ((upM M8 ((upM M3 (M3 x0 65) (M3 x0 70) x1) x0 66) ((upM M3 (M3 x0 65) (M3 x0 70) x1) x0 70) 2) x0 66) ((upM M8 ((upM M3 (M3 x0 65) (M3 x0 70) x1) x0 66) ((upM M3 (M3 x0 65) (M3 x0 70) x1) x0 70) 2) x0 70))))] [] (upM (upM M8 ((upM M3 (M3 x0 65) (M3 x0 70) x1) x0 66) ((upM M3 (M3 x0 65) (M3 x0 70) x1) x0 70) 2) x0 70 (((upM M8 ((upM M3 (M3 x0 65) (M3 x0 70) x1) x0 66) ((upM M3 (M3 x0 65) (M3 x0 70) x1) x0 70) 2) x0 70) + 1)) Q))))))))))))) : WR 228 7 [some (vR x0), some (vI x1)] [] M Q := by
  refine g_5 (a := 1) (b := 0) (nx := 8) (by decide +kernel) rfl ?_
  refine g_7 (a := 0) (b := 0) (nx := 9) (by decide +kernel) rfl ?_
  refine g_50 (a := 12) (b := 69) (nx := 12) (by decide +kernel) h0 ?_
  obtain ⟨r1, h⟩ := h
  obtain ⟨r2, h⟩ := h
  by_cases c14 : (M x0 69) ≤ x1
  · rw [if_pos c14] at h
    refine g_41t (a := 3) (b := 114) (nx := 15) (by decide +kernel) (by rw [wr_id r1, wr_id r2]; exact (cb_3 _ _).mpr c14) ?_
    exact g_90 (a := 0) (b := 0) (nx := 115) (by decide +kernel) h
  · rw [if_neg c14] at h
    refine g_41f (a := 3) (b := 114) (nx := 15) (by decide +kernel) (by rw [wr_id r1, wr_id r2]; exact fun hz => c14 ((cb_3 _ _).mp hz)) ?_
    refine g_7 (a := 0) (b := 0) (nx := 16) (by decide +kernel) rfl ?_
    refine g_7 (a := 0) (b := 0) (nx := 17) (by decide +kernel) rfl ?_
    refine g_52 (a := 12) (b := 64) (nx := 20) (by decide +kernel) h0 ?_
    refine g_5 (a := 1) (b := 0) (nx := 21) (by decide +kernel) rfl ?_
    refine g_61 (a := 0) (b := 0) (nx := 22) (by decide +kernel) h.1 ?_
    replace h := h.2
    refine g_80 (a := 225) (b := 1) (nx := 25) (by decide +kernel) (r := x0) (As := [vI (M (M x0 64) x1)]) (st' := []) (z := 225) rfl rfl rfl (Nat.le_of_ble_eq_true rfl) h0.2 (Nat.le_of_ble_eq_true rfl) rfl (c_I (by decide +kernel) h (fun y4 M3 h => ?_))
    obtain ⟨r5, h⟩ := h
    by_cases c13 : y4 = 0
    · rw [if_pos c13] at h
      refine g_40f (a := 1) (b := 34) (nx := 28) (by decide +kernel) r5 (by exact fun hz => ((cb_1 _ _).mp hz) c13) ?_
      refine g_11 (a := 1) (b := 1) (nx := 31) (by decide +kernel) rfl rfl (ls' := [some (vR x0), some (vI (x1 + 1))]) rfl ?_
      refine g_44 (a := 0) (b := 7) (nx := 34) (by decide +kernel) ?_
      exact h
    · rw [if_neg c13] at h
      refine g_40t (a := 1) (b := 34) (nx := 28) (by decide +kernel) r5 (by exact (cb_1 _ _).mpr c13) ?_
      refine g_7 (a := 0) (b := 0) (nx := 35) (by decide +kernel) rfl ?_
      refine g_52 (a := 12) (b := 65) (nx := 38) (by decide +kernel) h0 ?_
      refine g_7 (a := 0) (b := 0) (nx := 39) (by decide +kernel) rfl ?_
      refine g_50 (a := 12) (b := 70) (nx := 42) (by decide +kernel) h0 ?_
      refine g_5 (a := 1) (b := 0) (nx := 43) (by decide +kernel) rfl ?_
      refine g_62 (a := 0) (b := 0) (nx := 44) (by decide +kernel) h.1 ?_
      replace h := h.2
      refine g_7 (a := 0) (b := 0) (nx := 45) (by decide +kernel) rfl ?_
      refine g_52 (a := 12) (b := 66) (nx := 48) (by decide +kernel) h0 ?_
      refine g_7 (a := 0) (b := 0) (nx := 49) (by decide +kernel) rfl ?_
      refine g_50 (a := 12) (b := 70) (nx := 52) (by decide +kernel) h0 ?_
      refine g_5 (a := 1) (b := 0) (nx := 53) (by decide +kernel) rfl ?_
      refine g_1 (a := 1) (b := 0) (nx := 54) (by decide +kernel) ?_
      refine g_15 (a := 0) (b := 0) (nx := 55) (by decide +kernel) ?_
      refine g_7 (a := 0) (b := 0) (nx := 56) (by decide +kernel) rfl ?_
      refine g_50 (a := 12) (b := 69) (nx := 59) (by decide +kernel) h0 ?_
      obtain ⟨r6, h⟩ := h
      obtain ⟨r7, h⟩ := h
      by_cases c12 : ((upM M3 (M3 x0 65) (M3 x0 70) x1) x0 69) ≤ (x1 + 1)
      · rw [if_pos c12] at h
        refine g_41t (a := 3) (b := 87) (nx := 62) (by decide +kernel) (by rw [wr_id r6, wr_id r7]; exact (cb_3 _ _).mpr c12) ?_
        refine g_1 (a := 1) (b := 0) (nx := 88) (by decide +kernel) ?_
        refine g_62 (a := 0) (b := 0) (nx := 89) (by decide +kernel) h.1 ?_
        replace h := h.2
        refine g_5 (a := 1) (b := 0) (nx := 90) (by decide +kernel) rfl ?_
        refine g_7 (a := 0) (b := 0) (nx := 91) (by decide +kernel) rfl ?_
        refine g_52 (a := 12) (b := 66) (nx := 94) (by decide +kernel) h0 ?_
        refine g_7 (a := 0) (b := 0) (nx := 95) (by decide +kernel) rfl ?_
        refine g_50 (a := 12) (b := 70) (nx := 98) (by decide +kernel) h0 ?_
        refine g_61 (a := 0) (b := 0) (nx := 99) (by decide +kernel) h.1 ?_
        replace h := h.2
        refine g_15 (a := 0) (b := 0) (nx := 100) (by decide +kernel) ?_
        refine g_8 (a := 1) (b := 0) (nx := 101) (by decide +kernel) rfl (ls' := [some (vR x0), some (vI (x1 + ((upM (upM M3 (M3 x0 65) (M3 x0 70) x1) ((upM M3 (M3 x0 65) (M3 x0 70) x1) x0 66) ((upM M3 (M3 x0 65) (M3 x0 70) x1) x0 70) 1) ((upM (upM M3 (M3 x0 65) (M3 x0 70) x1) ((upM M3 (M3 x0 65) (M3 x0 70) x1) x0 66) ((upM M3 (M3 x0 65) (M3 x0 70) x1) x0 70) 1) x0 66) ((upM (upM M3 (M3 x0 65) (M3 x0 70) x1) ((upM M3 (M3 x0 65) (M3 x0 70) x1) x0 66) ((upM M3 (M3 x0 65) (M3 x0 70) x1) x0 70) 1) x0 70))))]) rfl ?_
        refine g_7 (a := 0) (b := 0) (nx := 102) (by decide +kernel) rfl ?_
        refine g_13 (a := 0) (b := 0) (nx := 103) (by decide +kernel) rfl ?_
        refine g_50 (a := 12) (b := 70) (nx := 106) (by decide +kernel) h0 ?_
        refine g_1 (a := 1) (b := 0) (nx := 107) (by decide +kernel) ?_
        refine g_15 (a := 0) (b := 0) (nx := 108) (by decide +kernel) ?_
        refine g_53 (a := 12) (b := 70) (nx := 111) (by decide +kernel) h0 ?_
        refine g_44 (a := 0) (b := 7) (nx := 114) (by decide +kernel) ?_
        exact h
      · rw [if_neg c12] at h
        refine g_41f (a := 3) (b := 87) (nx := 62) (by decide +kernel) (by rw [wr_id r6, wr_id r7]; exact fun hz => c12 ((cb_3 _ _).mp hz)) ?_
        refine g_7 (a := 0) (b := 0) (nx := 63) (by decide +kernel) rfl ?_
        refine g_7 (a := 0) (b := 0) (nx := 64) (by decide +kernel) rfl ?_
        refine g_52 (a := 12) (b := 64) (nx := 67) (by decide +kernel) h0 ?_
        refine g_5 (a := 1) (b := 0) (nx := 68) (by decide +kernel) rfl ?_
        refine g_61 (a := 0) (b := 0) (nx := 69) (by decide +kernel) h.1 ?_
        replace h := h.2
        refine g_7 (a := 0) (b := 0) (nx := 70) (by decide +kernel) rfl ?_
        refine g_52 (a := 12) (b := 64) (nx := 73) (by decide +kernel) h0 ?_
        refine g_5 (a := 1) (b := 0) (nx := 74) (by decide +kernel) rfl ?_
        refine g_1 (a := 1) (b := 0) (nx := 75) (by decide +kernel) ?_
        refine g_15 (a := 0) (b := 0) (nx := 76) (by decide +kernel) ?_
        refine g_61 (a := 0) (b := 0) (nx := 77) (by decide +kernel) h.1 ?_
        replace h := h.2
        refine g_80 (a := 226) (b := 2) (nx := 80) (by decide +kernel) (r := x0) (As := [vI ((upM M3 (M3 x0 65) (M3 x0 70) x1) ((upM M3 (M3 x0 65) (M3 x0 70) x1) x0 64) x1), vI ((upM M3 (M3 x0 65) (M3 x0 70) x1) ((upM M3 (M3 x0 65) (M3 x0 70) x1) x0 64) (x1 + 1))]) (st' := [vI ((upM M3 (M3 x0 65) (M3 x0 70) x1) x0 70), vR ((upM M3 (M3 x0 65) (M3 x0 70) x1) x0 66)]) (z := 226) rfl rfl rfl (Nat.le_of_ble_eq_true rfl) h0.2 (Nat.le_of_ble_eq_true rfl) rfl (c_I (by decide +kernel) h (fun y9 M8 h => ?_))
        obtain ⟨r10, h⟩ := h
        by_cases c11 : y9 = 0
        · rw [if_pos c11] at h
          refine g_40t (a := 0) (b := 87) (nx := 83) (by decide +kernel) r10 (by exact (cb_0 _ _).mpr c11) ?_
          refine g_1 (a := 1) (b := 0) (nx := 88) (by decide +kernel) ?_
          refine g_62 (a := 0) (b := 0) (nx := 89) (by decide +kernel) h.1 ?_
          replace h := h.2
          refine g_5 (a := 1) (b := 0) (nx := 90) (by decide +kernel) rfl ?_
          refine g_7 (a := 0) (b := 0) (nx := 91) (by decide +kernel) rfl ?_
          refine g_52 (a := 12) (b := 66) (nx := 94) (by decide +kernel) h0 ?_
          refine g_7 (a := 0) (b := 0) (nx := 95) (by decide +kernel) rfl ?_
          refine g_50 (a := 12) (b := 70) (nx := 98) (by decide +kernel) h0 ?_
          refine g_61 (a := 0) (b := 0) (nx := 99) (by decide +kernel) h.1 ?_
          replace h := h.2
          refine g_15 (a := 0) (b := 0) (nx := 100) (by decide +kernel) ?_
          refine g_8 (a := 1) (b := 0) (nx := 101) (by decide +kernel) rfl (ls' := [some (vR x0), some (vI (x1 + ((upM M8 ((upM M3 (M3 x0 65) (M3 x0 70) x1) x0 66) ((upM M3 (M3 x0 65) (M3 x0 70) x1) x0 70) 1) ((upM M8 ((upM M3 (M3 x0 65) (M3 x0 70) x1) x0 66) ((upM M3 (M3 x0 65) (M3 x0 70) x1) x0 70) 1) x0 66) ((upM M8 ((upM M3 (M3 x0 65) (M3 x0 70) x1) x0 66) ((upM M3 (M3 x0 65) (M3 x0 70) x1) x0 70) 1) x0 70))))]) rfl ?_
          refine g_7 (a := 0) (b := 0) (nx := 102) (by decide +kernel) rfl ?_
          refine g_13 (a := 0) (b := 0) (nx := 103) (by decide +kernel) rfl ?_
          refine g_50 (a := 12) (b := 70) (nx := 106) (by decide +kernel) h0 ?_
          refine g_1 (a := 1) (b := 0) (nx := 107) (by decide +kernel) ?_
          refine g_15 (a := 0) (b := 0) (nx := 108) (by decide +kernel) ?_
          refine g_53 (a := 12) (b := 70) (nx := 111) (by decide +kernel) h0 ?_
          refine g_44 (a := 0) (b := 7) (nx := 114) (by decide +kernel) ?_
          exact h
        · rw [if_neg c11] at h
          refine g_40f (a := 0) (b := 87) (nx := 83) (by decide +kernel) r10 (by exact fun hz => c11 ((cb_0 _ _).mp hz)) ?_
          refine g_1 (a := 2) (b := 0) (nx := 84) (by decide +kernel) ?_
          refine g_44 (a := 0) (b := 88) (nx := 87) (by decide +kernel) ?_
          refine g_62 (a := 0) (b := 0) (nx := 89) (by decide +kernel) h.1 ?_
          replace h := h.2
          refine g_5 (a := 1) (b := 0) (nx := 90) (by decide +kernel) rfl ?_
          refine g_7 (a := 0) (b := 0) (nx := 91) (by decide +kernel) rfl ?_
          refine g_52 (a := 12) (b := 66) (nx := 94) (by decide +kernel) h0 ?_
          refine g_7 (a := 0) (b := 0) (nx := 95) (by decide +kernel) rfl ?_
          refine g_50 (a := 12) (b := 70) (nx := 98) (by decide +kernel) h0 ?_
          refine g_61 (a := 0) (b := 0) (nx := 99) (by decide +kernel) h.1 ?_
          replace h := h.2
          refine g_15 (a := 0) (b := 0) (nx := 100) (by decide +kernel) ?_
          refine g_8 (a := 1) (b := 0) (nx := 101) (by decide +kernel) rfl (ls' := [some (vR x0), some (vI (x1 + ((upM M8 ((upM M3 (M3 x0 65) (M3 x0 70) x1) x0 66) ((upM M3 (M3 x0 65) (M3 x0 70) x1) x0 70) 2) ((upM M8 ((upM M3 (M3 x0 65) (M3 x0 70) x1) x0 66) ((upM M3 (M3 x0 65) (M3 x0 70) x1) x0 70) 2) x0 66) ((upM M8 ((upM M3 (M3 x0 65) (M3 x0 70) x1) x0 66) ((upM M3 (M3 x0 65) (M3 x0 70) x1) x0 70) 2) x0 70))))]) rfl ?_
          refine g_7 (a := 0) (b := 0) (nx := 102) (by decide +kernel) rfl ?_
          refine g_13 (a := 0) (b := 0) (nx := 103) (by decide +kernel) rfl ?_
          refine g_50 (a := 12) (b := 70) (nx := 106) (by decide +kernel) h0 ?_
          refine g_1 (a := 1) (b := 0) (nx := 107) (by decide +kernel) ?_
          refine g_15 (a := 0) (b := 0) (nx := 108) (by decide +kernel) ?_
          refine g_53 (a := 12) (b := 70) (nx := 111) (by decide +kernel) h0 ?_
          refine g_44 (a := 0) (b := 7) (nx := 114) (by decide +kernel) ?_
          exact h
-- 229 SyllableMakerModel.endOf(I)I
theorem t_229 {x0 x1 : Int} {M : Mem} {Q : AV → Mem → Prop} (h0 : gO 12 x0) (h : (gA 20 (M x0 65) x1) ∧ (gA 20 (M x0 66) x1) ∧ Q (vI ((M (M x0 65) x1) + (M (M x0 66) x1))) M) : WC 229 [vR x0, vI x1] M Q := by
  show WR 229 0 [some (vR x0), some (vI x1)] [] M Q
  refine g_7 (a := 0) (b := 0) (nx := 1) (by decide +kernel) rfl ?_
  refine g_52 (a := 12) (b := 65) (nx := 4) (by decide +kernel) h0 ?_
  refine g_5 (a := 1) (b := 0) (nx := 5) (by decide +kernel) rfl ?_
  refine g_61 (a := 0) (b := 0) (nx := 6) (by decide +kernel) h.1 ?_
  replace h := h.2
  refine g_7 (a := 0) (b := 0) (nx := 7) (by decide +kernel) rfl ?_
  refine g_52 (a := 12) (b := 66) (nx := 10) (by decide +kernel) h0 ?_
  refine g_5 (a := 1) (b := 0) (nx := 11) (by decide +kernel) rfl ?_
  refine g_61 (a := 0) (b := 0) (nx := 12) (by decide +kernel) h.1 ?_
  replace h := h.2
  refine g_15 (a := 0) (b := 0) (nx := 13) (by decide +kernel) ?_
  exact g_91 (b := 0) (nx := 14) (by decide +kernel) h
-- 230 SyllableMakerModel.gap(I)I
theorem t_230 {x0 x1 : Int} {M : Mem} {Q : AV → Mem → Prop} (h0 : gO 12 x0) (h : (gA 20 (M x0 65) (x1 + 1)) ∧ WI 229 [vR x0, vI x1] M (fun y2 M1 => Q (vI ((M (M x0 65) (x1 + 1)) - y2)) M1)) : WC 230 [vR x0, vI x1] M Q := by
  show WR 230 0 [some (vR x0), some (vI x1)] [] M Q
  refine g_7 (a := 0) (b := 0) (nx := 1) (by decide +kernel) rfl ?_
  refine g_52 (a := 12) (b := 65) (nx := 4) (by decide +kernel) h0 ?_
  refine g_5 (a := 1) (b := 0) (nx := 5) (by decide +kernel) rfl ?_
  refine g_1 (a := 1) (b := 0) (nx := 6) (by decide +kernel) ?_
  refine g_15 (a := 0) (b := 0) (nx := 7) (by decide +kernel) ?_
  refine g_61 (a := 0) (b := 0) (nx := 8) (by decide +kernel) h.1 ?_
  replace h := h.2
  refine g_7 (a := 0) (b := 0) (nx := 9) (by decide +kernel) rfl ?_
  refine g_5 (a := 1) (b := 0) (nx := 10) (by decide +kernel) rfl ?_
  refine g_80 (a := 229) (b := 1) (nx := 13) (by decide +kernel) (r := x0) (As := [vI x1]) (st' := [vI (M (M x0 65) (x1 + 1))]) (z := 229) rfl rfl rfl (Nat.le_of_ble_eq_true rfl) h0.2 (Nat.le_of_ble_eq_true rfl) rfl (c_I (by decide +kernel) h (fun y2 M1 h => ?_))
  refine g_16 (a := 0) (b := 0) (nx := 14) (by decide +kernel) ?_
  exact g_91 (b := 0) (nx := 15) (by decide +kernel) h
-- 231 SyllableMakerModel.isRising([III)Z
theorem t_231 {x0 x1 x2 x3 : Int} {M : Mem} {Q : AV → Mem → Prop} (h0 : gO 12 x0) (h : inR (M x0 41) ∧ (if (M x0 41) = (-1) then (Q (vI 0) M) else (WR 231 13 [some (vR x0), some (vR x1), some (vI x2), some (vI x3), some (vI 1)] [] M Q))) : WC 231 [vR x0, vR x1, vI x2, vI x3] M Q := by
  show WR 231 0 [some (vR x0), some (vR x1), some (vI x2), some (vI x3), none] [] M Q
  refine g_7 (a := 0) (b := 0) (nx := 1) (by decide +kernel) rfl ?_
  refine g_50 (a := 12) (b := 41) (nx := 4) (by decide +kernel) h0 ?_
  refine g_1 (a := (-1)) (b := 0) (nx := 5) (by decide +kernel) ?_
  obtain ⟨r1, h⟩ := h
  by_cases c2 : (M x0 41) = (-1)
  · rw [if_pos c2] at h
    refine g_41f (a := 1) (b := 10) (nx := 8) (by decide +kernel) (by rw [wr_id r1, wr_id (show inR (-1) by decide)]; exact fun hz => ((cb_1 _ _).mp hz) c2) ?_
    refine g_1 (a := 0) (b := 0) (nx := 9) (by decide +kernel) ?_
    exact g_91z (b := 0) (nx := 10) (by decide +kernel) (by decide) h
  · rw [if_neg c2] at h
    refine g_41t (a := 1) (b := 10) (nx := 8) (by decide +kernel) (by rw [wr_id r1, wr_id (show inR (-1) by decide)]; exact (cb_1 _ _).mpr c2) ?_
    refine g_1 (a := 1) (b := 0) (nx := 11) (by decide +kernel) ?_
    refine g_8 (a := 4) (b := 0) (nx := 13) (by decide +kernel) rfl (ls' := [some (vR x0), some (vR x1), some (vI x2), some (vI x3), some (vI 1)]) rfl ?_
    exact h
theorem t_231_13 {x0 x1 x2 x3 x4 : Int} {M : Mem} {Q : AV → Mem → Prop} (h0 : gO 12 x0) (h : inR x4 ∧ (inR x3 ∧ (if x3 ≤ x4 then (Q (vI 1) M) else ((gA 20 x1 (x2 + x4)) ∧ (gA 20 (M x0 50) (M x1 (x2 + x4))) ∧ (gA 20 x1 ((x2 + x4) - 1)) ∧ (gA 20 (M x0 50) (M x1 ((x2 + x4) - 1))) ∧ inR ((M (M x0 50) (M x1 (x2 + x4))) - (M (M x0 50) (M x1 ((x2 + x4) - 1)))) ∧ (inR (M x0 41) ∧ (if (M x0 41) ≤ ((M (M x0 50) (M x1 (x2 + x4))) - (M (M x0 50) (M x1 ((x2 + x4) - 1)))) then (WR 231 13 [some (vR x0), some (vR x1), some (vI x2), some (vI x3), some (vI (x4 + 1))] [] M Q) else (Q (vI 0) M))))))) : WR 231 13 [some (vR x0), some (vR x1), some (vI x2), some (vI x3), some (vI x4)] [] M Q := by
  refine g_5 (a := 4) (b := 0) (nx := 15) (by decide +kernel) rfl ?_
  refine g_5 (a := 3) (b := 0) (nx := 16) (by decide +kernel) rfl ?_
  obtain ⟨r1, h⟩ := h
  obtain ⟨r2, h⟩ := h
  by_cases c6 : x3 ≤ x4
  · rw [if_pos c6] at h
    refine g_41t (a := 3) (b := 59) (nx := 19) (by decide +kernel) (by rw [wr_id r1, wr_id r2]; exact (cb_3 _ _).mpr c6) ?_
    refine g_1 (a := 1) (b := 0) (nx := 60) (by decide +kernel) ?_
    exact g_91z (b := 0) (nx := 61) (by decide +kernel) (by decide) h
  · rw [if_neg c6] at h
    refine g_41f (a := 3) (b := 59) (nx := 19) (by decide +kernel) (by rw [wr_id r1, wr_id r2]; exact fun hz => c6 ((cb_3 _ _).mp hz)) ?_
    refine g_7 (a := 0) (b := 0) (nx := 20) (by decide +kernel) rfl ?_
    refine g_52 (a := 12) (b := 50) (nx := 23) (by decide +kernel) h0 ?_
    refine g_7 (a := 1) (b := 0) (nx := 24) (by decide +kernel) rfl ?_
    refine g_5 (a := 2) (b := 0) (nx := 25) (by decide +kernel) rfl ?_
    refine g_5 (a := 4) (b := 0) (nx := 27) (by decide +kernel) rfl ?_
    refine g_15 (a := 0) (b := 0) (nx := 28) (by decide +kernel) ?_
    refine g_61 (a := 0) (b := 0) (nx := 29) (by decide +kernel) h.1 ?_
    replace h := h.2
    refine g_61 (a := 0) (b := 0) (nx := 30) (by decide +kernel) h.1 ?_
    replace h := h.2
    refine g_7 (a := 0) (b := 0) (nx := 31) (by decide +kernel) rfl ?_
    refine g_52 (a := 12) (b := 50) (nx := 34) (by decide +kernel) h0 ?_
    refine g_7 (a := 1) (b := 0) (nx := 35) (by decide +kernel) rfl ?_
    refine g_5 (a := 2) (b := 0) (nx := 36) (by decide +kernel) rfl ?_
    refine g_5 (a := 4) (b := 0) (nx := 38) (by decide +kernel) rfl ?_
    refine g_15 (a := 0) (b := 0) (nx := 39) (by decide +kernel) ?_
    refine g_1 (a := 1) (b := 0) (nx := 40) (by decide +kernel) ?_
    refine g_16 (a := 0) (b := 0) (nx := 41) (by decide +kernel) ?_
    refine g_61 (a := 0) (b := 0) (nx := 42) (by decide +kernel) h.1 ?_
    replace h := h.2
    refine g_61 (a := 0) (b := 0) (nx := 43) (by decide +kernel) h.1 ?_
    replace h := h.2
    refine g_16 (a := 0) (b := 0) (nx := 44) (by decide +kernel) ?_
    refine g_7 (a := 0) (b := 0) (nx := 45) (by decide +kernel) rfl ?_
    refine g_50 (a := 12) (b := 41) (nx := 48) (by decide +kernel) h0 ?_
    obtain ⟨r3, h⟩ := h
    obtain ⟨r4, h⟩ := h
    by_cases c5 : (M x0 41) ≤ ((M (M x0 50) (M x1 (x2 + x4))) - (M (M x0 50) (M x1 ((x2 + x4) - 1))))
    · rw [if_pos c5] at h
      refine g_41t (a := 3) (b := 53) (nx := 51) (by decide +kernel) (by rw [wr_id r3, wr_id r4]; exact (cb_3 _ _).mpr c5) ?_
      refine g_11 (a := 4) (b := 1) (nx := 56) (by decide +kernel) rfl rfl (ls' := [some (vR x0), some (vR x1), some (vI x2), some (vI x3), some (vI (x4 + 1))]) rfl ?_
      refine g_44 (a := 0) (b := 13) (nx := 59) (by decide +kernel) ?_
      exact h
    · rw [if_neg c5] at h
      refine g_41f (a := 3) (b := 53) (nx := 51) (by decide +kernel) (by rw [wr_id r3, wr_id r4]; exact fun hz => c5 ((cb_3 _ _).mp hz)) ?_
      refine g_1 (a := 0) (b := 0) (nx := 52) (by decide +kernel) ?_
      exact g_91z (b := 0) (nx := 53) (by decide +kernel) (by decide) h
-- 232 SyllableMakerModel.isTold([III)Z
theorem t_232 {x0 x1 x2 x3 : Int} {M : Mem} {Q : AV → Mem → Prop} (h0 : gO 12 x0) (h : WR 232 3 [some (vR x0), some (vR x1), some (vI x2), some (vI x3), some (vI 0), none, none] [] M Q) : WC 232 [vR x0, vR x1, vI x2, vI x3] M Q := by
  show WR 232 0 [some (vR x0), some (vR x1), some (vI x2), some (vI x3), none, none, none] [] M Q
  refine g_1 (a := 0) (b := 0) (nx := 1) (by decide +kernel) ?_
  refine g_8 (a := 4) (b := 0) (nx := 3) (by decide +kernel) rfl (ls' := [some (vR x0), some (vR x1), some (vI x2), some (vI x3), some (vI 0), none, none]) rfl ?_
  exact h
theorem t_232_3 {x0 x1 x2 x3 x4 : Int} {l5 l6 : Option AV} {M : Mem} {Q : AV → Mem → Prop} (h0 : gO 12 x0) (h : inR x4 ∧ (inR (M x0 39) ∧ (if (M x0 39) ≤ x4 then (Q (vI 0) M) else ((gA 20 (M x0 53) x4) ∧ inR (M (M x0 53) x4) ∧ (inR x3 ∧ (if (M (M x0 53) x4) = x3 then (WR 232 33 [some (vR x0), some (vR x1), some (vI x2), some (vI x3), some (vI x4), some (vI 1), some (vI 0)] [] M Q) else (WR 232 33 [some (vR x0), some (vR x1), some (vI x2), some (vI x3), some (vI x4), some (vI 0), some (vI 0)] [] M Q))))))) : WR 232 3 [some (vR x0), some (vR x1), some (vI x2), some (vI x3), some (vI x4), l5, l6] [] M Q := by
  refine g_5 (a := 4) (b := 0) (nx := 5) (by decide +kernel) rfl ?_
  refine g_7 (a := 0) (b := 0) (nx := 6) (by decide +kernel) rfl ?_
  refine g_50 (a := 12) (b := 39) (nx := 9) (by decide +kernel) h0 ?_
  obtain ⟨r1, h⟩ := h
  obtain ⟨r2, h⟩ := h
  by_cases c6 : (M x0 39) ≤ x4
  · rw [if_pos c6] at h
    refine g_41t (a := 3) (b := 91) (nx := 12) (by decide +kernel) (by rw [wr_id r1, wr_id r2]; exact (cb_3 _ _).mpr c6) ?_
    refine g_1 (a := 0) (b := 0) (nx := 92) (by decide +kernel) ?_
    exact g_91z (b := 0) (nx := 93) (by decide +kernel) (by decide) h
  · rw [if_neg c6] at h
    refine g_41f (a := 3) (b := 91) (nx := 12) (by decide +kernel) (by rw [wr_id r1, wr_id r2]; exact fun hz => c6 ((cb_3 _ _).mp hz)) ?_
    refine g_7 (a := 0) (b := 0) (nx := 13) (by decide +kernel) rfl ?_
    refine g_52 (a := 12) (b := 53) (nx := 16) (by decide +kernel) h0 ?_
    refine g_5 (a := 4) (b := 0) (nx := 18) (by decide +kernel) rfl ?_
    refine g_61 (a := 0) (b := 0) (nx := 19) (by decide +kernel) h.1 ?_
    replace h := h.2
    refine g_5 (a := 3) (b := 0) (nx := 20) (by decide +kernel) rfl ?_
    obtain ⟨r3, h⟩ := h
    obtain ⟨r4, h⟩ := h
    by_cases c5 : (M (M x0 53) x4) = x3
    · rw [if_pos c5] at h
      refine g_41f (a := 1) (b := 27) (nx := 23) (by decide +kernel) (by rw [wr_id r3, wr_id r4]; exact fun hz => ((cb_1 _ _).mp hz) c5) ?_
      refine g_1 (a := 1) (b := 0) (nx := 24) (by decide +kernel) ?_
      refine g_44 (a := 0) (b := 28) (nx := 27) (by decide +kernel) ?_
      refine g_8 (a := 5) (b := 0) (nx := 30) (by decide +kernel) rfl (ls' := [some (vR x0), some (vR x1), some (vI x2), some (vI x3), some (vI x4), some (vI 1), l6]) rfl ?_
      refine g_1 (a := 0) (b := 0) (nx := 31) (by decide +kernel) ?_
      refine g_8 (a := 6) (b := 0) (nx := 33) (by decide +kernel) rfl (ls' := [some (vR x0), some (vR x1), some (vI x2), some (vI x3), some (vI x4), some (vI 1), some (vI 0)]) rfl ?_
      exact h
    · rw [if_neg c5] at h
      refine g_41t (a := 1) (b := 27) (nx := 23) (by decide +kernel) (by rw [wr_id r3, wr_id r4]; exact (cb_1 _ _).mpr c5) ?_
      refine g_1 (a := 0) (b := 0) (nx := 28) (by decide +kernel) ?_
      refine g_8 (a := 5) (b := 0) (nx := 30) (by decide +kernel) rfl (ls' := [some (vR x0), some (vR x1), some (vI x2), some (vI x3), some (vI x4), some (vI 0), l6]) rfl ?_
      refine g_1 (a := 0) (b := 0) (nx := 31) (by decide +kernel) ?_
      refine g_8 (a := 6) (b := 0) (nx := 33) (by decide +kernel) rfl (ls' := [some (vR x0), some (vR x1), some (vI x2), some (vI x3), some (vI x4), some (vI 0), some (vI 0)]) rfl ?_
      exact h
theorem t_232_33 {x0 x1 x2 x3 x4 x5 x6 : Int} {M : Mem} {Q : AV → Mem → Prop} (h0 : gO 12 x0) (h : inR x6 ∧ (inR x3 ∧ (if x3 ≤ x6 then (inR x5 ∧ (if x5 = 0 then (WR 232 3 [some (vR x0), some (vR x1), some (vI x2), some (vI x3), some (vI (x4 + 1)), some (vI x5), some (vI x6)] [] M Q) else (Q (vI 1) M))) else (inR x5 ∧ (if x5 = 0 then (if x5 = 0 then (WR 232 3 [some (vR x0), some (vR x1), some (vI x2), some (vI x3), some (vI (x4 + 1)), some (vI x5), some (vI x6)] [] M Q) else (Q (vI 1) M)) else ((gA 20 (M x0 52) ((4 * x4) + x6)) ∧ (gA 20 x1 (x2 + x6)) ∧ inR (M (M x0 52) ((4 * x4) + x6)) ∧ (inR (M x1 (x2 + x6)) ∧ (if (M (M x0 52) ((4 * x4) + x6)) = (M x1 (x2 + x6)) then (WR 232 33 [some (vR x0), some (vR x1), some (vI x2), some (vI x3), some (vI x4), some (vI 1), some (vI (x6 + 1))] [] M Q) else (WR 232 33 [some (vR x0), some (vR x1), some (vI x2), some (vI x3), some (vI x4), some (vI 0), some (vI (x6 + 1))] [] M Q))))))))) : WR 232 33 [some (vR x0), some (vR x1), some (vI x2), some (vI x3), some (vI x4), some (vI x5), some (vI x6)] [] M Q := by
  refine g_5 (a := 6) (b := 0) (nx := 35) (by decide +kernel) rfl ?_
  refine g_5 (a := 3) (b := 0) (nx := 36) (by decide +kernel) rfl ?_
  obtain ⟨r1, h⟩ := h
  obtain ⟨r2, h⟩ := h
  by_cases c11 : x3 ≤ x6
  · rw [if_pos c11] at h
    refine g_41t (a := 3) (b := 78) (nx := 39) (by decide +kernel) (by rw [wr_id r1, wr_id r2]; exact (cb_3 _ _).mpr c11) ?_
    refine g_5 (a := 5) (b := 0) (nx := 80) (by decide +kernel) rfl ?_
    obtain ⟨r3, h⟩ := h
    by_cases c4 : x5 = 0
    · rw [if_pos c4] at h
      refine g_40t (a := 0) (b := 85) (nx := 83) (by decide +kernel) r3 (by exact (cb_0 _ _).mpr c4) ?_
      refine g_11 (a := 4) (b := 1) (nx := 88) (by decide +kernel) rfl rfl (ls' := [some (vR x0), some (vR x1), some (vI x2), some (vI x3), some (vI (x4 + 1)), some (vI x5), some (vI x6)]) rfl ?_
      refine g_44 (a := 0) (b := 3) (nx := 91) (by decide +kernel) ?_
      exact h
    · rw [if_neg c4] at h
      refine g_40f (a := 0) (b := 85) (nx := 83) (by decide +kernel) r3 (by exact fun hz => c4 ((cb_0 _ _).mp hz)) ?_
      refine g_1 (a := 1) (b := 0) (nx := 84) (by decide +kernel) ?_
      exact g_91z (b := 0) (nx := 85) (by decide +kernel) (by decide) h
  · rw [if_neg c11] at h
    refine g_41f (a := 3) (b := 78) (nx := 39) (by decide +kernel) (by rw [wr_id r1, wr_id r2]; exact fun hz => c11 ((cb_3 _ _).mp hz)) ?_
    refine g_5 (a := 5) (b := 0) (nx := 41) (by decide +kernel) rfl ?_
    obtain ⟨r5, h⟩ := h
    by_cases c10 : x5 = 0
    · rw [if_pos c10] at h
      refine g_40t (a := 0) (b := 78) (nx := 44) (by decide +kernel) r5 (by exact (cb_0 _ _).mpr c10) ?_
      refine g_5 (a := 5) (b := 0) (nx := 80) (by decide +kernel) rfl ?_
      by_cases c6 : x5 = 0
      · rw [if_pos c6] at h
        refine g_40t (a := 0) (b := 85) (nx := 83) (by decide +kernel) r5 (by exact (cb_0 _ _).mpr c6) ?_
        refine g_11 (a := 4) (b := 1) (nx := 88) (by decide +kernel) rfl rfl (ls' := [some (vR x0), some (vR x1), some (vI x2), some (vI x3), some (vI (x4 + 1)), some (vI x5), some (vI x6)]) rfl ?_
        refine g_44 (a := 0) (b := 3) (nx := 91) (by decide +kernel) ?_
        exact h
      · rw [if_neg c6] at h
        refine g_40f (a := 0) (b := 85) (nx := 83) (by decide +kernel) r5 (by exact fun hz => c6 ((cb_0 _ _).mp hz)) ?_
        refine g_1 (a := 1) (b := 0) (nx := 84) (by decide +kernel) ?_
        exact g_91z (b := 0) (nx := 85) (by decide +kernel) (by decide) h
    · rw [if_neg c10] at h
      refine g_40f (a := 0) (b := 78) (nx := 44) (by decide +kernel) r5 (by exact fun hz => c10 ((cb_0 _ _).mp hz)) ?_
      refine g_7 (a := 0) (b := 0) (nx := 45) (by decide +kernel) rfl ?_
      refine g_52 (a := 12) (b := 52) (nx := 48) (by decide +kernel) h0 ?_
      refine g_1 (a := 4) (b := 0) (nx := 49) (by decide +kernel) ?_
      refine g_5 (a := 4) (b := 0) (nx := 51) (by decide +kernel) rfl ?_
      refine g_17 (a := 0) (b := 0) (nx := 52) (by decide +kernel) ?_
      refine g_5 (a := 6) (b := 0) (nx := 54) (by decide +kernel) rfl ?_
      refine g_15 (a := 0) (b := 0) (nx := 55) (by decide +kernel) ?_
      refine g_61 (a := 0) (b := 0) (nx := 56) (by decide +kernel) h.1 ?_
      replace h := h.2
      refine g_7 (a := 1) (b := 0) (nx := 57) (by decide +kernel) rfl ?_
      refine g_5 (a := 2) (b := 0) (nx := 58) (by decide +kernel) rfl ?_
      refine g_5 (a := 6) (b := 0) (nx := 60) (by decide +kernel) rfl ?_
      refine g_15 (a := 0) (b := 0) (nx := 61) (by decide +kernel) ?_
      refine g_61 (a := 0) (b := 0) (nx := 62) (by decide +kernel) h.1 ?_
      replace h := h.2
      obtain ⟨r7, h⟩ := h
      obtain ⟨r8, h⟩ := h
      by_cases c9 : (M (M x0 52) ((4 * x4) + x6)) = (M x1 (x2 + x6))
      · rw [if_pos c9] at h
        refine g_41f (a := 1) (b := 69) (nx := 65) (by decide +kernel) (by rw [wr_id r7, wr_id r8]; exact fun hz => ((cb_1 _ _).mp hz) c9) ?_
        refine g_1 (a := 1) (b := 0) (nx := 66) (by decide +kernel) ?_
        refine g_44 (a := 0) (b := 70) (nx := 69) (by decide +kernel) ?_
        refine g_8 (a := 5) (b := 0) (nx := 72) (by decide +kernel) rfl (ls' := [some (vR x0), some (vR x1), some (vI x2), some (vI x3), some (vI x4), some (vI 1), some (vI x6)]) rfl ?_
        refine g_11 (a := 6) (b := 1) (nx := 75) (by decide +kernel) rfl rfl (ls' := [some (vR x0), some (vR x1), some (vI x2), some (vI x3), some (vI x4), some (vI 1), some (vI (x6 + 1))]) rfl ?_
        refine g_44 (a := 0) (b := 33) (nx := 78) (by decide +kernel) ?_
        exact h
      · rw [if_neg c9] at h
        refine g_41t (a := 1) (b := 69) (nx := 65) (by decide +kernel) (by rw [wr_id r7, wr_id r8]; exact (cb_1 _ _).mpr c9) ?_
        refine g_1 (a := 0) (b := 0) (nx := 70) (by decide +kernel) ?_
        refine g_8 (a := 5) (b := 0) (nx := 72) (by decide +kernel) rfl (ls' := [some (vR x0), some (vR x1), some (vI x2), some (vI x3), some (vI x4), some (vI 0), some (vI x6)]) rfl ?_
        refine g_11 (a := 6) (b := 1) (nx := 75) (by decide +kernel) rfl rfl (ls' := [some (vR x0), some (vR x1), some (vI x2), some (vI x3), some (vI x4), some (vI 0), some (vI (x6 + 1))]) rfl ?_
        refine g_44 (a := 0) (b := 33) (nx := 78) (by decide +kernel) ?_
        exact h
-- 233 SyllableMakerModel.aheadOf(I)I
theorem t_233 {x0 x1 : Int} {M : Mem} {Q : AV → Mem → Prop} (h0 : gO 12 x0) (h : WR 233 2 [some (vR x0), some (vI x1), some (vI 0)] [] M Q) : WC 233 [vR x0, vI x1] M Q := by
  show WR 233 0 [some (vR x0), some (vI x1), none] [] M Q
  refine g_1 (a := 0) (b := 0) (nx := 1) (by decide +kernel) ?_
  refine g_8 (a := 2) (b := 0) (nx := 2) (by decide +kernel) rfl (ls' := [some (vR x0), some (vI x1), some (vI 0)]) rfl ?_
  exact h
theorem t_233_2 {x0 x1 x2 : Int} {M : Mem} {Q : AV → Mem → Prop} (h0 : gO 12 x0) (h : (gA 20 (M x0 61) (1 + x1)) ∧ inR x2 ∧ (inR (M (M x0 61) (1 + x1)) ∧ (if (M (M x0 61) (1 + x1)) ≤ x2 then (Q (vI (-1)) M) else ((gA 20 (M x0 61) ((21 + (12 * x1)) + x2)) ∧ WI 225 [vR x0, vI (M (M x0 61) ((21 + (12 * x1)) + x2))] M (fun y4 M3 => inR y4 ∧ (if y4 = 0 then (WR 233 2 [some (vR x0), some (vI x1), some (vI (x2 + 1))] [] M3 Q) else (Q (vI x2) M3))))))) : WR 233 2 [some (vR x0), some (vI x1), some (vI x2)] [] M Q := by
  refine g_5 (a := 2) (b := 0) (nx := 3) (by decide +kernel) rfl ?_
  refine g_7 (a := 0) (b := 0) (nx := 4) (by decide +kernel) rfl ?_
  refine g_52 (a := 12) (b := 61) (nx := 7) (by decide +kernel) h0 ?_
  refine g_1 (a := 1) (b := 0) (nx := 8) (by decide +kernel) ?_
  refine g_5 (a := 1) (b := 0) (nx := 9) (by decide +kernel) rfl ?_
  refine g_15 (a := 0) (b := 0) (nx := 10) (by decide +kernel) ?_
  refine g_61 (a := 0) (b := 0) (nx := 11) (by decide +kernel) h.1 ?_
  replace h := h.2
  obtain ⟨r1, h⟩ := h
  obtain ⟨r2, h⟩ := h
  by_cases c7 : (M (M x0 61) (1 + x1)) ≤ x2
  · rw [if_pos c7] at h
    refine g_41t (a := 3) (b := 43) (nx := 14) (by decide +kernel) (by rw [wr_id r1, wr_id r2]; exact (cb_3 _ _).mpr c7) ?_
    refine g_1 (a := (-1)) (b := 0) (nx := 44) (by decide +kernel) ?_
    exact g_91 (b := 0) (nx := 45) (by decide +kernel) h
  · rw [if_neg c7] at h
    refine g_41f (a := 3) (b := 43) (nx := 14) (by decide +kernel) (by rw [wr_id r1, wr_id r2]; exact fun hz => c7 ((cb_3 _ _).mp hz)) ?_
    refine g_7 (a := 0) (b := 0) (nx := 15) (by decide +kernel) rfl ?_
    refine g_7 (a := 0) (b := 0) (nx := 16) (by decide +kernel) rfl ?_
    refine g_52 (a := 12) (b := 61) (nx := 19) (by decide +kernel) h0 ?_
    refine g_1 (a := 21) (b := 0) (nx := 21) (by decide +kernel) ?_
    refine g_1 (a := 12) (b := 0) (nx := 23) (by decide +kernel) ?_
    refine g_5 (a := 1) (b := 0) (nx := 24) (by decide +kernel) rfl ?_
    refine g_17 (a := 0) (b := 0) (nx := 25) (by decide +kernel) ?_
    refine g_15 (a := 0) (b := 0) (nx := 26) (by decide +kernel) ?_
    refine g_5 (a := 2) (b := 0) (nx := 27) (by decide +kernel) rfl ?_
    refine g_15 (a := 0) (b := 0) (nx := 28) (by decide +kernel) ?_
    refine g_61 (a := 0) (b := 0) (nx := 29) (by decide +kernel) h.1 ?_
    replace h := h.2
    refine g_80 (a := 225) (b := 1) (nx := 32) (by decide +kernel) (r := x0) (As := [vI (M (M x0 61) ((21 + (12 * x1)) + x2))]) (st' := []) (z := 225) rfl rfl rfl (Nat.le_of_ble_eq_true rfl) h0.2 (Nat.le_of_ble_eq_true rfl) rfl (c_I (by decide +kernel) h (fun y4 M3 h => ?_))
    obtain ⟨r5, h⟩ := h
    by_cases c6 : y4 = 0
    · rw [if_pos c6] at h
      refine g_40t (a := 0) (b := 37) (nx := 35) (by decide +kernel) r5 (by exact (cb_0 _ _).mpr c6) ?_
      refine g_11 (a := 2) (b := 1) (nx := 40) (by decide +kernel) rfl rfl (ls' := [some (vR x0), some (vI x1), some (vI (x2 + 1))]) rfl ?_
      refine g_44 (a := 0) (b := 2) (nx := 43) (by decide +kernel) ?_
      exact h
    · rw [if_neg c6] at h
      refine g_40f (a := 0) (b := 37) (nx := 35) (by decide +kernel) r5 (by exact fun hz => c6 ((cb_0 _ _).mp hz)) ?_
      refine g_5 (a := 2) (b := 0) (nx := 36) (by decide +kernel) rfl ?_
      exact g_91 (b := 0) (nx := 37) (by decide +kernel) h
-- 234 SyllableMakerModel.isLearnt([III)Z
theorem t_234 {x0 x1 x2 x3 : Int} {M : Mem} {Q : AV → Mem → Prop} (h0 : gO 12 x0) (h : WR 234 3 [some (vR x0), some (vR x1), some (vI x2), some (vI x3), some (vI 0), none, none] [] M Q) : WC 234 [vR x0, vR x1, vI x2, vI x3] M Q := by
  show WR 234 0 [some (vR x0), some (vR x1), some (vI x2), some (vI x3), none, none, none] [] M Q
  refine g_1 (a := 0) (b := 0) (nx := 1) (by decide +kernel) ?_
  refine g_8 (a := 4) (b := 0) (nx := 3) (by decide +kernel) rfl (ls' := [some (vR x0), some (vR x1), some (vI x2), some (vI x3), some (vI 0), none, none]) rfl ?_
  exact h
theorem t_234_3 {x0 x1 x2 x3 x4 : Int} {l5 l6 : Option AV} {M : Mem} {Q : AV → Mem → Prop} (h0 : gO 12 x0) (h : (gA 20 (M x0 61) 0) ∧ inR x4 ∧ (inR (M (M x0 61) 0) ∧ (if (M (M x0 61) 0) ≤ x4 then (Q (vI 0) M) else (WI 233 [vR x0, vI x4] M (fun y4 M3 => inR y4 ∧ (inR x3 ∧ (if y4 = x3 then (WR 234 34 [some (vR x0), some (vR x1), some (vI x2), some (vI x3), some (vI x4), some (vI 1), some (vI 0)] [] M3 Q) else (WR 234 34 [some (vR x0), some (vR x1), some (vI x2), some (vI x3), some (vI x4), some (vI 0), some (vI 0)] [] M3 Q)))))))) : WR 234 3 [some (vR x0), some (vR x1), some (vI x2), some (vI x3), some (vI x4), l5, l6] [] M Q := by
  refine g_5 (a := 4) (b := 0) (nx := 5) (by decide +kernel) rfl ?_
  refine g_7 (a := 0) (b := 0) (nx := 6) (by decide +kernel) rfl ?_
  refine g_52 (a := 12) (b := 61) (nx := 9) (by decide +kernel) h0 ?_
  refine g_1 (a := 0) (b := 0) (nx := 10) (by decide +kernel) ?_
  refine g_61 (a := 0) (b := 0) (nx := 11) (by decide +kernel) h.1 ?_
  replace h := h.2
  obtain ⟨r1, h⟩ := h
  obtain ⟨r2, h⟩ := h
  by_cases c8 : (M (M x0 61) 0) ≤ x4
  · rw [if_pos c8] at h
    refine g_41t (a := 3) (b := 96) (nx := 14) (by decide +kernel) (by rw [wr_id r1, wr_id r2]; exact (cb_3 _ _).mpr c8) ?_
    refine g_1 (a := 0) (b := 0) (nx := 97) (by decide +kernel) ?_
    exact g_91z (b := 0) (nx := 98) (by decide +kernel) (by decide) h
  · rw [if_neg c8] at h
    refine g_41f (a := 3) (b := 96) (nx := 14) (by decide +kernel) (by rw [wr_id r1, wr_id r2]; exact fun hz => c8 ((cb_3 _ _).mp hz)) ?_
    refine g_7 (a := 0) (b := 0) (nx := 15) (by decide +kernel) rfl ?_
    refine g_5 (a := 4) (b := 0) (nx := 17) (by decide +kernel) rfl ?_
    refine g_80 (a := 233) (b := 1) (nx := 20) (by decide +kernel) (r := x0) (As := [vI x4]) (st' := []) (z := 233) rfl rfl rfl (Nat.le_of_ble_eq_true rfl) h0.2 (Nat.le_of_ble_eq_true rfl) rfl (c_I (by decide +kernel) h (fun y4 M3 h => ?_))
    refine g_5 (a := 3) (b := 0) (nx := 21) (by decide +kernel) rfl ?_
    obtain ⟨r5, h⟩ := h
    obtain ⟨r6, h⟩ := h
    by_cases c7 : y4 = x3
    · rw [if_pos c7] at h
      refine g_41f (a := 1) (b := 28) (nx := 24) (by decide +kernel) (by rw [wr_id r5, wr_id r6]; exact fun hz => ((cb_1 _ _).mp hz) c7) ?_
      refine g_1 (a := 1) (b := 0) (nx := 25) (by decide +kernel) ?_
      refine g_44 (a := 0) (b := 29) (nx := 28) (by decide +kernel) ?_
      refine g_8 (a := 5) (b := 0) (nx := 31) (by decide +kernel) rfl (ls' := [some (vR x0), some (vR x1), some (vI x2), some (vI x3), some (vI x4), some (vI 1), l6]) rfl ?_
      refine g_1 (a := 0) (b := 0) (nx := 32) (by decide +kernel) ?_
      refine g_8 (a := 6) (b := 0) (nx := 34) (by decide +kernel) rfl (ls' := [some (vR x0), some (vR x1), some (vI x2), some (vI x3), some (vI x4), some (vI 1), some (vI 0)]) rfl ?_
      exact h
    · rw [if_neg c7] at h
      refine g_41t (a := 1) (b := 28) (nx := 24) (by decide +kernel) (by rw [wr_id r5, wr_id r6]; exact (cb_1 _ _).mpr c7) ?_
      refine g_1 (a := 0) (b := 0) (nx := 29) (by decide +kernel) ?_
      refine g_8 (a := 5) (b := 0) (nx := 31) (by decide +kernel) rfl (ls' := [some (vR x0), some (vR x1), some (vI x2), some (vI x3), some (vI x4), some (vI 0), l6]) rfl ?_
      refine g_1 (a := 0) (b := 0) (nx := 32) (by decide +kernel) ?_
      refine g_8 (a := 6) (b := 0) (nx := 34) (by decide +kernel) rfl (ls' := [some (vR x0), some (vR x1), some (vI x2), some (vI x3), some (vI x4), some (vI 0), some (vI 0)]) rfl ?_
      exact h
theorem t_234_34 {x0 x1 x2 x3 x4 x5 x6 : Int} {M : Mem} {Q : AV → Mem → Prop} (h0 : gO 12 x0) (h : inR x6 ∧ (inR x3 ∧ (if x3 ≤ x6 then (inR x5 ∧ (if x5 = 0 then (WR 234 3 [some (vR x0), some (vR x1), some (vI x2), some (vI x3), some (vI (x4 + 1)), some (vI x5), some (vI x6)] [] M Q) else (Q (vI 1) M))) else (inR x5 ∧ (if x5 = 0 then (if x5 = 0 then (WR 234 3 [some (vR x0), some (vR x1), some (vI x2), some (vI x3), some (vI (x4 + 1)), some (vI x5), some (vI x6)] [] M Q) else (Q (vI 1) M)) else ((gA 20 (M x0 61) ((21 + (12 * x4)) + x6)) ∧ (gA 20 x1 (x2 + x6)) ∧ inR (M (M x0 61) ((21 + (12 * x4)) + x6)) ∧ (inR (M x1 (x2 + x6)) ∧ (if (M (M x0 61) ((21 + (12 * x4)) + x6)) = (M x1 (x2 + x6)) then (WR 234 34 [some (vR x0), some (vR x1), some (vI x2), some (vI x3), some (vI x4), some (vI 1), some (vI (x6 + 1))] [] M Q) else (WR 234 34 [some (vR x0), some (vR x1), some (vI x2), some (vI x3), some (vI x4), some (vI 0), some (vI (x6 + 1))] [] M Q))))))))) : WR 234 34 [some (vR x0), some (vR x1), some (vI x2), some (vI x3), some (vI x4), some (vI x5), some (vI x6)] [] M Q := by
  refine g_5 (a := 6) (b := 0) (nx := 36) (by decide +kernel) rfl ?_
  refine g_5 (a := 3) (b := 0) (nx := 37) (by decide +kernel) rfl ?_
  obtain ⟨r1, h⟩ := h
  obtain ⟨r2, h⟩ := h
  by_cases c11 : x3 ≤ x6
  · rw [if_pos c11] at h
    refine g_41t (a := 3) (b := 83) (nx := 40) (by decide +kernel) (by rw [wr_id r1, wr_id r2]; exact (cb_3 _ _).mpr c11) ?_
    refine g_5 (a := 5) (b := 0) (nx := 85) (by decide +kernel) rfl ?_
    obtain ⟨r3, h⟩ := h
    by_cases c4 : x5 = 0
    · rw [if_pos c4] at h
      refine g_40t (a := 0) (b := 90) (nx := 88) (by decide +kernel) r3 (by exact (cb_0 _ _).mpr c4) ?_
      refine g_11 (a := 4) (b := 1) (nx := 93) (by decide +kernel) rfl rfl (ls' := [some (vR x0), some (vR x1), some (vI x2), some (vI x3), some (vI (x4 + 1)), some (vI x5), some (vI x6)]) rfl ?_
      refine g_44 (a := 0) (b := 3) (nx := 96) (by decide +kernel) ?_
      exact h
    · rw [if_neg c4] at h
      refine g_40f (a := 0) (b := 90) (nx := 88) (by decide +kernel) r3 (by exact fun hz => c4 ((cb_0 _ _).mp hz)) ?_
      refine g_1 (a := 1) (b := 0) (nx := 89) (by decide +kernel) ?_
      exact g_91z (b := 0) (nx := 90) (by decide +kernel) (by decide) h
  · rw [if_neg c11] at h
    refine g_41f (a := 3) (b := 83) (nx := 40) (by decide +kernel) (by rw [wr_id r1, wr_id r2]; exact fun hz => c11 ((cb_3 _ _).mp hz)) ?_
    refine g_5 (a := 5) (b := 0) (nx := 42) (by decide +kernel) rfl ?_
    obtain ⟨r5, h⟩ := h
    by_cases c10 : x5 = 0
    · rw [if_pos c10] at h
      refine g_40t (a := 0) (b := 83) (nx := 45) (by decide +kernel) r5 (by exact (cb_0 _ _).mpr c10) ?_
      refine g_5 (a := 5) (b := 0) (nx := 85) (by decide +kernel) rfl ?_
      by_cases c6 : x5 = 0
      · rw [if_pos c6] at h
        refine g_40t (a := 0) (b := 90) (nx := 88) (by decide +kernel) r5 (by exact (cb_0 _ _).mpr c6) ?_
        refine g_11 (a := 4) (b := 1) (nx := 93) (by decide +kernel) rfl rfl (ls' := [some (vR x0), some (vR x1), some (vI x2), some (vI x3), some (vI (x4 + 1)), some (vI x5), some (vI x6)]) rfl ?_
        refine g_44 (a := 0) (b := 3) (nx := 96) (by decide +kernel) ?_
        exact h
      · rw [if_neg c6] at h
        refine g_40f (a := 0) (b := 90) (nx := 88) (by decide +kernel) r5 (by exact fun hz => c6 ((cb_0 _ _).mp hz)) ?_
        refine g_1 (a := 1) (b := 0) (nx := 89) (by decide +kernel) ?_
        exact g_91z (b := 0) (nx := 90) (by decide +kernel) (by decide) h
    · rw [if_neg c10] at h
      refine g_40f (a := 0) (b := 83) (nx := 45) (by decide +kernel) r5 (by exact fun hz => c10 ((cb_0 _ _).mp hz)) ?_
      refine g_7 (a := 0) (b := 0) (nx := 46) (by decide +kernel) rfl ?_
      refine g_52 (a := 12) (b := 61) (nx := 49) (by decide +kernel) h0 ?_
      refine g_1 (a := 21) (b := 0) (nx := 51) (by decide +kernel) ?_
      refine g_1 (a := 12) (b := 0) (nx := 53) (by decide +kernel) ?_
      refine g_5 (a := 4) (b := 0) (nx := 55) (by decide +kernel) rfl ?_
      refine g_17 (a := 0) (b := 0) (nx := 56) (by decide +kernel) ?_
      refine g_15 (a := 0) (b := 0) (nx := 57) (by decide +kernel) ?_
      refine g_5 (a := 6) (b := 0) (nx := 59) (by decide +kernel) rfl ?_
      refine g_15 (a := 0) (b := 0) (nx := 60) (by decide +kernel) ?_
      refine g_61 (a := 0) (b := 0) (nx := 61) (by decide +kernel) h.1 ?_
      replace h := h.2
      refine g_7 (a := 1) (b := 0) (nx := 62) (by decide +kernel) rfl ?_
      refine g_5 (a := 2) (b := 0) (nx := 63) (by decide +kernel) rfl ?_
      refine g_5 (a := 6) (b := 0) (nx := 65) (by decide +kernel) rfl ?_
      refine g_15 (a := 0) (b := 0) (nx := 66) (by decide +kernel) ?_
      refine g_61 (a := 0) (b := 0) (nx := 67) (by decide +kernel) h.1 ?_
      replace h := h.2
      obtain ⟨r7, h⟩ := h
      obtain ⟨r8, h⟩ := h
      by_cases c9 : (M (M x0 61) ((21 + (12 * x4)) + x6)) = (M x1 (x2 + x6))
      · rw [if_pos c9] at h
        refine g_41f (a := 1) (b := 74) (nx := 70) (by decide +kernel) (by rw [wr_id r7, wr_id r8]; exact fun hz => ((cb_1 _ _).mp hz) c9) ?_
        refine g_1 (a := 1) (b := 0) (nx := 71) (by decide +kernel) ?_
        refine g_44 (a := 0) (b := 75) (nx := 74) (by decide +kernel) ?_
        refine g_8 (a := 5) (b := 0) (nx := 77) (by decide +kernel) rfl (ls' := [some (vR x0), some (vR x1), some (vI x2), some (vI x3), some (vI x4), some (vI 1), some (vI x6)]) rfl ?_
        refine g_11 (a := 6) (b := 1) (nx := 80) (by decide +kernel) rfl rfl (ls' := [some (vR x0), some (vR x1), some (vI x2), some (vI x3), some (vI x4), some (vI 1), some (vI (x6 + 1))]) rfl ?_
        refine g_44 (a := 0) (b := 34) (nx := 83) (by decide +kernel) ?_
        exact h
      · rw [if_neg c9] at h
        refine g_41t (a := 1) (b := 74) (nx := 70) (by decide +kernel) (by rw [wr_id r7, wr_id r8]; exact (cb_1 _ _).mpr c9) ?_
        refine g_1 (a := 0) (b := 0) (nx := 75) (by decide +kernel) ?_
        refine g_8 (a := 5) (b := 0) (nx := 77) (by decide +kernel) rfl (ls' := [some (vR x0), some (vR x1), some (vI x2), some (vI x3), some (vI x4), some (vI 0), some (vI x6)]) rfl ?_
        refine g_11 (a := 6) (b := 1) (nx := 80) (by decide +kernel) rfl rfl (ls' := [some (vR x0), some (vR x1), some (vI x2), some (vI x3), some (vI x4), some (vI 0), some (vI (x6 + 1))]) rfl ?_
        refine g_44 (a := 0) (b := 34) (nx := 83) (by decide +kernel) ?_
        exact h
-- 235 SyllableMakerModel.openingKind([III)I
theorem t_235 {x0 x1 x2 x3 : Int} {M : Mem} {Q : AV → Mem → Prop} (h0 : gO 12 x0) (h : inR x3 ∧ (if 2 ≤ x3 then (if x3 ≤ 4 then (WI 232 [vR x0, vR x1, vI x2, vI x3] M (fun y3 M2 => inR y3 ∧ (if y3 = 0 then (WI 234 [vR x0, vR x1, vI x2, vI x3] M2 (fun y6 M5 => inR y6 ∧ (if y6 = 0 then (WI 231 [vR x0, vR x1, vI x2, vI x3] M5 (fun y9 M8 => inR y9 ∧ (if y9 = 0 then (Q (vI 0) M8) else (Q (vI 4) M8)))) else (Q (vI 3) M5)))) else (Q (vI 2) M2)))) else (Q (vI 0) M)) else (Q (vI 1) M))) : WC 235 [vR x0, vR x1, vI x2, vI x3] M Q := by
  show WR 235 0 [some (vR x0), some (vR x1), some (vI x2), some (vI x3)] [] M Q
  refine g_5 (a := 3) (b := 0) (nx := 1) (by decide +kernel) rfl ?_
  refine g_1 (a := 2) (b := 0) (nx := 2) (by decide +kernel) ?_
  obtain ⟨r1, h⟩ := h
  by_cases c15 : 2 ≤ x3
  · rw [if_pos c15] at h
    refine g_41t (a := 3) (b := 7) (nx := 5) (by decide +kernel) (by rw [wr_id r1, wr_id (show inR 2 by decide)]; exact (cb_3 _ _).mpr c15) ?_
    refine g_5 (a := 3) (b := 0) (nx := 8) (by decide +kernel) rfl ?_
    refine g_1 (a := 4) (b := 0) (nx := 9) (by decide +kernel) ?_
    by_cases c14 : x3 ≤ 4
    · rw [if_pos c14] at h
      refine g_41t (a := 5) (b := 14) (nx := 12) (by decide +kernel) (by rw [wr_id r1, wr_id (show inR 4 by decide)]; exact (cb_5 _ _).mpr c14) ?_
      refine g_7 (a := 0) (b := 0) (nx := 15) (by decide +kernel) rfl ?_
      refine g_7 (a := 1) (b := 0) (nx := 16) (by decide +kernel) rfl ?_
      refine g_5 (a := 2) (b := 0) (nx := 17) (by decide +kernel) rfl ?_
      refine g_5 (a := 3) (b := 0) (nx := 18) (by decide +kernel) rfl ?_
      refine g_80 (a := 232) (b := 3) (nx := 21) (by decide +kernel) (r := x0) (As := [vR x1, vI x2, vI x3]) (st' := []) (z := 232) rfl rfl rfl (Nat.le_of_ble_eq_true rfl) h0.2 (Nat.le_of_ble_eq_true rfl) rfl (c_I (by decide +kernel) h (fun y3 M2 h => ?_))
      obtain ⟨r4, h⟩ := h
      by_cases c13 : y3 = 0
      · rw [if_pos c13] at h
        refine g_40t (a := 0) (b := 28) (nx := 24) (by decide +kernel) r4 (by exact (cb_0 _ _).mpr c13) ?_
        refine g_7 (a := 0) (b := 0) (nx := 29) (by decide +kernel) rfl ?_
        refine g_7 (a := 1) (b := 0) (nx := 30) (by decide +kernel) rfl ?_
        refine g_5 (a := 2) (b := 0) (nx := 31) (by decide +kernel) rfl ?_
        refine g_5 (a := 3) (b := 0) (nx := 32) (by decide +kernel) rfl ?_
        refine g_80 (a := 234) (b := 3) (nx := 35) (by decide +kernel) (r := x0) (As := [vR x1, vI x2, vI x3]) (st' := []) (z := 234) rfl rfl rfl (Nat.le_of_ble_eq_true rfl) h0.2 (Nat.le_of_ble_eq_true rfl) rfl (c_I (by decide +kernel) h (fun y6 M5 h => ?_))
        obtain ⟨r7, h⟩ := h
        by_cases c12 : y6 = 0
        · rw [if_pos c12] at h
          refine g_40t (a := 0) (b := 42) (nx := 38) (by decide +kernel) r7 (by exact (cb_0 _ _).mpr c12) ?_
          refine g_7 (a := 0) (b := 0) (nx := 43) (by decide +kernel) rfl ?_
          refine g_7 (a := 1) (b := 0) (nx := 44) (by decide +kernel) rfl ?_
          refine g_5 (a := 2) (b := 0) (nx := 45) (by decide +kernel) rfl ?_
          refine g_5 (a := 3) (b := 0) (nx := 46) (by decide +kernel) rfl ?_
          refine g_80 (a := 231) (b := 3) (nx := 49) (by decide +kernel) (r := x0) (As := [vR x1, vI x2, vI x3]) (st' := []) (z := 231) rfl rfl rfl (Nat.le_of_ble_eq_true rfl) h0.2 (Nat.le_of_ble_eq_true rfl) rfl (c_I (by decide +kernel) h (fun y9 M8 h => ?_))
          obtain ⟨r10, h⟩ := h
          by_cases c11 : y9 = 0
          · rw [if_pos c11] at h
            refine g_40t (a := 0) (b := 56) (nx := 52) (by decide +kernel) r10 (by exact (cb_0 _ _).mpr c11) ?_
            refine g_1 (a := 0) (b := 0) (nx := 57) (by decide +kernel) ?_
            exact g_91 (b := 0) (nx := 58) (by decide +kernel) h
          · rw [if_neg c11] at h
            refine g_40f (a := 0) (b := 56) (nx := 52) (by decide +kernel) r10 (by exact fun hz => c11 ((cb_0 _ _).mp hz)) ?_
            refine g_1 (a := 4) (b := 0) (nx := 53) (by decide +kernel) ?_
            refine g_44 (a := 0) (b := 57) (nx := 56) (by decide +kernel) ?_
            exact g_91 (b := 0) (nx := 58) (by decide +kernel) h
        · rw [if_neg c12] at h
          refine g_40f (a := 0) (b := 42) (nx := 38) (by decide +kernel) r7 (by exact fun hz => c12 ((cb_0 _ _).mp hz)) ?_
          refine g_1 (a := 3) (b := 0) (nx := 39) (by decide +kernel) ?_
          refine g_44 (a := 0) (b := 57) (nx := 42) (by decide +kernel) ?_
          exact g_91 (b := 0) (nx := 58) (by decide +kernel) h
      · rw [if_neg c13] at h
        refine g_40f (a := 0) (b := 28) (nx := 24) (by decide +kernel) r4 (by exact fun hz => c13 ((cb_0 _ _).mp hz)) ?_
        refine g_1 (a := 2) (b := 0) (nx := 25) (by decide +kernel) ?_
        refine g_44 (a := 0) (b := 57) (nx := 28) (by decide +kernel) ?_
        exact g_91 (b := 0) (nx := 58) (by decide +kernel) h
    · rw [if_neg c14] at h
      refine g_41f (a := 5) (b := 14) (nx := 12) (by decide +kernel) (by rw [wr_id r1, wr_id (show inR 4 by decide)]; exact fun hz => c14 ((cb_5 _ _).mp hz)) ?_
      refine g_1 (a := 0) (b := 0) (nx := 13) (by decide +kernel) ?_
      exact g_91 (b := 0) (nx := 14) (by decide +kernel) h
  · rw [if_neg c15] at h
    refine g_41f (a := 3) (b := 7) (nx := 5) (by decide +kernel) (by rw [wr_id r1, wr_id (show inR 2 by decide)]; exact fun hz => c15 ((cb_3 _ _).mp hz)) ?_
    refine g_1 (a := 1) (b := 0) (nx := 6) (by decide +kernel) ?_
    exact g_91 (b := 0) (nx := 7) (by decide +kernel) h
-- 236 SyllableMakerModel.isClosing([III)Z
theorem t_236 {x0 x1 x2 x3 : Int} {M : Mem} {Q : AV → Mem → Prop} (h0 : gO 12 x0) (h : inR x3 ∧ (inR (M x0 42) ∧ (if x3 ≤ (M x0 42) then (WR 236 13 [some (vR x0), some (vR x1), some (vI x2), some (vI x3), some (vI 1)] [] M Q) else (Q (vI 0) M)))) : WC 236 [vR x0, vR x1, vI x2, vI x3] M Q := by
  show WR 236 0 [some (vR x0), some (vR x1), some (vI x2), some (vI x3), none] [] M Q
  refine g_5 (a := 3) (b := 0) (nx := 1) (by decide +kernel) rfl ?_
  refine g_7 (a := 0) (b := 0) (nx := 2) (by decide +kernel) rfl ?_
  refine g_50 (a := 12) (b := 42) (nx := 5) (by decide +kernel) h0 ?_
  obtain ⟨r1, h⟩ := h
  obtain ⟨r2, h⟩ := h
  by_cases c3 : x3 ≤ (M x0 42)
  · rw [if_pos c3] at h
    refine g_41t (a := 5) (b := 10) (nx := 8) (by decide +kernel) (by rw [wr_id r1, wr_id r2]; exact (cb_5 _ _).mpr c3) ?_
    refine g_1 (a := 1) (b := 0) (nx := 11) (by decide +kernel) ?_
    refine g_8 (a := 4) (b := 0) (nx := 13) (by decide +kernel) rfl (ls' := [some (vR x0), some (vR x1), some (vI x2), some (vI x3), some (vI 1)]) rfl ?_
    exact h
  · rw [if_neg c3] at h
    refine g_41f (a := 5) (b := 10) (nx := 8) (by decide +kernel) (by rw [wr_id r1, wr_id r2]; exact fun hz => c3 ((cb_5 _ _).mp hz)) ?_
    refine g_1 (a := 0) (b := 0) (nx := 9) (by decide +kernel) ?_
    exact g_91z (b := 0) (nx := 10) (by decide +kernel) (by decide) h
theorem t_236_13 {x0 x1 x2 x3 x4 : Int} {M : Mem} {Q : AV → Mem → Prop} (h0 : gO 12 x0) (h : inR x4 ∧ (inR x3 ∧ (if x3 ≤ x4 then (Q (vI 1) M) else ((gA 20 x1 ((x2 + x4) - 1)) ∧ (gA 20 (M x0 50) (M x1 ((x2 + x4) - 1))) ∧ (gA 20 x1 (x2 + x4)) ∧ (gA 20 (M x0 50) (M x1 (x2 + x4))) ∧ inR ((M (M x0 50) (M x1 ((x2 + x4) - 1))) - (M (M x0 50) (M x1 (x2 + x4)))) ∧ (inR (M x0 43) ∧ (if (M x0 43) ≤ ((M (M x0 50) (M x1 ((x2 + x4) - 1))) - (M (M x0 50) (M x1 (x2 + x4)))) then (WR 236 13 [some (vR x0), some (vR x1), some (vI x2), some (vI x3), some (vI (x4 + 1))] [] M Q) else (Q (vI 0) M))))))) : WR 236 13 [some (vR x0), some (vR x1), some (vI x2), some (vI x3), some (vI x4)] [] M Q := by
  refine g_5 (a := 4) (b := 0) (nx := 15) (by decide +kernel) rfl ?_
  refine g_5 (a := 3) (b := 0) (nx := 16) (by decide +kernel) rfl ?_
  obtain ⟨r1, h⟩ := h
  obtain ⟨r2, h⟩ := h
  by_cases c6 : x3 ≤ x4
  · rw [if_pos c6] at h
    refine g_41t (a := 3) (b := 59) (nx := 19) (by decide +kernel) (by rw [wr_id r1, wr_id r2]; exact (cb_3 _ _).mpr c6) ?_
    refine g_1 (a := 1) (b := 0) (nx := 60) (by decide +kernel) ?_
    exact g_91z (b := 0) (nx := 61) (by decide +kernel) (by decide) h
  · rw [if_neg c6] at h
    refine g_41f (a := 3) (b := 59) (nx := 19) (by decide +kernel) (by rw [wr_id r1, wr_id r2]; exact fun hz => c6 ((cb_3 _ _).mp hz)) ?_
    refine g_7 (a := 0) (b := 0) (nx := 20) (by decide +kernel) rfl ?_
    refine g_52 (a := 12) (b := 50) (nx := 23) (by decide +kernel) h0 ?_
    refine g_7 (a := 1) (b := 0) (nx := 24) (by decide +kernel) rfl ?_
    refine g_5 (a := 2) (b := 0) (nx := 25) (by decide +kernel) rfl ?_
    refine g_5 (a := 4) (b := 0) (nx := 27) (by decide +kernel) rfl ?_
    refine g_15 (a := 0) (b := 0) (nx := 28) (by decide +kernel) ?_
    refine g_1 (a := 1) (b := 0) (nx := 29) (by decide +kernel) ?_
    refine g_16 (a := 0) (b := 0) (nx := 30) (by decide +kernel) ?_
    refine g_61 (a := 0) (b := 0) (nx := 31) (by decide +kernel) h.1 ?_
    replace h := h.2
    refine g_61 (a := 0) (b := 0) (nx := 32) (by decide +kernel) h.1 ?_
    replace h := h.2
    refine g_7 (a := 0) (b := 0) (nx := 33) (by decide +kernel) rfl ?_
    refine g_52 (a := 12) (b := 50) (nx := 36) (by decide +kernel) h0 ?_
    refine g_7 (a := 1) (b := 0) (nx := 37) (by decide +kernel) rfl ?_
    refine g_5 (a := 2) (b := 0) (nx := 38) (by decide +kernel) rfl ?_
    refine g_5 (a := 4) (b := 0) (nx := 40) (by decide +kernel) rfl ?_
    refine g_15 (a := 0) (b := 0) (nx := 41) (by decide +kernel) ?_
    refine g_61 (a := 0) (b := 0) (nx := 42) (by decide +kernel) h.1 ?_
    replace h := h.2
    refine g_61 (a := 0) (b := 0) (nx := 43) (by decide +kernel) h.1 ?_
    replace h := h.2
    refine g_16 (a := 0) (b := 0) (nx := 44) (by decide +kernel) ?_
    refine g_7 (a := 0) (b := 0) (nx := 45) (by decide +kernel) rfl ?_
    refine g_50 (a := 12) (b := 43) (nx := 48) (by decide +kernel) h0 ?_
    obtain ⟨r3, h⟩ := h
    obtain ⟨r4, h⟩ := h
    by_cases c5 : (M x0 43) ≤ ((M (M x0 50) (M x1 ((x2 + x4) - 1))) - (M (M x0 50) (M x1 (x2 + x4))))
    · rw [if_pos c5] at h
      refine g_41t (a := 3) (b := 53) (nx := 51) (by decide +kernel) (by rw [wr_id r3, wr_id r4]; exact (cb_3 _ _).mpr c5) ?_
      refine g_11 (a := 4) (b := 1) (nx := 56) (by decide +kernel) rfl rfl (ls' := [some (vR x0), some (vR x1), some (vI x2), some (vI x3), some (vI (x4 + 1))]) rfl ?_
      refine g_44 (a := 0) (b := 13) (nx := 59) (by decide +kernel) ?_
      exact h
    · rw [if_neg c5] at h
      refine g_41f (a := 3) (b := 53) (nx := 51) (by decide +kernel) (by rw [wr_id r3, wr_id r4]; exact fun hz => c5 ((cb_3 _ _).mp hz)) ?_
      refine g_1 (a := 0) (b := 0) (nx := 52) (by decide +kernel) ?_
      exact g_91z (b := 0) (nx := 53) (by decide +kernel) (by decide) h
-- 237 SyllableMakerModel.opening(IIII)I
theorem t_237 {x0 x1 x2 x3 x4 : Int} {M : Mem} {Q : AV → Mem → Prop} (h0 : gO 12 x0) (h : WR 237 9 [some (vR x0), some (vI x1), some (vI x2), some (vI x3), some (vI x4), some (vI 0), some (vI 0), some (vI 0), none] [] M Q) : WC 237 [vR x0, vI x1, vI x2, vI x3, vI x4] M Q := by
  show WR 237 0 [some (vR x0), some (vI x1), some (vI x2), some (vI x3), some (vI x4), none, none, none, none] [] M Q
  refine g_1 (a := 0) (b := 0) (nx := 1) (by decide +kernel) ?_
  refine g_8 (a := 5) (b := 0) (nx := 3) (by decide +kernel) rfl (ls' := [some (vR x0), some (vI x1), some (vI x2), some (vI x3), some (vI x4), some (vI 0), none, none, none]) rfl ?_
  refine g_1 (a := 0) (b := 0) (nx := 4) (by decide +kernel) ?_
  refine g_8 (a := 6) (b := 0) (nx := 6) (by decide +kernel) rfl (ls' := [some (vR x0), some (vI x1), some (vI x2), some (vI x3), some (vI x4), some (vI 0), some (vI 0), none, none]) rfl ?_
  refine g_1 (a := 0) (b := 0) (nx := 7) (by decide +kernel) ?_
  refine g_8 (a := 7) (b := 0) (nx := 9) (by decide +kernel) rfl (ls' := [some (vR x0), some (vI x1), some (vI x2), some (vI x3), some (vI x4), some (vI 0), some (vI 0), some (vI 0), none]) rfl ?_
  exact h
theorem t_237_9 {x0 x1 x2 x3 x4 x5 x6 x7 : Int} {l8 : Option AV} {M : Mem} {Q : AV → Mem → Prop} (h0 : gO 12 x0) (h : inR x7 ∧ (if 4 ≤ x7 then (WI 235 [vR x0, vR (M x0 71), vI 0, vI x5] M (fun y3 M2 => Q (vI y3) M2)) else (if x7 = 0 then (inR x6 ∧ (if x6 = 0 then (inR x1 ∧ (if x1 = (-1) then (WR 237 9 [some (vR x0), some (vI x1), some (vI x2), some (vI x3), some (vI x4), some (vI x5), some (vI 1), some (vI (x7 + 1)), some (vI x1)] [] M Q) else (WI 177 [vL (wr32 x1), vL 0, vL (wr32 ((M x0 38) - 1))] M (fun y45 M44 => inR y45 ∧ (if y45 = 0 then (Q (vI (-1)) M44) else (WI 225 [vR x0, vI x1] M44 (fun y48 M47 => inR y48 ∧ (if y48 = 0 then ((gA 20 (M47 x0 71) x5) ∧ WR 237 9 [some (vR x0), some (vI x1), some (vI x2), some (vI x3), some (vI x4), some (vI (x5 + 1)), some (vI 0), some (vI (x7 + 1)), some (vI x1)] [] (upM M47 (M47 x0 71) x5 x1) Q) else (Q (vI (-1)) M47))))))))) else (WR 237 9 [some (vR x0), some (vI x1), some (vI x2), some (vI x3), some (vI x4), some (vI x5), some (vI 1), some (vI (x7 + 1)), some (vI x1)] [] M Q))) else (if x7 = 1 then (inR x6 ∧ (if x6 = 0 then (inR x2 ∧ (if x2 = (-1) then (WR 237 9 [some (vR x0), some (vI x1), some (vI x2), some (vI x3), some (vI x4), some (vI x5), some (vI 1), some (vI (x7 + 1)), some (vI x2)] [] M Q) else (WI 177 [vL (wr32 x2), vL 0, vL (wr32 ((M x0 38) - 1))] M (fun y32 M31 => inR y32 ∧ (if y32 = 0 then (Q (vI (-1)) M31) else (WI 225 [vR x0, vI x2] M31 (fun y35 M34 => inR y35 ∧ (if y35 = 0 then ((gA 20 (M34 x0 71) x5) ∧ WR 237 9 [some (vR x0), some (vI x1), some (vI x2), some (vI x3), some (vI x4), some (vI (x5 + 1)), some (vI 0), some (vI (x7 + 1)), some (vI x2)] [] (upM M34 (M34 x0 71) x5 x2) Q) else (Q (vI (-1)) M34))))))))) else (WR 237 9 [some (vR x0), some (vI x1), some (vI x2), some (vI x3), some (vI x4), some (vI x5), some (vI 1), some (vI (x7 + 1)), some (vI x2)] [] M Q))) else (if x7 = 2 then (inR x6 ∧ (if x6 = 0 then (inR x3 ∧ (if x3 = (-1) then (WR 237 9 [some (vR x0), some (vI x1), some (vI x2), some (vI x3), some (vI x4), some (vI x5), some (vI 1), some (vI (x7 + 1)), some (vI x3)] [] M Q) else (WI 177 [vL (wr32 x3), vL 0, vL (wr32 ((M x0 38) - 1))] M (fun y19 M18 => inR y19 ∧ (if y19 = 0 then (Q (vI (-1)) M18) else (WI 225 [vR x0, vI x3] M18 (fun y22 M21 => inR y22 ∧ (if y22 = 0 then ((gA 20 (M21 x0 71) x5) ∧ WR 237 9 [some (vR x0), some (vI x1), some (vI x2), some (vI x3), some (vI x4), some (vI (x5 + 1)), some (vI 0), some (vI (x7 + 1)), some (vI x3)] [] (upM M21 (M21 x0 71) x5 x3) Q) else (Q (vI (-1)) M21))))))))) else (WR 237 9 [some (vR x0), some (vI x1), some (vI x2), some (vI x3), some (vI x4), some (vI x5), some (vI 1), some (vI (x7 + 1)), some (vI x3)] [] M Q))) else (inR x6 ∧ (if x6 = 0 then (inR x4 ∧ (if x4 = (-1) then (WR 237 9 [some (vR x0), some (vI x1), some (vI x2), some (vI x3), some (vI x4), some (vI x5), some (vI 1), some (vI (x7 + 1)), some (vI x4)] [] M Q) else (WI 177 [vL (wr32 x4), vL 0, vL (wr32 ((M x0 38) - 1))] M (fun y7 M6 => inR y7 ∧ (if y7 = 0 then (Q (vI (-1)) M6) else (WI 225 [vR x0, vI x4] M6 (fun y10 M9 => inR y10 ∧ (if y10 = 0 then ((gA 20 (M9 x0 71) x5) ∧ WR 237 9 [some (vR x0), some (vI x1), some (vI x2), some (vI x3), some (vI x4), some (vI (x5 + 1)), some (vI 0), some (vI (x7 + 1)), some (vI x4)] [] (upM M9 (M9 x0 71) x5 x4) Q) else (Q (vI (-1)) M9))))))))) else (WR 237 9 [some (vR x0), some (vI x1), some (vI x2), some (vI x3), some (vI x4), some (vI x5), some (vI 1), some (vI (x7 + 1)), some (vI x4)] [] M Q)))))))) : WR 237 9 [some (vR x0), some (vI x1), some (vI x2), some (vI x3), some (vI x4), some (vI x5), some (vI x6), some (vI x7), l8] [] M Q := by
  refine g_5 (a := 7) (b := 0) (nx := 11) (by decide +kernel) rfl ?_
  refine g_1 (a := 4) (b := 0) (nx := 12) (by decide +kernel) ?_
  obtain ⟨r1, h⟩ := h
  by_cases c55 : 4 ≤ x7
  · rw [if_pos c55] at h
    refine g_41t (a := 3) (b := 120) (nx := 15) (by decide +kernel) (by rw [wr_id r1, wr_id (show inR 4 by decide)]; exact (cb_3 _ _).mpr c55) ?_
    refine g_7 (a := 0) (b := 0) (nx := 121) (by decide +kernel) rfl ?_
    refine g_7 (a := 0) (b := 0) (nx := 122) (by decide +kernel) rfl ?_
    refine g_52 (a := 12) (b := 71) (nx := 125) (by decide +kernel) h0 ?_
    refine g_1 (a := 0) (b := 0) (nx := 126) (by decide +kernel) ?_
    refine g_5 (a := 5) (b := 0) (nx := 128) (by decide +kernel) rfl ?_
    refine g_80 (a := 235) (b := 3) (nx := 131) (by decide +kernel) (r := x0) (As := [vR (M x0 71), vI 0, vI x5]) (st' := []) (z := 235) rfl rfl rfl (Nat.le_of_ble_eq_true rfl) h0.2 (Nat.le_of_ble_eq_true rfl) rfl (c_I (by decide +kernel) h (fun y3 M2 h => ?_))
    exact g_91 (b := 0) (nx := 132) (by decide +kernel) h
  · rw [if_neg c55] at h
    refine g_41f (a := 3) (b := 120) (nx := 15) (by decide +kernel) (by rw [wr_id r1, wr_id (show inR 4 by decide)]; exact fun hz => c55 ((cb_3 _ _).mp hz)) ?_
    refine g_5 (a := 7) (b := 0) (nx := 17) (by decide +kernel) rfl ?_
    by_cases c54 : x7 = 0
    · rw [if_pos c54] at h
      refine g_40f (a := 1) (b := 24) (nx := 20) (by decide +kernel) r1 (by exact fun hz => ((cb_1 _ _).mp hz) c54) ?_
      refine g_5 (a := 1) (b := 0) (nx := 21) (by decide +kernel) rfl ?_
      refine g_44 (a := 0) (b := 46) (nx := 24) (by decide +kernel) ?_
      refine g_8 (a := 8) (b := 0) (nx := 48) (by decide +kernel) rfl (ls' := [some (vR x0), some (vI x1), some (vI x2), some (vI x3), some (vI x4), some (vI x5), some (vI x6), some (vI x7), some (vI x1)]) rfl ?_
      refine g_5 (a := 6) (b := 0) (nx := 50) (by decide +kernel) rfl ?_
      obtain ⟨r42, h⟩ := h
      by_cases c53 : x6 = 0
      · rw [if_pos c53] at h
        refine g_40f (a := 1) (b := 59) (nx := 53) (by decide +kernel) r42 (by exact fun hz => ((cb_1 _ _).mp hz) c53) ?_
        refine g_5 (a := 8) (b := 0) (nx := 55) (by decide +kernel) rfl ?_
        refine g_1 (a := (-1)) (b := 0) (nx := 56) (by decide +kernel) ?_
        obtain ⟨r43, h⟩ := h
        by_cases c52 : x1 = (-1)
        · rw [if_pos c52] at h
          refine g_41f (a := 1) (b := 63) (nx := 59) (by decide +kernel) (by rw [wr_id r43, wr_id (show inR (-1) by decide)]; exact fun hz => ((cb_1 _ _).mp hz) c52) ?_
          refine g_1 (a := 1) (b := 0) (nx := 60) (by decide +kernel) ?_
          refine g_44 (a := 0) (b := 64) (nx := 63) (by decide +kernel) ?_
          refine g_8 (a := 6) (b := 0) (nx := 66) (by decide +kernel) rfl (ls' := [some (vR x0), some (vI x1), some (vI x2), some (vI x3), some (vI x4), some (vI x5), some (vI 1), some (vI x7), some (vI x1)]) rfl ?_
          refine g_5 (a := 6) (b := 0) (nx := 68) (by decide +kernel) rfl ?_
          refine g_40f (a := 0) (b := 74) (nx := 71) (by decide +kernel) (show inR 1 by decide) (by decide +kernel) ?_
          refine g_44 (a := 0) (b := 114) (nx := 74) (by decide +kernel) ?_
          refine g_11 (a := 7) (b := 1) (nx := 117) (by decide +kernel) rfl rfl (ls' := [some (vR x0), some (vI x1), some (vI x2), some (vI x3), some (vI x4), some (vI x5), some (vI 1), some (vI (x7 + 1)), some (vI x1)]) rfl ?_
          refine g_44 (a := 0) (b := 9) (nx := 120) (by decide +kernel) ?_
          exact h
        · rw [if_neg c52] at h
          refine g_41t (a := 1) (b := 63) (nx := 59) (by decide +kernel) (by rw [wr_id r43, wr_id (show inR (-1) by decide)]; exact (cb_1 _ _).mpr c52) ?_
          refine g_1 (a := 0) (b := 0) (nx := 64) (by decide +kernel) ?_
          refine g_8 (a := 6) (b := 0) (nx := 66) (by decide +kernel) rfl (ls' := [some (vR x0), some (vI x1), some (vI x2), some (vI x3), some (vI x4), some (vI x5), some (vI 0), some (vI x7), some (vI x1)]) rfl ?_
          refine g_5 (a := 6) (b := 0) (nx := 68) (by decide +kernel) rfl ?_
          refine g_40t (a := 0) (b := 74) (nx := 71) (by decide +kernel) (show inR 0 by decide) (by decide +kernel) ?_
          refine g_5 (a := 8) (b := 0) (nx := 76) (by decide +kernel) rfl ?_
          refine g_35 (a := 0) (b := 0) (nx := 77) (by decide +kernel) ?_
          refine g_2 (a := 0) (b := 0) (nx := 78) (by decide +kernel) ?_
          refine g_7 (a := 0) (b := 0) (nx := 79) (by decide +kernel) rfl ?_
          refine g_50 (a := 12) (b := 38) (nx := 82) (by decide +kernel) h0 ?_
          refine g_1 (a := 1) (b := 0) (nx := 83) (by decide +kernel) ?_
          refine g_16 (a := 0) (b := 0) (nx := 84) (by decide +kernel) ?_
          refine g_35 (a := 0) (b := 0) (nx := 85) (by decide +kernel) ?_
          refine g_82 (a := 177) (b := 3) (nx := 88) (by decide +kernel) (As := [vL (wr32 x1), vL 0, vL (wr32 ((M x0 38) - 1))]) (st' := []) (z := 177) rfl rfl rfl (Nat.le_of_ble_eq_true rfl) (Nat.le_of_ble_eq_true rfl) rfl (c_I (by decide +kernel) h (fun y45 M44 h => ?_))
          obtain ⟨r46, h⟩ := h
          by_cases c51 : y45 = 0
          · rw [if_pos c51] at h
            refine g_40t (a := 0) (b := 100) (nx := 91) (by decide +kernel) r46 (by exact (cb_0 _ _).mpr c51) ?_
            refine g_1 (a := (-1)) (b := 0) (nx := 101) (by decide +kernel) ?_
            exact g_91 (b := 0) (nx := 102) (by decide +kernel) h
          · rw [if_neg c51] at h
            refine g_40f (a := 0) (b := 100) (nx := 91) (by decide +kernel) r46 (by exact fun hz => c51 ((cb_0 _ _).mp hz)) ?_
            refine g_7 (a := 0) (b := 0) (nx := 92) (by decide +kernel) rfl ?_
            refine g_5 (a := 8) (b := 0) (nx := 94) (by decide +kernel) rfl ?_
            refine g_80 (a := 225) (b := 1) (nx := 97) (by decide +kernel) (r := x0) (As := [vI x1]) (st' := []) (z := 225) rfl rfl rfl (Nat.le_of_ble_eq_true rfl) h0.2 (Nat.le_of_ble_eq_true rfl) rfl (c_I (by decide +kernel) h (fun y48 M47 h => ?_))
            obtain ⟨r49, h⟩ := h
            by_cases c50 : y48 = 0
            · rw [if_pos c50] at h
              refine g_40t (a := 0) (b := 102) (nx := 100) (by decide +kernel) r49 (by exact (cb_0 _ _).mpr c50) ?_
              refine g_7 (a := 0) (b := 0) (nx := 103) (by decide +kernel) rfl ?_
              refine g_52 (a := 12) (b := 71) (nx := 106) (by decide +kernel) h0 ?_
              refine g_5 (a := 5) (b := 0) (nx := 108) (by decide +kernel) rfl ?_
              refine g_5 (a := 8) (b := 0) (nx := 110) (by decide +kernel) rfl ?_
              refine g_62 (a := 0) (b := 0) (nx := 111) (by decide +kernel) h.1 ?_
              replace h := h.2
              refine g_11 (a := 5) (b := 1) (nx := 114) (by decide +kernel) rfl rfl (ls' := [some (vR x0), some (vI x1), some (vI x2), some (vI x3), some (vI x4), some (vI (x5 + 1)), some (vI 0), some (vI x7), some (vI x1)]) rfl ?_
              refine g_11 (a := 7) (b := 1) (nx := 117) (by decide +kernel) rfl rfl (ls' := [some (vR x0), some (vI x1), some (vI x2), some (vI x3), some (vI x4), some (vI (x5 + 1)), some (vI 0), some (vI (x7 + 1)), some (vI x1)]) rfl ?_
              refine g_44 (a := 0) (b := 9) (nx := 120) (by decide +kernel) ?_
              exact h
            · rw [if_neg c50] at h
              refine g_40f (a := 0) (b := 102) (nx := 100) (by decide +kernel) r49 (by exact fun hz => c50 ((cb_0 _ _).mp hz)) ?_
              refine g_1 (a := (-1)) (b := 0) (nx := 101) (by decide +kernel) ?_
              exact g_91 (b := 0) (nx := 102) (by decide +kernel) h
      · rw [if_neg c53] at h
        refine g_40t (a := 1) (b := 59) (nx := 53) (by decide +kernel) r42 (by exact (cb_1 _ _).mpr c53) ?_
        refine g_1 (a := 1) (b := 0) (nx := 60) (by decide +kernel) ?_
        refine g_44 (a := 0) (b := 64) (nx := 63) (by decide +kernel) ?_
        refine g_8 (a := 6) (b := 0) (nx := 66) (by decide +kernel) rfl (ls' := [some (vR x0), some (vI x1), some (vI x2), some (vI x3), some (vI x4), some (vI x5), some (vI 1), some (vI x7), some (vI x1)]) rfl ?_
        refine g_5 (a := 6) (b := 0) (nx := 68) (by decide +kernel) rfl ?_
        refine g_40f (a := 0) (b := 74) (nx := 71) (by decide +kernel) (show inR 1 by decide) (by decide +kernel) ?_
        refine g_44 (a := 0) (b := 114) (nx := 74) (by decide +kernel) ?_
        refine g_11 (a := 7) (b := 1) (nx := 117) (by decide +kernel) rfl rfl (ls' := [some (vR x0), some (vI x1), some (vI x2), some (vI x3), some (vI x4), some (vI x5), some (vI 1), some (vI (x7 + 1)), some (vI x1)]) rfl ?_
        refine g_44 (a := 0) (b := 9) (nx := 120) (by decide +kernel) ?_
        exact h
    · rw [if_neg c54] at h
      refine g_40t (a := 1) (b := 24) (nx := 20) (by decide +kernel) r1 (by exact (cb_1 _ _).mpr c54) ?_
      refine g_5 (a := 7) (b := 0) (nx := 26) (by decide +kernel) rfl ?_
      refine g_1 (a := 1) (b := 0) (nx := 27) (by decide +kernel) ?_
      by_cases c41 : x7 = 1
      · rw [if_pos c41] at h
        refine g_41f (a := 1) (b := 34) (nx := 30) (by decide +kernel) (by rw [wr_id r1, wr_id (show inR 1 by decide)]; exact fun hz => ((cb_1 _ _).mp hz) c41) ?_
        refine g_5 (a := 2) (b := 0) (nx := 31) (by decide +kernel) rfl ?_
        refine g_44 (a := 0) (b := 46) (nx := 34) (by decide +kernel) ?_
        refine g_8 (a := 8) (b := 0) (nx := 48) (by decide +kernel) rfl (ls' := [some (vR x0), some (vI x1), some (vI x2), some (vI x3), some (vI x4), some (vI x5), some (vI x6), some (vI x7), some (vI x2)]) rfl ?_
        refine g_5 (a := 6) (b := 0) (nx := 50) (by decide +kernel) rfl ?_
        obtain ⟨r29, h⟩ := h
        by_cases c40 : x6 = 0
        · rw [if_pos c40] at h
          refine g_40f (a := 1) (b := 59) (nx := 53) (by decide +kernel) r29 (by exact fun hz => ((cb_1 _ _).mp hz) c40) ?_
          refine g_5 (a := 8) (b := 0) (nx := 55) (by decide +kernel) rfl ?_
          refine g_1 (a := (-1)) (b := 0) (nx := 56) (by decide +kernel) ?_
          obtain ⟨r30, h⟩ := h
          by_cases c39 : x2 = (-1)
          · rw [if_pos c39] at h
            refine g_41f (a := 1) (b := 63) (nx := 59) (by decide +kernel) (by rw [wr_id r30, wr_id (show inR (-1) by decide)]; exact fun hz => ((cb_1 _ _).mp hz) c39) ?_
            refine g_1 (a := 1) (b := 0) (nx := 60) (by decide +kernel) ?_
            refine g_44 (a := 0) (b := 64) (nx := 63) (by decide +kernel) ?_
            refine g_8 (a := 6) (b := 0) (nx := 66) (by decide +kernel) rfl (ls' := [some (vR x0), some (vI x1), some (vI x2), some (vI x3), some (vI x4), some (vI x5), some (vI 1), some (vI x7), some (vI x2)]) rfl ?_
            refine g_5 (a := 6) (b := 0) (nx := 68) (by decide +kernel) rfl ?_
            refine g_40f (a := 0) (b := 74) (nx := 71) (by decide +kernel) (show inR 1 by decide) (by decide +kernel) ?_
            refine g_44 (a := 0) (b := 114) (nx := 74) (by decide +kernel) ?_
            refine g_11 (a := 7) (b := 1) (nx := 117) (by decide +kernel) rfl rfl (ls' := [some (vR x0), some (vI x1), some (vI x2), some (vI x3), some (vI x4), some (vI x5), some (vI 1), some (vI (x7 + 1)), some (vI x2)]) rfl ?_
            refine g_44 (a := 0) (b := 9) (nx := 120) (by decide +kernel) ?_
            exact h
          · rw [if_neg c39] at h
            refine g_41t (a := 1) (b := 63) (nx := 59) (by decide +kernel) (by rw [wr_id r30, wr_id (show inR (-1) by decide)]; exact (cb_1 _ _).mpr c39) ?_
            refine g_1 (a := 0) (b := 0) (nx := 64) (by decide +kernel) ?_
            refine g_8 (a := 6) (b := 0) (nx := 66) (by decide +kernel) rfl (ls' := [some (vR x0), some (vI x1), some (vI x2), some (vI x3), some (vI x4), some (vI x5), some (vI 0), some (vI x7), some (vI x2)]) rfl ?_
            refine g_5 (a := 6) (b := 0) (nx := 68) (by decide +kernel) rfl ?_
            refine g_40t (a := 0) (b := 74) (nx := 71) (by decide +kernel) (show inR 0 by decide) (by decide +kernel) ?_
            refine g_5 (a := 8) (b := 0) (nx := 76) (by decide +kernel) rfl ?_
            refine g_35 (a := 0) (b := 0) (nx := 77) (by decide +kernel) ?_
            refine g_2 (a := 0) (b := 0) (nx := 78) (by decide +kernel) ?_
            refine g_7 (a := 0) (b := 0) (nx := 79) (by decide +kernel) rfl ?_
            refine g_50 (a := 12) (b := 38) (nx := 82) (by decide +kernel) h0 ?_
            refine g_1 (a := 1) (b := 0) (nx := 83) (by decide +kernel) ?_
            refine g_16 (a := 0) (b := 0) (nx := 84) (by decide +kernel) ?_
            refine g_35 (a := 0) (b := 0) (nx := 85) (by decide +kernel) ?_
            refine g_82 (a := 177) (b := 3) (nx := 88) (by decide +kernel) (As := [vL (wr32 x2), vL 0, vL (wr32 ((M x0 38) - 1))]) (st' := []) (z := 177) rfl rfl rfl (Nat.le_of_ble_eq_true rfl) (Nat.le_of_ble_eq_true rfl) rfl (c_I (by decide +kernel) h (fun y32 M31 h => ?_))
            obtain ⟨r33, h⟩ := h
            by_cases c38 : y32 = 0
            · rw [if_pos c38] at h
              refine g_40t (a := 0) (b := 100) (nx := 91) (by decide +kernel) r33 (by exact (cb_0 _ _).mpr c38) ?_
              refine g_1 (a := (-1)) (b := 0) (nx := 101) (by decide +kernel) ?_
              exact g_91 (b := 0) (nx := 102) (by decide +kernel) h
            · rw [if_neg c38] at h
              refine g_40f (a := 0) (b := 100) (nx := 91) (by decide +kernel) r33 (by exact fun hz => c38 ((cb_0 _ _).mp hz)) ?_
              refine g_7 (a := 0) (b := 0) (nx := 92) (by decide +kernel) rfl ?_
              refine g_5 (a := 8) (b := 0) (nx := 94) (by decide +kernel) rfl ?_
              refine g_80 (a := 225) (b := 1) (nx := 97) (by decide +kernel) (r := x0) (As := [vI x2]) (st' := []) (z := 225) rfl rfl rfl (Nat.le_of_ble_eq_true rfl) h0.2 (Nat.le_of_ble_eq_true rfl) rfl (c_I (by decide +kernel) h (fun y35 M34 h => ?_))
              obtain ⟨r36, h⟩ := h
              by_cases c37 : y35 = 0
              · rw [if_pos c37] at h
                refine g_40t (a := 0) (b := 102) (nx := 100) (by decide +kernel) r36 (by exact (cb_0 _ _).mpr c37) ?_
                refine g_7 (a := 0) (b := 0) (nx := 103) (by decide +kernel) rfl ?_
                refine g_52 (a := 12) (b := 71) (nx := 106) (by decide +kernel) h0 ?_
                refine g_5 (a := 5) (b := 0) (nx := 108) (by decide +kernel) rfl ?_
                refine g_5 (a := 8) (b := 0) (nx := 110) (by decide +kernel) rfl ?_
                refine g_62 (a := 0) (b := 0) (nx := 111) (by decide +kernel) h.1 ?_
                replace h := h.2
                refine g_11 (a := 5) (b := 1) (nx := 114) (by decide +kernel) rfl rfl (ls' := [some (vR x0), some (vI x1), some (vI x2), some (vI x3), some (vI x4), some (vI (x5 + 1)), some (vI 0), some (vI x7), some (vI x2)]) rfl ?_
                refine g_11 (a := 7) (b := 1) (nx := 117) (by decide +kernel) rfl rfl (ls' := [some (vR x0), some (vI x1), some (vI x2), some (vI x3), some (vI x4), some (vI (x5 + 1)), some (vI 0), some (vI (x7 + 1)), some (vI x2)]) rfl ?_
                refine g_44 (a := 0) (b := 9) (nx := 120) (by decide +kernel) ?_
                exact h
              · rw [if_neg c37] at h
                refine g_40f (a := 0) (b := 102) (nx := 100) (by decide +kernel) r36 (by exact fun hz => c37 ((cb_0 _ _).mp hz)) ?_
                refine g_1 (a := (-1)) (b := 0) (nx := 101) (by decide +kernel) ?_
                exact g_91 (b := 0) (nx := 102) (by decide +kernel) h
        · rw [if_neg c40] at h
          refine g_40t (a := 1) (b := 59) (nx := 53) (by decide +kernel) r29 (by exact (cb_1 _ _).mpr c40) ?_
          refine g_1 (a := 1) (b := 0) (nx := 60) (by decide +kernel) ?_
          refine g_44 (a := 0) (b := 64) (nx := 63) (by decide +kernel) ?_
          refine g_8 (a := 6) (b := 0) (nx := 66) (by decide +kernel) rfl (ls' := [some (vR x0), some (vI x1), some (vI x2), some (vI x3), some (vI x4), some (vI x5), some (vI 1), some (vI x7), some (vI x2)]) rfl ?_
          refine g_5 (a := 6) (b := 0) (nx := 68) (by decide +kernel) rfl ?_
          refine g_40f (a := 0) (b := 74) (nx := 71) (by decide +kernel) (show inR 1 by decide) (by decide +kernel) ?_
          refine g_44 (a := 0) (b := 114) (nx := 74) (by decide +kernel) ?_
          refine g_11 (a := 7) (b := 1) (nx := 117) (by decide +kernel) rfl rfl (ls' := [some (vR x0), some (vI x1), some (vI x2), some (vI x3), some (vI x4), some (vI x5), some (vI 1), some (vI (x7 + 1)), some (vI x2)]) rfl ?_
          refine g_44 (a := 0) (b := 9) (nx := 120) (by decide +kernel) ?_
          exact h
      · rw [if_neg c41] at h
        refine g_41t (a := 1) (b := 34) (nx := 30) (by decide +kernel) (by rw [wr_id r1, wr_id (show inR 1 by decide)]; exact (cb_1 _ _).mpr c41) ?_
        refine g_5 (a := 7) (b := 0) (nx := 36) (by decide +kernel) rfl ?_
        refine g_1 (a := 2) (b := 0) (nx := 37) (by decide +kernel) ?_
        by_cases c28 : x7 = 2
        · rw [if_pos c28] at h
          refine g_41f (a := 1) (b := 44) (nx := 40) (by decide +kernel) (by rw [wr_id r1, wr_id (show inR 2 by decide)]; exact fun hz => ((cb_1 _ _).mp hz) c28) ?_
          refine g_5 (a := 3) (b := 0) (nx := 41) (by decide +kernel) rfl ?_
          refine g_44 (a := 0) (b := 46) (nx := 44) (by decide +kernel) ?_
          refine g_8 (a := 8) (b := 0) (nx := 48) (by decide +kernel) rfl (ls' := [some (vR x0), some (vI x1), some (vI x2), some (vI x3), some (vI x4), some (vI x5), some (vI x6), some (vI x7), some (vI x3)]) rfl ?_
          refine g_5 (a := 6) (b := 0) (nx := 50) (by decide +kernel) rfl ?_
          obtain ⟨r16, h⟩ := h
          by_cases c27 : x6 = 0
          · rw [if_pos c27] at h
            refine g_40f (a := 1) (b := 59) (nx := 53) (by decide +kernel) r16 (by exact fun hz => ((cb_1 _ _).mp hz) c27) ?_
            refine g_5 (a := 8) (b := 0) (nx := 55) (by decide +kernel) rfl ?_
            refine g_1 (a := (-1)) (b := 0) (nx := 56) (by decide +kernel) ?_
            obtain ⟨r17, h⟩ := h
            by_cases c26 : x3 = (-1)
            · rw [if_pos c26] at h
              refine g_41f (a := 1) (b := 63) (nx := 59) (by decide +kernel) (by rw [wr_id r17, wr_id (show inR (-1) by decide)]; exact fun hz => ((cb_1 _ _).mp hz) c26) ?_
              refine g_1 (a := 1) (b := 0) (nx := 60) (by decide +kernel) ?_
              refine g_44 (a := 0) (b := 64) (nx := 63) (by decide +kernel) ?_
              refine g_8 (a := 6) (b := 0) (nx := 66) (by decide +kernel) rfl (ls' := [some (vR x0), some (vI x1), some (vI x2), some (vI x3), some (vI x4), some (vI x5), some (vI 1), some (vI x7), some (vI x3)]) rfl ?_
              refine g_5 (a := 6) (b := 0) (nx := 68) (by decide +kernel) rfl ?_
              refine g_40f (a := 0) (b := 74) (nx := 71) (by decide +kernel) (show inR 1 by decide) (by decide +kernel) ?_
              refine g_44 (a := 0) (b := 114) (nx := 74) (by decide +kernel) ?_
              refine g_11 (a := 7) (b := 1) (nx := 117) (by decide +kernel) rfl rfl (ls' := [some (vR x0), some (vI x1), some (vI x2), some (vI x3), some (vI x4), some (vI x5), some (vI 1), some (vI (x7 + 1)), some (vI x3)]) rfl ?_
              refine g_44 (a := 0) (b := 9) (nx := 120) (by decide +kernel) ?_
              exact h
            · rw [if_neg c26] at h
              refine g_41t (a := 1) (b := 63) (nx := 59) (by decide +kernel) (by rw [wr_id r17, wr_id (show inR (-1) by decide)]; exact (cb_1 _ _).mpr c26) ?_
              refine g_1 (a := 0) (b := 0) (nx := 64) (by decide +kernel) ?_
              refine g_8 (a := 6) (b := 0) (nx := 66) (by decide +kernel) rfl (ls' := [some (vR x0), some (vI x1), some (vI x2), some (vI x3), some (vI x4), some (vI x5), some (vI 0), some (vI x7), some (vI x3)]) rfl ?_
              refine g_5 (a := 6) (b := 0) (nx := 68) (by decide +kernel) rfl ?_
              refine g_40t (a := 0) (b := 74) (nx := 71) (by decide +kernel) (show inR 0 by decide) (by decide +kernel) ?_
              refine g_5 (a := 8) (b := 0) (nx := 76) (by decide +kernel) rfl ?_
              refine g_35 (a := 0) (b := 0) (nx := 77) (by decide +kernel) ?_
              refine g_2 (a := 0) (b := 0) (nx := 78) (by decide +kernel) ?_
              refine g_7 (a := 0) (b := 0) (nx := 79) (by decide +kernel) rfl ?_
              refine g_50 (a := 12) (b := 38) (nx := 82) (by decide +kernel) h0 ?_
              refine g_1 (a := 1) (b := 0) (nx := 83) (by decide +kernel) ?_
              refine g_16 (a := 0) (b := 0) (nx := 84) (by decide +kernel) ?_
              refine g_35 (a := 0) (b := 0) (nx := 85) (by decide +kernel) ?_
              refine g_82 (a := 177) (b := 3) (nx := 88) (by decide +kernel) (As := [vL (wr32 x3), vL 0, vL (wr32 ((M x0 38) - 1))]) (st' := []) (z := 177) rfl rfl rfl (Nat.le_of_ble_eq_true rfl) (Nat.le_of_ble_eq_true rfl) rfl (c_I (by decide +kernel) h (fun y19 M18 h => ?_))
              obtain ⟨r20, h⟩ := h
              by_cases c25 : y19 = 0
              · rw [if_pos c25] at h
                refine g_40t (a := 0) (b := 100) (nx := 91) (by decide +kernel) r20 (by exact (cb_0 _ _).mpr c25) ?_
                refine g_1 (a := (-1)) (b := 0) (nx := 101) (by decide +kernel) ?_
                exact g_91 (b := 0) (nx := 102) (by decide +kernel) h
              · rw [if_neg c25] at h
                refine g_40f (a := 0) (b := 100) (nx := 91) (by decide +kernel) r20 (by exact fun hz => c25 ((cb_0 _ _).mp hz)) ?_
                refine g_7 (a := 0) (b := 0) (nx := 92) (by decide +kernel) rfl ?_
                refine g_5 (a := 8) (b := 0) (nx := 94) (by decide +kernel) rfl ?_
                refine g_80 (a := 225) (b := 1) (nx := 97) (by decide +kernel) (r := x0) (As := [vI x3]) (st' := []) (z := 225) rfl rfl rfl (Nat.le_of_ble_eq_true rfl) h0.2 (Nat.le_of_ble_eq_true rfl) rfl (c_I (by decide +kernel) h (fun y22 M21 h => ?_))
                obtain ⟨r23, h⟩ := h
                by_cases c24 : y22 = 0
                · rw [if_pos c24] at h
                  refine g_40t (a := 0) (b := 102) (nx := 100) (by decide +kernel) r23 (by exact (cb_0 _ _).mpr c24) ?_
                  refine g_7 (a := 0) (b := 0) (nx := 103) (by decide +kernel) rfl ?_
                  refine g_52 (a := 12) (b := 71) (nx := 106) (by decide +kernel) h0 ?_
                  refine g_5 (a := 5) (b := 0) (nx := 108) (by decide +kernel) rfl ?_
                  refine g_5 (a := 8) (b := 0) (nx := 110) (by decide +kernel) rfl ?_
                  refine g_62 (a := 0) (b := 0) (nx := 111) (by decide +kernel) h.1 ?_
                  replace h := h.2
                  refine g_11 (a := 5) (b := 1) (nx := 114) (by decide +kernel) rfl rfl (ls' := [some (vR x0), some (vI x1), some (vI x2), some (vI x3), some (vI x4), some (vI (x5 + 1)), some (vI 0), some (vI x7), some (vI x3)]) rfl ?_
                  refine g_11 (a := 7) (b := 1) (nx := 117) (by decide +kernel) rfl rfl (ls' := [some (vR x0), some (vI x1), some (vI x2), some (vI x3), some (vI x4), some (vI (x5 + 1)), some (vI 0), some (vI (x7 + 1)), some (vI x3)]) rfl ?_
                  refine g_44 (a := 0) (b := 9) (nx := 120) (by decide +kernel) ?_
                  exact h
                · rw [if_neg c24] at h
                  refine g_40f (a := 0) (b := 102) (nx := 100) (by decide +kernel) r23 (by exact fun hz => c24 ((cb_0 _ _).mp hz)) ?_
                  refine g_1 (a := (-1)) (b := 0) (nx := 101) (by decide +kernel) ?_
                  exact g_91 (b := 0) (nx := 102) (by decide +kernel) h
          · rw [if_neg c27] at h
            refine g_40t (a := 1) (b := 59) (nx := 53) (by decide +kernel) r16 (by exact (cb_1 _ _).mpr c27) ?_
            refine g_1 (a := 1) (b := 0) (nx := 60) (by decide +kernel) ?_
            refine g_44 (a := 0) (b := 64) (nx := 63) (by decide +kernel) ?_
            refine g_8 (a := 6) (b := 0) (nx := 66) (by decide +kernel) rfl (ls' := [some (vR x0), some (vI x1), some (vI x2), some (vI x3), some (vI x4), some (vI x5), some (vI 1), some (vI x7), some (vI x3)]) rfl ?_
            refine g_5 (a := 6) (b := 0) (nx := 68) (by decide +kernel) rfl ?_
            refine g_40f (a := 0) (b := 74) (nx := 71) (by decide +kernel) (show inR 1 by decide) (by decide +kernel) ?_
            refine g_44 (a := 0) (b := 114) (nx := 74) (by decide +kernel) ?_
            refine g_11 (a := 7) (b := 1) (nx := 117) (by decide +kernel) rfl rfl (ls' := [some (vR x0), some (vI x1), some (vI x2), some (vI x3), some (vI x4), some (vI x5), some (vI 1), some (vI (x7 + 1)), some (vI x3)]) rfl ?_
            refine g_44 (a := 0) (b := 9) (nx := 120) (by decide +kernel) ?_
            exact h
        · rw [if_neg c28] at h
          refine g_41t (a := 1) (b := 44) (nx := 40) (by decide +kernel) (by rw [wr_id r1, wr_id (show inR 2 by decide)]; exact (cb_1 _ _).mpr c28) ?_
          refine g_5 (a := 4) (b := 0) (nx := 46) (by decide +kernel) rfl ?_
          refine g_8 (a := 8) (b := 0) (nx := 48) (by decide +kernel) rfl (ls' := [some (vR x0), some (vI x1), some (vI x2), some (vI x3), some (vI x4), some (vI x5), some (vI x6), some (vI x7), some (vI x4)]) rfl ?_
          refine g_5 (a := 6) (b := 0) (nx := 50) (by decide +kernel) rfl ?_
          obtain ⟨r4, h⟩ := h
          by_cases c15 : x6 = 0
          · rw [if_pos c15] at h
            refine g_40f (a := 1) (b := 59) (nx := 53) (by decide +kernel) r4 (by exact fun hz => ((cb_1 _ _).mp hz) c15) ?_
            refine g_5 (a := 8) (b := 0) (nx := 55) (by decide +kernel) rfl ?_
            refine g_1 (a := (-1)) (b := 0) (nx := 56) (by decide +kernel) ?_
            obtain ⟨r5, h⟩ := h
            by_cases c14 : x4 = (-1)
            · rw [if_pos c14] at h
              refine g_41f (a := 1) (b := 63) (nx := 59) (by decide +kernel) (by rw [wr_id r5, wr_id (show inR (-1) by decide)]; exact fun hz => ((cb_1 _ _).mp hz) c14) ?_
              refine g_1 (a := 1) (b := 0) (nx := 60) (by decide +kernel) ?_
              refine g_44 (a := 0) (b := 64) (nx := 63) (by decide +kernel) ?_
              refine g_8 (a := 6) (b := 0) (nx := 66) (by decide +kernel) rfl (ls' := [some (vR x0), some (vI x1), some (vI x2), some (vI x3), some (vI x4), some (vI x5), some (vI 1), some (vI x7), some (vI x4)]) rfl ?_
              refine g_5 (a := 6) (b := 0) (nx := 68) (by decide +kernel) rfl ?_
              refine g_40f (a := 0) (b := 74) (nx := 71) (by decide +kernel) (show inR 1 by decide) (by decide +kernel) ?_
              refine g_44 (a := 0) (b := 114) (nx := 74) (by decide +kernel) ?_
              refine g_11 (a := 7) (b := 1) (nx := 117) (by decide +kernel) rfl rfl (ls' := [some (vR x0), some (vI x1), some (vI x2), some (vI x3), some (vI x4), some (vI x5), some (vI 1), some (vI (x7 + 1)), some (vI x4)]) rfl ?_
              refine g_44 (a := 0) (b := 9) (nx := 120) (by decide +kernel) ?_
              exact h
            · rw [if_neg c14] at h
              refine g_41t (a := 1) (b := 63) (nx := 59) (by decide +kernel) (by rw [wr_id r5, wr_id (show inR (-1) by decide)]; exact (cb_1 _ _).mpr c14) ?_
              refine g_1 (a := 0) (b := 0) (nx := 64) (by decide +kernel) ?_
              refine g_8 (a := 6) (b := 0) (nx := 66) (by decide +kernel) rfl (ls' := [some (vR x0), some (vI x1), some (vI x2), some (vI x3), some (vI x4), some (vI x5), some (vI 0), some (vI x7), some (vI x4)]) rfl ?_
              refine g_5 (a := 6) (b := 0) (nx := 68) (by decide +kernel) rfl ?_
              refine g_40t (a := 0) (b := 74) (nx := 71) (by decide +kernel) (show inR 0 by decide) (by decide +kernel) ?_
              refine g_5 (a := 8) (b := 0) (nx := 76) (by decide +kernel) rfl ?_
              refine g_35 (a := 0) (b := 0) (nx := 77) (by decide +kernel) ?_
              refine g_2 (a := 0) (b := 0) (nx := 78) (by decide +kernel) ?_
              refine g_7 (a := 0) (b := 0) (nx := 79) (by decide +kernel) rfl ?_
              refine g_50 (a := 12) (b := 38) (nx := 82) (by decide +kernel) h0 ?_
              refine g_1 (a := 1) (b := 0) (nx := 83) (by decide +kernel) ?_
              refine g_16 (a := 0) (b := 0) (nx := 84) (by decide +kernel) ?_
              refine g_35 (a := 0) (b := 0) (nx := 85) (by decide +kernel) ?_
              refine g_82 (a := 177) (b := 3) (nx := 88) (by decide +kernel) (As := [vL (wr32 x4), vL 0, vL (wr32 ((M x0 38) - 1))]) (st' := []) (z := 177) rfl rfl rfl (Nat.le_of_ble_eq_true rfl) (Nat.le_of_ble_eq_true rfl) rfl (c_I (by decide +kernel) h (fun y7 M6 h => ?_))
              obtain ⟨r8, h⟩ := h
              by_cases c13 : y7 = 0
              · rw [if_pos c13] at h
                refine g_40t (a := 0) (b := 100) (nx := 91) (by decide +kernel) r8 (by exact (cb_0 _ _).mpr c13) ?_
                refine g_1 (a := (-1)) (b := 0) (nx := 101) (by decide +kernel) ?_
                exact g_91 (b := 0) (nx := 102) (by decide +kernel) h
              · rw [if_neg c13] at h
                refine g_40f (a := 0) (b := 100) (nx := 91) (by decide +kernel) r8 (by exact fun hz => c13 ((cb_0 _ _).mp hz)) ?_
                refine g_7 (a := 0) (b := 0) (nx := 92) (by decide +kernel) rfl ?_
                refine g_5 (a := 8) (b := 0) (nx := 94) (by decide +kernel) rfl ?_
                refine g_80 (a := 225) (b := 1) (nx := 97) (by decide +kernel) (r := x0) (As := [vI x4]) (st' := []) (z := 225) rfl rfl rfl (Nat.le_of_ble_eq_true rfl) h0.2 (Nat.le_of_ble_eq_true rfl) rfl (c_I (by decide +kernel) h (fun y10 M9 h => ?_))
                obtain ⟨r11, h⟩ := h
                by_cases c12 : y10 = 0
                · rw [if_pos c12] at h
                  refine g_40t (a := 0) (b := 102) (nx := 100) (by decide +kernel) r11 (by exact (cb_0 _ _).mpr c12) ?_
                  refine g_7 (a := 0) (b := 0) (nx := 103) (by decide +kernel) rfl ?_
                  refine g_52 (a := 12) (b := 71) (nx := 106) (by decide +kernel) h0 ?_
                  refine g_5 (a := 5) (b := 0) (nx := 108) (by decide +kernel) rfl ?_
                  refine g_5 (a := 8) (b := 0) (nx := 110) (by decide +kernel) rfl ?_
                  refine g_62 (a := 0) (b := 0) (nx := 111) (by decide +kernel) h.1 ?_
                  replace h := h.2
                  refine g_11 (a := 5) (b := 1) (nx := 114) (by decide +kernel) rfl rfl (ls' := [some (vR x0), some (vI x1), some (vI x2), some (vI x3), some (vI x4), some (vI (x5 + 1)), some (vI 0), some (vI x7), some (vI x4)]) rfl ?_
                  refine g_11 (a := 7) (b := 1) (nx := 117) (by decide +kernel) rfl rfl (ls' := [some (vR x0), some (vI x1), some (vI x2), some (vI x3), some (vI x4), some (vI (x5 + 1)), some (vI 0), some (vI (x7 + 1)), some (vI x4)]) rfl ?_
                  refine g_44 (a := 0) (b := 9) (nx := 120) (by decide +kernel) ?_
                  exact h
                · rw [if_neg c12] at h
                  refine g_40f (a := 0) (b := 102) (nx := 100) (by decide +kernel) r11 (by exact fun hz => c12 ((cb_0 _ _).mp hz)) ?_
                  refine g_1 (a := (-1)) (b := 0) (nx := 101) (by decide +kernel) ?_
                  exact g_91 (b := 0) (nx := 102) (by decide +kernel) h
          · rw [if_neg c15] at h
            refine g_40t (a := 1) (b := 59) (nx := 53) (by decide +kernel) r4 (by exact (cb_1 _ _).mpr c15) ?_
            refine g_1 (a := 1) (b := 0) (nx := 60) (by decide +kernel) ?_
            refine g_44 (a := 0) (b := 64) (nx := 63) (by decide +kernel) ?_
            refine g_8 (a := 6) (b := 0) (nx := 66) (by decide +kernel) rfl (ls' := [some (vR x0), some (vI x1), some (vI x2), some (vI x3), some (vI x4), some (vI x5), some (vI 1), some (vI x7), some (vI x4)]) rfl ?_
            refine g_5 (a := 6) (b := 0) (nx := 68) (by decide +kernel) rfl ?_
            refine g_40f (a := 0) (b := 74) (nx := 71) (by decide +kernel) (show inR 1 by decide) (by decide +kernel) ?_
            refine g_44 (a := 0) (b := 114) (nx := 74) (by decide +kernel) ?_
            refine g_11 (a := 7) (b := 1) (nx := 117) (by decide +kernel) rfl rfl (ls' := [some (vR x0), some (vI x1), some (vI x2), some (vI x3), some (vI x4), some (vI x5), some (vI 1), some (vI (x7 + 1)), some (vI x4)]) rfl ?_
            refine g_44 (a := 0) (b := 9) (nx := 120) (by decide +kernel) ?_
            exact h
-- 238 SyllableMakerModel.cutsPlainly()V
theorem t_238 {x0 : Int} {M : Mem} {Q : AV → Mem → Prop} (h0 : gO 12 x0) (h : WR 238 2 [some (vR x0), some (vI 0), none] [] M Q) : WC 238 [vR x0] M Q := by
  show WR 238 0 [some (vR x0), none, none] [] M Q
  refine g_1 (a := 0) (b := 0) (nx := 1) (by decide +kernel) ?_
  refine g_8 (a := 1) (b := 0) (nx := 2) (by decide +kernel) rfl (ls' := [some (vR x0), some (vI 0), none]) rfl ?_
  exact h
theorem t_238_2 {x0 x1 : Int} {l2 : Option AV} {M : Mem} {Q : AV → Mem → Prop} (h0 : gO 12 x0) (h : inR (x1 + 1) ∧ (inR (M x0 70) ∧ (if (M x0 70) ≤ (x1 + 1) then (Q (vI 0) M) else (WI 230 [vR x0, vI x1] M (fun y4 M3 => WI 179 [vI 4, vI y4] M3 (fun y6 M5 => WR 238 22 [some (vR x0), some (vI x1), some (vI y6)] [] M5 Q)))))) : WR 238 2 [some (vR x0), some (vI x1), l2] [] M Q := by
  refine g_5 (a := 1) (b := 0) (nx := 3) (by decide +kernel) rfl ?_
  refine g_1 (a := 1) (b := 0) (nx := 4) (by decide +kernel) ?_
  refine g_15 (a := 0) (b := 0) (nx := 5) (by decide +kernel) ?_
  refine g_7 (a := 0) (b := 0) (nx := 6) (by decide +kernel) rfl ?_
  refine g_50 (a := 12) (b := 70) (nx := 9) (by decide +kernel) h0 ?_
  obtain ⟨r1, h⟩ := h
  obtain ⟨r2, h⟩ := h
  by_cases c7 : (M x0 70) ≤ (x1 + 1)
  · rw [if_pos c7] at h
    refine g_41t (a := 3) (b := 69) (nx := 12) (by decide +kernel) (by rw [wr_id r1, wr_id r2]; exact (cb_3 _ _).mpr c7) ?_
    exact g_90 (a := 0) (b := 0) (nx := 70) (by decide +kernel) h
  · rw [if_neg c7] at h
    refine g_41f (a := 3) (b := 69) (nx := 12) (by decide +kernel) (by rw [wr_id r1, wr_id r2]; exact fun hz => c7 ((cb_3 _ _).mp hz)) ?_
    refine g_1 (a := 4) (b := 0) (nx := 13) (by decide +kernel) ?_
    refine g_7 (a := 0) (b := 0) (nx := 14) (by decide +kernel) rfl ?_
    refine g_5 (a := 1) (b := 0) (nx := 15) (by decide +kernel) rfl ?_
    refine g_80 (a := 230) (b := 1) (nx := 18) (by decide +kernel) (r := x0) (As := [vI x1]) (st' := [vI 4]) (z := 230) rfl rfl rfl (Nat.le_of_ble_eq_true rfl) h0.2 (Nat.le_of_ble_eq_true rfl) rfl (c_I (by decide +kernel) h (fun y4 M3 h => ?_))
    refine g_82 (a := 179) (b := 2) (nx := 21) (by decide +kernel) (As := [vI 4, vI y4]) (st' := []) (z := 179) rfl rfl rfl (Nat.le_of_ble_eq_true rfl) (Nat.le_of_ble_eq_true rfl) rfl (c_I (by decide +kernel) h (fun y6 M5 h => ?_))
    refine g_8 (a := 2) (b := 0) (nx := 22) (by decide +kernel) rfl (ls' := [some (vR x0), some (vI x1), some (vI y6)]) rfl ?_
    exact h
theorem t_238_22 {x0 x1 x2 : Int} {M : Mem} {Q : AV → Mem → Prop} (h0 : gO 12 x0) (h : (gA 20 (M x0 65) (x1 + 1)) ∧ WI 235 [vR x0, vR (M x0 64), vI ((M (M x0 65) (x1 + 1)) - x2), vI x2] M (fun y2 M1 => inR y2 ∧ (if y2 = 0 then (WR 238 22 [some (vR x0), some (vI x1), some (vI (x2 + (-1)))] [] M1 Q) else (WI 230 [vR x0, vI x1] M1 (fun y5 M4 => (gA 20 (M1 x0 67) x1) ∧ WR 238 2 [some (vR x0), some (vI (x1 + 1)), some (vI x2)] [] (upM M4 (M1 x0 67) x1 (y5 - x2)) Q))))) : WR 238 22 [some (vR x0), some (vI x1), some (vI x2)] [] M Q := by
  refine g_7 (a := 0) (b := 0) (nx := 23) (by decide +kernel) rfl ?_
  refine g_7 (a := 0) (b := 0) (nx := 24) (by decide +kernel) rfl ?_
  refine g_52 (a := 12) (b := 64) (nx := 27) (by decide +kernel) h0 ?_
  refine g_7 (a := 0) (b := 0) (nx := 28) (by decide +kernel) rfl ?_
  refine g_52 (a := 12) (b := 65) (nx := 31) (by decide +kernel) h0 ?_
  refine g_5 (a := 1) (b := 0) (nx := 32) (by decide +kernel) rfl ?_
  refine g_1 (a := 1) (b := 0) (nx := 33) (by decide +kernel) ?_
  refine g_15 (a := 0) (b := 0) (nx := 34) (by decide +kernel) ?_
  refine g_61 (a := 0) (b := 0) (nx := 35) (by decide +kernel) h.1 ?_
  replace h := h.2
  refine g_5 (a := 2) (b := 0) (nx := 36) (by decide +kernel) rfl ?_
  refine g_16 (a := 0) (b := 0) (nx := 37) (by decide +kernel) ?_
  refine g_5 (a := 2) (b := 0) (nx := 38) (by decide +kernel) rfl ?_
  refine g_80 (a := 235) (b := 3) (nx := 41) (by decide +kernel) (r := x0) (As := [vR (M x0 64), vI ((M (M x0 65) (x1 + 1)) - x2), vI x2]) (st' := []) (z := 235) rfl rfl rfl (Nat.le_of_ble_eq_true rfl) h0.2 (Nat.le_of_ble_eq_true rfl) rfl (c_I (by decide +kernel) h (fun y2 M1 h => ?_))
  obtain ⟨r3, h⟩ := h
  by_cases c6 : y2 = 0
  · rw [if_pos c6] at h
    refine g_40f (a := 1) (b := 50) (nx := 44) (by decide +kernel) r3 (by exact fun hz => ((cb_1 _ _).mp hz) c6) ?_
    refine g_11 (a := 2) (b := (-1)) (nx := 47) (by decide +kernel) rfl rfl (ls' := [some (vR x0), some (vI x1), some (vI (x2 + (-1)))]) rfl ?_
    refine g_44 (a := 0) (b := 22) (nx := 50) (by decide +kernel) ?_
    exact h
  · rw [if_neg c6] at h
    refine g_40t (a := 1) (b := 50) (nx := 44) (by decide +kernel) r3 (by exact (cb_1 _ _).mpr c6) ?_
    refine g_7 (a := 0) (b := 0) (nx := 51) (by decide +kernel) rfl ?_
    refine g_52 (a := 12) (b := 67) (nx := 54) (by decide +kernel) h0 ?_
    refine g_5 (a := 1) (b := 0) (nx := 55) (by decide +kernel) rfl ?_
    refine g_7 (a := 0) (b := 0) (nx := 56) (by decide +kernel) rfl ?_
    refine g_5 (a := 1) (b := 0) (nx := 57) (by decide +kernel) rfl ?_
    refine g_80 (a := 230) (b := 1) (nx := 60) (by decide +kernel) (r := x0) (As := [vI x1]) (st' := [vI x1, vR (M1 x0 67)]) (z := 230) rfl rfl rfl (Nat.le_of_ble_eq_true rfl) h0.2 (Nat.le_of_ble_eq_true rfl) rfl (c_I (by decide +kernel) h (fun y5 M4 h => ?_))
    refine g_5 (a := 2) (b := 0) (nx := 61) (by decide +kernel) rfl ?_
    refine g_16 (a := 0) (b := 0) (nx := 62) (by decide +kernel) ?_
    refine g_62 (a := 0) (b := 0) (nx := 63) (by decide +kernel) h.1 ?_
    replace h := h.2
    refine g_11 (a := 1) (b := 1) (nx := 66) (by decide +kernel) rfl rfl (ls' := [some (vR x0), some (vI (x1 + 1)), some (vI x2)]) rfl ?_
    refine g_44 (a := 0) (b := 2) (nx := 69) (by decide +kernel) ?_
    exact h
-- 239 SyllableMakerModel.openingFrom(I)I
theorem t_239 {x0 x1 : Int} {M : Mem} {Q : AV → Mem → Prop} (h0 : gO 12 x0) (h : inR x1 ∧ (if x1 = 0 then (Q (vI 0) M) else (WI 229 [vR x0, vI (x1 - 1)] M (fun y3 M2 => (gA 20 (M2 x0 67) (x1 - 1)) ∧ Q (vI (y3 + (M2 (M2 x0 67) (x1 - 1)))) M2)))) : WC 239 [vR x0, vI x1] M Q := by
  show WR 239 0 [some (vR x0), some (vI x1)] [] M Q
  refine g_5 (a := 1) (b := 0) (nx := 1) (by decide +kernel) rfl ?_
  obtain ⟨r1, h⟩ := h
  by_cases c4 : x1 = 0
  · rw [if_pos c4] at h
    refine g_40f (a := 1) (b := 8) (nx := 4) (by decide +kernel) r1 (by exact fun hz => ((cb_1 _ _).mp hz) c4) ?_
    refine g_1 (a := 0) (b := 0) (nx := 5) (by decide +kernel) ?_
    refine g_44 (a := 0) (b := 24) (nx := 8) (by decide +kernel) ?_
    exact g_91 (b := 0) (nx := 25) (by decide +kernel) h
  · rw [if_neg c4] at h
    refine g_40t (a := 1) (b := 8) (nx := 4) (by decide +kernel) r1 (by exact (cb_1 _ _).mpr c4) ?_
    refine g_7 (a := 0) (b := 0) (nx := 9) (by decide +kernel) rfl ?_
    refine g_5 (a := 1) (b := 0) (nx := 10) (by decide +kernel) rfl ?_
    refine g_1 (a := 1) (b := 0) (nx := 11) (by decide +kernel) ?_
    refine g_16 (a := 0) (b := 0) (nx := 12) (by decide +kernel) ?_
    refine g_80 (a := 229) (b := 1) (nx := 15) (by decide +kernel) (r := x0) (As := [vI (x1 - 1)]) (st' := []) (z := 229) rfl rfl rfl (Nat.le_of_ble_eq_true rfl) h0.2 (Nat.le_of_ble_eq_true rfl) rfl (c_I (by decide +kernel) h (fun y3 M2 h => ?_))
    refine g_7 (a := 0) (b := 0) (nx := 16) (by decide +kernel) rfl ?_
    refine g_52 (a := 12) (b := 67) (nx := 19) (by decide +kernel) h0 ?_
    refine g_5 (a := 1) (b := 0) (nx := 20) (by decide +kernel) rfl ?_
    refine g_1 (a := 1) (b := 0) (nx := 21) (by decide +kernel) ?_
    refine g_16 (a := 0) (b := 0) (nx := 22) (by decide +kernel) ?_
    refine g_61 (a := 0) (b := 0) (nx := 23) (by decide +kernel) h.1 ?_
    replace h := h.2
    refine g_15 (a := 0) (b := 0) (nx := 24) (by decide +kernel) ?_
    exact g_91 (b := 0) (nx := 25) (by decide +kernel) h
-- 240 SyllableMakerModel.openingSize(I)I
theorem t_240 {x0 x1 : Int} {M : Mem} {Q : AV → Mem → Prop} (h0 : gO 12 x0) (h : (gA 20 (M x0 65) x1) ∧ WI 239 [vR x0, vI x1] M (fun y2 M1 => Q (vI ((M (M x0 65) x1) - y2)) M1)) : WC 240 [vR x0, vI x1] M Q := by
  show WR 240 0 [some (vR x0), some (vI x1)] [] M Q
  refine g_7 (a := 0) (b := 0) (nx := 1) (by decide +kernel) rfl ?_
  refine g_52 (a := 12) (b := 65) (nx := 4) (by decide +kernel) h0 ?_
  refine g_5 (a := 1) (b := 0) (nx := 5) (by decide +kernel) rfl ?_
  refine g_61 (a := 0) (b := 0) (nx := 6) (by decide +kernel) h.1 ?_
  replace h := h.2
  refine g_7 (a := 0) (b := 0) (nx := 7) (by decide +kernel) rfl ?_
  refine g_5 (a := 1) (b := 0) (nx := 8) (by decide +kernel) rfl ?_
  refine g_80 (a := 239) (b := 1) (nx := 11) (by decide +kernel) (r := x0) (As := [vI x1]) (st' := [vI (M (M x0 65) x1)]) (z := 239) rfl rfl rfl (Nat.le_of_ble_eq_true rfl) h0.2 (Nat.le_of_ble_eq_true rfl) rfl (c_I (by decide +kernel) h (fun y2 M1 h => ?_))
  refine g_16 (a := 0) (b := 0) (nx := 12) (by decide +kernel) ?_
  exact g_91 (b := 0) (nx := 13) (by decide +kernel) h
-- 241 SyllableMakerModel.closingSize(I)I
theorem t_241 {x0 x1 : Int} {M : Mem} {Q : AV → Mem → Prop} (h0 : gO 12 x0) (h : inR x1 ∧ (inR ((M x0 70) - 1) ∧ (if x1 = ((M x0 70) - 1) then (WI 229 [vR x0, vI x1] M (fun y4 M3 => Q (vI ((M x0 69) - y4)) M3)) else ((gA 20 (M x0 67) x1) ∧ Q (vI (M (M x0 67) x1)) M)))) : WC 241 [vR x0, vI x1] M Q := by
  show WR 241 0 [some (vR x0), some (vI x1)] [] M Q
  refine g_5 (a := 1) (b := 0) (nx := 1) (by decide +kernel) rfl ?_
  refine g_7 (a := 0) (b := 0) (nx := 2) (by decide +kernel) rfl ?_
  refine g_50 (a := 12) (b := 70) (nx := 5) (by decide +kernel) h0 ?_
  refine g_1 (a := 1) (b := 0) (nx := 6) (by decide +kernel) ?_
  refine g_16 (a := 0) (b := 0) (nx := 7) (by decide +kernel) ?_
  obtain ⟨r1, h⟩ := h
  obtain ⟨r2, h⟩ := h
  by_cases c5 : x1 = ((M x0 70) - 1)
  · rw [if_pos c5] at h
    refine g_41f (a := 1) (b := 23) (nx := 10) (by decide +kernel) (by rw [wr_id r1, wr_id r2]; exact fun hz => ((cb_1 _ _).mp hz) c5) ?_
    refine g_7 (a := 0) (b := 0) (nx := 11) (by decide +kernel) rfl ?_
    refine g_50 (a := 12) (b := 69) (nx := 14) (by decide +kernel) h0 ?_
    refine g_7 (a := 0) (b := 0) (nx := 15) (by decide +kernel) rfl ?_
    refine g_5 (a := 1) (b := 0) (nx := 16) (by decide +kernel) rfl ?_
    refine g_80 (a := 229) (b := 1) (nx := 19) (by decide +kernel) (r := x0) (As := [vI x1]) (st' := [vI (M x0 69)]) (z := 229) rfl rfl rfl (Nat.le_of_ble_eq_true rfl) h0.2 (Nat.le_of_ble_eq_true rfl) rfl (c_I (by decide +kernel) h (fun y4 M3 h => ?_))
    refine g_16 (a := 0) (b := 0) (nx := 20) (by decide +kernel) ?_
    refine g_44 (a := 0) (b := 29) (nx := 23) (by decide +kernel) ?_
    exact g_91 (b := 0) (nx := 30) (by decide +kernel) h
  · rw [if_neg c5] at h
    refine g_41t (a := 1) (b := 23) (nx := 10) (by decide +kernel) (by rw [wr_id r1, wr_id r2]; exact (cb_1 _ _).mpr c5) ?_
    refine g_7 (a := 0) (b := 0) (nx := 24) (by decide +kernel) rfl ?_
    refine g_52 (a := 12) (b := 67) (nx := 27) (by decide +kernel) h0 ?_
    refine g_5 (a := 1) (b := 0) (nx := 28) (by decide +kernel) rfl ?_
    refine g_61 (a := 0) (b := 0) (nx := 29) (by decide +kernel) h.1 ?_
    replace h := h.2
    exact g_91 (b := 0) (nx := 30) (by decide +kernel) h
-- 242 SyllableMakerModel.weightOf(I)I
theorem t_242 {x0 x1 : Int} {M : Mem} {Q : AV → Mem → Prop} (h0 : gO 12 x0) (h : (gA 20 (M x0 66) x1) ∧ (gA 20 (M x0 55) ((M (M x0 66) x1) - 1)) ∧ (gA 20 (M x0 55) 2) ∧ WI 241 [vR x0, vI x1] M (fun y2 M1 => Q (vI ((M (M x0 55) ((M (M x0 66) x1) - 1)) + ((M (M x0 55) 2) * y2))) M1)) : WC 242 [vR x0, vI x1] M Q := by
  show WR 242 0 [some (vR x0), some (vI x1)] [] M Q
  refine g_7 (a := 0) (b := 0) (nx := 1) (by decide +kernel) rfl ?_
  refine g_52 (a := 12) (b := 55) (nx := 4) (by decide +kernel) h0 ?_
  refine g_7 (a := 0) (b := 0) (nx := 5) (by decide +kernel) rfl ?_
  refine g_52 (a := 12) (b := 66) (nx := 8) (by decide +kernel) h0 ?_
  refine g_5 (a := 1) (b := 0) (nx := 9) (by decide +kernel) rfl ?_
  refine g_61 (a := 0) (b := 0) (nx := 10) (by decide +kernel) h.1 ?_
  replace h := h.2
  refine g_1 (a := 1) (b := 0) (nx := 11) (by decide +kernel) ?_
  refine g_16 (a := 0) (b := 0) (nx := 12) (by decide +kernel) ?_
  refine g_61 (a := 0) (b := 0) (nx := 13) (by decide +kernel) h.1 ?_
  replace h := h.2
  refine g_7 (a := 0) (b := 0) (nx := 14) (by decide +kernel) rfl ?_
  refine g_52 (a := 12) (b := 55) (nx := 17) (by decide +kernel) h0 ?_
  refine g_1 (a := 2) (b := 0) (nx := 18) (by decide +kernel) ?_
  refine g_61 (a := 0) (b := 0) (nx := 19) (by decide +kernel) h.1 ?_
  replace h := h.2
  refine g_7 (a := 0) (b := 0) (nx := 20) (by decide +kernel) rfl ?_
  refine g_5 (a := 1) (b := 0) (nx := 21) (by decide +kernel) rfl ?_
  refine g_80 (a := 241) (b := 1) (nx := 24) (by decide +kernel) (r := x0) (As := [vI x1]) (st' := [vI (M (M x0 55) 2), vI (M (M x0 55) ((M (M x0 66) x1) - 1))]) (z := 241) rfl rfl rfl (Nat.le_of_ble_eq_true rfl) h0.2 (Nat.le_of_ble_eq_true rfl) rfl (c_I (by decide +kernel) h (fun y2 M1 h => ?_))
  refine g_17 (a := 0) (b := 0) (nx := 25) (by decide +kernel) ?_
  refine g_15 (a := 0) (b := 0) (nx := 26) (by decide +kernel) ?_
  exact g_91 (b := 0) (nx := 27) (by decide +kernel) h
-- 243 SyllableMakerModel.isHeavy(I)Z
theorem t_243 {x0 x1 : Int} {M : Mem} {Q : AV → Mem → Prop} (h0 : gO 12 x0) (h : WI 242 [vR x0, vI x1] M (fun y2 M1 => (gA 20 (M1 x0 55) 3) ∧ inR y2 ∧ (inR (M1 (M1 x0 55) 3) ∧ (if y2 < (M1 (M1 x0 55) 3) then (Q (vI 0) M1) else (Q (vI 1) M1))))) : WC 243 [vR x0, vI x1] M Q := by
  show WR 243 0 [some (vR x0), some (vI x1)] [] M Q
  refine g_7 (a := 0) (b := 0) (nx := 1) (by decide +kernel) rfl ?_
  refine g_5 (a := 1) (b := 0) (nx := 2) (by decide +kernel) rfl ?_
  refine g_80 (a := 242) (b := 1) (nx := 5) (by decide +kernel) (r := x0) (As := [vI x1]) (st' := []) (z := 242) rfl rfl rfl (Nat.le_of_ble_eq_true rfl) h0.2 (Nat.le_of_ble_eq_true rfl) rfl (c_I (by decide +kernel) h (fun y2 M1 h => ?_))
  refine g_7 (a := 0) (b := 0) (nx := 6) (by decide +kernel) rfl ?_
  refine g_52 (a := 12) (b := 55) (nx := 9) (by decide +kernel) h0 ?_
  refine g_1 (a := 3) (b := 0) (nx := 10) (by decide +kernel) ?_
  refine g_61 (a := 0) (b := 0) (nx := 11) (by decide +kernel) h.1 ?_
  replace h := h.2
  obtain ⟨r3, h⟩ := h
  obtain ⟨r4, h⟩ := h
  by_cases c5 : y2 < (M1 (M1 x0 55) 3)
  · rw [if_pos c5] at h
    refine g_41t (a := 2) (b := 18) (nx := 14) (by decide +kernel) (by rw [wr_id r3, wr_id r4]; exact (cb_2 _ _).mpr c5) ?_
    refine g_1 (a := 0) (b := 0) (nx := 19) (by decide +kernel) ?_
    exact g_91z (b := 0) (nx := 20) (by decide +kernel) (by decide) h
  · rw [if_neg c5] at h
    refine g_41f (a := 2) (b := 18) (nx := 14) (by decide +kernel) (by rw [wr_id r3, wr_id r4]; exact fun hz => c5 ((cb_2 _ _).mp hz)) ?_
    refine g_1 (a := 1) (b := 0) (nx := 15) (by decide +kernel) ?_
    refine g_44 (a := 0) (b := 19) (nx := 18) (by decide +kernel) ?_
    exact g_91z (b := 0) (nx := 20) (by decide +kernel) (by decide) h
-- 244 SyllableMakerModel.costBy(IIIZ)I
theorem t_244 {x0 x1 x2 x3 x4 : Int} {M : Mem} {Q : AV → Mem → Prop} (h0 : gO 12 x0) (h : inR x1 ∧ (if x1 = 0 then (WI 218 [vR x0, vI 0] M (fun y44 M43 => WI 218 [vR x0, vI 1] M43 (fun y46 M45 => if x1 ≤ 1 then (inR x2 ∧ (if x2 = 0 then (WI 218 [vR x0, vI 3] M45 (fun y53 M52 => inR x4 ∧ (if x4 = 0 then (WI 218 [vR x0, vI 4] M52 (fun y56 M55 => Q (vI ((((y44 + (y46 * x3)) + 0) + y53) + y56)) M55)) else (Q (vI ((((y44 + (y46 * x3)) + 0) + y53) + 0)) M52)))) else (inR x4 ∧ (if x4 = 0 then (WI 218 [vR x0, vI 4] M45 (fun y50 M49 => Q (vI ((((y44 + (y46 * x3)) + 0) + 0) + y50)) M49)) else (Q (vI ((((y44 + (y46 * x3)) + 0) + 0) + 0)) M45))))) else (inR x2 ∧ (if x2 = 4 then (WI 218 [vR x0, vI 2] M45 (fun y72 M71 => if x2 = 0 then (WI 218 [vR x0, vI 3] M71 (fun y78 M77 => inR x4 ∧ (if x4 = 0 then (WI 218 [vR x0, vI 4] M77 (fun y81 M80 => Q (vI ((((y44 + (y46 * x3)) + y72) + y78) + y81)) M80)) else (Q (vI ((((y44 + (y46 * x3)) + y72) + y78) + 0)) M77)))) else (inR x4 ∧ (if x4 = 0 then (WI 218 [vR x0, vI 4] M71 (fun y75 M74 => Q (vI ((((y44 + (y46 * x3)) + y72) + 0) + y75)) M74)) else (Q (vI ((((y44 + (y46 * x3)) + y72) + 0) + 0)) M71))))) else (if x2 = 0 then (WI 218 [vR x0, vI 3] M45 (fun y65 M64 => inR x4 ∧ (if x4 = 0 then (WI 218 [vR x0, vI 4] M64 (fun y68 M67 => Q (vI ((((y44 + (y46 * x3)) + 0) + y65) + y68)) M67)) else (Q (vI ((((y44 + (y46 * x3)) + 0) + y65) + 0)) M64)))) else (inR x4 ∧ (if x4 = 0 then (WI 218 [vR x0, vI 4] M45 (fun y62 M61 => Q (vI ((((y44 + (y46 * x3)) + 0) + 0) + y62)) M61)) else (Q (vI ((((y44 + (y46 * x3)) + 0) + 0) + 0)) M45))))))))) else (WI 218 [vR x0, vI 1] M (fun y3 M2 => if x1 ≤ 1 then (inR x2 ∧ (if x2 = 0 then (WI 218 [vR x0, vI 3] M2 (fun y10 M9 => inR x4 ∧ (if x4 = 0 then (WI 218 [vR x0, vI 4] M9 (fun y13 M12 => Q (vI ((((0 + (y3 * x3)) + 0) + y10) + y13)) M12)) else (Q (vI ((((0 + (y3 * x3)) + 0) + y10) + 0)) M9)))) else (inR x4 ∧ (if x4 = 0 then (WI 218 [vR x0, vI 4] M2 (fun y7 M6 => Q (vI ((((0 + (y3 * x3)) + 0) + 0) + y7)) M6)) else (Q (vI ((((0 + (y3 * x3)) + 0) + 0) + 0)) M2))))) else (inR x2 ∧ (if x2 = 4 then (WI 218 [vR x0, vI 2] M2 (fun y29 M28 => if x2 = 0 then (WI 218 [vR x0, vI 3] M28 (fun y35 M34 => inR x4 ∧ (if x4 = 0 then (WI 218 [vR x0, vI 4] M34 (fun y38 M37 => Q (vI ((((0 + (y3 * x3)) + y29) + y35) + y38)) M37)) else (Q (vI ((((0 + (y3 * x3)) + y29) + y35) + 0)) M34)))) else (inR x4 ∧ (if x4 = 0 then (WI 218 [vR x0, vI 4] M28 (fun y32 M31 => Q (vI ((((0 + (y3 * x3)) + y29) + 0) + y32)) M31)) else (Q (vI ((((0 + (y3 * x3)) + y29) + 0) + 0)) M28))))) else (if x2 = 0 then (WI 218 [vR x0, vI 3] M2 (fun y22 M21 => inR x4 ∧ (if x4 = 0 then (WI 218 [vR x0, vI 4] M21 (fun y25 M24 => Q (vI ((((0 + (y3 * x3)) + 0) + y22) + y25)) M24)) else (Q (vI ((((0 + (y3 * x3)) + 0) + y22) + 0)) M21)))) else (inR x4 ∧ (if x4 = 0 then (WI 218 [vR x0, vI 4] M2 (fun y19 M18 => Q (vI ((((0 + (y3 * x3)) + 0) + 0) + y19)) M18)) else (Q (vI ((((0 + (y3 * x3)) + 0) + 0) + 0)) M2)))))))))) : WC 244 [vR x0, vI x1, vI x2, vI x3, vI x4] M Q := by
  show WR 244 0 [some (vR x0), some (vI x1), some (vI x2), some (vI x3), some (vI x4)] [] M Q
  refine g_5 (a := 1) (b := 0) (nx := 1) (by decide +kernel) rfl ?_
  obtain ⟨r1, h⟩ := h
  by_cases c86 : x1 = 0
  · rw [if_pos c86] at h
    refine g_40f (a := 1) (b := 12) (nx := 4) (by decide +kernel) r1 (by exact fun hz => ((cb_1 _ _).mp hz) c86) ?_
    refine g_7 (a := 0) (b := 0) (nx := 5) (by decide +kernel) rfl ?_
    refine g_1 (a := 0) (b := 0) (nx := 6) (by decide +kernel) ?_
    refine g_80 (a := 218) (b := 1) (nx := 9) (by decide +kernel) (r := x0) (As := [vI 0]) (st' := []) (z := 218) rfl rfl rfl (Nat.le_of_ble_eq_true rfl) h0.2 (Nat.le_of_ble_eq_true rfl) rfl (c_I (by decide +kernel) h (fun y44 M43 h => ?_))
    refine g_44 (a := 0) (b := 13) (nx := 12) (by decide +kernel) ?_
    refine g_7 (a := 0) (b := 0) (nx := 14) (by decide +kernel) rfl ?_
    refine g_1 (a := 1) (b := 0) (nx := 15) (by decide +kernel) ?_
    refine g_80 (a := 218) (b := 1) (nx := 18) (by decide +kernel) (r := x0) (As := [vI 1]) (st' := [vI y44]) (z := 218) rfl rfl rfl (Nat.le_of_ble_eq_true rfl) h0.2 (Nat.le_of_ble_eq_true rfl) rfl (c_I (by decide +kernel) h (fun y46 M45 h => ?_))
    refine g_5 (a := 3) (b := 0) (nx := 19) (by decide +kernel) rfl ?_
    refine g_17 (a := 0) (b := 0) (nx := 20) (by decide +kernel) ?_
    refine g_15 (a := 0) (b := 0) (nx := 21) (by decide +kernel) ?_
    refine g_5 (a := 1) (b := 0) (nx := 22) (by decide +kernel) rfl ?_
    refine g_1 (a := 1) (b := 0) (nx := 23) (by decide +kernel) ?_
    by_cases c85 : x1 ≤ 1
    · rw [if_pos c85] at h
      refine g_41t (a := 5) (b := 39) (nx := 26) (by decide +kernel) (by rw [wr_id r1, wr_id (show inR 1 by decide)]; exact (cb_5 _ _).mpr c85) ?_
      refine g_1 (a := 0) (b := 0) (nx := 40) (by decide +kernel) ?_
      refine g_15 (a := 0) (b := 0) (nx := 41) (by decide +kernel) ?_
      refine g_5 (a := 2) (b := 0) (nx := 42) (by decide +kernel) rfl ?_
      obtain ⟨r47, h⟩ := h
      by_cases c58 : x2 = 0
      · rw [if_pos c58] at h
        refine g_40f (a := 1) (b := 53) (nx := 45) (by decide +kernel) r47 (by exact fun hz => ((cb_1 _ _).mp hz) c58) ?_
        refine g_7 (a := 0) (b := 0) (nx := 46) (by decide +kernel) rfl ?_
        refine g_1 (a := 3) (b := 0) (nx := 47) (by decide +kernel) ?_
        refine g_80 (a := 218) (b := 1) (nx := 50) (by decide +kernel) (r := x0) (As := [vI 3]) (st' := [vI ((y44 + (y46 * x3)) + 0)]) (z := 218) rfl rfl rfl (Nat.le_of_ble_eq_true rfl) h0.2 (Nat.le_of_ble_eq_true rfl) rfl (c_I (by decide +kernel) h (fun y53 M52 h => ?_))
        refine g_44 (a := 0) (b := 54) (nx := 53) (by decide +kernel) ?_
        refine g_15 (a := 0) (b := 0) (nx := 55) (by decide +kernel) ?_
        refine g_5 (a := 4) (b := 0) (nx := 57) (by decide +kernel) rfl ?_
        obtain ⟨r54, h⟩ := h
        by_cases c57 : x4 = 0
        · rw [if_pos c57] at h
          refine g_40t (a := 0) (b := 64) (nx := 60) (by decide +kernel) r54 (by exact (cb_0 _ _).mpr c57) ?_
          refine g_7 (a := 0) (b := 0) (nx := 65) (by decide +kernel) rfl ?_
          refine g_1 (a := 4) (b := 0) (nx := 66) (by decide +kernel) ?_
          refine g_80 (a := 218) (b := 1) (nx := 69) (by decide +kernel) (r := x0) (As := [vI 4]) (st' := [vI (((y44 + (y46 * x3)) + 0) + y53)]) (z := 218) rfl rfl rfl (Nat.le_of_ble_eq_true rfl) h0.2 (Nat.le_of_ble_eq_true rfl) rfl (c_I (by decide +kernel) h (fun y56 M55 h => ?_))
          refine g_15 (a := 0) (b := 0) (nx := 70) (by decide +kernel) ?_
          exact g_91 (b := 0) (nx := 71) (by decide +kernel) h
        · rw [if_neg c57] at h
          refine g_40f (a := 0) (b := 64) (nx := 60) (by decide +kernel) r54 (by exact fun hz => c57 ((cb_0 _ _).mp hz)) ?_
          refine g_1 (a := 0) (b := 0) (nx := 61) (by decide +kernel) ?_
          refine g_44 (a := 0) (b := 69) (nx := 64) (by decide +kernel) ?_
          refine g_15 (a := 0) (b := 0) (nx := 70) (by decide +kernel) ?_
          exact g_91 (b := 0) (nx := 71) (by decide +kernel) h
      · rw [if_neg c58] at h
        refine g_40t (a := 1) (b := 53) (nx := 45) (by decide +kernel) r47 (by exact (cb_1 _ _).mpr c58) ?_
        refine g_1 (a := 0) (b := 0) (nx := 54) (by decide +kernel) ?_
        refine g_15 (a := 0) (b := 0) (nx := 55) (by decide +kernel) ?_
        refine g_5 (a := 4) (b := 0) (nx := 57) (by decide +kernel) rfl ?_
        obtain ⟨r48, h⟩ := h
        by_cases c51 : x4 = 0
        · rw [if_pos c51] at h
          refine g_40t (a := 0) (b := 64) (nx := 60) (by decide +kernel) r48 (by exact (cb_0 _ _).mpr c51) ?_
          refine g_7 (a := 0) (b := 0) (nx := 65) (by decide +kernel) rfl ?_
          refine g_1 (a := 4) (b := 0) (nx := 66) (by decide +kernel) ?_
          refine g_80 (a := 218) (b := 1) (nx := 69) (by decide +kernel) (r := x0) (As := [vI 4]) (st' := [vI (((y44 + (y46 * x3)) + 0) + 0)]) (z := 218) rfl rfl rfl (Nat.le_of_ble_eq_true rfl) h0.2 (Nat.le_of_ble_eq_true rfl) rfl (c_I (by decide +kernel) h (fun y50 M49 h => ?_))
          refine g_15 (a := 0) (b := 0) (nx := 70) (by decide +kernel) ?_
          exact g_91 (b := 0) (nx := 71) (by decide +kernel) h
        · rw [if_neg c51] at h
          refine g_40f (a := 0) (b := 64) (nx := 60) (by decide +kernel) r48 (by exact fun hz => c51 ((cb_0 _ _).mp hz)) ?_
          refine g_1 (a := 0) (b := 0) (nx := 61) (by decide +kernel) ?_
          refine g_44 (a := 0) (b := 69) (nx := 64) (by decide +kernel) ?_
          refine g_15 (a := 0) (b := 0) (nx := 70) (by decide +kernel) ?_
          exact g_91 (b := 0) (nx := 71) (by decide +kernel) h
    · rw [if_neg c85] at h
      refine g_41f (a := 5) (b := 39) (nx := 26) (by decide +kernel) (by rw [wr_id r1, wr_id (show inR 1 by decide)]; exact fun hz => c85 ((cb_5 _ _).mp hz)) ?_
      refine g_5 (a := 2) (b := 0) (nx := 27) (by decide +kernel) rfl ?_
      refine g_1 (a := 4) (b := 0) (nx := 28) (by decide +kernel) ?_
      obtain ⟨r59, h⟩ := h
      by_cases c84 : x2 = 4
      · rw [if_pos c84] at h
        refine g_41f (a := 1) (b := 39) (nx := 31) (by decide +kernel) (by rw [wr_id r59, wr_id (show inR 4 by decide)]; exact fun hz => ((cb_1 _ _).mp hz) c84) ?_
        refine g_7 (a := 0) (b := 0) (nx := 32) (by decide +kernel) rfl ?_
        refine g_1 (a := 2) (b := 0) (nx := 33) (by decide +kernel) ?_
        refine g_80 (a := 218) (b := 1) (nx := 36) (by decide +kernel) (r := x0) (As := [vI 2]) (st' := [vI (y44 + (y46 * x3))]) (z := 218) rfl rfl rfl (Nat.le_of_ble_eq_true rfl) h0.2 (Nat.le_of_ble_eq_true rfl) rfl (c_I (by decide +kernel) h (fun y72 M71 h => ?_))
        refine g_44 (a := 0) (b := 40) (nx := 39) (by decide +kernel) ?_
        refine g_15 (a := 0) (b := 0) (nx := 41) (by decide +kernel) ?_
        refine g_5 (a := 2) (b := 0) (nx := 42) (by decide +kernel) rfl ?_
        by_cases c83 : x2 = 0
        · rw [if_pos c83] at h
          refine g_40f (a := 1) (b := 53) (nx := 45) (by decide +kernel) r59 (by exact fun hz => ((cb_1 _ _).mp hz) c83) ?_
          refine g_7 (a := 0) (b := 0) (nx := 46) (by decide +kernel) rfl ?_
          refine g_1 (a := 3) (b := 0) (nx := 47) (by decide +kernel) ?_
          refine g_80 (a := 218) (b := 1) (nx := 50) (by decide +kernel) (r := x0) (As := [vI 3]) (st' := [vI ((y44 + (y46 * x3)) + y72)]) (z := 218) rfl rfl rfl (Nat.le_of_ble_eq_true rfl) h0.2 (Nat.le_of_ble_eq_true rfl) rfl (c_I (by decide +kernel) h (fun y78 M77 h => ?_))
          refine g_44 (a := 0) (b := 54) (nx := 53) (by decide +kernel) ?_
          refine g_15 (a := 0) (b := 0) (nx := 55) (by decide +kernel) ?_
          refine g_5 (a := 4) (b := 0) (nx := 57) (by decide +kernel) rfl ?_
          obtain ⟨r79, h⟩ := h
          by_cases c82 : x4 = 0
          · rw [if_pos c82] at h
            refine g_40t (a := 0) (b := 64) (nx := 60) (by decide +kernel) r79 (by exact (cb_0 _ _).mpr c82) ?_
            refine g_7 (a := 0) (b := 0) (nx := 65) (by decide +kernel) rfl ?_
            refine g_1 (a := 4) (b := 0) (nx := 66) (by decide +kernel) ?_
            refine g_80 (a := 218) (b := 1) (nx := 69) (by decide +kernel) (r := x0) (As := [vI 4]) (st' := [vI (((y44 + (y46 * x3)) + y72) + y78)]) (z := 218) rfl rfl rfl (Nat.le_of_ble_eq_true rfl) h0.2 (Nat.le_of_ble_eq_true rfl) rfl (c_I (by decide +kernel) h (fun y81 M80 h => ?_))
            refine g_15 (a := 0) (b := 0) (nx := 70) (by decide +kernel) ?_
            exact g_91 (b := 0) (nx := 71) (by decide +kernel) h
          · rw [if_neg c82] at h
            refine g_40f (a := 0) (b := 64) (nx := 60) (by decide +kernel) r79 (by exact fun hz => c82 ((cb_0 _ _).mp hz)) ?_
            refine g_1 (a := 0) (b := 0) (nx := 61) (by decide +kernel) ?_
            refine g_44 (a := 0) (b := 69) (nx := 64) (by decide +kernel) ?_
            refine g_15 (a := 0) (b := 0) (nx := 70) (by decide +kernel) ?_
            exact g_91 (b := 0) (nx := 71) (by decide +kernel) h
        · rw [if_neg c83] at h
          refine g_40t (a := 1) (b := 53) (nx := 45) (by decide +kernel) r59 (by exact (cb_1 _ _).mpr c83) ?_
          refine g_1 (a := 0) (b := 0) (nx := 54) (by decide +kernel) ?_
          refine g_15 (a := 0) (b := 0) (nx := 55) (by decide +kernel) ?_
          refine g_5 (a := 4) (b := 0) (nx := 57) (by decide +kernel) rfl ?_
          obtain ⟨r73, h⟩ := h
          by_cases c76 : x4 = 0
          · rw [if_pos c76] at h
            refine g_40t (a := 0) (b := 64) (nx := 60) (by decide +kernel) r73 (by exact (cb_0 _ _).mpr c76) ?_
            refine g_7 (a := 0) (b := 0) (nx := 65) (by decide +kernel) rfl ?_
            refine g_1 (a := 4) (b := 0) (nx := 66) (by decide +kernel) ?_
            refine g_80 (a := 218) (b := 1) (nx := 69) (by decide +kernel) (r := x0) (As := [vI 4]) (st' := [vI (((y44 + (y46 * x3)) + y72) + 0)]) (z := 218) rfl rfl rfl (Nat.le_of_ble_eq_true rfl) h0.2 (Nat.le_of_ble_eq_true rfl) rfl (c_I (by decide +kernel) h (fun y75 M74 h => ?_))
            refine g_15 (a := 0) (b := 0) (nx := 70) (by decide +kernel) ?_
            exact g_91 (b := 0) (nx := 71) (by decide +kernel) h
          · rw [if_neg c76] at h
            refine g_40f (a := 0) (b := 64) (nx := 60) (by decide +kernel) r73 (by exact fun hz => c76 ((cb_0 _ _).mp hz)) ?_
            refine g_1 (a := 0) (b := 0) (nx := 61) (by decide +kernel) ?_
            refine g_44 (a := 0) (b := 69) (nx := 64) (by decide +kernel) ?_
            refine g_15 (a := 0) (b := 0) (nx := 70) (by decide +kernel) ?_
            exact g_91 (b := 0) (nx := 71) (by decide +kernel) h
      · rw [if_neg c84] at h
        refine g_41t (a := 1) (b := 39) (nx := 31) (by decide +kernel) (by rw [wr_id r59, wr_id (show inR 4 by decide)]; exact (cb_1 _ _).mpr c84) ?_
        refine g_1 (a := 0) (b := 0) (nx := 40) (by decide +kernel) ?_
        refine g_15 (a := 0) (b := 0) (nx := 41) (by decide +kernel) ?_
        refine g_5 (a := 2) (b := 0) (nx := 42) (by decide +kernel) rfl ?_
        by_cases c70 : x2 = 0
        · rw [if_pos c70] at h
          refine g_40f (a := 1) (b := 53) (nx := 45) (by decide +kernel) r59 (by exact fun hz => ((cb_1 _ _).mp hz) c70) ?_
          refine g_7 (a := 0) (b := 0) (nx := 46) (by decide +kernel) rfl ?_
          refine g_1 (a := 3) (b := 0) (nx := 47) (by decide +kernel) ?_
          refine g_80 (a := 218) (b := 1) (nx := 50) (by decide +kernel) (r := x0) (As := [vI 3]) (st' := [vI ((y44 + (y46 * x3)) + 0)]) (z := 218) rfl rfl rfl (Nat.le_of_ble_eq_true rfl) h0.2 (Nat.le_of_ble_eq_true rfl) rfl (c_I (by decide +kernel) h (fun y65 M64 h => ?_))
          refine g_44 (a := 0) (b := 54) (nx := 53) (by decide +kernel) ?_
          refine g_15 (a := 0) (b := 0) (nx := 55) (by decide +kernel) ?_
          refine g_5 (a := 4) (b := 0) (nx := 57) (by decide +kernel) rfl ?_
          obtain ⟨r66, h⟩ := h
          by_cases c69 : x4 = 0
          · rw [if_pos c69] at h
            refine g_40t (a := 0) (b := 64) (nx := 60) (by decide +kernel) r66 (by exact (cb_0 _ _).mpr c69) ?_
            refine g_7 (a := 0) (b := 0) (nx := 65) (by decide +kernel) rfl ?_
            refine g_1 (a := 4) (b := 0) (nx := 66) (by decide +kernel) ?_
            refine g_80 (a := 218) (b := 1) (nx := 69) (by decide +kernel) (r := x0) (As := [vI 4]) (st' := [vI (((y44 + (y46 * x3)) + 0) + y65)]) (z := 218) rfl rfl rfl (Nat.le_of_ble_eq_true rfl) h0.2 (Nat.le_of_ble_eq_true rfl) rfl (c_I (by decide +kernel) h (fun y68 M67 h => ?_))
            refine g_15 (a := 0) (b := 0) (nx := 70) (by decide +kernel) ?_
            exact g_91 (b := 0) (nx := 71) (by decide +kernel) h
          · rw [if_neg c69] at h
            refine g_40f (a := 0) (b := 64) (nx := 60) (by decide +kernel) r66 (by exact fun hz => c69 ((cb_0 _ _).mp hz)) ?_
            refine g_1 (a := 0) (b := 0) (nx := 61) (by decide +kernel) ?_
            refine g_44 (a := 0) (b := 69) (nx := 64) (by decide +kernel) ?_
            refine g_15 (a := 0) (b := 0) (nx := 70) (by decide +kernel) ?_
            exact g_91 (b := 0) (nx := 71) (by decide +kernel) h
        · rw [if_neg c70] at h
          refine g_40t (a := 1) (b := 53) (nx := 45) (by decide +kernel) r59 (by exact (cb_1 _ _).mpr c70) ?_
          refine g_1 (a := 0) (b := 0) (nx := 54) (by decide +kernel) ?_
          refine g_15 (a := 0) (b := 0) (nx := 55) (by decide +kernel) ?_
          refine g_5 (a := 4) (b := 0) (nx := 57) (by decide +kernel) rfl ?_
          obtain ⟨r60, h⟩ := h
          by_cases c63 : x4 = 0
          · rw [if_pos c63] at h
            refine g_40t (a := 0) (b := 64) (nx := 60) (by decide +kernel) r60 (by exact (cb_0 _ _).mpr c63) ?_
            refine g_7 (a := 0) (b := 0) (nx := 65) (by decide +kernel) rfl ?_
            refine g_1 (a := 4) (b := 0) (nx := 66) (by decide +kernel) ?_
            refine g_80 (a := 218) (b := 1) (nx := 69) (by decide +kernel) (r := x0) (As := [vI 4]) (st' := [vI (((y44 + (y46 * x3)) + 0) + 0)]) (z := 218) rfl rfl rfl (Nat.le_of_ble_eq_true rfl) h0.2 (Nat.le_of_ble_eq_true rfl) rfl (c_I (by decide +kernel) h (fun y62 M61 h => ?_))
            refine g_15 (a := 0) (b := 0) (nx := 70) (by decide +kernel) ?_
            exact g_91 (b := 0) (nx := 71) (by decide +kernel) h
          · rw [if_neg c63] at h
            refine g_40f (a := 0) (b := 64) (nx := 60) (by decide +kernel) r60 (by exact fun hz => c63 ((cb_0 _ _).mp hz)) ?_
            refine g_1 (a := 0) (b := 0) (nx := 61) (by decide +kernel) ?_
            refine g_44 (a := 0) (b := 69) (nx := 64) (by decide +kernel) ?_
            refine g_15 (a := 0) (b := 0) (nx := 70) (by decide +kernel) ?_
            exact g_91 (b := 0) (nx := 71) (by decide +kernel) h
  · rw [if_neg c86] at h
    refine g_40t (a := 1) (b := 12) (nx := 4) (by decide +kernel) r1 (by exact (cb_1 _ _).mpr c86) ?_
    refine g_1 (a := 0) (b := 0) (nx := 13) (by decide +kernel) ?_
    refine g_7 (a := 0) (b := 0) (nx := 14) (by decide +kernel) rfl ?_
    refine g_1 (a := 1) (b := 0) (nx := 15) (by decide +kernel) ?_
    refine g_80 (a := 218) (b := 1) (nx := 18) (by decide +kernel) (r := x0) (As := [vI 1]) (st' := [vI 0]) (z := 218) rfl rfl rfl (Nat.le_of_ble_eq_true rfl) h0.2 (Nat.le_of_ble_eq_true rfl) rfl (c_I (by decide +kernel) h (fun y3 M2 h => ?_))
    refine g_5 (a := 3) (b := 0) (nx := 19) (by decide +kernel) rfl ?_
    refine g_17 (a := 0) (b := 0) (nx := 20) (by decide +kernel) ?_
    refine g_15 (a := 0) (b := 0) (nx := 21) (by decide +kernel) ?_
    refine g_5 (a := 1) (b := 0) (nx := 22) (by decide +kernel) rfl ?_
    refine g_1 (a := 1) (b := 0) (nx := 23) (by decide +kernel) ?_
    by_cases c42 : x1 ≤ 1
    · rw [if_pos c42] at h
      refine g_41t (a := 5) (b := 39) (nx := 26) (by decide +kernel) (by rw [wr_id r1, wr_id (show inR 1 by decide)]; exact (cb_5 _ _).mpr c42) ?_
      refine g_1 (a := 0) (b := 0) (nx := 40) (by decide +kernel) ?_
      refine g_15 (a := 0) (b := 0) (nx := 41) (by decide +kernel) ?_
      refine g_5 (a := 2) (b := 0) (nx := 42) (by decide +kernel) rfl ?_
      obtain ⟨r4, h⟩ := h
      by_cases c15 : x2 = 0
      · rw [if_pos c15] at h
        refine g_40f (a := 1) (b := 53) (nx := 45) (by decide +kernel) r4 (by exact fun hz => ((cb_1 _ _).mp hz) c15) ?_
        refine g_7 (a := 0) (b := 0) (nx := 46) (by decide +kernel) rfl ?_
        refine g_1 (a := 3) (b := 0) (nx := 47) (by decide +kernel) ?_
        refine g_80 (a := 218) (b := 1) (nx := 50) (by decide +kernel) (r := x0) (As := [vI 3]) (st' := [vI ((0 + (y3 * x3)) + 0)]) (z := 218) rfl rfl rfl (Nat.le_of_ble_eq_true rfl) h0.2 (Nat.le_of_ble_eq_true rfl) rfl (c_I (by decide +kernel) h (fun y10 M9 h => ?_))
        refine g_44 (a := 0) (b := 54) (nx := 53) (by decide +kernel) ?_
        refine g_15 (a := 0) (b := 0) (nx := 55) (by decide +kernel) ?_
        refine g_5 (a := 4) (b := 0) (nx := 57) (by decide +kernel) rfl ?_
        obtain ⟨r11, h⟩ := h
        by_cases c14 : x4 = 0
        · rw [if_pos c14] at h
          refine g_40t (a := 0) (b := 64) (nx := 60) (by decide +kernel) r11 (by exact (cb_0 _ _).mpr c14) ?_
          refine g_7 (a := 0) (b := 0) (nx := 65) (by decide +kernel) rfl ?_
          refine g_1 (a := 4) (b := 0) (nx := 66) (by decide +kernel) ?_
          refine g_80 (a := 218) (b := 1) (nx := 69) (by decide +kernel) (r := x0) (As := [vI 4]) (st' := [vI (((0 + (y3 * x3)) + 0) + y10)]) (z := 218) rfl rfl rfl (Nat.le_of_ble_eq_true rfl) h0.2 (Nat.le_of_ble_eq_true rfl) rfl (c_I (by decide +kernel) h (fun y13 M12 h => ?_))
          refine g_15 (a := 0) (b := 0) (nx := 70) (by decide +kernel) ?_
          exact g_91 (b := 0) (nx := 71) (by decide +kernel) h
        · rw [if_neg c14] at h
          refine g_40f (a := 0) (b := 64) (nx := 60) (by decide +kernel) r11 (by exact fun hz => c14 ((cb_0 _ _).mp hz)) ?_
          refine g_1 (a := 0) (b := 0) (nx := 61) (by decide +kernel) ?_
          refine g_44 (a := 0) (b := 69) (nx := 64) (by decide +kernel) ?_
          refine g_15 (a := 0) (b := 0) (nx := 70) (by decide +kernel) ?_
          exact g_91 (b := 0) (nx := 71) (by decide +kernel) h
      · rw [if_neg c15] at h
        refine g_40t (a := 1) (b := 53) (nx := 45) (by decide +kernel) r4 (by exact (cb_1 _ _).mpr c15) ?_
        refine g_1 (a := 0) (b := 0) (nx := 54) (by decide +kernel) ?_
        refine g_15 (a := 0) (b := 0) (nx := 55) (by decide +kernel) ?_
        refine g_5 (a := 4) (b := 0) (nx := 57) (by decide +kernel) rfl ?_
        obtain ⟨r5, h⟩ := h
        by_cases c8 : x4 = 0
        · rw [if_pos c8] at h
          refine g_40t (a := 0) (b := 64) (nx := 60) (by decide +kernel) r5 (by exact (cb_0 _ _).mpr c8) ?_
          refine g_7 (a := 0) (b := 0) (nx := 65) (by decide +kernel) rfl ?_
          refine g_1 (a := 4) (b := 0) (nx := 66) (by decide +kernel) ?_
          refine g_80 (a := 218) (b := 1) (nx := 69) (by decide +kernel) (r := x0) (As := [vI 4]) (st' := [vI (((0 + (y3 * x3)) + 0) + 0)]) (z := 218) rfl rfl rfl (Nat.le_of_ble_eq_true rfl) h0.2 (Nat.le_of_ble_eq_true rfl) rfl (c_I (by decide +kernel) h (fun y7 M6 h => ?_))
          refine g_15 (a := 0) (b := 0) (nx := 70) (by decide +kernel) ?_
          exact g_91 (b := 0) (nx := 71) (by decide +kernel) h
        · rw [if_neg c8] at h
          refine g_40f (a := 0) (b := 64) (nx := 60) (by decide +kernel) r5 (by exact fun hz => c8 ((cb_0 _ _).mp hz)) ?_
          refine g_1 (a := 0) (b := 0) (nx := 61) (by decide +kernel) ?_
          refine g_44 (a := 0) (b := 69) (nx := 64) (by decide +kernel) ?_
          refine g_15 (a := 0) (b := 0) (nx := 70) (by decide +kernel) ?_
          exact g_91 (b := 0) (nx := 71) (by decide +kernel) h
    · rw [if_neg c42] at h
      refine g_41f (a := 5) (b := 39) (nx := 26) (by decide +kernel) (by rw [wr_id r1, wr_id (show inR 1 by decide)]; exact fun hz => c42 ((cb_5 _ _).mp hz)) ?_
      refine g_5 (a := 2) (b := 0) (nx := 27) (by decide +kernel) rfl ?_
      refine g_1 (a := 4) (b := 0) (nx := 28) (by decide +kernel) ?_
      obtain ⟨r16, h⟩ := h
      by_cases c41 : x2 = 4
      · rw [if_pos c41] at h
        refine g_41f (a := 1) (b := 39) (nx := 31) (by decide +kernel) (by rw [wr_id r16, wr_id (show inR 4 by decide)]; exact fun hz => ((cb_1 _ _).mp hz) c41) ?_
        refine g_7 (a := 0) (b := 0) (nx := 32) (by decide +kernel) rfl ?_
        refine g_1 (a := 2) (b := 0) (nx := 33) (by decide +kernel) ?_
        refine g_80 (a := 218) (b := 1) (nx := 36) (by decide +kernel) (r := x0) (As := [vI 2]) (st' := [vI (0 + (y3 * x3))]) (z := 218) rfl rfl rfl (Nat.le_of_ble_eq_true rfl) h0.2 (Nat.le_of_ble_eq_true rfl) rfl (c_I (by decide +kernel) h (fun y29 M28 h => ?_))
        refine g_44 (a := 0) (b := 40) (nx := 39) (by decide +kernel) ?_
        refine g_15 (a := 0) (b := 0) (nx := 41) (by decide +kernel) ?_
        refine g_5 (a := 2) (b := 0) (nx := 42) (by decide +kernel) rfl ?_
        by_cases c40 : x2 = 0
        · rw [if_pos c40] at h
          refine g_40f (a := 1) (b := 53) (nx := 45) (by decide +kernel) r16 (by exact fun hz => ((cb_1 _ _).mp hz) c40) ?_
          refine g_7 (a := 0) (b := 0) (nx := 46) (by decide +kernel) rfl ?_
          refine g_1 (a := 3) (b := 0) (nx := 47) (by decide +kernel) ?_
          refine g_80 (a := 218) (b := 1) (nx := 50) (by decide +kernel) (r := x0) (As := [vI 3]) (st' := [vI ((0 + (y3 * x3)) + y29)]) (z := 218) rfl rfl rfl (Nat.le_of_ble_eq_true rfl) h0.2 (Nat.le_of_ble_eq_true rfl) rfl (c_I (by decide +kernel) h (fun y35 M34 h => ?_))
          refine g_44 (a := 0) (b := 54) (nx := 53) (by decide +kernel) ?_
          refine g_15 (a := 0) (b := 0) (nx := 55) (by decide +kernel) ?_
          refine g_5 (a := 4) (b := 0) (nx := 57) (by decide +kernel) rfl ?_
          obtain ⟨r36, h⟩ := h
          by_cases c39 : x4 = 0
          · rw [if_pos c39] at h
            refine g_40t (a := 0) (b := 64) (nx := 60) (by decide +kernel) r36 (by exact (cb_0 _ _).mpr c39) ?_
            refine g_7 (a := 0) (b := 0) (nx := 65) (by decide +kernel) rfl ?_
            refine g_1 (a := 4) (b := 0) (nx := 66) (by decide +kernel) ?_
            refine g_80 (a := 218) (b := 1) (nx := 69) (by decide +kernel) (r := x0) (As := [vI 4]) (st' := [vI (((0 + (y3 * x3)) + y29) + y35)]) (z := 218) rfl rfl rfl (Nat.le_of_ble_eq_true rfl) h0.2 (Nat.le_of_ble_eq_true rfl) rfl (c_I (by decide +kernel) h (fun y38 M37 h => ?_))
            refine g_15 (a := 0) (b := 0) (nx := 70) (by decide +kernel) ?_
            exact g_91 (b := 0) (nx := 71) (by decide +kernel) h
          · rw [if_neg c39] at h
            refine g_40f (a := 0) (b := 64) (nx := 60) (by decide +kernel) r36 (by exact fun hz => c39 ((cb_0 _ _).mp hz)) ?_
            refine g_1 (a := 0) (b := 0) (nx := 61) (by decide +kernel) ?_
            refine g_44 (a := 0) (b := 69) (nx := 64) (by decide +kernel) ?_
            refine g_15 (a := 0) (b := 0) (nx := 70) (by decide +kernel) ?_
            exact g_91 (b := 0) (nx := 71) (by decide +kernel) h
        · rw [if_neg c40] at h
          refine g_40t (a := 1) (b := 53) (nx := 45) (by decide +kernel) r16 (by exact (cb_1 _ _).mpr c40) ?_
          refine g_1 (a := 0) (b := 0) (nx := 54) (by decide +kernel) ?_
          refine g_15 (a := 0) (b := 0) (nx := 55) (by decide +kernel) ?_
          refine g_5 (a := 4) (b := 0) (nx := 57) (by decide +kernel) rfl ?_
          obtain ⟨r30, h⟩ := h
          by_cases c33 : x4 = 0
          · rw [if_pos c33] at h
            refine g_40t (a := 0) (b := 64) (nx := 60) (by decide +kernel) r30 (by exact (cb_0 _ _).mpr c33) ?_
            refine g_7 (a := 0) (b := 0) (nx := 65) (by decide +kernel) rfl ?_
            refine g_1 (a := 4) (b := 0) (nx := 66) (by decide +kernel) ?_
            refine g_80 (a := 218) (b := 1) (nx := 69) (by decide +kernel) (r := x0) (As := [vI 4]) (st' := [vI (((0 + (y3 * x3)) + y29) + 0)]) (z := 218) rfl rfl rfl (Nat.le_of_ble_eq_true rfl) h0.2 (Nat.le_of_ble_eq_true rfl) rfl (c_I (by decide +kernel) h (fun y32 M31 h => ?_))
            refine g_15 (a := 0) (b := 0) (nx := 70) (by decide +kernel) ?_
            exact g_91 (b := 0) (nx := 71) (by decide +kernel) h
          · rw [if_neg c33] at h
            refine g_40f (a := 0) (b := 64) (nx := 60) (by decide +kernel) r30 (by exact fun hz => c33 ((cb_0 _ _).mp hz)) ?_
            refine g_1 (a := 0) (b := 0) (nx := 61) (by decide +kernel) ?_
            refine g_44 (a := 0) (b := 69) (nx := 64) (by decide +kernel) ?_
            refine g_15 (a := 0) (b := 0) (nx := 70) (by decide +kernel) ?_
            exact g_91 (b := 0) (nx := 71) (by decide +kernel) h
      · rw [if_neg c41] at h
        refine g_41t (a := 1) (b := 39) (nx := 31) (by decide +kernel) (by rw [wr_id r16, wr_id (show inR 4 by decide)]; exact (cb_1 _ _).mpr c41) ?_
        refine g_1 (a := 0) (b := 0) (nx := 40) (by decide +kernel) ?_
        refine g_15 (a := 0) (b := 0) (nx := 41) (by decide +kernel) ?_
        refine g_5 (a := 2) (b := 0) (nx := 42) (by decide +kernel) rfl ?_
        by_cases c27 : x2 = 0
        · rw [if_pos c27] at h
          refine g_40f (a := 1) (b := 53) (nx := 45) (by decide +kernel) r16 (by exact fun hz => ((cb_1 _ _).mp hz) c27) ?_
          refine g_7 (a := 0) (b := 0) (nx := 46) (by decide +kernel) rfl ?_
          refine g_1 (a := 3) (b := 0) (nx := 47) (by decide +kernel) ?_
          refine g_80 (a := 218) (b := 1) (nx := 50) (by decide +kernel) (r := x0) (As := [vI 3]) (st' := [vI ((0 + (y3 * x3)) + 0)]) (z := 218) rfl rfl rfl (Nat.le_of_ble_eq_true rfl) h0.2 (Nat.le_of_ble_eq_true rfl) rfl (c_I (by decide +kernel) h (fun y22 M21 h => ?_))
          refine g_44 (a := 0) (b := 54) (nx := 53) (by decide +kernel) ?_
          refine g_15 (a := 0) (b := 0) (nx := 55) (by decide +kernel) ?_
          refine g_5 (a := 4) (b := 0) (nx := 57) (by decide +kernel) rfl ?_
          obtain ⟨r23, h⟩ := h
          by_cases c26 : x4 = 0
          · rw [if_pos c26] at h
            refine g_40t (a := 0) (b := 64) (nx := 60) (by decide +kernel) r23 (by exact (cb_0 _ _).mpr c26) ?_
            refine g_7 (a := 0) (b := 0) (nx := 65) (by decide +kernel) rfl ?_
            refine g_1 (a := 4) (b := 0) (nx := 66) (by decide +kernel) ?_
            refine g_80 (a := 218) (b := 1) (nx := 69) (by decide +kernel) (r := x0) (As := [vI 4]) (st' := [vI (((0 + (y3 * x3)) + 0) + y22)]) (z := 218) rfl rfl rfl (Nat.le_of_ble_eq_true rfl) h0.2 (Nat.le_of_ble_eq_true rfl) rfl (c_I (by decide +kernel) h (fun y25 M24 h => ?_))
            refine g_15 (a := 0) (b := 0) (nx := 70) (by decide +kernel) ?_
            exact g_91 (b := 0) (nx := 71) (by decide +kernel) h
          · rw [if_neg c26] at h
            refine g_40f (a := 0) (b := 64) (nx := 60) (by decide +kernel) r23 (by exact fun hz => c26 ((cb_0 _ _).mp hz)) ?_
            refine g_1 (a := 0) (b := 0) (nx := 61) (by decide +kernel) ?_
            refine g_44 (a := 0) (b := 69) (nx := 64) (by decide +kernel) ?_
            refine g_15 (a := 0) (b := 0) (nx := 70) (by decide +kernel) ?_
            exact g_91 (b := 0) (nx := 71) (by decide +kernel) h
        · rw [if_neg c27] at h
          refine g_40t (a := 1) (b := 53) (nx := 45) (by decide +kernel) r16 (by exact (cb_1 _ _).mpr c27) ?_
          refine g_1 (a := 0) (b := 0) (nx := 54) (by decide +kernel) ?_
          refine g_15 (a := 0) (b := 0) (nx := 55) (by decide +kernel) ?_
          refine g_5 (a := 4) (b := 0) (nx := 57) (by decide +kernel) rfl ?_
          obtain ⟨r17, h⟩ := h
          by_cases c20 : x4 = 0
          · rw [if_pos c20] at h
            refine g_40t (a := 0) (b := 64) (nx := 60) (by decide +kernel) r17 (by exact (cb_0 _ _).mpr c20) ?_
            refine g_7 (a := 0) (b := 0) (nx := 65) (by decide +kernel) rfl ?_
            refine g_1 (a := 4) (b := 0) (nx := 66) (by decide +kernel) ?_
            refine g_80 (a := 218) (b := 1) (nx := 69) (by decide +kernel) (r := x0) (As := [vI 4]) (st' := [vI (((0 + (y3 * x3)) + 0) + 0)]) (z := 218) rfl rfl rfl (Nat.le_of_ble_eq_true rfl) h0.2 (Nat.le_of_ble_eq_true rfl) rfl (c_I (by decide +kernel) h (fun y19 M18 h => ?_))
            refine g_15 (a := 0) (b := 0) (nx := 70) (by decide +kernel) ?_
            exact g_91 (b := 0) (nx := 71) (by decide +kernel) h
          · rw [if_neg c20] at h
            refine g_40f (a := 0) (b := 64) (nx := 60) (by decide +kernel) r17 (by exact fun hz => c20 ((cb_0 _ _).mp hz)) ?_
            refine g_1 (a := 0) (b := 0) (nx := 61) (by decide +kernel) ?_
            refine g_44 (a := 0) (b := 69) (nx := 64) (by decide +kernel) ?_
            refine g_15 (a := 0) (b := 0) (nx := 70) (by decide +kernel) ?_
            exact g_91 (b := 0) (nx := 71) (by decide +kernel) h
-- 245 SyllableMakerModel.costAt(I)I
theorem t_245 {x0 x1 : Int} {M : Mem} {Q : AV → Mem → Prop} (h0 : gO 12 x0) (h : WI 240 [vR x0, vI x1] M (fun y2 M1 => WI 239 [vR x0, vI x1] M1 (fun y4 M3 => WI 240 [vR x0, vI x1] M3 (fun y6 M5 => WI 235 [vR x0, vR (M1 x0 64), vI y4, vI y6] M5 (fun y8 M7 => WI 241 [vR x0, vI x1] M7 (fun y10 M9 => WI 229 [vR x0, vI x1] M9 (fun y12 M11 => WI 241 [vR x0, vI x1] M11 (fun y14 M13 => WI 236 [vR x0, vR (M9 x0 64), vI y12, vI y14] M13 (fun y16 M15 => WI 244 [vR x0, vI y2, vI y8, vI y10, vI y16] M15 (fun y18 M17 => inR x1 ∧ (if x1 ≤ 0 then (Q (vI (y18 + 0)) M17) else (WI 243 [vR x0, vI (x1 - 1)] M17 (fun y21 M20 => inR y21 ∧ (if y21 = 0 then (Q (vI (y18 + 0)) M20) else (WI 243 [vR x0, vI x1] M20 (fun y24 M23 => inR y24 ∧ (if y24 = 0 then (Q (vI (y18 + 0)) M23) else (WI 218 [vR x0, vI 5] M23 (fun y27 M26 => Q (vI (y18 + y27)) M26))))))))))))))))))) : WC 245 [vR x0, vI x1] M Q := by
  show WR 245 0 [some (vR x0), some (vI x1)] [] M Q
  refine g_7 (a := 0) (b := 0) (nx := 1) (by decide +kernel) rfl ?_
  refine g_7 (a := 0) (b := 0) (nx := 2) (by decide +kernel) rfl ?_
  refine g_5 (a := 1) (b := 0) (nx := 3) (by decide +kernel) rfl ?_
  refine g_80 (a := 240) (b := 1) (nx := 6) (by decide +kernel) (r := x0) (As := [vI x1]) (st' := [vR x0]) (z := 240) rfl rfl rfl (Nat.le_of_ble_eq_true rfl) h0.2 (Nat.le_of_ble_eq_true rfl) rfl (c_I (by decide +kernel) h (fun y2 M1 h => ?_))
  refine g_7 (a := 0) (b := 0) (nx := 7) (by decide +kernel) rfl ?_
  refine g_7 (a := 0) (b := 0) (nx := 8) (by decide +kernel) rfl ?_
  refine g_52 (a := 12) (b := 64) (nx := 11) (by decide +kernel) h0 ?_
  refine g_7 (a := 0) (b := 0) (nx := 12) (by decide +kernel) rfl ?_
  refine g_5 (a := 1) (b := 0) (nx := 13) (by decide +kernel) rfl ?_
  refine g_80 (a := 239) (b := 1) (nx := 16) (by decide +kernel) (r := x0) (As := [vI x1]) (st' := [vR (M1 x0 64), vR x0, vI y2, vR x0]) (z := 239) rfl rfl rfl (Nat.le_of_ble_eq_true rfl) h0.2 (Nat.le_of_ble_eq_true rfl) rfl (c_I (by decide +kernel) h (fun y4 M3 h => ?_))
  refine g_7 (a := 0) (b := 0) (nx := 17) (by decide +kernel) rfl ?_
  refine g_5 (a := 1) (b := 0) (nx := 18) (by decide +kernel) rfl ?_
  refine g_80 (a := 240) (b := 1) (nx := 21) (by decide +kernel) (r := x0) (As := [vI x1]) (st' := [vI y4, vR (M1 x0 64), vR x0, vI y2, vR x0]) (z := 240) rfl rfl rfl (Nat.le_of_ble_eq_true rfl) h0.2 (Nat.le_of_ble_eq_true rfl) rfl (c_I (by decide +kernel) h (fun y6 M5 h => ?_))
  refine g_80 (a := 235) (b := 3) (nx := 24) (by decide +kernel) (r := x0) (As := [vR (M1 x0 64), vI y4, vI y6]) (st' := [vI y2, vR x0]) (z := 235) rfl rfl rfl (Nat.le_of_ble_eq_true rfl) h0.2 (Nat.le_of_ble_eq_true rfl) rfl (c_I (by decide +kernel) h (fun y8 M7 h => ?_))
  refine g_7 (a := 0) (b := 0) (nx := 25) (by decide +kernel) rfl ?_
  refine g_5 (a := 1) (b := 0) (nx := 26) (by decide +kernel) rfl ?_
  refine g_80 (a := 241) (b := 1) (nx := 29) (by decide +kernel) (r := x0) (As := [vI x1]) (st' := [vI y8, vI y2, vR x0]) (z := 241) rfl rfl rfl (Nat.le_of_ble_eq_true rfl) h0.2 (Nat.le_of_ble_eq_true rfl) rfl (c_I (by decide +kernel) h (fun y10 M9 h => ?_))
  refine g_7 (a := 0) (b := 0) (nx := 30) (by decide +kernel) rfl ?_
  refine g_7 (a := 0) (b := 0) (nx := 31) (by decide +kernel) rfl ?_
  refine g_52 (a := 12) (b := 64) (nx := 34) (by decide +kernel) h0 ?_
  refine g_7 (a := 0) (b := 0) (nx := 35) (by decide +kernel) rfl ?_
  refine g_5 (a := 1) (b := 0) (nx := 36) (by decide +kernel) rfl ?_
  refine g_80 (a := 229) (b := 1) (nx := 39) (by decide +kernel) (r := x0) (As := [vI x1]) (st' := [vR (M9 x0 64), vR x0, vI y10, vI y8, vI y2, vR x0]) (z := 229) rfl rfl rfl (Nat.le_of_ble_eq_true rfl) h0.2 (Nat.le_of_ble_eq_true rfl) rfl (c_I (by decide +kernel) h (fun y12 M11 h => ?_))
  refine g_7 (a := 0) (b := 0) (nx := 40) (by decide +kernel) rfl ?_
  refine g_5 (a := 1) (b := 0) (nx := 41) (by decide +kernel) rfl ?_
  refine g_80 (a := 241) (b := 1) (nx := 44) (by decide +kernel) (r := x0) (As := [vI x1]) (st' := [vI y12, vR (M9 x0 64), vR x0, vI y10, vI y8, vI y2, vR x0]) (z := 241) rfl rfl rfl (Nat.le_of_ble_eq_true rfl) h0.2 (Nat.le_of_ble_eq_true rfl) rfl (c_I (by decide +kernel) h (fun y14 M13 h => ?_))
  refine g_80 (a := 236) (b := 3) (nx := 47) (by decide +kernel) (r := x0) (As := [vR (M9 x0 64), vI y12, vI y14]) (st' := [vI y10, vI y8, vI y2, vR x0]) (z := 236) rfl rfl rfl (Nat.le_of_ble_eq_true rfl) h0.2 (Nat.le_of_ble_eq_true rfl) rfl (c_I (by decide +kernel) h (fun y16 M15 h => ?_))
  refine g_80 (a := 244) (b := 4) (nx := 50) (by decide +kernel) (r := x0) (As := [vI y2, vI y8, vI y10, vI y16]) (st' := []) (z := 244) rfl rfl rfl (Nat.le_of_ble_eq_true rfl) h0.2 (Nat.le_of_ble_eq_true rfl) rfl (c_I (by decide +kernel) h (fun y18 M17 h => ?_))
  refine g_5 (a := 1) (b := 0) (nx := 51) (by decide +kernel) rfl ?_
  obtain ⟨r19, h⟩ := h
  by_cases c30 : x1 ≤ 0
  · rw [if_pos c30] at h
    refine g_40t (a := 5) (b := 80) (nx := 54) (by decide +kernel) r19 (by exact (cb_5 _ _).mpr c30) ?_
    refine g_1 (a := 0) (b := 0) (nx := 81) (by decide +kernel) ?_
    refine g_15 (a := 0) (b := 0) (nx := 82) (by decide +kernel) ?_
    exact g_91 (b := 0) (nx := 83) (by decide +kernel) h
  · rw [if_neg c30] at h
    refine g_40f (a := 5) (b := 80) (nx := 54) (by decide +kernel) r19 (by exact fun hz => c30 ((cb_5 _ _).mp hz)) ?_
    refine g_7 (a := 0) (b := 0) (nx := 55) (by decide +kernel) rfl ?_
    refine g_5 (a := 1) (b := 0) (nx := 56) (by decide +kernel) rfl ?_
    refine g_1 (a := 1) (b := 0) (nx := 57) (by decide +kernel) ?_
    refine g_16 (a := 0) (b := 0) (nx := 58) (by decide +kernel) ?_
    refine g_80 (a := 243) (b := 1) (nx := 61) (by decide +kernel) (r := x0) (As := [vI (x1 - 1)]) (st' := [vI y18]) (z := 243) rfl rfl rfl (Nat.le_of_ble_eq_true rfl) h0.2 (Nat.le_of_ble_eq_true rfl) rfl (c_I (by decide +kernel) h (fun y21 M20 h => ?_))
    obtain ⟨r22, h⟩ := h
    by_cases c29 : y21 = 0
    · rw [if_pos c29] at h
      refine g_40t (a := 0) (b := 80) (nx := 64) (by decide +kernel) r22 (by exact (cb_0 _ _).mpr c29) ?_
      refine g_1 (a := 0) (b := 0) (nx := 81) (by decide +kernel) ?_
      refine g_15 (a := 0) (b := 0) (nx := 82) (by decide +kernel) ?_
      exact g_91 (b := 0) (nx := 83) (by decide +kernel) h
    · rw [if_neg c29] at h
      refine g_40f (a := 0) (b := 80) (nx := 64) (by decide +kernel) r22 (by exact fun hz => c29 ((cb_0 _ _).mp hz)) ?_
      refine g_7 (a := 0) (b := 0) (nx := 65) (by decide +kernel) rfl ?_
      refine g_5 (a := 1) (b := 0) (nx := 66) (by decide +kernel) rfl ?_
      refine g_80 (a := 243) (b := 1) (nx := 69) (by decide +kernel) (r := x0) (As := [vI x1]) (st' := [vI y18]) (z := 243) rfl rfl rfl (Nat.le_of_ble_eq_true rfl) h0.2 (Nat.le_of_ble_eq_true rfl) rfl (c_I (by decide +kernel) h (fun y24 M23 h => ?_))
      obtain ⟨r25, h⟩ := h
      by_cases c28 : y24 = 0
      · rw [if_pos c28] at h
        refine g_40t (a := 0) (b := 80) (nx := 72) (by decide +kernel) r25 (by exact (cb_0 _ _).mpr c28) ?_
        refine g_1 (a := 0) (b := 0) (nx := 81) (by decide +kernel) ?_
        refine g_15 (a := 0) (b := 0) (nx := 82) (by decide +kernel) ?_
        exact g_91 (b := 0) (nx := 83) (by decide +kernel) h
      · rw [if_neg c28] at h
        refine g_40f (a := 0) (b := 80) (nx := 72) (by decide +kernel) r25 (by exact fun hz => c28 ((cb_0 _ _).mp hz)) ?_
        refine g_7 (a := 0) (b := 0) (nx := 73) (by decide +kernel) rfl ?_
        refine g_1 (a := 5) (b := 0) (nx := 74) (by decide +kernel) ?_
        refine g_80 (a := 218) (b := 1) (nx := 77) (by decide +kernel) (r := x0) (As := [vI 5]) (st' := [vI y18]) (z := 218) rfl rfl rfl (Nat.le_of_ble_eq_true rfl) h0.2 (Nat.le_of_ble_eq_true rfl) rfl (c_I (by decide +kernel) h (fun y27 M26 h => ?_))
        refine g_44 (a := 0) (b := 81) (nx := 80) (by decide +kernel) ?_
        refine g_15 (a := 0) (b := 0) (nx := 82) (by decide +kernel) ?_
        exact g_91 (b := 0) (nx := 83) (by decide +kernel) h
-- 246 SyllableMakerModel.costAll()I
theorem t_246 {x0 : Int} {M : Mem} {Q : AV → Mem → Prop} (h0 : gO 12 x0) (h : WR 246 4 [some (vR x0), some (vI 0), some (vI 0)] [] M Q) : WC 246 [vR x0] M Q := by
  show WR 246 0 [some (vR x0), none, none] [] M Q
  refine g_1 (a := 0) (b := 0) (nx := 1) (by decide +kernel) ?_
  refine g_8 (a := 1) (b := 0) (nx := 2) (by decide +kernel) rfl (ls' := [some (vR x0), some (vI 0), none]) rfl ?_
  refine g_1 (a := 0) (b := 0) (nx := 3) (by decide +kernel) ?_
  refine g_8 (a := 2) (b := 0) (nx := 4) (by decide +kernel) rfl (ls' := [some (vR x0), some (vI 0), some (vI 0)]) rfl ?_
  exact h
theorem t_246_4 {x0 x1 x2 : Int} {M : Mem} {Q : AV → Mem → Prop} (h0 : gO 12 x0) (h : inR x2 ∧ (inR (M x0 70) ∧ (if (M x0 70) ≤ x2 then (Q (vI x1) M) else (WI 245 [vR x0, vI x2] M (fun y4 M3 => WR 246 4 [some (vR x0), some (vI (x1 + y4)), some (vI (x2 + 1))] [] M3 Q))))) : WR 246 4 [some (vR x0), some (vI x1), some (vI x2)] [] M Q := by
  refine g_5 (a := 2) (b := 0) (nx := 5) (by decide +kernel) rfl ?_
  refine g_7 (a := 0) (b := 0) (nx := 6) (by decide +kernel) rfl ?_
  refine g_50 (a := 12) (b := 70) (nx := 9) (by decide +kernel) h0 ?_
  obtain ⟨r1, h⟩ := h
  obtain ⟨r2, h⟩ := h
  by_cases c5 : (M x0 70) ≤ x2
  · rw [if_pos c5] at h
    refine g_41t (a := 3) (b := 26) (nx := 12) (by decide +kernel) (by rw [wr_id r1, wr_id r2]; exact (cb_3 _ _).mpr c5) ?_
    refine g_5 (a := 1) (b := 0) (nx := 27) (by decide +kernel) rfl ?_
    exact g_91 (b := 0) (nx := 28) (by decide +kernel) h
  · rw [if_neg c5] at h
    refine g_41f (a := 3) (b := 26) (nx := 12) (by decide +kernel) (by rw [wr_id r1, wr_id r2]; exact fun hz => c5 ((cb_3 _ _).mp hz)) ?_
    refine g_5 (a := 1) (b := 0) (nx := 13) (by decide +kernel) rfl ?_
    refine g_7 (a := 0) (b := 0) (nx := 14) (by decide +kernel) rfl ?_
    refine g_5 (a := 2) (b := 0) (nx := 15) (by decide +kernel) rfl ?_
    refine g_80 (a := 245) (b := 1) (nx := 18) (by decide +kernel) (r := x0) (As := [vI x2]) (st' := [vI x1]) (z := 245) rfl rfl rfl (Nat.le_of_ble_eq_true rfl) h0.2 (Nat.le_of_ble_eq_true rfl) rfl (c_I (by decide +kernel) h (fun y4 M3 h => ?_))
    refine g_15 (a := 0) (b := 0) (nx := 19) (by decide +kernel) ?_
    refine g_8 (a := 1) (b := 0) (nx := 20) (by decide +kernel) rfl (ls' := [some (vR x0), some (vI (x1 + y4)), some (vI x2)]) rfl ?_
    refine g_11 (a := 2) (b := 1) (nx := 23) (by decide +kernel) rfl rfl (ls' := [some (vR x0), some (vI (x1 + y4)), some (vI (x2 + 1))]) rfl ?_
    refine g_44 (a := 0) (b := 4) (nx := 26) (by decide +kernel) ?_
    exact h
-- 247 SyllableMakerModel.firstCut()V
theorem t_247 {x0 : Int} {M : Mem} {Q : AV → Mem → Prop} (h0 : gO 12 x0) (h : WR 247 2 [some (vR x0), some (vI 0)] [] M Q) : WC 247 [vR x0] M Q := by
  show WR 247 0 [some (vR x0), none] [] M Q
  refine g_1 (a := 0) (b := 0) (nx := 1) (by decide +kernel) ?_
  refine g_8 (a := 1) (b := 0) (nx := 2) (by decide +kernel) rfl (ls' := [some (vR x0), some (vI 0)]) rfl ?_
  exact h
theorem t_247_2 {x0 x1 : Int} {M : Mem} {Q : AV → Mem → Prop} (h0 : gO 12 x0) (h : inR x1 ∧ (if 12 ≤ x1 then (Q (vI 0) M) else ((gA 20 (M x0 67) x1) ∧ WR 247 2 [some (vR x0), some (vI (x1 + 1))] [] (upM M (M x0 67) x1 0) Q))) : WR 247 2 [some (vR x0), some (vI x1)] [] M Q := by
  refine g_5 (a := 1) (b := 0) (nx := 3) (by decide +kernel) rfl ?_
  refine g_1 (a := 12) (b := 0) (nx := 5) (by decide +kernel) ?_
  obtain ⟨r1, h⟩ := h
  by_cases c2 : 12 ≤ x1
  · rw [if_pos c2] at h
    refine g_41t (a := 3) (b := 21) (nx := 8) (by decide +kernel) (by rw [wr_id r1, wr_id (show inR 12 by decide)]; exact (cb_3 _ _).mpr c2) ?_
    exact g_90 (a := 0) (b := 0) (nx := 22) (by decide +kernel) h
  · rw [if_neg c2] at h
    refine g_41f (a := 3) (b := 21) (nx := 8) (by decide +kernel) (by rw [wr_id r1, wr_id (show inR 12 by decide)]; exact fun hz => c2 ((cb_3 _ _).mp hz)) ?_
    refine g_7 (a := 0) (b := 0) (nx := 9) (by decide +kernel) rfl ?_
    refine g_52 (a := 12) (b := 67) (nx := 12) (by decide +kernel) h0 ?_
    refine g_5 (a := 1) (b := 0) (nx := 13) (by decide +kernel) rfl ?_
    refine g_1 (a := 0) (b := 0) (nx := 14) (by decide +kernel) ?_
    refine g_62 (a := 0) (b := 0) (nx := 15) (by decide +kernel) h.1 ?_
    replace h := h.2
    refine g_11 (a := 1) (b := 1) (nx := 18) (by decide +kernel) rfl rfl (ls' := [some (vR x0), some (vI (x1 + 1))]) rfl ?_
    refine g_44 (a := 0) (b := 2) (nx := 21) (by decide +kernel) ?_
    exact h
-- 248 SyllableMakerModel.nextCut()Z
theorem t_248 {x0 : Int} {M : Mem} {Q : AV → Mem → Prop} (h0 : gO 12 x0) (h : WR 248 7 [some (vR x0), some (vI ((M x0 70) - 2))] [] M Q) : WC 248 [vR x0] M Q := by
  show WR 248 0 [some (vR x0), none] [] M Q
  refine g_7 (a := 0) (b := 0) (nx := 1) (by decide +kernel) rfl ?_
  refine g_50 (a := 12) (b := 70) (nx := 4) (by decide +kernel) h0 ?_
  refine g_1 (a := 2) (b := 0) (nx := 5) (by decide +kernel) ?_
  refine g_16 (a := 0) (b := 0) (nx := 6) (by decide +kernel) ?_
  refine g_8 (a := 1) (b := 0) (nx := 7) (by decide +kernel) rfl (ls' := [some (vR x0), some (vI ((M x0 70) - 2))]) rfl ?_
  exact h
theorem t_248_7 {x0 x1 : Int} {M : Mem} {Q : AV → Mem → Prop} (h0 : gO 12 x0) (h : inR x1 ∧ (if x1 < 0 then (Q (vI 0) M) else ((gA 20 (M x0 67) x1) ∧ WI 230 [vR x0, vI x1] M (fun y3 M2 => inR (M (M x0 67) x1) ∧ (inR y3 ∧ (if y3 ≤ (M (M x0 67) x1) then ((gA 20 (M2 x0 67) x1) ∧ WR 248 7 [some (vR x0), some (vI (x1 + (-1)))] [] (upM M2 (M2 x0 67) x1 0) Q) else ((gA 20 (M2 x0 67) x1) ∧ (gA 20 (M2 x0 67) x1) ∧ Q (vI 1) (upM M2 (M2 x0 67) x1 ((M2 (M2 x0 67) x1) + 1))))))))) : WR 248 7 [some (vR x0), some (vI x1)] [] M Q := by
  refine g_5 (a := 1) (b := 0) (nx := 8) (by decide +kernel) rfl ?_
  obtain ⟨r1, h⟩ := h
  by_cases c7 : x1 < 0
  · rw [if_pos c7] at h
    refine g_40t (a := 2) (b := 50) (nx := 11) (by decide +kernel) r1 (by exact (cb_2 _ _).mpr c7) ?_
    refine g_1 (a := 0) (b := 0) (nx := 51) (by decide +kernel) ?_
    exact g_91z (b := 0) (nx := 52) (by decide +kernel) (by decide) h
  · rw [if_neg c7] at h
    refine g_40f (a := 2) (b := 50) (nx := 11) (by decide +kernel) r1 (by exact fun hz => c7 ((cb_2 _ _).mp hz)) ?_
    refine g_7 (a := 0) (b := 0) (nx := 12) (by decide +kernel) rfl ?_
    refine g_52 (a := 12) (b := 67) (nx := 15) (by decide +kernel) h0 ?_
    refine g_5 (a := 1) (b := 0) (nx := 16) (by decide +kernel) rfl ?_
    refine g_61 (a := 0) (b := 0) (nx := 17) (by decide +kernel) h.1 ?_
    replace h := h.2
    refine g_7 (a := 0) (b := 0) (nx := 18) (by decide +kernel) rfl ?_
    refine g_5 (a := 1) (b := 0) (nx := 19) (by decide +kernel) rfl ?_
    refine g_80 (a := 230) (b := 1) (nx := 22) (by decide +kernel) (r := x0) (As := [vI x1]) (st' := [vI (M (M x0 67) x1)]) (z := 230) rfl rfl rfl (Nat.le_of_ble_eq_true rfl) h0.2 (Nat.le_of_ble_eq_true rfl) rfl (c_I (by decide +kernel) h (fun y3 M2 h => ?_))
    obtain ⟨r4, h⟩ := h
    obtain ⟨r5, h⟩ := h
    by_cases c6 : y3 ≤ (M (M x0 67) x1)
    · rw [if_pos c6] at h
      refine g_41t (a := 3) (b := 37) (nx := 25) (by decide +kernel) (by rw [wr_id r4, wr_id r5]; exact (cb_3 _ _).mpr c6) ?_
      refine g_7 (a := 0) (b := 0) (nx := 38) (by decide +kernel) rfl ?_
      refine g_52 (a := 12) (b := 67) (nx := 41) (by decide +kernel) h0 ?_
      refine g_5 (a := 1) (b := 0) (nx := 42) (by decide +kernel) rfl ?_
      refine g_1 (a := 0) (b := 0) (nx := 43) (by decide +kernel) ?_
      refine g_62 (a := 0) (b := 0) (nx := 44) (by decide +kernel) h.1 ?_
      replace h := h.2
      refine g_11 (a := 1) (b := (-1)) (nx := 47) (by decide +kernel) rfl rfl (ls' := [some (vR x0), some (vI (x1 + (-1)))]) rfl ?_
      refine g_44 (a := 0) (b := 7) (nx := 50) (by decide +kernel) ?_
      exact h
    · rw [if_neg c6] at h
      refine g_41f (a := 3) (b := 37) (nx := 25) (by decide +kernel) (by rw [wr_id r4, wr_id r5]; exact fun hz => c6 ((cb_3 _ _).mp hz)) ?_
      refine g_7 (a := 0) (b := 0) (nx := 26) (by decide +kernel) rfl ?_
      refine g_52 (a := 12) (b := 67) (nx := 29) (by decide +kernel) h0 ?_
      refine g_5 (a := 1) (b := 0) (nx := 30) (by decide +kernel) rfl ?_
      refine g_14 (a := 0) (b := 0) (nx := 31) (by decide +kernel) rfl rfl ?_
      refine g_61 (a := 0) (b := 0) (nx := 32) (by decide +kernel) h.1 ?_
      replace h := h.2
      refine g_1 (a := 1) (b := 0) (nx := 33) (by decide +kernel) ?_
      refine g_15 (a := 0) (b := 0) (nx := 34) (by decide +kernel) ?_
      refine g_62 (a := 0) (b := 0) (nx := 35) (by decide +kernel) h.1 ?_
      replace h := h.2
      refine g_1 (a := 1) (b := 0) (nx := 36) (by decide +kernel) ?_
      exact g_91z (b := 0) (nx := 37) (by decide +kernel) (by decide) h
-- 249 SyllableMakerModel.ways()I
theorem t_249 {x0 : Int} {M : Mem} {Q : AV → Mem → Prop} (h0 : gO 12 x0) (h : inR (M x0 70) ∧ (if (M x0 70) ≤ 0 then (WI 178 [vI 0] M (fun y3 M2 => WR 249 18 [some (vR x0), some (vI y3), some (vI 0)] [] M2 Q)) else (WI 178 [vI 1] M (fun y5 M4 => WR 249 18 [some (vR x0), some (vI y5), some (vI 0)] [] M4 Q)))) : WC 249 [vR x0] M Q := by
  show WR 249 0 [some (vR x0), none, none] [] M Q
  refine g_7 (a := 0) (b := 0) (nx := 1) (by decide +kernel) rfl ?_
  refine g_50 (a := 12) (b := 70) (nx := 4) (by decide +kernel) h0 ?_
  obtain ⟨r1, h⟩ := h
  by_cases c6 : (M x0 70) ≤ 0
  · rw [if_pos c6] at h
    refine g_40t (a := 5) (b := 11) (nx := 7) (by decide +kernel) r1 (by exact (cb_5 _ _).mpr c6) ?_
    refine g_1 (a := 0) (b := 0) (nx := 12) (by decide +kernel) ?_
    refine g_82 (a := 178) (b := 1) (nx := 15) (by decide +kernel) (As := [vI 0]) (st' := []) (z := 178) rfl rfl rfl (Nat.le_of_ble_eq_true rfl) (Nat.le_of_ble_eq_true rfl) rfl (c_I (by decide +kernel) h (fun y3 M2 h => ?_))
    refine g_8 (a := 1) (b := 0) (nx := 16) (by decide +kernel) rfl (ls' := [some (vR x0), some (vI y3), none]) rfl ?_
    refine g_1 (a := 0) (b := 0) (nx := 17) (by decide +kernel) ?_
    refine g_8 (a := 2) (b := 0) (nx := 18) (by decide +kernel) rfl (ls' := [some (vR x0), some (vI y3), some (vI 0)]) rfl ?_
    exact h
  · rw [if_neg c6] at h
    refine g_40f (a := 5) (b := 11) (nx := 7) (by decide +kernel) r1 (by exact fun hz => c6 ((cb_5 _ _).mp hz)) ?_
    refine g_1 (a := 1) (b := 0) (nx := 8) (by decide +kernel) ?_
    refine g_44 (a := 0) (b := 12) (nx := 11) (by decide +kernel) ?_
    refine g_82 (a := 178) (b := 1) (nx := 15) (by decide +kernel) (As := [vI 1]) (st' := []) (z := 178) rfl rfl rfl (Nat.le_of_ble_eq_true rfl) (Nat.le_of_ble_eq_true rfl) rfl (c_I (by decide +kernel) h (fun y5 M4 h => ?_))
    refine g_8 (a := 1) (b := 0) (nx := 16) (by decide +kernel) rfl (ls' := [some (vR x0), some (vI y5), none]) rfl ?_
    refine g_1 (a := 0) (b := 0) (nx := 17) (by decide +kernel) ?_
    refine g_8 (a := 2) (b := 0) (nx := 18) (by decide +kernel) rfl (ls' := [some (vR x0), some (vI y5), some (vI 0)]) rfl ?_
    exact h
theorem t_249_18 {x0 x1 x2 : Int} {M : Mem} {Q : AV → Mem → Prop} (h0 : gO 12 x0) (h : inR (x2 + 1) ∧ (inR (M x0 70) ∧ (if (M x0 70) ≤ (x2 + 1) then (Q (vI x1) M) else (WI 230 [vR x0, vI x2] M (fun y4 M3 => WR 249 18 [some (vR x0), some (vI (x1 * (y4 + 1))), some (vI (x2 + 1))] [] M3 Q))))) : WR 249 18 [some (vR x0), some (vI x1), some (vI x2)] [] M Q := by
  refine g_5 (a := 2) (b := 0) (nx := 19) (by decide +kernel) rfl ?_
  refine g_1 (a := 1) (b := 0) (nx := 20) (by decide +kernel) ?_
  refine g_15 (a := 0) (b := 0) (nx := 21) (by decide +kernel) ?_
  refine g_7 (a := 0) (b := 0) (nx := 22) (by decide +kernel) rfl ?_
  refine g_50 (a := 12) (b := 70) (nx := 25) (by decide +kernel) h0 ?_
  obtain ⟨r1, h⟩ := h
  obtain ⟨r2, h⟩ := h
  by_cases c5 : (M x0 70) ≤ (x2 + 1)
  · rw [if_pos c5] at h
    refine g_41t (a := 3) (b := 44) (nx := 28) (by decide +kernel) (by rw [wr_id r1, wr_id r2]; exact (cb_3 _ _).mpr c5) ?_
    refine g_5 (a := 1) (b := 0) (nx := 45) (by decide +kernel) rfl ?_
    exact g_91 (b := 0) (nx := 46) (by decide +kernel) h
  · rw [if_neg c5] at h
    refine g_41f (a := 3) (b := 44) (nx := 28) (by decide +kernel) (by rw [wr_id r1, wr_id r2]; exact fun hz => c5 ((cb_3 _ _).mp hz)) ?_
    refine g_5 (a := 1) (b := 0) (nx := 29) (by decide +kernel) rfl ?_
    refine g_7 (a := 0) (b := 0) (nx := 30) (by decide +kernel) rfl ?_
    refine g_5 (a := 2) (b := 0) (nx := 31) (by decide +kernel) rfl ?_
    refine g_80 (a := 230) (b := 1) (nx := 34) (by decide +kernel) (r := x0) (As := [vI x2]) (st' := [vI x1]) (z := 230) rfl rfl rfl (Nat.le_of_ble_eq_true rfl) h0.2 (Nat.le_of_ble_eq_true rfl) rfl (c_I (by decide +kernel) h (fun y4 M3 h => ?_))
    refine g_1 (a := 1) (b := 0) (nx := 35) (by decide +kernel) ?_
    refine g_15 (a := 0) (b := 0) (nx := 36) (by decide +kernel) ?_
    refine g_17 (a := 0) (b := 0) (nx := 37) (by decide +kernel) ?_
    refine g_8 (a := 1) (b := 0) (nx := 38) (by decide +kernel) rfl (ls' := [some (vR x0), some (vI (x1 * (y4 + 1))), some (vI x2)]) rfl ?_
    refine g_11 (a := 2) (b := 1) (nx := 41) (by decide +kernel) rfl rfl (ls' := [some (vR x0), some (vI (x1 * (y4 + 1))), some (vI (x2 + 1))]) rfl ?_
    refine g_44 (a := 0) (b := 18) (nx := 44) (by decide +kernel) ?_
    exact h
-- 250 SyllableMakerModel.cutsCheaply()I
theorem t_250 {x0 : Int} {M : Mem} {Q : AV → Mem → Prop} (h0 : gO 12 x0) (h : WV 247 [vR x0] M (fun M1 => WR 250 8 [some (vR x0), some (vI (-1)), some (vI 1), none, none] [] M1 Q)) : WC 250 [vR x0] M Q := by
  show WR 250 0 [some (vR x0), none, none, none, none] [] M Q
  refine g_7 (a := 0) (b := 0) (nx := 1) (by decide +kernel) rfl ?_
  refine g_80 (a := 247) (b := 0) (nx := 4) (by decide +kernel) (r := x0) (As := []) (st' := []) (z := 247) rfl rfl rfl (Nat.le_of_ble_eq_true rfl) h0.2 (Nat.le_of_ble_eq_true rfl) rfl (c_V (by decide +kernel) h (fun M1 h => ?_))
  refine g_1 (a := (-1)) (b := 0) (nx := 5) (by decide +kernel) ?_
  refine g_8 (a := 1) (b := 0) (nx := 6) (by decide +kernel) rfl (ls' := [some (vR x0), some (vI (-1)), none, none, none]) rfl ?_
  refine g_1 (a := 1) (b := 0) (nx := 7) (by decide +kernel) ?_
  refine g_8 (a := 2) (b := 0) (nx := 8) (by decide +kernel) rfl (ls' := [some (vR x0), some (vI (-1)), some (vI 1), none, none]) rfl ?_
  exact h
theorem t_250_8 {x0 x1 x2 : Int} {l3 l4 : Option AV} {M : Mem} {Q : AV → Mem → Prop} (h0 : gO 12 x0) (h : inR x2 ∧ (if x2 = 0 then (WR 250 69 [some (vR x0), some (vI x1), some (vI x2), some (vI 0), l4] [] M Q) else (WI 246 [vR x0] M (fun y3 M2 => inR x1 ∧ (if x1 = (-1) then (WR 250 32 [some (vR x0), some (vI y3), some (vI x2), some (vI y3), some (vI 0)] [] M2 Q) else (inR y3 ∧ (if x1 ≤ y3 then (WI 248 [vR x0] M2 (fun y7 M6 => WR 250 8 [some (vR x0), some (vI x1), some (vI y7), some (vI y3), l4] [] M6 Q)) else (WR 250 32 [some (vR x0), some (vI y3), some (vI x2), some (vI y3), some (vI 0)] [] M2 Q)))))))) : WR 250 8 [some (vR x0), some (vI x1), some (vI x2), l3, l4] [] M Q := by
  refine g_5 (a := 2) (b := 0) (nx := 9) (by decide +kernel) rfl ?_
  obtain ⟨r1, h⟩ := h
  by_cases c10 : x2 = 0
  · rw [if_pos c10] at h
    refine g_40t (a := 0) (b := 67) (nx := 12) (by decide +kernel) r1 (by exact (cb_0 _ _).mpr c10) ?_
    refine g_1 (a := 0) (b := 0) (nx := 68) (by decide +kernel) ?_
    refine g_8 (a := 3) (b := 0) (nx := 69) (by decide +kernel) rfl (ls' := [some (vR x0), some (vI x1), some (vI x2), some (vI 0), l4]) rfl ?_
    exact h
  · rw [if_neg c10] at h
    refine g_40f (a := 0) (b := 67) (nx := 12) (by decide +kernel) r1 (by exact fun hz => c10 ((cb_0 _ _).mp hz)) ?_
    refine g_7 (a := 0) (b := 0) (nx := 13) (by decide +kernel) rfl ?_
    refine g_80 (a := 246) (b := 0) (nx := 16) (by decide +kernel) (r := x0) (As := []) (st' := []) (z := 246) rfl rfl rfl (Nat.le_of_ble_eq_true rfl) h0.2 (Nat.le_of_ble_eq_true rfl) rfl (c_I (by decide +kernel) h (fun y3 M2 h => ?_))
    refine g_8 (a := 3) (b := 0) (nx := 17) (by decide +kernel) rfl (ls' := [some (vR x0), some (vI x1), some (vI x2), some (vI y3), l4]) rfl ?_
    refine g_5 (a := 1) (b := 0) (nx := 18) (by decide +kernel) rfl ?_
    refine g_1 (a := (-1)) (b := 0) (nx := 19) (by decide +kernel) ?_
    obtain ⟨r4, h⟩ := h
    by_cases c9 : x1 = (-1)
    · rw [if_pos c9] at h
      refine g_41t (a := 0) (b := 27) (nx := 22) (by decide +kernel) (by rw [wr_id r4, wr_id (show inR (-1) by decide)]; exact (cb_0 _ _).mpr c9) ?_
      refine g_5 (a := 3) (b := 0) (nx := 28) (by decide +kernel) rfl ?_
      refine g_8 (a := 1) (b := 0) (nx := 29) (by decide +kernel) rfl (ls' := [some (vR x0), some (vI y3), some (vI x2), some (vI y3), l4]) rfl ?_
      refine g_1 (a := 0) (b := 0) (nx := 30) (by decide +kernel) ?_
      refine g_8 (a := 4) (b := 0) (nx := 32) (by decide +kernel) rfl (ls' := [some (vR x0), some (vI y3), some (vI x2), some (vI y3), some (vI 0)]) rfl ?_
      exact h
    · rw [if_neg c9] at h
      refine g_41f (a := 0) (b := 27) (nx := 22) (by decide +kernel) (by rw [wr_id r4, wr_id (show inR (-1) by decide)]; exact fun hz => c9 ((cb_0 _ _).mp hz)) ?_
      refine g_5 (a := 3) (b := 0) (nx := 23) (by decide +kernel) rfl ?_
      refine g_5 (a := 1) (b := 0) (nx := 24) (by decide +kernel) rfl ?_
      obtain ⟨r5, h⟩ := h
      by_cases c8 : x1 ≤ y3
      · rw [if_pos c8] at h
        refine g_41t (a := 3) (b := 59) (nx := 27) (by decide +kernel) (by rw [wr_id r5, wr_id r4]; exact (cb_3 _ _).mpr c8) ?_
        refine g_7 (a := 0) (b := 0) (nx := 60) (by decide +kernel) rfl ?_
        refine g_80 (a := 248) (b := 0) (nx := 63) (by decide +kernel) (r := x0) (As := []) (st' := []) (z := 248) rfl rfl rfl (Nat.le_of_ble_eq_true rfl) h0.2 (Nat.le_of_ble_eq_true rfl) rfl (c_I (by decide +kernel) h (fun y7 M6 h => ?_))
        refine g_8 (a := 2) (b := 0) (nx := 64) (by decide +kernel) rfl (ls' := [some (vR x0), some (vI x1), some (vI y7), some (vI y3), l4]) rfl ?_
        refine g_44 (a := 0) (b := 8) (nx := 67) (by decide +kernel) ?_
        exact h
      · rw [if_neg c8] at h
        refine g_41f (a := 3) (b := 59) (nx := 27) (by decide +kernel) (by rw [wr_id r5, wr_id r4]; exact fun hz => c8 ((cb_3 _ _).mp hz)) ?_
        refine g_5 (a := 3) (b := 0) (nx := 28) (by decide +kernel) rfl ?_
        refine g_8 (a := 1) (b := 0) (nx := 29) (by decide +kernel) rfl (ls' := [some (vR x0), some (vI y3), some (vI x2), some (vI y3), l4]) rfl ?_
        refine g_1 (a := 0) (b := 0) (nx := 30) (by decide +kernel) ?_
        refine g_8 (a := 4) (b := 0) (nx := 32) (by decide +kernel) rfl (ls' := [some (vR x0), some (vI y3), some (vI x2), some (vI y3), some (vI 0)]) rfl ?_
        exact h
theorem t_250_32 {x0 x1 x2 x3 x4 : Int} {M : Mem} {Q : AV → Mem → Prop} (h0 : gO 12 x0) (h : inR x4 ∧ (if 12 ≤ x4 then (WI 248 [vR x0] M (fun y3 M2 => WR 250 8 [some (vR x0), some (vI x1), some (vI y3), some (vI x3), some (vI x4)] [] M2 Q)) else ((gA 20 (M x0 67) x4) ∧ (gA 20 (M x0 68) x4) ∧ WR 250 32 [some (vR x0), some (vI x1), some (vI x2), some (vI x3), some (vI (x4 + 1))] [] (upM M (M x0 68) x4 (M (M x0 67) x4)) Q))) : WR 250 32 [some (vR x0), some (vI x1), some (vI x2), some (vI x3), some (vI x4)] [] M Q := by
  refine g_5 (a := 4) (b := 0) (nx := 34) (by decide +kernel) rfl ?_
  refine g_1 (a := 12) (b := 0) (nx := 36) (by decide +kernel) ?_
  obtain ⟨r1, h⟩ := h
  by_cases c4 : 12 ≤ x4
  · rw [if_pos c4] at h
    refine g_41t (a := 3) (b := 59) (nx := 39) (by decide +kernel) (by rw [wr_id r1, wr_id (show inR 12 by decide)]; exact (cb_3 _ _).mpr c4) ?_
    refine g_7 (a := 0) (b := 0) (nx := 60) (by decide +kernel) rfl ?_
    refine g_80 (a := 248) (b := 0) (nx := 63) (by decide +kernel) (r := x0) (As := []) (st' := []) (z := 248) rfl rfl rfl (Nat.le_of_ble_eq_true rfl) h0.2 (Nat.le_of_ble_eq_true rfl) rfl (c_I (by decide +kernel) h (fun y3 M2 h => ?_))
    refine g_8 (a := 2) (b := 0) (nx := 64) (by decide +kernel) rfl (ls' := [some (vR x0), some (vI x1), some (vI y3), some (vI x3), some (vI x4)]) rfl ?_
    refine g_44 (a := 0) (b := 8) (nx := 67) (by decide +kernel) ?_
    exact h
  · rw [if_neg c4] at h
    refine g_41f (a := 3) (b := 59) (nx := 39) (by decide +kernel) (by rw [wr_id r1, wr_id (show inR 12 by decide)]; exact fun hz => c4 ((cb_3 _ _).mp hz)) ?_
    refine g_7 (a := 0) (b := 0) (nx := 40) (by decide +kernel) rfl ?_
    refine g_52 (a := 12) (b := 68) (nx := 43) (by decide +kernel) h0 ?_
    refine g_5 (a := 4) (b := 0) (nx := 45) (by decide +kernel) rfl ?_
    refine g_7 (a := 0) (b := 0) (nx := 46) (by decide +kernel) rfl ?_
    refine g_52 (a := 12) (b := 67) (nx := 49) (by decide +kernel) h0 ?_
    refine g_5 (a := 4) (b := 0) (nx := 51) (by decide +kernel) rfl ?_
    refine g_61 (a := 0) (b := 0) (nx := 52) (by decide +kernel) h.1 ?_
    replace h := h.2
    refine g_62 (a := 0) (b := 0) (nx := 53) (by decide +kernel) h.1 ?_
    replace h := h.2
    refine g_11 (a := 4) (b := 1) (nx := 56) (by decide +kernel) rfl rfl (ls' := [some (vR x0), some (vI x1), some (vI x2), some (vI x3), some (vI (x4 + 1))]) rfl ?_
    refine g_44 (a := 0) (b := 32) (nx := 59) (by decide +kernel) ?_
    exact h
theorem t_250_69 {x0 x1 x2 x3 : Int} {l4 : Option AV} {M : Mem} {Q : AV → Mem → Prop} (h0 : gO 12 x0) (h : inR x3 ∧ (if 12 ≤ x3 then (Q (vI x1) M) else ((gA 20 (M x0 68) x3) ∧ (gA 20 (M x0 67) x3) ∧ WR 250 69 [some (vR x0), some (vI x1), some (vI x2), some (vI (x3 + 1)), l4] [] (upM M (M x0 67) x3 (M (M x0 68) x3)) Q))) : WR 250 69 [some (vR x0), some (vI x1), some (vI x2), some (vI x3), l4] [] M Q := by
  refine g_5 (a := 3) (b := 0) (nx := 70) (by decide +kernel) rfl ?_
  refine g_1 (a := 12) (b := 0) (nx := 72) (by decide +kernel) ?_
  obtain ⟨r1, h⟩ := h
  by_cases c2 : 12 ≤ x3
  · rw [if_pos c2] at h
    refine g_41t (a := 3) (b := 93) (nx := 75) (by decide +kernel) (by rw [wr_id r1, wr_id (show inR 12 by decide)]; exact (cb_3 _ _).mpr c2) ?_
    refine g_5 (a := 1) (b := 0) (nx := 94) (by decide +kernel) rfl ?_
    exact g_91 (b := 0) (nx := 95) (by decide +kernel) h
  · rw [if_neg c2] at h
    refine g_41f (a := 3) (b := 93) (nx := 75) (by decide +kernel) (by rw [wr_id r1, wr_id (show inR 12 by decide)]; exact fun hz => c2 ((cb_3 _ _).mp hz)) ?_
    refine g_7 (a := 0) (b := 0) (nx := 76) (by decide +kernel) rfl ?_
    refine g_52 (a := 12) (b := 67) (nx := 79) (by decide +kernel) h0 ?_
    refine g_5 (a := 3) (b := 0) (nx := 80) (by decide +kernel) rfl ?_
    refine g_7 (a := 0) (b := 0) (nx := 81) (by decide +kernel) rfl ?_
    refine g_52 (a := 12) (b := 68) (nx := 84) (by decide +kernel) h0 ?_
    refine g_5 (a := 3) (b := 0) (nx := 85) (by decide +kernel) rfl ?_
    refine g_61 (a := 0) (b := 0) (nx := 86) (by decide +kernel) h.1 ?_
    replace h := h.2
    refine g_62 (a := 0) (b := 0) (nx := 87) (by decide +kernel) h.1 ?_
    replace h := h.2
    refine g_11 (a := 3) (b := 1) (nx := 90) (by decide +kernel) rfl rfl (ls' := [some (vR x0), some (vI x1), some (vI x2), some (vI (x3 + 1)), l4]) rfl ?_
    refine g_44 (a := 0) (b := 69) (nx := 93) (by decide +kernel) ?_
    exact h
