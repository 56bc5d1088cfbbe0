/-! TREES, printed by a program: what each method's run comes to. -/
-- 251 SyllableMakerModel.cutsUpTo(I)I
theorem t_251 {x0 x1 : Int} {M : Mem} {Q : AV → Mem → Prop} (h0 : gO 12 x0) (h : inR (M x0 70) ∧ (if (M x0 70) = 0 then (Q (vI 0) M) else (WV 247 [vR x0] M (fun M2 => WR 251 17 [some (vR x0), some (vI x1), some (vI 0), some (vI 1)] [] M2 Q)))) : WC 251 [vR x0, vI x1] M Q := by
  show WR 251 0 [some (vR x0), some (vI x1), none, none] [] M Q
  refine g_7 (a := 0) (b := 0) (nx := 1) (by decide +kernel) rfl ?_
  refine g_50 (a := 12) (b := 70) (nx := 4) (by decide +kernel) h0 ?_
  obtain ⟨r1, h⟩ := h
  by_cases c4 : (M x0 70) = 0
  · rw [if_pos c4] at h
    refine g_40f (a := 1) (b := 9) (nx := 7) (by decide +kernel) r1 (by exact fun hz => ((cb_1 _ _).mp hz) c4) ?_
    refine g_1 (a := 0) (b := 0) (nx := 8) (by decide +kernel) ?_
    exact g_91 (b := 0) (nx := 9) (by decide +kernel) h
  · rw [if_neg c4] at h
    refine g_40t (a := 1) (b := 9) (nx := 7) (by decide +kernel) r1 (by exact (cb_1 _ _).mpr c4) ?_
    refine g_7 (a := 0) (b := 0) (nx := 10) (by decide +kernel) rfl ?_
    refine g_80 (a := 247) (b := 0) (nx := 13) (by decide +kernel) (r := x0) (As := []) (st' := []) (z := 247) rfl rfl rfl (Nat.le_of_ble_eq_true rfl) h0.2 (Nat.le_of_ble_eq_true rfl) rfl (c_V (by decide +kernel) h (fun M2 h => ?_))
    refine g_1 (a := 0) (b := 0) (nx := 14) (by decide +kernel) ?_
    refine g_8 (a := 2) (b := 0) (nx := 15) (by decide +kernel) rfl (ls' := [some (vR x0), some (vI x1), some (vI 0), none]) rfl ?_
    refine g_1 (a := 1) (b := 0) (nx := 16) (by decide +kernel) ?_
    refine g_8 (a := 3) (b := 0) (nx := 17) (by decide +kernel) rfl (ls' := [some (vR x0), some (vI x1), some (vI 0), some (vI 1)]) rfl ?_
    exact h
theorem t_251_17 {x0 x1 x2 x3 : Int} {M : Mem} {Q : AV → Mem → Prop} (h0 : gO 12 x0) (h : inR x3 ∧ (if x3 = 0 then (Q (vI x2) M) else (WI 246 [vR x0] M (fun y3 M2 => inR y3 ∧ (inR x1 ∧ (if x1 < y3 then (WI 178 [vI 0] M2 (fun y7 M6 => WI 248 [vR x0] M6 (fun y9 M8 => WR 251 17 [some (vR x0), some (vI x1), some (vI (x2 + y7)), some (vI y9)] [] M8 Q))) else (WI 178 [vI 1] M2 (fun y11 M10 => WI 248 [vR x0] M10 (fun y13 M12 => WR 251 17 [some (vR x0), some (vI x1), some (vI (x2 + y11)), some (vI y13)] [] M12 Q))))))))) : WR 251 17 [some (vR x0), some (vI x1), some (vI x2), some (vI x3)] [] M Q := by
  refine g_5 (a := 3) (b := 0) (nx := 18) (by decide +kernel) rfl ?_
  obtain ⟨r1, h⟩ := h
  by_cases c15 : x3 = 0
  · rw [if_pos c15] at h
    refine g_40t (a := 0) (b := 48) (nx := 21) (by decide +kernel) r1 (by exact (cb_0 _ _).mpr c15) ?_
    refine g_5 (a := 2) (b := 0) (nx := 49) (by decide +kernel) rfl ?_
    exact g_91 (b := 0) (nx := 50) (by decide +kernel) h
  · rw [if_neg c15] at h
    refine g_40f (a := 0) (b := 48) (nx := 21) (by decide +kernel) r1 (by exact fun hz => c15 ((cb_0 _ _).mp hz)) ?_
    refine g_5 (a := 2) (b := 0) (nx := 22) (by decide +kernel) rfl ?_
    refine g_7 (a := 0) (b := 0) (nx := 23) (by decide +kernel) rfl ?_
    refine g_80 (a := 246) (b := 0) (nx := 26) (by decide +kernel) (r := x0) (As := []) (st' := [vI x2]) (z := 246) rfl rfl rfl (Nat.le_of_ble_eq_true rfl) h0.2 (Nat.le_of_ble_eq_true rfl) rfl (c_I (by decide +kernel) h (fun y3 M2 h => ?_))
    refine g_5 (a := 1) (b := 0) (nx := 27) (by decide +kernel) rfl ?_
    obtain ⟨r4, h⟩ := h
    obtain ⟨r5, h⟩ := h
    by_cases c14 : x1 < y3
    · rw [if_pos c14] at h
      refine g_41t (a := 4) (b := 34) (nx := 30) (by decide +kernel) (by rw [wr_id r4, wr_id r5]; exact (cb_4 _ _).mpr c14) ?_
      refine g_1 (a := 0) (b := 0) (nx := 35) (by decide +kernel) ?_
      refine g_82 (a := 178) (b := 1) (nx := 38) (by decide +kernel) (As := [vI 0]) (st' := [vI x2]) (z := 178) rfl rfl rfl (Nat.le_of_ble_eq_true rfl) (Nat.le_of_ble_eq_true rfl) rfl (c_I (by decide +kernel) h (fun y7 M6 h => ?_))
      refine g_15 (a := 0) (b := 0) (nx := 39) (by decide +kernel) ?_
      refine g_8 (a := 2) (b := 0) (nx := 40) (by decide +kernel) rfl (ls' := [some (vR x0), some (vI x1), some (vI (x2 + y7)), some (vI x3)]) rfl ?_
      refine g_7 (a := 0) (b := 0) (nx := 41) (by decide +kernel) rfl ?_
      refine g_80 (a := 248) (b := 0) (nx := 44) (by decide +kernel) (r := x0) (As := []) (st' := []) (z := 248) rfl rfl rfl (Nat.le_of_ble_eq_true rfl) h0.2 (Nat.le_of_ble_eq_true rfl) rfl (c_I (by decide +kernel) h (fun y9 M8 h => ?_))
      refine g_8 (a := 3) (b := 0) (nx := 45) (by decide +kernel) rfl (ls' := [some (vR x0), some (vI x1), some (vI (x2 + y7)), some (vI y9)]) rfl ?_
      refine g_44 (a := 0) (b := 17) (nx := 48) (by decide +kernel) ?_
      exact h
    · rw [if_neg c14] at h
      refine g_41f (a := 4) (b := 34) (nx := 30) (by decide +kernel) (by rw [wr_id r4, wr_id r5]; exact fun hz => c14 ((cb_4 _ _).mp hz)) ?_
      refine g_1 (a := 1) (b := 0) (nx := 31) (by decide +kernel) ?_
      refine g_44 (a := 0) (b := 35) (nx := 34) (by decide +kernel) ?_
      refine g_82 (a := 178) (b := 1) (nx := 38) (by decide +kernel) (As := [vI 1]) (st' := [vI x2]) (z := 178) rfl rfl rfl (Nat.le_of_ble_eq_true rfl) (Nat.le_of_ble_eq_true rfl) rfl (c_I (by decide +kernel) h (fun y11 M10 h => ?_))
      refine g_15 (a := 0) (b := 0) (nx := 39) (by decide +kernel) ?_
      refine g_8 (a := 2) (b := 0) (nx := 40) (by decide +kernel) rfl (ls' := [some (vR x0), some (vI x1), some (vI (x2 + y11)), some (vI x3)]) rfl ?_
      refine g_7 (a := 0) (b := 0) (nx := 41) (by decide +kernel) rfl ?_
      refine g_80 (a := 248) (b := 0) (nx := 44) (by decide +kernel) (r := x0) (As := []) (st' := []) (z := 248) rfl rfl rfl (Nat.le_of_ble_eq_true rfl) h0.2 (Nat.le_of_ble_eq_true rfl) rfl (c_I (by decide +kernel) h (fun y13 M12 h => ?_))
      refine g_8 (a := 3) (b := 0) (nx := 45) (by decide +kernel) rfl (ls' := [some (vR x0), some (vI x1), some (vI (x2 + y11)), some (vI y13)]) rfl ?_
      refine g_44 (a := 0) (b := 17) (nx := 48) (by decide +kernel) ?_
      exact h
-- 252 SyllableMakerModel.stress()I
theorem t_252 {x0 : Int} {M : Mem} {Q : AV → Mem → Prop} (h0 : gO 12 x0) (h : WI 180 [vI 0, vI ((M x0 70) - (M x0 47))] M (fun y2 M1 => WR 252 16 [some (vR x0), some (vI (-1)), some (vI y2)] [] M1 Q)) : WC 252 [vR x0] M Q := by
  show WR 252 0 [some (vR x0), none, none] [] M Q
  refine g_1 (a := (-1)) (b := 0) (nx := 1) (by decide +kernel) ?_
  refine g_8 (a := 1) (b := 0) (nx := 2) (by decide +kernel) rfl (ls' := [some (vR x0), some (vI (-1)), none]) rfl ?_
  refine g_1 (a := 0) (b := 0) (nx := 3) (by decide +kernel) ?_
  refine g_7 (a := 0) (b := 0) (nx := 4) (by decide +kernel) rfl ?_
  refine g_50 (a := 12) (b := 70) (nx := 7) (by decide +kernel) h0 ?_
  refine g_7 (a := 0) (b := 0) (nx := 8) (by decide +kernel) rfl ?_
  refine g_50 (a := 12) (b := 47) (nx := 11) (by decide +kernel) h0 ?_
  refine g_16 (a := 0) (b := 0) (nx := 12) (by decide +kernel) ?_
  refine g_82 (a := 180) (b := 2) (nx := 15) (by decide +kernel) (As := [vI 0, vI ((M x0 70) - (M x0 47))]) (st' := []) (z := 180) rfl rfl rfl (Nat.le_of_ble_eq_true rfl) (Nat.le_of_ble_eq_true rfl) rfl (c_I (by decide +kernel) h (fun y2 M1 h => ?_))
  refine g_8 (a := 2) (b := 0) (nx := 16) (by decide +kernel) rfl (ls' := [some (vR x0), some (vI (-1)), some (vI y2)]) rfl ?_
  exact h
theorem t_252_16 {x0 x1 x2 : Int} {M : Mem} {Q : AV → Mem → Prop} (h0 : gO 12 x0) (h : inR x2 ∧ (inR ((M x0 70) - 1) ∧ (if ((M x0 70) - 1) ≤ x2 then (inR x1 ∧ (if x1 = (-1) then (WI 180 [vI 0, vI ((M x0 70) - (M x0 46))] M (fun y5 M4 => Q (vI y5) M4)) else (Q (vI x1) M))) else (WI 243 [vR x0, vI x2] M (fun y8 M7 => inR y8 ∧ (if y8 = 0 then (WR 252 16 [some (vR x0), some (vI x1), some (vI (x2 + 1))] [] M7 Q) else (WR 252 16 [some (vR x0), some (vI x2), some (vI (x2 + 1))] [] M7 Q))))))) : WR 252 16 [some (vR x0), some (vI x1), some (vI x2)] [] M Q := by
  refine g_5 (a := 2) (b := 0) (nx := 17) (by decide +kernel) rfl ?_
  refine g_7 (a := 0) (b := 0) (nx := 18) (by decide +kernel) rfl ?_
  refine g_50 (a := 12) (b := 70) (nx := 21) (by decide +kernel) h0 ?_
  refine g_1 (a := 1) (b := 0) (nx := 22) (by decide +kernel) ?_
  refine g_16 (a := 0) (b := 0) (nx := 23) (by decide +kernel) ?_
  obtain ⟨r1, h⟩ := h
  obtain ⟨r2, h⟩ := h
  by_cases c11 : ((M x0 70) - 1) ≤ x2
  · rw [if_pos c11] at h
    refine g_41t (a := 3) (b := 42) (nx := 26) (by decide +kernel) (by rw [wr_id r1, wr_id r2]; exact (cb_3 _ _).mpr c11) ?_
    refine g_5 (a := 1) (b := 0) (nx := 43) (by decide +kernel) rfl ?_
    refine g_1 (a := (-1)) (b := 0) (nx := 44) (by decide +kernel) ?_
    obtain ⟨r3, h⟩ := h
    by_cases c6 : x1 = (-1)
    · rw [if_pos c6] at h
      refine g_41t (a := 0) (b := 51) (nx := 47) (by decide +kernel) (by rw [wr_id r3, wr_id (show inR (-1) by decide)]; exact (cb_0 _ _).mpr c6) ?_
      refine g_1 (a := 0) (b := 0) (nx := 52) (by decide +kernel) ?_
      refine g_7 (a := 0) (b := 0) (nx := 53) (by decide +kernel) rfl ?_
      refine g_50 (a := 12) (b := 70) (nx := 56) (by decide +kernel) h0 ?_
      refine g_7 (a := 0) (b := 0) (nx := 57) (by decide +kernel) rfl ?_
      refine g_50 (a := 12) (b := 46) (nx := 60) (by decide +kernel) h0 ?_
      refine g_16 (a := 0) (b := 0) (nx := 61) (by decide +kernel) ?_
      refine g_82 (a := 180) (b := 2) (nx := 64) (by decide +kernel) (As := [vI 0, vI ((M x0 70) - (M x0 46))]) (st' := []) (z := 180) rfl rfl rfl (Nat.le_of_ble_eq_true rfl) (Nat.le_of_ble_eq_true rfl) rfl (c_I (by decide +kernel) h (fun y5 M4 h => ?_))
      exact g_91 (b := 0) (nx := 65) (by decide +kernel) h
    · rw [if_neg c6] at h
      refine g_41f (a := 0) (b := 51) (nx := 47) (by decide +kernel) (by rw [wr_id r3, wr_id (show inR (-1) by decide)]; exact fun hz => c6 ((cb_0 _ _).mp hz)) ?_
      refine g_5 (a := 1) (b := 0) (nx := 48) (by decide +kernel) rfl ?_
      refine g_44 (a := 0) (b := 64) (nx := 51) (by decide +kernel) ?_
      exact g_91 (b := 0) (nx := 65) (by decide +kernel) h
  · rw [if_neg c11] at h
    refine g_41f (a := 3) (b := 42) (nx := 26) (by decide +kernel) (by rw [wr_id r1, wr_id r2]; exact fun hz => c11 ((cb_3 _ _).mp hz)) ?_
    refine g_7 (a := 0) (b := 0) (nx := 27) (by decide +kernel) rfl ?_
    refine g_5 (a := 2) (b := 0) (nx := 28) (by decide +kernel) rfl ?_
    refine g_80 (a := 243) (b := 1) (nx := 31) (by decide +kernel) (r := x0) (As := [vI x2]) (st' := []) (z := 243) rfl rfl rfl (Nat.le_of_ble_eq_true rfl) h0.2 (Nat.le_of_ble_eq_true rfl) rfl (c_I (by decide +kernel) h (fun y8 M7 h => ?_))
    obtain ⟨r9, h⟩ := h
    by_cases c10 : y8 = 0
    · rw [if_pos c10] at h
      refine g_40t (a := 0) (b := 36) (nx := 34) (by decide +kernel) r9 (by exact (cb_0 _ _).mpr c10) ?_
      refine g_11 (a := 2) (b := 1) (nx := 39) (by decide +kernel) rfl rfl (ls' := [some (vR x0), some (vI x1), some (vI (x2 + 1))]) rfl ?_
      refine g_44 (a := 0) (b := 16) (nx := 42) (by decide +kernel) ?_
      exact h
    · rw [if_neg c10] at h
      refine g_40f (a := 0) (b := 36) (nx := 34) (by decide +kernel) r9 (by exact fun hz => c10 ((cb_0 _ _).mp hz)) ?_
      refine g_5 (a := 2) (b := 0) (nx := 35) (by decide +kernel) rfl ?_
      refine g_8 (a := 1) (b := 0) (nx := 36) (by decide +kernel) rfl (ls' := [some (vR x0), some (vI x2), some (vI x2)]) rfl ?_
      refine g_11 (a := 2) (b := 1) (nx := 39) (by decide +kernel) rfl rfl (ls' := [some (vR x0), some (vI x2), some (vI (x2 + 1))]) rfl ?_
      refine g_44 (a := 0) (b := 16) (nx := 42) (by decide +kernel) ?_
      exact h
-- 253 SyllableMakerModel.word(II)I
theorem t_253 {x0 x1 x2 : Int} {M : Mem} {Q : AV → Mem → Prop} (h0 : gO 12 x0) (h : WI 219 [vR x0, vI x1] M (fun y2 M1 => inR y2 ∧ (if y2 = 0 then (Q (vI (-1)) M1) else (WI 177 [vL (wr32 x2), vL 0, vL 5] M1 (fun y5 M4 => inR y5 ∧ (if y5 = 0 then (Q (vI (-1)) M4) else (WV 227 [vR x0, vI x1] M4 (fun M7 => inR x2 ∧ (if x2 = 0 then (Q (vI (M7 x0 69)) M7) else (if x2 = 1 then (Q (vI (M7 x0 70)) M7) else (if x2 = 5 then (WI 249 [vR x0] M7 (fun y23 M22 => Q (vI y23) M22)) else (inR (M7 x0 70) ∧ (if (M7 x0 70) = 0 then (Q (vI (-1)) M7) else (if x2 = 4 then (WI 250 [vR x0] M7 (fun y19 M18 => Q (vI y19) M18)) else (WV 238 [vR x0] M7 (fun M11 => if x2 = 2 then (WI 252 [vR x0] M11 (fun y16 M15 => Q (vI y16) M15)) else (WI 246 [vR x0] M11 (fun y14 M13 => Q (vI y14) M13)))))))))))))))))) : WC 253 [vR x0, vI x1, vI x2] M Q := by
  show WR 253 0 [some (vR x0), some (vI x1), some (vI x2)] [] M Q
  refine g_7 (a := 0) (b := 0) (nx := 1) (by decide +kernel) rfl ?_
  refine g_5 (a := 1) (b := 0) (nx := 2) (by decide +kernel) rfl ?_
  refine g_80 (a := 219) (b := 1) (nx := 5) (by decide +kernel) (r := x0) (As := [vI x1]) (st' := []) (z := 219) rfl rfl rfl (Nat.le_of_ble_eq_true rfl) h0.2 (Nat.le_of_ble_eq_true rfl) rfl (c_I (by decide +kernel) h (fun y2 M1 h => ?_))
  obtain ⟨r3, h⟩ := h
  by_cases c28 : y2 = 0
  · rw [if_pos c28] at h
    refine g_40t (a := 0) (b := 20) (nx := 8) (by decide +kernel) r3 (by exact (cb_0 _ _).mpr c28) ?_
    refine g_1 (a := (-1)) (b := 0) (nx := 21) (by decide +kernel) ?_
    exact g_91 (b := 0) (nx := 22) (by decide +kernel) h
  · rw [if_neg c28] at h
    refine g_40f (a := 0) (b := 20) (nx := 8) (by decide +kernel) r3 (by exact fun hz => c28 ((cb_0 _ _).mp hz)) ?_
    refine g_5 (a := 2) (b := 0) (nx := 9) (by decide +kernel) rfl ?_
    refine g_35 (a := 0) (b := 0) (nx := 10) (by decide +kernel) ?_
    refine g_2 (a := 0) (b := 0) (nx := 11) (by decide +kernel) ?_
    refine g_2 (a := 5) (b := 0) (nx := 14) (by decide +kernel) ?_
    refine g_82 (a := 177) (b := 3) (nx := 17) (by decide +kernel) (As := [vL (wr32 x2), vL 0, vL 5]) (st' := []) (z := 177) rfl rfl rfl (Nat.le_of_ble_eq_true rfl) (Nat.le_of_ble_eq_true rfl) rfl (c_I (by decide +kernel) h (fun y5 M4 h => ?_))
    obtain ⟨r6, h⟩ := h
    by_cases c27 : y5 = 0
    · rw [if_pos c27] at h
      refine g_40f (a := 1) (b := 22) (nx := 20) (by decide +kernel) r6 (by exact fun hz => ((cb_1 _ _).mp hz) c27) ?_
      refine g_1 (a := (-1)) (b := 0) (nx := 21) (by decide +kernel) ?_
      exact g_91 (b := 0) (nx := 22) (by decide +kernel) h
    · rw [if_neg c27] at h
      refine g_40t (a := 1) (b := 22) (nx := 20) (by decide +kernel) r6 (by exact (cb_1 _ _).mpr c27) ?_
      refine g_7 (a := 0) (b := 0) (nx := 23) (by decide +kernel) rfl ?_
      refine g_5 (a := 1) (b := 0) (nx := 24) (by decide +kernel) rfl ?_
      refine g_80 (a := 227) (b := 1) (nx := 27) (by decide +kernel) (r := x0) (As := [vI x1]) (st' := []) (z := 227) rfl rfl rfl (Nat.le_of_ble_eq_true rfl) h0.2 (Nat.le_of_ble_eq_true rfl) rfl (c_V (by decide +kernel) h (fun M7 h => ?_))
      refine g_5 (a := 2) (b := 0) (nx := 28) (by decide +kernel) rfl ?_
      obtain ⟨r9, h⟩ := h
      by_cases c26 : x2 = 0
      · rw [if_pos c26] at h
        refine g_40f (a := 1) (b := 36) (nx := 31) (by decide +kernel) r9 (by exact fun hz => ((cb_1 _ _).mp hz) c26) ?_
        refine g_7 (a := 0) (b := 0) (nx := 32) (by decide +kernel) rfl ?_
        refine g_50 (a := 12) (b := 69) (nx := 35) (by decide +kernel) h0 ?_
        exact g_91 (b := 0) (nx := 36) (by decide +kernel) h
      · rw [if_neg c26] at h
        refine g_40t (a := 1) (b := 36) (nx := 31) (by decide +kernel) r9 (by exact (cb_1 _ _).mpr c26) ?_
        refine g_5 (a := 2) (b := 0) (nx := 37) (by decide +kernel) rfl ?_
        refine g_1 (a := 1) (b := 0) (nx := 38) (by decide +kernel) ?_
        by_cases c25 : x2 = 1
        · rw [if_pos c25] at h
          refine g_41f (a := 1) (b := 46) (nx := 41) (by decide +kernel) (by rw [wr_id r9, wr_id (show inR 1 by decide)]; exact fun hz => ((cb_1 _ _).mp hz) c25) ?_
          refine g_7 (a := 0) (b := 0) (nx := 42) (by decide +kernel) rfl ?_
          refine g_50 (a := 12) (b := 70) (nx := 45) (by decide +kernel) h0 ?_
          exact g_91 (b := 0) (nx := 46) (by decide +kernel) h
        · rw [if_neg c25] at h
          refine g_41t (a := 1) (b := 46) (nx := 41) (by decide +kernel) (by rw [wr_id r9, wr_id (show inR 1 by decide)]; exact (cb_1 _ _).mpr c25) ?_
          refine g_5 (a := 2) (b := 0) (nx := 47) (by decide +kernel) rfl ?_
          refine g_1 (a := 5) (b := 0) (nx := 48) (by decide +kernel) ?_
          by_cases c24 : x2 = 5
          · rw [if_pos c24] at h
            refine g_41f (a := 1) (b := 56) (nx := 51) (by decide +kernel) (by rw [wr_id r9, wr_id (show inR 5 by decide)]; exact fun hz => ((cb_1 _ _).mp hz) c24) ?_
            refine g_7 (a := 0) (b := 0) (nx := 52) (by decide +kernel) rfl ?_
            refine g_80 (a := 249) (b := 0) (nx := 55) (by decide +kernel) (r := x0) (As := []) (st' := []) (z := 249) rfl rfl rfl (Nat.le_of_ble_eq_true rfl) h0.2 (Nat.le_of_ble_eq_true rfl) rfl (c_I (by decide +kernel) h (fun y23 M22 h => ?_))
            exact g_91 (b := 0) (nx := 56) (by decide +kernel) h
          · rw [if_neg c24] at h
            refine g_41t (a := 1) (b := 56) (nx := 51) (by decide +kernel) (by rw [wr_id r9, wr_id (show inR 5 by decide)]; exact (cb_1 _ _).mpr c24) ?_
            refine g_7 (a := 0) (b := 0) (nx := 57) (by decide +kernel) rfl ?_
            refine g_50 (a := 12) (b := 70) (nx := 60) (by decide +kernel) h0 ?_
            obtain ⟨r10, h⟩ := h
            by_cases c21 : (M7 x0 70) = 0
            · rw [if_pos c21] at h
              refine g_40f (a := 1) (b := 65) (nx := 63) (by decide +kernel) r10 (by exact fun hz => ((cb_1 _ _).mp hz) c21) ?_
              refine g_1 (a := (-1)) (b := 0) (nx := 64) (by decide +kernel) ?_
              exact g_91 (b := 0) (nx := 65) (by decide +kernel) h
            · rw [if_neg c21] at h
              refine g_40t (a := 1) (b := 65) (nx := 63) (by decide +kernel) r10 (by exact (cb_1 _ _).mpr c21) ?_
              refine g_5 (a := 2) (b := 0) (nx := 66) (by decide +kernel) rfl ?_
              refine g_1 (a := 4) (b := 0) (nx := 67) (by decide +kernel) ?_
              by_cases c20 : x2 = 4
              · rw [if_pos c20] at h
                refine g_41f (a := 1) (b := 75) (nx := 70) (by decide +kernel) (by rw [wr_id r9, wr_id (show inR 4 by decide)]; exact fun hz => ((cb_1 _ _).mp hz) c20) ?_
                refine g_7 (a := 0) (b := 0) (nx := 71) (by decide +kernel) rfl ?_
                refine g_80 (a := 250) (b := 0) (nx := 74) (by decide +kernel) (r := x0) (As := []) (st' := []) (z := 250) rfl rfl rfl (Nat.le_of_ble_eq_true rfl) h0.2 (Nat.le_of_ble_eq_true rfl) rfl (c_I (by decide +kernel) h (fun y19 M18 h => ?_))
                exact g_91 (b := 0) (nx := 75) (by decide +kernel) h
              · rw [if_neg c20] at h
                refine g_41t (a := 1) (b := 75) (nx := 70) (by decide +kernel) (by rw [wr_id r9, wr_id (show inR 4 by decide)]; exact (cb_1 _ _).mpr c20) ?_
                refine g_7 (a := 0) (b := 0) (nx := 76) (by decide +kernel) rfl ?_
                refine g_80 (a := 238) (b := 0) (nx := 79) (by decide +kernel) (r := x0) (As := []) (st' := []) (z := 238) rfl rfl rfl (Nat.le_of_ble_eq_true rfl) h0.2 (Nat.le_of_ble_eq_true rfl) rfl (c_V (by decide +kernel) h (fun M11 h => ?_))
                refine g_5 (a := 2) (b := 0) (nx := 80) (by decide +kernel) rfl ?_
                refine g_1 (a := 2) (b := 0) (nx := 81) (by decide +kernel) ?_
                by_cases c17 : x2 = 2
                · rw [if_pos c17] at h
                  refine g_41f (a := 1) (b := 91) (nx := 84) (by decide +kernel) (by rw [wr_id r9, wr_id (show inR 2 by decide)]; exact fun hz => ((cb_1 _ _).mp hz) c17) ?_
                  refine g_7 (a := 0) (b := 0) (nx := 85) (by decide +kernel) rfl ?_
                  refine g_80 (a := 252) (b := 0) (nx := 88) (by decide +kernel) (r := x0) (As := []) (st' := []) (z := 252) rfl rfl rfl (Nat.le_of_ble_eq_true rfl) h0.2 (Nat.le_of_ble_eq_true rfl) rfl (c_I (by decide +kernel) h (fun y16 M15 h => ?_))
                  refine g_44 (a := 0) (b := 95) (nx := 91) (by decide +kernel) ?_
                  exact g_91 (b := 0) (nx := 96) (by decide +kernel) h
                · rw [if_neg c17] at h
                  refine g_41t (a := 1) (b := 91) (nx := 84) (by decide +kernel) (by rw [wr_id r9, wr_id (show inR 2 by decide)]; exact (cb_1 _ _).mpr c17) ?_
                  refine g_7 (a := 0) (b := 0) (nx := 92) (by decide +kernel) rfl ?_
                  refine g_80 (a := 246) (b := 0) (nx := 95) (by decide +kernel) (r := x0) (As := []) (st' := []) (z := 246) rfl rfl rfl (Nat.le_of_ble_eq_true rfl) h0.2 (Nat.le_of_ble_eq_true rfl) rfl (c_I (by decide +kernel) h (fun y14 M13 h => ?_))
                  exact g_91 (b := 0) (nx := 96) (by decide +kernel) h
-- 254 SyllableMakerModel.hills(I)I
theorem t_254 {x0 x1 : Int} {M : Mem} {Q : AV → Mem → Prop} (h0 : gO 12 x0) (h : WI 219 [vR x0, vI x1] M (fun y2 M1 => inR y2 ∧ (if y2 = 0 then (Q (vI (-1)) M1) else (WV 227 [vR x0, vI x1] M1 (fun M4 => WR 254 19 [some (vR x0), some (vI x1), some (vI 0), some (vI 0), none, none] [] M4 Q))))) : WC 254 [vR x0, vI x1] M Q := by
  show WR 254 0 [some (vR x0), some (vI x1), none, none, none, none] [] M Q
  refine g_7 (a := 0) (b := 0) (nx := 1) (by decide +kernel) rfl ?_
  refine g_5 (a := 1) (b := 0) (nx := 2) (by decide +kernel) rfl ?_
  refine g_80 (a := 219) (b := 1) (nx := 5) (by decide +kernel) (r := x0) (As := [vI x1]) (st' := []) (z := 219) rfl rfl rfl (Nat.le_of_ble_eq_true rfl) h0.2 (Nat.le_of_ble_eq_true rfl) rfl (c_I (by decide +kernel) h (fun y2 M1 h => ?_))
  obtain ⟨r3, h⟩ := h
  by_cases c6 : y2 = 0
  · rw [if_pos c6] at h
    refine g_40f (a := 1) (b := 10) (nx := 8) (by decide +kernel) r3 (by exact fun hz => ((cb_1 _ _).mp hz) c6) ?_
    refine g_1 (a := (-1)) (b := 0) (nx := 9) (by decide +kernel) ?_
    exact g_91 (b := 0) (nx := 10) (by decide +kernel) h
  · rw [if_neg c6] at h
    refine g_40t (a := 1) (b := 10) (nx := 8) (by decide +kernel) r3 (by exact (cb_1 _ _).mpr c6) ?_
    refine g_7 (a := 0) (b := 0) (nx := 11) (by decide +kernel) rfl ?_
    refine g_5 (a := 1) (b := 0) (nx := 12) (by decide +kernel) rfl ?_
    refine g_80 (a := 227) (b := 1) (nx := 15) (by decide +kernel) (r := x0) (As := [vI x1]) (st' := []) (z := 227) rfl rfl rfl (Nat.le_of_ble_eq_true rfl) h0.2 (Nat.le_of_ble_eq_true rfl) rfl (c_V (by decide +kernel) h (fun M4 h => ?_))
    refine g_1 (a := 0) (b := 0) (nx := 16) (by decide +kernel) ?_
    refine g_8 (a := 2) (b := 0) (nx := 17) (by decide +kernel) rfl (ls' := [some (vR x0), some (vI x1), some (vI 0), none, none, none]) rfl ?_
    refine g_1 (a := 0) (b := 0) (nx := 18) (by decide +kernel) ?_
    refine g_8 (a := 3) (b := 0) (nx := 19) (by decide +kernel) rfl (ls' := [some (vR x0), some (vI x1), some (vI 0), some (vI 0), none, none]) rfl ?_
    exact h
theorem t_254_19 {x0 x1 x2 x3 : Int} {l4 l5 : Option AV} {M : Mem} {Q : AV → Mem → Prop} (h0 : gO 12 x0) (h : inR x3 ∧ (inR (M x0 69) ∧ (if (M x0 69) ≤ x3 then (Q (vI x2) M) else (WR 254 30 [some (vR x0), some (vI x1), some (vI x2), some (vI x3), some (vI x3), l5] [] M Q)))) : WR 254 19 [some (vR x0), some (vI x1), some (vI x2), some (vI x3), l4, l5] [] M Q := by
  refine g_5 (a := 3) (b := 0) (nx := 20) (by decide +kernel) rfl ?_
  refine g_7 (a := 0) (b := 0) (nx := 21) (by decide +kernel) rfl ?_
  refine g_50 (a := 12) (b := 69) (nx := 24) (by decide +kernel) h0 ?_
  obtain ⟨r1, h⟩ := h
  obtain ⟨r2, h⟩ := h
  by_cases c3 : (M x0 69) ≤ x3
  · rw [if_pos c3] at h
    refine g_41t (a := 3) (b := 166) (nx := 27) (by decide +kernel) (by rw [wr_id r1, wr_id r2]; exact (cb_3 _ _).mpr c3) ?_
    refine g_5 (a := 2) (b := 0) (nx := 167) (by decide +kernel) rfl ?_
    exact g_91 (b := 0) (nx := 168) (by decide +kernel) h
  · rw [if_neg c3] at h
    refine g_41f (a := 3) (b := 166) (nx := 27) (by decide +kernel) (by rw [wr_id r1, wr_id r2]; exact fun hz => c3 ((cb_3 _ _).mp hz)) ?_
    refine g_5 (a := 3) (b := 0) (nx := 28) (by decide +kernel) rfl ?_
    refine g_8 (a := 4) (b := 0) (nx := 30) (by decide +kernel) rfl (ls' := [some (vR x0), some (vI x1), some (vI x2), some (vI x3), some (vI x3), l5]) rfl ?_
    exact h
theorem t_254_30 {x0 x1 x2 x3 x4 : Int} {l5 : Option AV} {M : Mem} {Q : AV → Mem → Prop} (h0 : gO 12 x0) (h : inR x4 ∧ (inR (M x0 69) ∧ (if (M x0 69) ≤ x4 then (inR x3 ∧ (if x3 = 0 then (if x4 = (M x0 69) then (WI 178 [vI 1] M (fun y5 M4 => WR 254 19 [some (vR x0), some (vI x1), some (vI (x2 + y5)), some (vI x4), some (vI x4), some (vI 1)] [] M4 Q)) else ((gA 20 (M x0 64) x4) ∧ (gA 20 (M x0 50) (M (M x0 64) x4)) ∧ (gA 20 (M x0 64) x3) ∧ (gA 20 (M x0 50) (M (M x0 64) x3)) ∧ inR (M (M x0 50) (M (M x0 64) x4)) ∧ (inR (M (M x0 50) (M (M x0 64) x3)) ∧ (if (M (M x0 50) (M (M x0 64) x3)) ≤ (M (M x0 50) (M (M x0 64) x4)) then (WI 178 [vI 0] M (fun y9 M8 => WR 254 19 [some (vR x0), some (vI x1), some (vI (x2 + y9)), some (vI x4), some (vI x4), some (vI 1)] [] M8 Q)) else (WI 178 [vI 1] M (fun y11 M10 => WR 254 19 [some (vR x0), some (vI x1), some (vI (x2 + y11)), some (vI x4), some (vI x4), some (vI 1)] [] M10 Q)))))) else ((gA 20 (M x0 64) (x3 - 1)) ∧ (gA 20 (M x0 50) (M (M x0 64) (x3 - 1))) ∧ (gA 20 (M x0 64) x3) ∧ (gA 20 (M x0 50) (M (M x0 64) x3)) ∧ inR (M (M x0 50) (M (M x0 64) (x3 - 1))) ∧ (inR (M (M x0 50) (M (M x0 64) x3)) ∧ (if (M (M x0 50) (M (M x0 64) x3)) ≤ (M (M x0 50) (M (M x0 64) (x3 - 1))) then (WI 178 [vI 0] M (fun y17 M16 => WR 254 19 [some (vR x0), some (vI x1), some (vI (x2 + y17)), some (vI x4), some (vI x4), some (vI 0)] [] M16 Q)) else (if x4 = (M x0 69) then (WI 178 [vI 1] M (fun y19 M18 => WR 254 19 [some (vR x0), some (vI x1), some (vI (x2 + y19)), some (vI x4), some (vI x4), some (vI 1)] [] M18 Q)) else ((gA 20 (M x0 64) x4) ∧ (gA 20 (M x0 50) (M (M x0 64) x4)) ∧ (gA 20 (M x0 64) x3) ∧ (gA 20 (M x0 50) (M (M x0 64) x3)) ∧ inR (M (M x0 50) (M (M x0 64) x4)) ∧ (if (M (M x0 50) (M (M x0 64) x3)) ≤ (M (M x0 50) (M (M x0 64) x4)) then (WI 178 [vI 0] M (fun y22 M21 => WR 254 19 [some (vR x0), some (vI x1), some (vI (x2 + y22)), some (vI x4), some (vI x4), some (vI 1)] [] M21 Q)) else (WI 178 [vI 1] M (fun y24 M23 => WR 254 19 [some (vR x0), some (vI x1), some (vI (x2 + y24)), some (vI x4), some (vI x4), some (vI 1)] [] M23 Q)))))))))) else ((gA 20 (M x0 64) x4) ∧ (gA 20 (M x0 50) (M (M x0 64) x4)) ∧ (gA 20 (M x0 64) x3) ∧ (gA 20 (M x0 50) (M (M x0 64) x3)) ∧ inR (M (M x0 50) (M (M x0 64) x4)) ∧ (inR (M (M x0 50) (M (M x0 64) x3)) ∧ (if (M (M x0 50) (M (M x0 64) x4)) = (M (M x0 50) (M (M x0 64) x3)) then (WR 254 30 [some (vR x0), some (vI x1), some (vI x2), some (vI x3), some (vI (x4 + 1)), l5] [] M Q) else (inR x3 ∧ (if x3 = 0 then (if x4 = (M x0 69) then (WI 178 [vI 1] M (fun y33 M32 => WR 254 19 [some (vR x0), some (vI x1), some (vI (x2 + y33)), some (vI x4), some (vI x4), some (vI 1)] [] M32 Q)) else ((gA 20 (M x0 64) x4) ∧ (gA 20 (M x0 50) (M (M x0 64) x4)) ∧ (gA 20 (M x0 64) x3) ∧ (gA 20 (M x0 50) (M (M x0 64) x3)) ∧ if (M (M x0 50) (M (M x0 64) x3)) ≤ (M (M x0 50) (M (M x0 64) x4)) then (WI 178 [vI 0] M (fun y35 M34 => WR 254 19 [some (vR x0), some (vI x1), some (vI (x2 + y35)), some (vI x4), some (vI x4), some (vI 1)] [] M34 Q)) else (WI 178 [vI 1] M (fun y37 M36 => WR 254 19 [some (vR x0), some (vI x1), some (vI (x2 + y37)), some (vI x4), some (vI x4), some (vI 1)] [] M36 Q)))) else ((gA 20 (M x0 64) (x3 - 1)) ∧ (gA 20 (M x0 50) (M (M x0 64) (x3 - 1))) ∧ (gA 20 (M x0 64) x3) ∧ (gA 20 (M x0 50) (M (M x0 64) x3)) ∧ inR (M (M x0 50) (M (M x0 64) (x3 - 1))) ∧ (if (M (M x0 50) (M (M x0 64) x3)) ≤ (M (M x0 50) (M (M x0 64) (x3 - 1))) then (WI 178 [vI 0] M (fun y42 M41 => WR 254 19 [some (vR x0), some (vI x1), some (vI (x2 + y42)), some (vI x4), some (vI x4), some (vI 0)] [] M41 Q)) else (if x4 = (M x0 69) then (WI 178 [vI 1] M (fun y44 M43 => WR 254 19 [some (vR x0), some (vI x1), some (vI (x2 + y44)), some (vI x4), some (vI x4), some (vI 1)] [] M43 Q)) else ((gA 20 (M x0 64) x4) ∧ (gA 20 (M x0 50) (M (M x0 64) x4)) ∧ (gA 20 (M x0 64) x3) ∧ (gA 20 (M x0 50) (M (M x0 64) x3)) ∧ if (M (M x0 50) (M (M x0 64) x3)) ≤ (M (M x0 50) (M (M x0 64) x4)) then (WI 178 [vI 0] M (fun y46 M45 => WR 254 19 [some (vR x0), some (vI x1), some (vI (x2 + y46)), some (vI x4), some (vI x4), some (vI 1)] [] M45 Q)) else (WI 178 [vI 1] M (fun y48 M47 => WR 254 19 [some (vR x0), some (vI x1), some (vI (x2 + y48)), some (vI x4), some (vI x4), some (vI 1)] [] M47 Q)))))))))))))) : WR 254 30 [some (vR x0), some (vI x1), some (vI x2), some (vI x3), some (vI x4), l5] [] M Q := by
  refine g_5 (a := 4) (b := 0) (nx := 32) (by decide +kernel) rfl ?_
  refine g_7 (a := 0) (b := 0) (nx := 33) (by decide +kernel) rfl ?_
  refine g_50 (a := 12) (b := 69) (nx := 36) (by decide +kernel) h0 ?_
  obtain ⟨r1, h⟩ := h
  obtain ⟨r2, h⟩ := h
  by_cases c54 : (M x0 69) ≤ x4
  · rw [if_pos c54] at h
    refine g_41t (a := 3) (b := 71) (nx := 39) (by decide +kernel) (by rw [wr_id r1, wr_id r2]; exact (cb_3 _ _).mpr c54) ?_
    refine g_5 (a := 3) (b := 0) (nx := 72) (by decide +kernel) rfl ?_
    obtain ⟨r3, h⟩ := h
    by_cases c28 : x3 = 0
    · rw [if_pos c28] at h
      refine g_40t (a := 0) (b := 102) (nx := 75) (by decide +kernel) r3 (by exact (cb_0 _ _).mpr c28) ?_
      refine g_1 (a := 1) (b := 0) (nx := 103) (by decide +kernel) ?_
      refine g_44 (a := 0) (b := 107) (nx := 106) (by decide +kernel) ?_
      refine g_8 (a := 5) (b := 0) (nx := 109) (by decide +kernel) rfl (ls' := [some (vR x0), some (vI x1), some (vI x2), some (vI x3), some (vI x4), some (vI 1)]) rfl ?_
      refine g_5 (a := 2) (b := 0) (nx := 110) (by decide +kernel) rfl ?_
      refine g_5 (a := 5) (b := 0) (nx := 112) (by decide +kernel) rfl ?_
      refine g_40f (a := 0) (b := 154) (nx := 115) (by decide +kernel) (show inR 1 by decide) (by decide +kernel) ?_
      refine g_5 (a := 4) (b := 0) (nx := 117) (by decide +kernel) rfl ?_
      refine g_7 (a := 0) (b := 0) (nx := 118) (by decide +kernel) rfl ?_
      refine g_50 (a := 12) (b := 69) (nx := 121) (by decide +kernel) h0 ?_
      by_cases c13 : x4 = (M x0 69)
      · rw [if_pos c13] at h
        refine g_41t (a := 0) (b := 150) (nx := 124) (by decide +kernel) (by rw [wr_id r1, wr_id r2]; exact (cb_0 _ _).mpr c13) ?_
        refine g_1 (a := 1) (b := 0) (nx := 151) (by decide +kernel) ?_
        refine g_44 (a := 0) (b := 155) (nx := 154) (by decide +kernel) ?_
        refine g_82 (a := 178) (b := 1) (nx := 158) (by decide +kernel) (As := [vI 1]) (st' := [vI x2]) (z := 178) rfl rfl rfl (Nat.le_of_ble_eq_true rfl) (Nat.le_of_ble_eq_true rfl) rfl (c_I (by decide +kernel) h (fun y5 M4 h => ?_))
        refine g_15 (a := 0) (b := 0) (nx := 159) (by decide +kernel) ?_
        refine g_8 (a := 2) (b := 0) (nx := 160) (by decide +kernel) rfl (ls' := [some (vR x0), some (vI x1), some (vI (x2 + y5)), some (vI x3), some (vI x4), some (vI 1)]) rfl ?_
        refine g_5 (a := 4) (b := 0) (nx := 162) (by decide +kernel) rfl ?_
        refine g_8 (a := 3) (b := 0) (nx := 163) (by decide +kernel) rfl (ls' := [some (vR x0), some (vI x1), some (vI (x2 + y5)), some (vI x4), some (vI x4), some (vI 1)]) rfl ?_
        refine g_44 (a := 0) (b := 19) (nx := 166) (by decide +kernel) ?_
        exact h
      · rw [if_neg c13] at h
        refine g_41f (a := 0) (b := 150) (nx := 124) (by decide +kernel) (by rw [wr_id r1, wr_id r2]; exact fun hz => c13 ((cb_0 _ _).mp hz)) ?_
        refine g_7 (a := 0) (b := 0) (nx := 125) (by decide +kernel) rfl ?_
        refine g_52 (a := 12) (b := 50) (nx := 128) (by decide +kernel) h0 ?_
        refine g_7 (a := 0) (b := 0) (nx := 129) (by decide +kernel) rfl ?_
        refine g_52 (a := 12) (b := 64) (nx := 132) (by decide +kernel) h0 ?_
        refine g_5 (a := 4) (b := 0) (nx := 134) (by decide +kernel) rfl ?_
        refine g_61 (a := 0) (b := 0) (nx := 135) (by decide +kernel) h.1 ?_
        replace h := h.2
        refine g_61 (a := 0) (b := 0) (nx := 136) (by decide +kernel) h.1 ?_
        replace h := h.2
        refine g_7 (a := 0) (b := 0) (nx := 137) (by decide +kernel) rfl ?_
        refine g_52 (a := 12) (b := 50) (nx := 140) (by decide +kernel) h0 ?_
        refine g_7 (a := 0) (b := 0) (nx := 141) (by decide +kernel) rfl ?_
        refine g_52 (a := 12) (b := 64) (nx := 144) (by decide +kernel) h0 ?_
        refine g_5 (a := 3) (b := 0) (nx := 145) (by decide +kernel) rfl ?_
        refine g_61 (a := 0) (b := 0) (nx := 146) (by decide +kernel) h.1 ?_
        replace h := h.2
        refine g_61 (a := 0) (b := 0) (nx := 147) (by decide +kernel) h.1 ?_
        replace h := h.2
        obtain ⟨r6, h⟩ := h
        obtain ⟨r7, h⟩ := h
        by_cases c12 : (M (M x0 50) (M (M x0 64) x3)) ≤ (M (M x0 50) (M (M x0 64) x4))
        · rw [if_pos c12] at h
          refine g_41t (a := 3) (b := 154) (nx := 150) (by decide +kernel) (by rw [wr_id r6, wr_id r7]; exact (cb_3 _ _).mpr c12) ?_
          refine g_1 (a := 0) (b := 0) (nx := 155) (by decide +kernel) ?_
          refine g_82 (a := 178) (b := 1) (nx := 158) (by decide +kernel) (As := [vI 0]) (st' := [vI x2]) (z := 178) rfl rfl rfl (Nat.le_of_ble_eq_true rfl) (Nat.le_of_ble_eq_true rfl) rfl (c_I (by decide +kernel) h (fun y9 M8 h => ?_))
          refine g_15 (a := 0) (b := 0) (nx := 159) (by decide +kernel) ?_
          refine g_8 (a := 2) (b := 0) (nx := 160) (by decide +kernel) rfl (ls' := [some (vR x0), some (vI x1), some (vI (x2 + y9)), some (vI x3), some (vI x4), some (vI 1)]) rfl ?_
          refine g_5 (a := 4) (b := 0) (nx := 162) (by decide +kernel) rfl ?_
          refine g_8 (a := 3) (b := 0) (nx := 163) (by decide +kernel) rfl (ls' := [some (vR x0), some (vI x1), some (vI (x2 + y9)), some (vI x4), some (vI x4), some (vI 1)]) rfl ?_
          refine g_44 (a := 0) (b := 19) (nx := 166) (by decide +kernel) ?_
          exact h
        · rw [if_neg c12] at h
          refine g_41f (a := 3) (b := 154) (nx := 150) (by decide +kernel) (by rw [wr_id r6, wr_id r7]; exact fun hz => c12 ((cb_3 _ _).mp hz)) ?_
          refine g_1 (a := 1) (b := 0) (nx := 151) (by decide +kernel) ?_
          refine g_44 (a := 0) (b := 155) (nx := 154) (by decide +kernel) ?_
          refine g_82 (a := 178) (b := 1) (nx := 158) (by decide +kernel) (As := [vI 1]) (st' := [vI x2]) (z := 178) rfl rfl rfl (Nat.le_of_ble_eq_true rfl) (Nat.le_of_ble_eq_true rfl) rfl (c_I (by decide +kernel) h (fun y11 M10 h => ?_))
          refine g_15 (a := 0) (b := 0) (nx := 159) (by decide +kernel) ?_
          refine g_8 (a := 2) (b := 0) (nx := 160) (by decide +kernel) rfl (ls' := [some (vR x0), some (vI x1), some (vI (x2 + y11)), some (vI x3), some (vI x4), some (vI 1)]) rfl ?_
          refine g_5 (a := 4) (b := 0) (nx := 162) (by decide +kernel) rfl ?_
          refine g_8 (a := 3) (b := 0) (nx := 163) (by decide +kernel) rfl (ls' := [some (vR x0), some (vI x1), some (vI (x2 + y11)), some (vI x4), some (vI x4), some (vI 1)]) rfl ?_
          refine g_44 (a := 0) (b := 19) (nx := 166) (by decide +kernel) ?_
          exact h
    · rw [if_neg c28] at h
      refine g_40f (a := 0) (b := 102) (nx := 75) (by decide +kernel) r3 (by exact fun hz => c28 ((cb_0 _ _).mp hz)) ?_
      refine g_7 (a := 0) (b := 0) (nx := 76) (by decide +kernel) rfl ?_
      refine g_52 (a := 12) (b := 50) (nx := 79) (by decide +kernel) h0 ?_
      refine g_7 (a := 0) (b := 0) (nx := 80) (by decide +kernel) rfl ?_
      refine g_52 (a := 12) (b := 64) (nx := 83) (by decide +kernel) h0 ?_
      refine g_5 (a := 3) (b := 0) (nx := 84) (by decide +kernel) rfl ?_
      refine g_1 (a := 1) (b := 0) (nx := 85) (by decide +kernel) ?_
      refine g_16 (a := 0) (b := 0) (nx := 86) (by decide +kernel) ?_
      refine g_61 (a := 0) (b := 0) (nx := 87) (by decide +kernel) h.1 ?_
      replace h := h.2
      refine g_61 (a := 0) (b := 0) (nx := 88) (by decide +kernel) h.1 ?_
      replace h := h.2
      refine g_7 (a := 0) (b := 0) (nx := 89) (by decide +kernel) rfl ?_
      refine g_52 (a := 12) (b := 50) (nx := 92) (by decide +kernel) h0 ?_
      refine g_7 (a := 0) (b := 0) (nx := 93) (by decide +kernel) rfl ?_
      refine g_52 (a := 12) (b := 64) (nx := 96) (by decide +kernel) h0 ?_
      refine g_5 (a := 3) (b := 0) (nx := 97) (by decide +kernel) rfl ?_
      refine g_61 (a := 0) (b := 0) (nx := 98) (by decide +kernel) h.1 ?_
      replace h := h.2
      refine g_61 (a := 0) (b := 0) (nx := 99) (by decide +kernel) h.1 ?_
      replace h := h.2
      obtain ⟨r14, h⟩ := h
      obtain ⟨r15, h⟩ := h
      by_cases c27 : (M (M x0 50) (M (M x0 64) x3)) ≤ (M (M x0 50) (M (M x0 64) (x3 - 1)))
      · rw [if_pos c27] at h
        refine g_41t (a := 3) (b := 106) (nx := 102) (by decide +kernel) (by rw [wr_id r14, wr_id r15]; exact (cb_3 _ _).mpr c27) ?_
        refine g_1 (a := 0) (b := 0) (nx := 107) (by decide +kernel) ?_
        refine g_8 (a := 5) (b := 0) (nx := 109) (by decide +kernel) rfl (ls' := [some (vR x0), some (vI x1), some (vI x2), some (vI x3), some (vI x4), some (vI 0)]) rfl ?_
        refine g_5 (a := 2) (b := 0) (nx := 110) (by decide +kernel) rfl ?_
        refine g_5 (a := 5) (b := 0) (nx := 112) (by decide +kernel) rfl ?_
        refine g_40t (a := 0) (b := 154) (nx := 115) (by decide +kernel) (show inR 0 by decide) (by decide +kernel) ?_
        refine g_1 (a := 0) (b := 0) (nx := 155) (by decide +kernel) ?_
        refine g_82 (a := 178) (b := 1) (nx := 158) (by decide +kernel) (As := [vI 0]) (st' := [vI x2]) (z := 178) rfl rfl rfl (Nat.le_of_ble_eq_true rfl) (Nat.le_of_ble_eq_true rfl) rfl (c_I (by decide +kernel) h (fun y17 M16 h => ?_))
        refine g_15 (a := 0) (b := 0) (nx := 159) (by decide +kernel) ?_
        refine g_8 (a := 2) (b := 0) (nx := 160) (by decide +kernel) rfl (ls' := [some (vR x0), some (vI x1), some (vI (x2 + y17)), some (vI x3), some (vI x4), some (vI 0)]) rfl ?_
        refine g_5 (a := 4) (b := 0) (nx := 162) (by decide +kernel) rfl ?_
        refine g_8 (a := 3) (b := 0) (nx := 163) (by decide +kernel) rfl (ls' := [some (vR x0), some (vI x1), some (vI (x2 + y17)), some (vI x4), some (vI x4), some (vI 0)]) rfl ?_
        refine g_44 (a := 0) (b := 19) (nx := 166) (by decide +kernel) ?_
        exact h
      · rw [if_neg c27] at h
        refine g_41f (a := 3) (b := 106) (nx := 102) (by decide +kernel) (by rw [wr_id r14, wr_id r15]; exact fun hz => c27 ((cb_3 _ _).mp hz)) ?_
        refine g_1 (a := 1) (b := 0) (nx := 103) (by decide +kernel) ?_
        refine g_44 (a := 0) (b := 107) (nx := 106) (by decide +kernel) ?_
        refine g_8 (a := 5) (b := 0) (nx := 109) (by decide +kernel) rfl (ls' := [some (vR x0), some (vI x1), some (vI x2), some (vI x3), some (vI x4), some (vI 1)]) rfl ?_
        refine g_5 (a := 2) (b := 0) (nx := 110) (by decide +kernel) rfl ?_
        refine g_5 (a := 5) (b := 0) (nx := 112) (by decide +kernel) rfl ?_
        refine g_40f (a := 0) (b := 154) (nx := 115) (by decide +kernel) (show inR 1 by decide) (by decide +kernel) ?_
        refine g_5 (a := 4) (b := 0) (nx := 117) (by decide +kernel) rfl ?_
        refine g_7 (a := 0) (b := 0) (nx := 118) (by decide +kernel) rfl ?_
        refine g_50 (a := 12) (b := 69) (nx := 121) (by decide +kernel) h0 ?_
        by_cases c26 : x4 = (M x0 69)
        · rw [if_pos c26] at h
          refine g_41t (a := 0) (b := 150) (nx := 124) (by decide +kernel) (by rw [wr_id r1, wr_id r2]; exact (cb_0 _ _).mpr c26) ?_
          refine g_1 (a := 1) (b := 0) (nx := 151) (by decide +kernel) ?_
          refine g_44 (a := 0) (b := 155) (nx := 154) (by decide +kernel) ?_
          refine g_82 (a := 178) (b := 1) (nx := 158) (by decide +kernel) (As := [vI 1]) (st' := [vI x2]) (z := 178) rfl rfl rfl (Nat.le_of_ble_eq_true rfl) (Nat.le_of_ble_eq_true rfl) rfl (c_I (by decide +kernel) h (fun y19 M18 h => ?_))
          refine g_15 (a := 0) (b := 0) (nx := 159) (by decide +kernel) ?_
          refine g_8 (a := 2) (b := 0) (nx := 160) (by decide +kernel) rfl (ls' := [some (vR x0), some (vI x1), some (vI (x2 + y19)), some (vI x3), some (vI x4), some (vI 1)]) rfl ?_
          refine g_5 (a := 4) (b := 0) (nx := 162) (by decide +kernel) rfl ?_
          refine g_8 (a := 3) (b := 0) (nx := 163) (by decide +kernel) rfl (ls' := [some (vR x0), some (vI x1), some (vI (x2 + y19)), some (vI x4), some (vI x4), some (vI 1)]) rfl ?_
          refine g_44 (a := 0) (b := 19) (nx := 166) (by decide +kernel) ?_
          exact h
        · rw [if_neg c26] at h
          refine g_41f (a := 0) (b := 150) (nx := 124) (by decide +kernel) (by rw [wr_id r1, wr_id r2]; exact fun hz => c26 ((cb_0 _ _).mp hz)) ?_
          refine g_7 (a := 0) (b := 0) (nx := 125) (by decide +kernel) rfl ?_
          refine g_52 (a := 12) (b := 50) (nx := 128) (by decide +kernel) h0 ?_
          refine g_7 (a := 0) (b := 0) (nx := 129) (by decide +kernel) rfl ?_
          refine g_52 (a := 12) (b := 64) (nx := 132) (by decide +kernel) h0 ?_
          refine g_5 (a := 4) (b := 0) (nx := 134) (by decide +kernel) rfl ?_
          refine g_61 (a := 0) (b := 0) (nx := 135) (by decide +kernel) h.1 ?_
          replace h := h.2
          refine g_61 (a := 0) (b := 0) (nx := 136) (by decide +kernel) h.1 ?_
          replace h := h.2
          refine g_7 (a := 0) (b := 0) (nx := 137) (by decide +kernel) rfl ?_
          refine g_52 (a := 12) (b := 50) (nx := 140) (by decide +kernel) h0 ?_
          refine g_7 (a := 0) (b := 0) (nx := 141) (by decide +kernel) rfl ?_
          refine g_52 (a := 12) (b := 64) (nx := 144) (by decide +kernel) h0 ?_
          refine g_5 (a := 3) (b := 0) (nx := 145) (by decide +kernel) rfl ?_
          refine g_61 (a := 0) (b := 0) (nx := 146) (by decide +kernel) h.1 ?_
          replace h := h.2
          refine g_61 (a := 0) (b := 0) (nx := 147) (by decide +kernel) h.1 ?_
          replace h := h.2
          obtain ⟨r20, h⟩ := h
          by_cases c25 : (M (M x0 50) (M (M x0 64) x3)) ≤ (M (M x0 50) (M (M x0 64) x4))
          · rw [if_pos c25] at h
            refine g_41t (a := 3) (b := 154) (nx := 150) (by decide +kernel) (by rw [wr_id r20, wr_id r15]; exact (cb_3 _ _).mpr c25) ?_
            refine g_1 (a := 0) (b := 0) (nx := 155) (by decide +kernel) ?_
            refine g_82 (a := 178) (b := 1) (nx := 158) (by decide +kernel) (As := [vI 0]) (st' := [vI x2]) (z := 178) rfl rfl rfl (Nat.le_of_ble_eq_true rfl) (Nat.le_of_ble_eq_true rfl) rfl (c_I (by decide +kernel) h (fun y22 M21 h => ?_))
            refine g_15 (a := 0) (b := 0) (nx := 159) (by decide +kernel) ?_
            refine g_8 (a := 2) (b := 0) (nx := 160) (by decide +kernel) rfl (ls' := [some (vR x0), some (vI x1), some (vI (x2 + y22)), some (vI x3), some (vI x4), some (vI 1)]) rfl ?_
            refine g_5 (a := 4) (b := 0) (nx := 162) (by decide +kernel) rfl ?_
            refine g_8 (a := 3) (b := 0) (nx := 163) (by decide +kernel) rfl (ls' := [some (vR x0), some (vI x1), some (vI (x2 + y22)), some (vI x4), some (vI x4), some (vI 1)]) rfl ?_
            refine g_44 (a := 0) (b := 19) (nx := 166) (by decide +kernel) ?_
            exact h
          · rw [if_neg c25] at h
            refine g_41f (a := 3) (b := 154) (nx := 150) (by decide +kernel) (by rw [wr_id r20, wr_id r15]; exact fun hz => c25 ((cb_3 _ _).mp hz)) ?_
            refine g_1 (a := 1) (b := 0) (nx := 151) (by decide +kernel) ?_
            refine g_44 (a := 0) (b := 155) (nx := 154) (by decide +kernel) ?_
            refine g_82 (a := 178) (b := 1) (nx := 158) (by decide +kernel) (As := [vI 1]) (st' := [vI x2]) (z := 178) rfl rfl rfl (Nat.le_of_ble_eq_true rfl) (Nat.le_of_ble_eq_true rfl) rfl (c_I (by decide +kernel) h (fun y24 M23 h => ?_))
            refine g_15 (a := 0) (b := 0) (nx := 159) (by decide +kernel) ?_
            refine g_8 (a := 2) (b := 0) (nx := 160) (by decide +kernel) rfl (ls' := [some (vR x0), some (vI x1), some (vI (x2 + y24)), some (vI x3), some (vI x4), some (vI 1)]) rfl ?_
            refine g_5 (a := 4) (b := 0) (nx := 162) (by decide +kernel) rfl ?_
            refine g_8 (a := 3) (b := 0) (nx := 163) (by decide +kernel) rfl (ls' := [some (vR x0), some (vI x1), some (vI (x2 + y24)), some (vI x4), some (vI x4), some (vI 1)]) rfl ?_
            refine g_44 (a := 0) (b := 19) (nx := 166) (by decide +kernel) ?_
            exact h
  · rw [if_neg c54] at h
    refine g_41f (a := 3) (b := 71) (nx := 39) (by decide +kernel) (by rw [wr_id r1, wr_id r2]; exact fun hz => c54 ((cb_3 _ _).mp hz)) ?_
    refine g_7 (a := 0) (b := 0) (nx := 40) (by decide +kernel) rfl ?_
    refine g_52 (a := 12) (b := 50) (nx := 43) (by decide +kernel) h0 ?_
    refine g_7 (a := 0) (b := 0) (nx := 44) (by decide +kernel) rfl ?_
    refine g_52 (a := 12) (b := 64) (nx := 47) (by decide +kernel) h0 ?_
    refine g_5 (a := 4) (b := 0) (nx := 49) (by decide +kernel) rfl ?_
    refine g_61 (a := 0) (b := 0) (nx := 50) (by decide +kernel) h.1 ?_
    replace h := h.2
    refine g_61 (a := 0) (b := 0) (nx := 51) (by decide +kernel) h.1 ?_
    replace h := h.2
    refine g_7 (a := 0) (b := 0) (nx := 52) (by decide +kernel) rfl ?_
    refine g_52 (a := 12) (b := 50) (nx := 55) (by decide +kernel) h0 ?_
    refine g_7 (a := 0) (b := 0) (nx := 56) (by decide +kernel) rfl ?_
    refine g_52 (a := 12) (b := 64) (nx := 59) (by decide +kernel) h0 ?_
    refine g_5 (a := 3) (b := 0) (nx := 60) (by decide +kernel) rfl ?_
    refine g_61 (a := 0) (b := 0) (nx := 61) (by decide +kernel) h.1 ?_
    replace h := h.2
    refine g_61 (a := 0) (b := 0) (nx := 62) (by decide +kernel) h.1 ?_
    replace h := h.2
    obtain ⟨r29, h⟩ := h
    obtain ⟨r30, h⟩ := h
    by_cases c53 : (M (M x0 50) (M (M x0 64) x4)) = (M (M x0 50) (M (M x0 64) x3))
    · rw [if_pos c53] at h
      refine g_41f (a := 1) (b := 71) (nx := 65) (by decide +kernel) (by rw [wr_id r29, wr_id r30]; exact fun hz => ((cb_1 _ _).mp hz) c53) ?_
      refine g_11 (a := 4) (b := 1) (nx := 68) (by decide +kernel) rfl rfl (ls' := [some (vR x0), some (vI x1), some (vI x2), some (vI x3), some (vI (x4 + 1)), l5]) rfl ?_
      refine g_44 (a := 0) (b := 30) (nx := 71) (by decide +kernel) ?_
      exact h
    · rw [if_neg c53] at h
      refine g_41t (a := 1) (b := 71) (nx := 65) (by decide +kernel) (by rw [wr_id r29, wr_id r30]; exact (cb_1 _ _).mpr c53) ?_
      refine g_5 (a := 3) (b := 0) (nx := 72) (by decide +kernel) rfl ?_
      obtain ⟨r31, h⟩ := h
      by_cases c52 : x3 = 0
      · rw [if_pos c52] at h
        refine g_40t (a := 0) (b := 102) (nx := 75) (by decide +kernel) r31 (by exact (cb_0 _ _).mpr c52) ?_
        refine g_1 (a := 1) (b := 0) (nx := 103) (by decide +kernel) ?_
        refine g_44 (a := 0) (b := 107) (nx := 106) (by decide +kernel) ?_
        refine g_8 (a := 5) (b := 0) (nx := 109) (by decide +kernel) rfl (ls' := [some (vR x0), some (vI x1), some (vI x2), some (vI x3), some (vI x4), some (vI 1)]) rfl ?_
        refine g_5 (a := 2) (b := 0) (nx := 110) (by decide +kernel) rfl ?_
        refine g_5 (a := 5) (b := 0) (nx := 112) (by decide +kernel) rfl ?_
        refine g_40f (a := 0) (b := 154) (nx := 115) (by decide +kernel) (show inR 1 by decide) (by decide +kernel) ?_
        refine g_5 (a := 4) (b := 0) (nx := 117) (by decide +kernel) rfl ?_
        refine g_7 (a := 0) (b := 0) (nx := 118) (by decide +kernel) rfl ?_
        refine g_50 (a := 12) (b := 69) (nx := 121) (by decide +kernel) h0 ?_
        by_cases c39 : x4 = (M x0 69)
        · rw [if_pos c39] at h
          refine g_41t (a := 0) (b := 150) (nx := 124) (by decide +kernel) (by rw [wr_id r1, wr_id r2]; exact (cb_0 _ _).mpr c39) ?_
          refine g_1 (a := 1) (b := 0) (nx := 151) (by decide +kernel) ?_
          refine g_44 (a := 0) (b := 155) (nx := 154) (by decide +kernel) ?_
          refine g_82 (a := 178) (b := 1) (nx := 158) (by decide +kernel) (As := [vI 1]) (st' := [vI x2]) (z := 178) rfl rfl rfl (Nat.le_of_ble_eq_true rfl) (Nat.le_of_ble_eq_true rfl) rfl (c_I (by decide +kernel) h (fun y33 M32 h => ?_))
          refine g_15 (a := 0) (b := 0) (nx := 159) (by decide +kernel) ?_
          refine g_8 (a := 2) (b := 0) (nx := 160) (by decide +kernel) rfl (ls' := [some (vR x0), some (vI x1), some (vI (x2 + y33)), some (vI x3), some (vI x4), some (vI 1)]) rfl ?_
          refine g_5 (a := 4) (b := 0) (nx := 162) (by decide +kernel) rfl ?_
          refine g_8 (a := 3) (b := 0) (nx := 163) (by decide +kernel) rfl (ls' := [some (vR x0), some (vI x1), some (vI (x2 + y33)), some (vI x4), some (vI x4), some (vI 1)]) rfl ?_
          refine g_44 (a := 0) (b := 19) (nx := 166) (by decide +kernel) ?_
          exact h
        · rw [if_neg c39] at h
          refine g_41f (a := 0) (b := 150) (nx := 124) (by decide +kernel) (by rw [wr_id r1, wr_id r2]; exact fun hz => c39 ((cb_0 _ _).mp hz)) ?_
          refine g_7 (a := 0) (b := 0) (nx := 125) (by decide +kernel) rfl ?_
          refine g_52 (a := 12) (b := 50) (nx := 128) (by decide +kernel) h0 ?_
          refine g_7 (a := 0) (b := 0) (nx := 129) (by decide +kernel) rfl ?_
          refine g_52 (a := 12) (b := 64) (nx := 132) (by decide +kernel) h0 ?_
          refine g_5 (a := 4) (b := 0) (nx := 134) (by decide +kernel) rfl ?_
          refine g_61 (a := 0) (b := 0) (nx := 135) (by decide +kernel) h.1 ?_
          replace h := h.2
          refine g_61 (a := 0) (b := 0) (nx := 136) (by decide +kernel) h.1 ?_
          replace h := h.2
          refine g_7 (a := 0) (b := 0) (nx := 137) (by decide +kernel) rfl ?_
          refine g_52 (a := 12) (b := 50) (nx := 140) (by decide +kernel) h0 ?_
          refine g_7 (a := 0) (b := 0) (nx := 141) (by decide +kernel) rfl ?_
          refine g_52 (a := 12) (b := 64) (nx := 144) (by decide +kernel) h0 ?_
          refine g_5 (a := 3) (b := 0) (nx := 145) (by decide +kernel) rfl ?_
          refine g_61 (a := 0) (b := 0) (nx := 146) (by decide +kernel) h.1 ?_
          replace h := h.2
          refine g_61 (a := 0) (b := 0) (nx := 147) (by decide +kernel) h.1 ?_
          replace h := h.2
          by_cases c38 : (M (M x0 50) (M (M x0 64) x3)) ≤ (M (M x0 50) (M (M x0 64) x4))
          · rw [if_pos c38] at h
            refine g_41t (a := 3) (b := 154) (nx := 150) (by decide +kernel) (by rw [wr_id r29, wr_id r30]; exact (cb_3 _ _).mpr c38) ?_
            refine g_1 (a := 0) (b := 0) (nx := 155) (by decide +kernel) ?_
            refine g_82 (a := 178) (b := 1) (nx := 158) (by decide +kernel) (As := [vI 0]) (st' := [vI x2]) (z := 178) rfl rfl rfl (Nat.le_of_ble_eq_true rfl) (Nat.le_of_ble_eq_true rfl) rfl (c_I (by decide +kernel) h (fun y35 M34 h => ?_))
            refine g_15 (a := 0) (b := 0) (nx := 159) (by decide +kernel) ?_
            refine g_8 (a := 2) (b := 0) (nx := 160) (by decide +kernel) rfl (ls' := [some (vR x0), some (vI x1), some (vI (x2 + y35)), some (vI x3), some (vI x4), some (vI 1)]) rfl ?_
            refine g_5 (a := 4) (b := 0) (nx := 162) (by decide +kernel) rfl ?_
            refine g_8 (a := 3) (b := 0) (nx := 163) (by decide +kernel) rfl (ls' := [some (vR x0), some (vI x1), some (vI (x2 + y35)), some (vI x4), some (vI x4), some (vI 1)]) rfl ?_
            refine g_44 (a := 0) (b := 19) (nx := 166) (by decide +kernel) ?_
            exact h
          · rw [if_neg c38] at h
            refine g_41f (a := 3) (b := 154) (nx := 150) (by decide +kernel) (by rw [wr_id r29, wr_id r30]; exact fun hz => c38 ((cb_3 _ _).mp hz)) ?_
            refine g_1 (a := 1) (b := 0) (nx := 151) (by decide +kernel) ?_
            refine g_44 (a := 0) (b := 155) (nx := 154) (by decide +kernel) ?_
            refine g_82 (a := 178) (b := 1) (nx := 158) (by decide +kernel) (As := [vI 1]) (st' := [vI x2]) (z := 178) rfl rfl rfl (Nat.le_of_ble_eq_true rfl) (Nat.le_of_ble_eq_true rfl) rfl (c_I (by decide +kernel) h (fun y37 M36 h => ?_))
            refine g_15 (a := 0) (b := 0) (nx := 159) (by decide +kernel) ?_
            refine g_8 (a := 2) (b := 0) (nx := 160) (by decide +kernel) rfl (ls' := [some (vR x0), some (vI x1), some (vI (x2 + y37)), some (vI x3), some (vI x4), some (vI 1)]) rfl ?_
            refine g_5 (a := 4) (b := 0) (nx := 162) (by decide +kernel) rfl ?_
            refine g_8 (a := 3) (b := 0) (nx := 163) (by decide +kernel) rfl (ls' := [some (vR x0), some (vI x1), some (vI (x2 + y37)), some (vI x4), some (vI x4), some (vI 1)]) rfl ?_
            refine g_44 (a := 0) (b := 19) (nx := 166) (by decide +kernel) ?_
            exact h
      · rw [if_neg c52] at h
        refine g_40f (a := 0) (b := 102) (nx := 75) (by decide +kernel) r31 (by exact fun hz => c52 ((cb_0 _ _).mp hz)) ?_
        refine g_7 (a := 0) (b := 0) (nx := 76) (by decide +kernel) rfl ?_
        refine g_52 (a := 12) (b := 50) (nx := 79) (by decide +kernel) h0 ?_
        refine g_7 (a := 0) (b := 0) (nx := 80) (by decide +kernel) rfl ?_
        refine g_52 (a := 12) (b := 64) (nx := 83) (by decide +kernel) h0 ?_
        refine g_5 (a := 3) (b := 0) (nx := 84) (by decide +kernel) rfl ?_
        refine g_1 (a := 1) (b := 0) (nx := 85) (by decide +kernel) ?_
        refine g_16 (a := 0) (b := 0) (nx := 86) (by decide +kernel) ?_
        refine g_61 (a := 0) (b := 0) (nx := 87) (by decide +kernel) h.1 ?_
        replace h := h.2
        refine g_61 (a := 0) (b := 0) (nx := 88) (by decide +kernel) h.1 ?_
        replace h := h.2
        refine g_7 (a := 0) (b := 0) (nx := 89) (by decide +kernel) rfl ?_
        refine g_52 (a := 12) (b := 50) (nx := 92) (by decide +kernel) h0 ?_
        refine g_7 (a := 0) (b := 0) (nx := 93) (by decide +kernel) rfl ?_
        refine g_52 (a := 12) (b := 64) (nx := 96) (by decide +kernel) h0 ?_
        refine g_5 (a := 3) (b := 0) (nx := 97) (by decide +kernel) rfl ?_
        refine g_61 (a := 0) (b := 0) (nx := 98) (by decide +kernel) h.1 ?_
        replace h := h.2
        refine g_61 (a := 0) (b := 0) (nx := 99) (by decide +kernel) h.1 ?_
        replace h := h.2
        obtain ⟨r40, h⟩ := h
        by_cases c51 : (M (M x0 50) (M (M x0 64) x3)) ≤ (M (M x0 50) (M (M x0 64) (x3 - 1)))
        · rw [if_pos c51] at h
          refine g_41t (a := 3) (b := 106) (nx := 102) (by decide +kernel) (by rw [wr_id r40, wr_id r30]; exact (cb_3 _ _).mpr c51) ?_
          refine g_1 (a := 0) (b := 0) (nx := 107) (by decide +kernel) ?_
          refine g_8 (a := 5) (b := 0) (nx := 109) (by decide +kernel) rfl (ls' := [some (vR x0), some (vI x1), some (vI x2), some (vI x3), some (vI x4), some (vI 0)]) rfl ?_
          refine g_5 (a := 2) (b := 0) (nx := 110) (by decide +kernel) rfl ?_
          refine g_5 (a := 5) (b := 0) (nx := 112) (by decide +kernel) rfl ?_
          refine g_40t (a := 0) (b := 154) (nx := 115) (by decide +kernel) (show inR 0 by decide) (by decide +kernel) ?_
          refine g_1 (a := 0) (b := 0) (nx := 155) (by decide +kernel) ?_
          refine g_82 (a := 178) (b := 1) (nx := 158) (by decide +kernel) (As := [vI 0]) (st' := [vI x2]) (z := 178) rfl rfl rfl (Nat.le_of_ble_eq_true rfl) (Nat.le_of_ble_eq_true rfl) rfl (c_I (by decide +kernel) h (fun y42 M41 h => ?_))
          refine g_15 (a := 0) (b := 0) (nx := 159) (by decide +kernel) ?_
          refine g_8 (a := 2) (b := 0) (nx := 160) (by decide +kernel) rfl (ls' := [some (vR x0), some (vI x1), some (vI (x2 + y42)), some (vI x3), some (vI x4), some (vI 0)]) rfl ?_
          refine g_5 (a := 4) (b := 0) (nx := 162) (by decide +kernel) rfl ?_
          refine g_8 (a := 3) (b := 0) (nx := 163) (by decide +kernel) rfl (ls' := [some (vR x0), some (vI x1), some (vI (x2 + y42)), some (vI x4), some (vI x4), some (vI 0)]) rfl ?_
          refine g_44 (a := 0) (b := 19) (nx := 166) (by decide +kernel) ?_
          exact h
        · rw [if_neg c51] at h
          refine g_41f (a := 3) (b := 106) (nx := 102) (by decide +kernel) (by rw [wr_id r40, wr_id r30]; exact fun hz => c51 ((cb_3 _ _).mp hz)) ?_
          refine g_1 (a := 1) (b := 0) (nx := 103) (by decide +kernel) ?_
          refine g_44 (a := 0) (b := 107) (nx := 106) (by decide +kernel) ?_
          refine g_8 (a := 5) (b := 0) (nx := 109) (by decide +kernel) rfl (ls' := [some (vR x0), some (vI x1), some (vI x2), some (vI x3), some (vI x4), some (vI 1)]) rfl ?_
          refine g_5 (a := 2) (b := 0) (nx := 110) (by decide +kernel) rfl ?_
          refine g_5 (a := 5) (b := 0) (nx := 112) (by decide +kernel) rfl ?_
          refine g_40f (a := 0) (b := 154) (nx := 115) (by decide +kernel) (show inR 1 by decide) (by decide +kernel) ?_
          refine g_5 (a := 4) (b := 0) (nx := 117) (by decide +kernel) rfl ?_
          refine g_7 (a := 0) (b := 0) (nx := 118) (by decide +kernel) rfl ?_
          refine g_50 (a := 12) (b := 69) (nx := 121) (by decide +kernel) h0 ?_
          by_cases c50 : x4 = (M x0 69)
          · rw [if_pos c50] at h
            refine g_41t (a := 0) (b := 150) (nx := 124) (by decide +kernel) (by rw [wr_id r1, wr_id r2]; exact (cb_0 _ _).mpr c50) ?_
            refine g_1 (a := 1) (b := 0) (nx := 151) (by decide +kernel) ?_
            refine g_44 (a := 0) (b := 155) (nx := 154) (by decide +kernel) ?_
            refine g_82 (a := 178) (b := 1) (nx := 158) (by decide +kernel) (As := [vI 1]) (st' := [vI x2]) (z := 178) rfl rfl rfl (Nat.le_of_ble_eq_true rfl) (Nat.le_of_ble_eq_true rfl) rfl (c_I (by decide +kernel) h (fun y44 M43 h => ?_))
            refine g_15 (a := 0) (b := 0) (nx := 159) (by decide +kernel) ?_
            refine g_8 (a := 2) (b := 0) (nx := 160) (by decide +kernel) rfl (ls' := [some (vR x0), some (vI x1), some (vI (x2 + y44)), some (vI x3), some (vI x4), some (vI 1)]) rfl ?_
            refine g_5 (a := 4) (b := 0) (nx := 162) (by decide +kernel) rfl ?_
            refine g_8 (a := 3) (b := 0) (nx := 163) (by decide +kernel) rfl (ls' := [some (vR x0), some (vI x1), some (vI (x2 + y44)), some (vI x4), some (vI x4), some (vI 1)]) rfl ?_
            refine g_44 (a := 0) (b := 19) (nx := 166) (by decide +kernel) ?_
            exact h
          · rw [if_neg c50] at h
            refine g_41f (a := 0) (b := 150) (nx := 124) (by decide +kernel) (by rw [wr_id r1, wr_id r2]; exact fun hz => c50 ((cb_0 _ _).mp hz)) ?_
            refine g_7 (a := 0) (b := 0) (nx := 125) (by decide +kernel) rfl ?_
            refine g_52 (a := 12) (b := 50) (nx := 128) (by decide +kernel) h0 ?_
            refine g_7 (a := 0) (b := 0) (nx := 129) (by decide +kernel) rfl ?_
            refine g_52 (a := 12) (b := 64) (nx := 132) (by decide +kernel) h0 ?_
            refine g_5 (a := 4) (b := 0) (nx := 134) (by decide +kernel) rfl ?_
            refine g_61 (a := 0) (b := 0) (nx := 135) (by decide +kernel) h.1 ?_
            replace h := h.2
            refine g_61 (a := 0) (b := 0) (nx := 136) (by decide +kernel) h.1 ?_
            replace h := h.2
            refine g_7 (a := 0) (b := 0) (nx := 137) (by decide +kernel) rfl ?_
            refine g_52 (a := 12) (b := 50) (nx := 140) (by decide +kernel) h0 ?_
            refine g_7 (a := 0) (b := 0) (nx := 141) (by decide +kernel) rfl ?_
            refine g_52 (a := 12) (b := 64) (nx := 144) (by decide +kernel) h0 ?_
            refine g_5 (a := 3) (b := 0) (nx := 145) (by decide +kernel) rfl ?_
            refine g_61 (a := 0) (b := 0) (nx := 146) (by decide +kernel) h.1 ?_
            replace h := h.2
            refine g_61 (a := 0) (b := 0) (nx := 147) (by decide +kernel) h.1 ?_
            replace h := h.2
            by_cases c49 : (M (M x0 50) (M (M x0 64) x3)) ≤ (M (M x0 50) (M (M x0 64) x4))
            · rw [if_pos c49] at h
              refine g_41t (a := 3) (b := 154) (nx := 150) (by decide +kernel) (by rw [wr_id r29, wr_id r30]; exact (cb_3 _ _).mpr c49) ?_
              refine g_1 (a := 0) (b := 0) (nx := 155) (by decide +kernel) ?_
              refine g_82 (a := 178) (b := 1) (nx := 158) (by decide +kernel) (As := [vI 0]) (st' := [vI x2]) (z := 178) rfl rfl rfl (Nat.le_of_ble_eq_true rfl) (Nat.le_of_ble_eq_true rfl) rfl (c_I (by decide +kernel) h (fun y46 M45 h => ?_))
              refine g_15 (a := 0) (b := 0) (nx := 159) (by decide +kernel) ?_
              refine g_8 (a := 2) (b := 0) (nx := 160) (by decide +kernel) rfl (ls' := [some (vR x0), some (vI x1), some (vI (x2 + y46)), some (vI x3), some (vI x4), some (vI 1)]) rfl ?_
              refine g_5 (a := 4) (b := 0) (nx := 162) (by decide +kernel) rfl ?_
              refine g_8 (a := 3) (b := 0) (nx := 163) (by decide +kernel) rfl (ls' := [some (vR x0), some (vI x1), some (vI (x2 + y46)), some (vI x4), some (vI x4), some (vI 1)]) rfl ?_
              refine g_44 (a := 0) (b := 19) (nx := 166) (by decide +kernel) ?_
              exact h
            · rw [if_neg c49] at h
              refine g_41f (a := 3) (b := 154) (nx := 150) (by decide +kernel) (by rw [wr_id r29, wr_id r30]; exact fun hz => c49 ((cb_3 _ _).mp hz)) ?_
              refine g_1 (a := 1) (b := 0) (nx := 151) (by decide +kernel) ?_
              refine g_44 (a := 0) (b := 155) (nx := 154) (by decide +kernel) ?_
              refine g_82 (a := 178) (b := 1) (nx := 158) (by decide +kernel) (As := [vI 1]) (st' := [vI x2]) (z := 178) rfl rfl rfl (Nat.le_of_ble_eq_true rfl) (Nat.le_of_ble_eq_true rfl) rfl (c_I (by decide +kernel) h (fun y48 M47 h => ?_))
              refine g_15 (a := 0) (b := 0) (nx := 159) (by decide +kernel) ?_
              refine g_8 (a := 2) (b := 0) (nx := 160) (by decide +kernel) rfl (ls' := [some (vR x0), some (vI x1), some (vI (x2 + y48)), some (vI x3), some (vI x4), some (vI 1)]) rfl ?_
              refine g_5 (a := 4) (b := 0) (nx := 162) (by decide +kernel) rfl ?_
              refine g_8 (a := 3) (b := 0) (nx := 163) (by decide +kernel) rfl (ls' := [some (vR x0), some (vI x1), some (vI (x2 + y48)), some (vI x4), some (vI x4), some (vI 1)]) rfl ?_
              refine g_44 (a := 0) (b := 19) (nx := 166) (by decide +kernel) ?_
              exact h
-- 255 SyllableMakerModel.within(II)I
theorem t_255 {x0 x1 x2 : Int} {M : Mem} {Q : AV → Mem → Prop} (h0 : gO 12 x0) (h : WI 219 [vR x0, vI x1] M (fun y2 M1 => inR y2 ∧ (if y2 = 0 then (Q (vI (-1)) M1) else (WV 227 [vR x0, vI x1] M1 (fun M4 => WI 251 [vR x0, vI x2] M4 (fun y7 M6 => Q (vI y7) M6)))))) : WC 255 [vR x0, vI x1, vI x2] M Q := by
  show WR 255 0 [some (vR x0), some (vI x1), some (vI x2)] [] M Q
  refine g_7 (a := 0) (b := 0) (nx := 1) (by decide +kernel) rfl ?_
  refine g_5 (a := 1) (b := 0) (nx := 2) (by decide +kernel) rfl ?_
  refine g_80 (a := 219) (b := 1) (nx := 5) (by decide +kernel) (r := x0) (As := [vI x1]) (st' := []) (z := 219) rfl rfl rfl (Nat.le_of_ble_eq_true rfl) h0.2 (Nat.le_of_ble_eq_true rfl) rfl (c_I (by decide +kernel) h (fun y2 M1 h => ?_))
  obtain ⟨r3, h⟩ := h
  by_cases c8 : y2 = 0
  · rw [if_pos c8] at h
    refine g_40f (a := 1) (b := 10) (nx := 8) (by decide +kernel) r3 (by exact fun hz => ((cb_1 _ _).mp hz) c8) ?_
    refine g_1 (a := (-1)) (b := 0) (nx := 9) (by decide +kernel) ?_
    exact g_91 (b := 0) (nx := 10) (by decide +kernel) h
  · rw [if_neg c8] at h
    refine g_40t (a := 1) (b := 10) (nx := 8) (by decide +kernel) r3 (by exact (cb_1 _ _).mpr c8) ?_
    refine g_7 (a := 0) (b := 0) (nx := 11) (by decide +kernel) rfl ?_
    refine g_5 (a := 1) (b := 0) (nx := 12) (by decide +kernel) rfl ?_
    refine g_80 (a := 227) (b := 1) (nx := 15) (by decide +kernel) (r := x0) (As := [vI x1]) (st' := []) (z := 227) rfl rfl rfl (Nat.le_of_ble_eq_true rfl) h0.2 (Nat.le_of_ble_eq_true rfl) rfl (c_V (by decide +kernel) h (fun M4 h => ?_))
    refine g_7 (a := 0) (b := 0) (nx := 16) (by decide +kernel) rfl ?_
    refine g_5 (a := 2) (b := 0) (nx := 17) (by decide +kernel) rfl ?_
    refine g_80 (a := 251) (b := 1) (nx := 20) (by decide +kernel) (r := x0) (As := [vI x2]) (st' := []) (z := 251) rfl rfl rfl (Nat.le_of_ble_eq_true rfl) h0.2 (Nat.le_of_ble_eq_true rfl) rfl (c_I (by decide +kernel) h (fun y7 M6 h => ?_))
    exact g_91 (b := 0) (nx := 21) (by decide +kernel) h
-- 256 SyllableMakerModel.judge(IJI)I
theorem t_256 {x0 x1 x2 x4 : Int} {M : Mem} {Q : AV → Mem → Prop} (h0 : gO 12 x0) (h : WI 219 [vR x0, vI x1] M (fun y2 M1 => inR y2 ∧ (if y2 = 0 then (Q (vI (-2)) M1) else (WI 177 [vL (wr32 x4), vL 0, vL 2] M1 (fun y5 M4 => inR y5 ∧ (if y5 = 0 then (Q (vI (-2)) M4) else ((in64 x2 ∧ in64 0) ∧ inR (if x2 < 0 then -1 else if x2 = 0 then 0 else 1) ∧ (if 0 ≤ (if x2 < 0 then -1 else if x2 = 0 then 0 else 1) then (WV 227 [vR x0, vI x1] M4 (fun M8 => inR (M8 x0 70) ∧ (if (M8 x0 70) = 0 then (Q (vI (-2)) M8) else (WV 247 [vR x0] M8 (fun M11 => WR 256 55 [some (vR x0), some (vI x1), some (vL x2), none, some (vI x4), some (vL x2), none, some (vI 0)] [] M11 Q))))) else (Q (vI (-2)) M4))))))))) : WC 256 [vR x0, vI x1, vL x2, vI x4] M Q := by
  show WR 256 0 [some (vR x0), some (vI x1), some (vL x2), none, some (vI x4), none, none, none] [] M Q
  refine g_7 (a := 0) (b := 0) (nx := 1) (by decide +kernel) rfl ?_
  refine g_5 (a := 1) (b := 0) (nx := 2) (by decide +kernel) rfl ?_
  refine g_80 (a := 219) (b := 1) (nx := 5) (by decide +kernel) (r := x0) (As := [vI x1]) (st' := []) (z := 219) rfl rfl rfl (Nat.le_of_ble_eq_true rfl) h0.2 (Nat.le_of_ble_eq_true rfl) rfl (c_I (by decide +kernel) h (fun y2 M1 h => ?_))
  obtain ⟨r3, h⟩ := h
  by_cases c16 : y2 = 0
  · rw [if_pos c16] at h
    refine g_40t (a := 0) (b := 27) (nx := 8) (by decide +kernel) r3 (by exact (cb_0 _ _).mpr c16) ?_
    refine g_1 (a := (-2)) (b := 0) (nx := 29) (by decide +kernel) ?_
    exact g_91 (b := 0) (nx := 30) (by decide +kernel) h
  · rw [if_neg c16] at h
    refine g_40f (a := 0) (b := 27) (nx := 8) (by decide +kernel) r3 (by exact fun hz => c16 ((cb_0 _ _).mp hz)) ?_
    refine g_5 (a := 4) (b := 0) (nx := 10) (by decide +kernel) rfl ?_
    refine g_35 (a := 0) (b := 0) (nx := 11) (by decide +kernel) ?_
    refine g_2 (a := 0) (b := 0) (nx := 12) (by decide +kernel) ?_
    refine g_2 (a := 2) (b := 0) (nx := 15) (by decide +kernel) ?_
    refine g_82 (a := 177) (b := 3) (nx := 18) (by decide +kernel) (As := [vL (wr32 x4), vL 0, vL 2]) (st' := []) (z := 177) rfl rfl rfl (Nat.le_of_ble_eq_true rfl) (Nat.le_of_ble_eq_true rfl) rfl (c_I (by decide +kernel) h (fun y5 M4 h => ?_))
    obtain ⟨r6, h⟩ := h
    by_cases c15 : y5 = 0
    · rw [if_pos c15] at h
      refine g_40t (a := 0) (b := 27) (nx := 21) (by decide +kernel) r6 (by exact (cb_0 _ _).mpr c15) ?_
      refine g_1 (a := (-2)) (b := 0) (nx := 29) (by decide +kernel) ?_
      exact g_91 (b := 0) (nx := 30) (by decide +kernel) h
    · rw [if_neg c15] at h
      refine g_40f (a := 0) (b := 27) (nx := 21) (by decide +kernel) r6 (by exact fun hz => c15 ((cb_0 _ _).mp hz)) ?_
      refine g_6 (a := 2) (b := 0) (nx := 22) (by decide +kernel) rfl ?_
      refine g_2 (a := 0) (b := 0) (nx := 23) (by decide +kernel) ?_
      refine g_34 (a := 0) (b := 0) (nx := 24) (by decide +kernel) h.1 ?_
      replace h := h.2
      obtain ⟨r7, h⟩ := h
      by_cases c14 : 0 ≤ (if x2 < 0 then -1 else if x2 = 0 then 0 else 1)
      · rw [if_pos c14] at h
        refine g_40t (a := 3) (b := 30) (nx := 27) (by decide +kernel) r7 (by exact (cb_3 _ _).mpr c14) ?_
        refine g_7 (a := 0) (b := 0) (nx := 31) (by decide +kernel) rfl ?_
        refine g_5 (a := 1) (b := 0) (nx := 32) (by decide +kernel) rfl ?_
        refine g_80 (a := 227) (b := 1) (nx := 35) (by decide +kernel) (r := x0) (As := [vI x1]) (st' := []) (z := 227) rfl rfl rfl (Nat.le_of_ble_eq_true rfl) h0.2 (Nat.le_of_ble_eq_true rfl) rfl (c_V (by decide +kernel) h (fun M8 h => ?_))
        refine g_7 (a := 0) (b := 0) (nx := 36) (by decide +kernel) rfl ?_
        refine g_50 (a := 12) (b := 70) (nx := 39) (by decide +kernel) h0 ?_
        obtain ⟨r10, h⟩ := h
        by_cases c13 : (M8 x0 70) = 0
        · rw [if_pos c13] at h
          refine g_40f (a := 1) (b := 45) (nx := 42) (by decide +kernel) r10 (by exact fun hz => ((cb_1 _ _).mp hz) c13) ?_
          refine g_1 (a := (-2)) (b := 0) (nx := 44) (by decide +kernel) ?_
          exact g_91 (b := 0) (nx := 45) (by decide +kernel) h
        · rw [if_neg c13] at h
          refine g_40t (a := 1) (b := 45) (nx := 42) (by decide +kernel) r10 (by exact (cb_1 _ _).mpr c13) ?_
          refine g_6 (a := 2) (b := 0) (nx := 46) (by decide +kernel) rfl ?_
          refine g_9 (a := 5) (b := 0) (nx := 48) (by decide +kernel) ⟨rfl, Nat.le_of_ble_eq_true rfl⟩ (ls' := [some (vR x0), some (vI x1), some (vL x2), none, some (vI x4), some (vL x2), none, none]) rfl ?_
          refine g_7 (a := 0) (b := 0) (nx := 49) (by decide +kernel) rfl ?_
          refine g_80 (a := 247) (b := 0) (nx := 52) (by decide +kernel) (r := x0) (As := []) (st' := []) (z := 247) rfl rfl rfl (Nat.le_of_ble_eq_true rfl) h0.2 (Nat.le_of_ble_eq_true rfl) rfl (c_V (by decide +kernel) h (fun M11 h => ?_))
          refine g_1 (a := 0) (b := 0) (nx := 53) (by decide +kernel) ?_
          refine g_8 (a := 7) (b := 0) (nx := 55) (by decide +kernel) rfl (ls' := [some (vR x0), some (vI x1), some (vL x2), none, some (vI x4), some (vL x2), none, some (vI 0)]) rfl ?_
          exact h
      · rw [if_neg c14] at h
        refine g_40f (a := 3) (b := 30) (nx := 27) (by decide +kernel) r7 (by exact fun hz => c14 ((cb_3 _ _).mp hz)) ?_
        refine g_1 (a := (-2)) (b := 0) (nx := 29) (by decide +kernel) ?_
        exact g_91 (b := 0) (nx := 30) (by decide +kernel) h
theorem t_256_55 {x0 x1 x2 x4 x5 x7 : Int} {M : Mem} {Q : AV → Mem → Prop} (h0 : gO 12 x0) (h : inR (x7 + 1) ∧ (inR (M x0 70) ∧ (if (M x0 70) ≤ (x7 + 1) then ((in64 x5 ∧ in64 0) ∧ inR (if x5 < 0 then -1 else if x5 = 0 then 0 else 1) ∧ (if (if x5 < 0 then -1 else if x5 = 0 then 0 else 1) ≤ 0 then (inR x4 ∧ (if x4 = 0 then (WI 246 [vR x0] M (fun y11 M10 => Q (vI y11) M10)) else (if x4 = 2 then (WI 246 [vR x0] M (fun y6 M5 => WI 251 [vR x0, vI (y6 - 1)] M5 (fun y8 M7 => Q (vI y8) M7))) else (WR 256 153 [some (vR x0), some (vI x1), some (vL x2), none, some (vI x4), some (vL x5), none, some (vI 0)] [] M Q)))) else (Q (vI (-2)) M))) else ((0 ≤ x5 ∧ x5 < 9223372036854775808 ∧ 0 < (16 : Int) ∧ (16 : Int) < 9223372036854775808) ∧ (gA 20 (M x0 67) x7) ∧ (0 ≤ x5 ∧ x5 < 9223372036854775808 ∧ 0 < (16 : Int) ∧ (16 : Int) < 9223372036854775808) ∧ (gA 20 ((upM M (M x0 67) x7 (x5 % 16)) x0 67) x7) ∧ WI 230 [vR x0, vI x7] (upM M (M x0 67) x7 (x5 % 16)) (fun y15 M14 => inR ((upM M (M x0 67) x7 (x5 % 16)) ((upM M (M x0 67) x7 (x5 % 16)) x0 67) x7) ∧ (inR y15 ∧ (if ((upM M (M x0 67) x7 (x5 % 16)) ((upM M (M x0 67) x7 (x5 % 16)) x0 67) x7) ≤ y15 then (WR 256 55 [some (vR x0), some (vI x1), some (vL x2), none, some (vI x4), some (vL (x5 / 16)), none, some (vI (x7 + 1))] [] M14 Q) else (Q (vI (-2)) M14)))))))) : WR 256 55 [some (vR x0), some (vI x1), some (vL x2), none, some (vI x4), some (vL x5), none, some (vI x7)] [] M Q := by
  refine g_5 (a := 7) (b := 0) (nx := 57) (by decide +kernel) rfl ?_
  refine g_1 (a := 1) (b := 0) (nx := 58) (by decide +kernel) ?_
  refine g_15 (a := 0) (b := 0) (nx := 59) (by decide +kernel) ?_
  refine g_7 (a := 0) (b := 0) (nx := 60) (by decide +kernel) rfl ?_
  refine g_50 (a := 12) (b := 70) (nx := 63) (by decide +kernel) h0 ?_
  obtain ⟨r1, h⟩ := h
  obtain ⟨r2, h⟩ := h
  by_cases c19 : (M x0 70) ≤ (x7 + 1)
  · rw [if_pos c19] at h
    refine g_41t (a := 3) (b := 113) (nx := 66) (by decide +kernel) (by rw [wr_id r1, wr_id r2]; exact (cb_3 _ _).mpr c19) ?_
    refine g_6 (a := 5) (b := 0) (nx := 115) (by decide +kernel) rfl ?_
    refine g_2 (a := 0) (b := 0) (nx := 116) (by decide +kernel) ?_
    refine g_34 (a := 0) (b := 0) (nx := 117) (by decide +kernel) h.1 ?_
    replace h := h.2
    obtain ⟨r3, h⟩ := h
    by_cases c13 : (if x5 < 0 then -1 else if x5 = 0 then 0 else 1) ≤ 0
    · rw [if_pos c13] at h
      refine g_40t (a := 5) (b := 123) (nx := 120) (by decide +kernel) r3 (by exact (cb_5 _ _).mpr c13) ?_
      refine g_5 (a := 4) (b := 0) (nx := 125) (by decide +kernel) rfl ?_
      obtain ⟨r4, h⟩ := h
      by_cases c12 : x4 = 0
      · rw [if_pos c12] at h
        refine g_40f (a := 1) (b := 133) (nx := 128) (by decide +kernel) r4 (by exact fun hz => ((cb_1 _ _).mp hz) c12) ?_
        refine g_7 (a := 0) (b := 0) (nx := 129) (by decide +kernel) rfl ?_
        refine g_80 (a := 246) (b := 0) (nx := 132) (by decide +kernel) (r := x0) (As := []) (st' := []) (z := 246) rfl rfl rfl (Nat.le_of_ble_eq_true rfl) h0.2 (Nat.le_of_ble_eq_true rfl) rfl (c_I (by decide +kernel) h (fun y11 M10 h => ?_))
        exact g_91 (b := 0) (nx := 133) (by decide +kernel) h
      · rw [if_neg c12] at h
        refine g_40t (a := 1) (b := 133) (nx := 128) (by decide +kernel) r4 (by exact (cb_1 _ _).mpr c12) ?_
        refine g_5 (a := 4) (b := 0) (nx := 135) (by decide +kernel) rfl ?_
        refine g_1 (a := 2) (b := 0) (nx := 136) (by decide +kernel) ?_
        by_cases c9 : x4 = 2
        · rw [if_pos c9] at h
          refine g_41f (a := 1) (b := 150) (nx := 139) (by decide +kernel) (by rw [wr_id r4, wr_id (show inR 2 by decide)]; exact fun hz => ((cb_1 _ _).mp hz) c9) ?_
          refine g_7 (a := 0) (b := 0) (nx := 140) (by decide +kernel) rfl ?_
          refine g_7 (a := 0) (b := 0) (nx := 141) (by decide +kernel) rfl ?_
          refine g_80 (a := 246) (b := 0) (nx := 144) (by decide +kernel) (r := x0) (As := []) (st' := [vR x0]) (z := 246) rfl rfl rfl (Nat.le_of_ble_eq_true rfl) h0.2 (Nat.le_of_ble_eq_true rfl) rfl (c_I (by decide +kernel) h (fun y6 M5 h => ?_))
          refine g_1 (a := 1) (b := 0) (nx := 145) (by decide +kernel) ?_
          refine g_16 (a := 0) (b := 0) (nx := 146) (by decide +kernel) ?_
          refine g_80 (a := 251) (b := 1) (nx := 149) (by decide +kernel) (r := x0) (As := [vI (y6 - 1)]) (st' := []) (z := 251) rfl rfl rfl (Nat.le_of_ble_eq_true rfl) h0.2 (Nat.le_of_ble_eq_true rfl) rfl (c_I (by decide +kernel) h (fun y8 M7 h => ?_))
          exact g_91 (b := 0) (nx := 150) (by decide +kernel) h
        · rw [if_neg c9] at h
          refine g_41t (a := 1) (b := 150) (nx := 139) (by decide +kernel) (by rw [wr_id r4, wr_id (show inR 2 by decide)]; exact (cb_1 _ _).mpr c9) ?_
          refine g_1 (a := 0) (b := 0) (nx := 151) (by decide +kernel) ?_
          refine g_8 (a := 7) (b := 0) (nx := 153) (by decide +kernel) rfl (ls' := [some (vR x0), some (vI x1), some (vL x2), none, some (vI x4), some (vL x5), none, some (vI 0)]) rfl ?_
          exact h
    · rw [if_neg c13] at h
      refine g_40f (a := 5) (b := 123) (nx := 120) (by decide +kernel) r3 (by exact fun hz => c13 ((cb_5 _ _).mp hz)) ?_
      refine g_1 (a := (-2)) (b := 0) (nx := 122) (by decide +kernel) ?_
      exact g_91 (b := 0) (nx := 123) (by decide +kernel) h
  · rw [if_neg c19] at h
    refine g_41f (a := 3) (b := 113) (nx := 66) (by decide +kernel) (by rw [wr_id r1, wr_id r2]; exact fun hz => c19 ((cb_3 _ _).mp hz)) ?_
    refine g_7 (a := 0) (b := 0) (nx := 67) (by decide +kernel) rfl ?_
    refine g_52 (a := 12) (b := 67) (nx := 70) (by decide +kernel) h0 ?_
    refine g_5 (a := 7) (b := 0) (nx := 72) (by decide +kernel) rfl ?_
    refine g_6 (a := 5) (b := 0) (nx := 74) (by decide +kernel) rfl ?_
    refine g_2 (a := 16) (b := 0) (nx := 77) (by decide +kernel) ?_
    refine g_29 (a := 0) (b := 0) (nx := 78) (by decide +kernel) h.1 ?_
    replace h := h.2
    refine g_36 (a := 0) (b := 0) (nx := 79) (by decide +kernel) ?_
    refine g_62 (a := 0) (b := 0) (nx := 80) (by decide +kernel) h.1 ?_
    replace h := h.2
    refine g_6 (a := 5) (b := 0) (nx := 82) (by decide +kernel) rfl ?_
    refine g_2 (a := 16) (b := 0) (nx := 85) (by decide +kernel) ?_
    refine g_28 (a := 0) (b := 0) (nx := 86) (by decide +kernel) h.1 ?_
    replace h := h.2
    refine g_9 (a := 5) (b := 0) (nx := 88) (by decide +kernel) ⟨rfl, Nat.le_of_ble_eq_true rfl⟩ (ls' := [some (vR x0), some (vI x1), some (vL x2), none, some (vI x4), some (vL (x5 / 16)), none, some (vI x7)]) rfl ?_
    refine g_7 (a := 0) (b := 0) (nx := 89) (by decide +kernel) rfl ?_
    refine g_52 (a := 12) (b := 67) (nx := 92) (by decide +kernel) h0 ?_
    refine g_5 (a := 7) (b := 0) (nx := 94) (by decide +kernel) rfl ?_
    refine g_61 (a := 0) (b := 0) (nx := 95) (by decide +kernel) h.1 ?_
    replace h := h.2
    refine g_7 (a := 0) (b := 0) (nx := 96) (by decide +kernel) rfl ?_
    refine g_5 (a := 7) (b := 0) (nx := 98) (by decide +kernel) rfl ?_
    refine g_80 (a := 230) (b := 1) (nx := 101) (by decide +kernel) (r := x0) (As := [vI x7]) (st' := [vI ((upM M (M x0 67) x7 (x5 % 16)) ((upM M (M x0 67) x7 (x5 % 16)) x0 67) x7)]) (z := 230) rfl rfl rfl (Nat.le_of_ble_eq_true rfl) h0.2 (Nat.le_of_ble_eq_true rfl) rfl (c_I (by decide +kernel) h (fun y15 M14 h => ?_))
    obtain ⟨r16, h⟩ := h
    obtain ⟨r17, h⟩ := h
    by_cases c18 : ((upM M (M x0 67) x7 (x5 % 16)) ((upM M (M x0 67) x7 (x5 % 16)) x0 67) x7) ≤ y15
    · rw [if_pos c18] at h
      refine g_41t (a := 5) (b := 107) (nx := 104) (by decide +kernel) (by rw [wr_id r16, wr_id r17]; exact (cb_5 _ _).mpr c18) ?_
      refine g_11 (a := 7) (b := 1) (nx := 110) (by decide +kernel) rfl rfl (ls' := [some (vR x0), some (vI x1), some (vL x2), none, some (vI x4), some (vL (x5 / 16)), none, some (vI (x7 + 1))]) rfl ?_
      refine g_44 (a := 0) (b := 55) (nx := 113) (by decide +kernel) ?_
      exact h
    · rw [if_neg c18] at h
      refine g_41f (a := 5) (b := 107) (nx := 104) (by decide +kernel) (by rw [wr_id r16, wr_id r17]; exact fun hz => c18 ((cb_5 _ _).mp hz)) ?_
      refine g_1 (a := (-2)) (b := 0) (nx := 106) (by decide +kernel) ?_
      exact g_91 (b := 0) (nx := 107) (by decide +kernel) h
theorem t_256_153 {x0 x1 x2 x4 x5 x7 : Int} {M : Mem} {Q : AV → Mem → Prop} (h0 : gO 12 x0) (h : inR x7 ∧ (inR (M x0 70) ∧ (if (M x0 70) ≤ x7 then (Q (vI (-1)) M) else (WI 239 [vR x0, vI x7] M (fun y4 M3 => WI 240 [vR x0, vI x7] M3 (fun y6 M5 => WI 235 [vR x0, vR (M x0 64), vI y4, vI y6] M5 (fun y8 M7 => inR y8 ∧ (if y8 = 0 then (Q (vI x7) M7) else (WI 229 [vR x0, vI x7] M7 (fun y11 M10 => WI 241 [vR x0, vI x7] M10 (fun y13 M12 => WI 236 [vR x0, vR (M7 x0 64), vI y11, vI y13] M12 (fun y15 M14 => inR y15 ∧ (if y15 = 0 then (Q (vI x7) M14) else (WR 256 153 [some (vR x0), some (vI x1), some (vL x2), none, some (vI x4), some (vL x5), none, some (vI (x7 + 1))] [] M14 Q)))))))))))))) : WR 256 153 [some (vR x0), some (vI x1), some (vL x2), none, some (vI x4), some (vL x5), none, some (vI x7)] [] M Q := by
  refine g_5 (a := 7) (b := 0) (nx := 155) (by decide +kernel) rfl ?_
  refine g_7 (a := 0) (b := 0) (nx := 156) (by decide +kernel) rfl ?_
  refine g_50 (a := 12) (b := 70) (nx := 159) (by decide +kernel) h0 ?_
  obtain ⟨r1, h⟩ := h
  obtain ⟨r2, h⟩ := h
  by_cases c19 : (M x0 70) ≤ x7
  · rw [if_pos c19] at h
    refine g_41t (a := 3) (b := 217) (nx := 162) (by decide +kernel) (by rw [wr_id r1, wr_id r2]; exact (cb_3 _ _).mpr c19) ?_
    refine g_1 (a := (-1)) (b := 0) (nx := 218) (by decide +kernel) ?_
    exact g_91 (b := 0) (nx := 219) (by decide +kernel) h
  · rw [if_neg c19] at h
    refine g_41f (a := 3) (b := 217) (nx := 162) (by decide +kernel) (by rw [wr_id r1, wr_id r2]; exact fun hz => c19 ((cb_3 _ _).mp hz)) ?_
    refine g_7 (a := 0) (b := 0) (nx := 163) (by decide +kernel) rfl ?_
    refine g_7 (a := 0) (b := 0) (nx := 164) (by decide +kernel) rfl ?_
    refine g_52 (a := 12) (b := 64) (nx := 167) (by decide +kernel) h0 ?_
    refine g_7 (a := 0) (b := 0) (nx := 168) (by decide +kernel) rfl ?_
    refine g_5 (a := 7) (b := 0) (nx := 170) (by decide +kernel) rfl ?_
    refine g_80 (a := 239) (b := 1) (nx := 173) (by decide +kernel) (r := x0) (As := [vI x7]) (st' := [vR (M x0 64), vR x0]) (z := 239) rfl rfl rfl (Nat.le_of_ble_eq_true rfl) h0.2 (Nat.le_of_ble_eq_true rfl) rfl (c_I (by decide +kernel) h (fun y4 M3 h => ?_))
    refine g_7 (a := 0) (b := 0) (nx := 174) (by decide +kernel) rfl ?_
    refine g_5 (a := 7) (b := 0) (nx := 176) (by decide +kernel) rfl ?_
    refine g_80 (a := 240) (b := 1) (nx := 179) (by decide +kernel) (r := x0) (As := [vI x7]) (st' := [vI y4, vR (M x0 64), vR x0]) (z := 240) rfl rfl rfl (Nat.le_of_ble_eq_true rfl) h0.2 (Nat.le_of_ble_eq_true rfl) rfl (c_I (by decide +kernel) h (fun y6 M5 h => ?_))
    refine g_80 (a := 235) (b := 3) (nx := 182) (by decide +kernel) (r := x0) (As := [vR (M x0 64), vI y4, vI y6]) (st' := []) (z := 235) rfl rfl rfl (Nat.le_of_ble_eq_true rfl) h0.2 (Nat.le_of_ble_eq_true rfl) rfl (c_I (by decide +kernel) h (fun y8 M7 h => ?_))
    obtain ⟨r9, h⟩ := h
    by_cases c18 : y8 = 0
    · rw [if_pos c18] at h
      refine g_40t (a := 0) (b := 208) (nx := 185) (by decide +kernel) r9 (by exact (cb_0 _ _).mpr c18) ?_
      refine g_5 (a := 7) (b := 0) (nx := 210) (by decide +kernel) rfl ?_
      exact g_91 (b := 0) (nx := 211) (by decide +kernel) h
    · rw [if_neg c18] at h
      refine g_40f (a := 0) (b := 208) (nx := 185) (by decide +kernel) r9 (by exact fun hz => c18 ((cb_0 _ _).mp hz)) ?_
      refine g_7 (a := 0) (b := 0) (nx := 186) (by decide +kernel) rfl ?_
      refine g_7 (a := 0) (b := 0) (nx := 187) (by decide +kernel) rfl ?_
      refine g_52 (a := 12) (b := 64) (nx := 190) (by decide +kernel) h0 ?_
      refine g_7 (a := 0) (b := 0) (nx := 191) (by decide +kernel) rfl ?_
      refine g_5 (a := 7) (b := 0) (nx := 193) (by decide +kernel) rfl ?_
      refine g_80 (a := 229) (b := 1) (nx := 196) (by decide +kernel) (r := x0) (As := [vI x7]) (st' := [vR (M7 x0 64), vR x0]) (z := 229) rfl rfl rfl (Nat.le_of_ble_eq_true rfl) h0.2 (Nat.le_of_ble_eq_true rfl) rfl (c_I (by decide +kernel) h (fun y11 M10 h => ?_))
      refine g_7 (a := 0) (b := 0) (nx := 197) (by decide +kernel) rfl ?_
      refine g_5 (a := 7) (b := 0) (nx := 199) (by decide +kernel) rfl ?_
      refine g_80 (a := 241) (b := 1) (nx := 202) (by decide +kernel) (r := x0) (As := [vI x7]) (st' := [vI y11, vR (M7 x0 64), vR x0]) (z := 241) rfl rfl rfl (Nat.le_of_ble_eq_true rfl) h0.2 (Nat.le_of_ble_eq_true rfl) rfl (c_I (by decide +kernel) h (fun y13 M12 h => ?_))
      refine g_80 (a := 236) (b := 3) (nx := 205) (by decide +kernel) (r := x0) (As := [vR (M7 x0 64), vI y11, vI y13]) (st' := []) (z := 236) rfl rfl rfl (Nat.le_of_ble_eq_true rfl) h0.2 (Nat.le_of_ble_eq_true rfl) rfl (c_I (by decide +kernel) h (fun y15 M14 h => ?_))
      obtain ⟨r16, h⟩ := h
      by_cases c17 : y15 = 0
      · rw [if_pos c17] at h
        refine g_40f (a := 1) (b := 211) (nx := 208) (by decide +kernel) r16 (by exact fun hz => ((cb_1 _ _).mp hz) c17) ?_
        refine g_5 (a := 7) (b := 0) (nx := 210) (by decide +kernel) rfl ?_
        exact g_91 (b := 0) (nx := 211) (by decide +kernel) h
      · rw [if_neg c17] at h
        refine g_40t (a := 1) (b := 211) (nx := 208) (by decide +kernel) r16 (by exact (cb_1 _ _).mpr c17) ?_
        refine g_11 (a := 7) (b := 1) (nx := 214) (by decide +kernel) rfl rfl (ls' := [some (vR x0), some (vI x1), some (vL x2), none, some (vI x4), some (vL x5), none, some (vI (x7 + 1))]) rfl ?_
        refine g_44 (a := 0) (b := 153) (nx := 217) (by decide +kernel) ?_
        exact h
-- 257 SyllableMakerModel.over(I)I
theorem t_257 {x0 x1 : Int} {M : Mem} {Q : AV → Mem → Prop} (h0 : gO 12 x0) (h : inR x1 ∧ (if x1 = 0 then (Q (vI 0) M) else (inR (M x0 56) ∧ (if x1 < (M x0 56) then (WV 227 [vR x0, vI x1] M (fun M3 => inR (M3 x0 70) ∧ (if (M3 x0 70) = 0 then (Q (vI 0) M3) else ((gA 20 (M3 x0 65) 0) ∧ inR (M3 (M3 x0 65) 0) ∧ (if (M3 (M3 x0 65) 0) ≤ 0 then (WV 227 [vR x0, vI (x1 - 1)] M3 (fun M7 => inR (M7 x0 70) ∧ (if (M7 x0 70) = 0 then (Q (vI 0) M7) else (WI 229 [vR x0, vI ((M7 x0 70) - 1)] M7 (fun y11 M10 => WI 179 [vI (M7 x0 45), vI ((M7 x0 69) - y11)] M10 (fun y13 M12 => WR 257 76 [some (vR x0), some (vI x1), some (vI y13)] [] M12 Q)))))) else (Q (vI 0) M3)))))) else (Q (vI 0) M))))) : WC 257 [vR x0, vI x1] M Q := by
  show WR 257 0 [some (vR x0), some (vI x1), none] [] M Q
  refine g_5 (a := 1) (b := 0) (nx := 1) (by decide +kernel) rfl ?_
  obtain ⟨r1, h⟩ := h
  by_cases c18 : x1 = 0
  · rw [if_pos c18] at h
    refine g_40t (a := 0) (b := 12) (nx := 4) (by decide +kernel) r1 (by exact (cb_0 _ _).mpr c18) ?_
    refine g_1 (a := 0) (b := 0) (nx := 13) (by decide +kernel) ?_
    exact g_91 (b := 0) (nx := 14) (by decide +kernel) h
  · rw [if_neg c18] at h
    refine g_40f (a := 0) (b := 12) (nx := 4) (by decide +kernel) r1 (by exact fun hz => c18 ((cb_0 _ _).mp hz)) ?_
    refine g_5 (a := 1) (b := 0) (nx := 5) (by decide +kernel) rfl ?_
    refine g_7 (a := 0) (b := 0) (nx := 6) (by decide +kernel) rfl ?_
    refine g_50 (a := 12) (b := 56) (nx := 9) (by decide +kernel) h0 ?_
    obtain ⟨r2, h⟩ := h
    by_cases c17 : x1 < (M x0 56)
    · rw [if_pos c17] at h
      refine g_41t (a := 2) (b := 14) (nx := 12) (by decide +kernel) (by rw [wr_id r1, wr_id r2]; exact (cb_2 _ _).mpr c17) ?_
      refine g_7 (a := 0) (b := 0) (nx := 15) (by decide +kernel) rfl ?_
      refine g_5 (a := 1) (b := 0) (nx := 16) (by decide +kernel) rfl ?_
      refine g_80 (a := 227) (b := 1) (nx := 19) (by decide +kernel) (r := x0) (As := [vI x1]) (st' := []) (z := 227) rfl rfl rfl (Nat.le_of_ble_eq_true rfl) h0.2 (Nat.le_of_ble_eq_true rfl) rfl (c_V (by decide +kernel) h (fun M3 h => ?_))
      refine g_7 (a := 0) (b := 0) (nx := 20) (by decide +kernel) rfl ?_
      refine g_50 (a := 12) (b := 70) (nx := 23) (by decide +kernel) h0 ?_
      obtain ⟨r5, h⟩ := h
      by_cases c16 : (M3 x0 70) = 0
      · rw [if_pos c16] at h
        refine g_40t (a := 0) (b := 35) (nx := 26) (by decide +kernel) r5 (by exact (cb_0 _ _).mpr c16) ?_
        refine g_1 (a := 0) (b := 0) (nx := 36) (by decide +kernel) ?_
        exact g_91 (b := 0) (nx := 37) (by decide +kernel) h
      · rw [if_neg c16] at h
        refine g_40f (a := 0) (b := 35) (nx := 26) (by decide +kernel) r5 (by exact fun hz => c16 ((cb_0 _ _).mp hz)) ?_
        refine g_7 (a := 0) (b := 0) (nx := 27) (by decide +kernel) rfl ?_
        refine g_52 (a := 12) (b := 65) (nx := 30) (by decide +kernel) h0 ?_
        refine g_1 (a := 0) (b := 0) (nx := 31) (by decide +kernel) ?_
        refine g_61 (a := 0) (b := 0) (nx := 32) (by decide +kernel) h.1 ?_
        replace h := h.2
        obtain ⟨r6, h⟩ := h
        by_cases c15 : (M3 (M3 x0 65) 0) ≤ 0
        · rw [if_pos c15] at h
          refine g_40t (a := 5) (b := 37) (nx := 35) (by decide +kernel) r6 (by exact (cb_5 _ _).mpr c15) ?_
          refine g_7 (a := 0) (b := 0) (nx := 38) (by decide +kernel) rfl ?_
          refine g_5 (a := 1) (b := 0) (nx := 39) (by decide +kernel) rfl ?_
          refine g_1 (a := 1) (b := 0) (nx := 40) (by decide +kernel) ?_
          refine g_16 (a := 0) (b := 0) (nx := 41) (by decide +kernel) ?_
          refine g_80 (a := 227) (b := 1) (nx := 44) (by decide +kernel) (r := x0) (As := [vI (x1 - 1)]) (st' := []) (z := 227) rfl rfl rfl (Nat.le_of_ble_eq_true rfl) h0.2 (Nat.le_of_ble_eq_true rfl) rfl (c_V (by decide +kernel) h (fun M7 h => ?_))
          refine g_7 (a := 0) (b := 0) (nx := 45) (by decide +kernel) rfl ?_
          refine g_50 (a := 12) (b := 70) (nx := 48) (by decide +kernel) h0 ?_
          obtain ⟨r9, h⟩ := h
          by_cases c14 : (M7 x0 70) = 0
          · rw [if_pos c14] at h
            refine g_40f (a := 1) (b := 53) (nx := 51) (by decide +kernel) r9 (by exact fun hz => ((cb_1 _ _).mp hz) c14) ?_
            refine g_1 (a := 0) (b := 0) (nx := 52) (by decide +kernel) ?_
            exact g_91 (b := 0) (nx := 53) (by decide +kernel) h
          · rw [if_neg c14] at h
            refine g_40t (a := 1) (b := 53) (nx := 51) (by decide +kernel) r9 (by exact (cb_1 _ _).mpr c14) ?_
            refine g_7 (a := 0) (b := 0) (nx := 54) (by decide +kernel) rfl ?_
            refine g_50 (a := 12) (b := 45) (nx := 57) (by decide +kernel) h0 ?_
            refine g_7 (a := 0) (b := 0) (nx := 58) (by decide +kernel) rfl ?_
            refine g_50 (a := 12) (b := 69) (nx := 61) (by decide +kernel) h0 ?_
            refine g_7 (a := 0) (b := 0) (nx := 62) (by decide +kernel) rfl ?_
            refine g_7 (a := 0) (b := 0) (nx := 63) (by decide +kernel) rfl ?_
            refine g_50 (a := 12) (b := 70) (nx := 66) (by decide +kernel) h0 ?_
            refine g_1 (a := 1) (b := 0) (nx := 67) (by decide +kernel) ?_
            refine g_16 (a := 0) (b := 0) (nx := 68) (by decide +kernel) ?_
            refine g_80 (a := 229) (b := 1) (nx := 71) (by decide +kernel) (r := x0) (As := [vI ((M7 x0 70) - 1)]) (st' := [vI (M7 x0 69), vI (M7 x0 45)]) (z := 229) rfl rfl rfl (Nat.le_of_ble_eq_true rfl) h0.2 (Nat.le_of_ble_eq_true rfl) rfl (c_I (by decide +kernel) h (fun y11 M10 h => ?_))
            refine g_16 (a := 0) (b := 0) (nx := 72) (by decide +kernel) ?_
            refine g_82 (a := 179) (b := 2) (nx := 75) (by decide +kernel) (As := [vI (M7 x0 45), vI ((M7 x0 69) - y11)]) (st' := []) (z := 179) rfl rfl rfl (Nat.le_of_ble_eq_true rfl) (Nat.le_of_ble_eq_true rfl) rfl (c_I (by decide +kernel) h (fun y13 M12 h => ?_))
            refine g_8 (a := 2) (b := 0) (nx := 76) (by decide +kernel) rfl (ls' := [some (vR x0), some (vI x1), some (vI y13)]) rfl ?_
            exact h
        · rw [if_neg c15] at h
          refine g_40f (a := 5) (b := 37) (nx := 35) (by decide +kernel) r6 (by exact fun hz => c15 ((cb_5 _ _).mp hz)) ?_
          refine g_1 (a := 0) (b := 0) (nx := 36) (by decide +kernel) ?_
          exact g_91 (b := 0) (nx := 37) (by decide +kernel) h
    · rw [if_neg c17] at h
      refine g_41f (a := 2) (b := 14) (nx := 12) (by decide +kernel) (by rw [wr_id r1, wr_id r2]; exact fun hz => c17 ((cb_2 _ _).mp hz)) ?_
      refine g_1 (a := 0) (b := 0) (nx := 13) (by decide +kernel) ?_
      exact g_91 (b := 0) (nx := 14) (by decide +kernel) h
theorem t_257_76 {x0 x1 x2 : Int} {M : Mem} {Q : AV → Mem → Prop} (h0 : gO 12 x0) (h : inR x2 ∧ (if 4 < x2 then (WR 257 76 [some (vR x0), some (vI x1), some (vI (x2 + (-1)))] [] M Q) else (WI 235 [vR x0, vR (M x0 64), vI ((M x0 69) - x2), vI x2] M (fun y3 M2 => inR y3 ∧ (if y3 = 0 then (WR 257 76 [some (vR x0), some (vI x1), some (vI (x2 + (-1)))] [] M2 Q) else (Q (vI x2) M2)))))) : WR 257 76 [some (vR x0), some (vI x1), some (vI x2)] [] M Q := by
  refine g_5 (a := 2) (b := 0) (nx := 77) (by decide +kernel) rfl ?_
  refine g_1 (a := 4) (b := 0) (nx := 78) (by decide +kernel) ?_
  obtain ⟨r1, h⟩ := h
  by_cases c6 : 4 < x2
  · rw [if_pos c6] at h
    refine g_41t (a := 4) (b := 99) (nx := 81) (by decide +kernel) (by rw [wr_id r1, wr_id (show inR 4 by decide)]; exact (cb_4 _ _).mpr c6) ?_
    refine g_11 (a := 2) (b := (-1)) (nx := 102) (by decide +kernel) rfl rfl (ls' := [some (vR x0), some (vI x1), some (vI (x2 + (-1)))]) rfl ?_
    refine g_44 (a := 0) (b := 76) (nx := 105) (by decide +kernel) ?_
    exact h
  · rw [if_neg c6] at h
    refine g_41f (a := 4) (b := 99) (nx := 81) (by decide +kernel) (by rw [wr_id r1, wr_id (show inR 4 by decide)]; exact fun hz => c6 ((cb_4 _ _).mp hz)) ?_
    refine g_7 (a := 0) (b := 0) (nx := 82) (by decide +kernel) rfl ?_
    refine g_7 (a := 0) (b := 0) (nx := 83) (by decide +kernel) rfl ?_
    refine g_52 (a := 12) (b := 64) (nx := 86) (by decide +kernel) h0 ?_
    refine g_7 (a := 0) (b := 0) (nx := 87) (by decide +kernel) rfl ?_
    refine g_50 (a := 12) (b := 69) (nx := 90) (by decide +kernel) h0 ?_
    refine g_5 (a := 2) (b := 0) (nx := 91) (by decide +kernel) rfl ?_
    refine g_16 (a := 0) (b := 0) (nx := 92) (by decide +kernel) ?_
    refine g_5 (a := 2) (b := 0) (nx := 93) (by decide +kernel) rfl ?_
    refine g_80 (a := 235) (b := 3) (nx := 96) (by decide +kernel) (r := x0) (As := [vR (M x0 64), vI ((M x0 69) - x2), vI x2]) (st' := []) (z := 235) rfl rfl rfl (Nat.le_of_ble_eq_true rfl) h0.2 (Nat.le_of_ble_eq_true rfl) rfl (c_I (by decide +kernel) h (fun y3 M2 h => ?_))
    obtain ⟨r4, h⟩ := h
    by_cases c5 : y3 = 0
    · rw [if_pos c5] at h
      refine g_40f (a := 1) (b := 105) (nx := 99) (by decide +kernel) r4 (by exact fun hz => ((cb_1 _ _).mp hz) c5) ?_
      refine g_11 (a := 2) (b := (-1)) (nx := 102) (by decide +kernel) rfl rfl (ls' := [some (vR x0), some (vI x1), some (vI (x2 + (-1)))]) rfl ?_
      refine g_44 (a := 0) (b := 76) (nx := 105) (by decide +kernel) ?_
      exact h
    · rw [if_neg c5] at h
      refine g_40t (a := 1) (b := 105) (nx := 99) (by decide +kernel) r4 (by exact (cb_1 _ _).mpr c5) ?_
      refine g_5 (a := 2) (b := 0) (nx := 106) (by decide +kernel) rfl ?_
      exact g_91 (b := 0) (nx := 107) (by decide +kernel) h
-- 258 SyllableMakerModel.joins(I)I
theorem t_258 {x0 x1 : Int} {M : Mem} {Q : AV → Mem → Prop} (h0 : gO 12 x0) (h : WI 220 [vR x0, vI x1] M (fun y2 M1 => inR y2 ∧ (if y2 = 0 then (Q (vI (-1)) M1) else (WI 257 [vR x0, vI x1] M1 (fun y5 M4 => Q (vI y5) M4))))) : WC 258 [vR x0, vI x1] M Q := by
  show WR 258 0 [some (vR x0), some (vI x1)] [] M Q
  refine g_7 (a := 0) (b := 0) (nx := 1) (by decide +kernel) rfl ?_
  refine g_5 (a := 1) (b := 0) (nx := 2) (by decide +kernel) rfl ?_
  refine g_80 (a := 220) (b := 1) (nx := 5) (by decide +kernel) (r := x0) (As := [vI x1]) (st' := []) (z := 220) rfl rfl rfl (Nat.le_of_ble_eq_true rfl) h0.2 (Nat.le_of_ble_eq_true rfl) rfl (c_I (by decide +kernel) h (fun y2 M1 h => ?_))
  obtain ⟨r3, h⟩ := h
  by_cases c6 : y2 = 0
  · rw [if_pos c6] at h
    refine g_40t (a := 0) (b := 16) (nx := 8) (by decide +kernel) r3 (by exact (cb_0 _ _).mpr c6) ?_
    refine g_1 (a := (-1)) (b := 0) (nx := 17) (by decide +kernel) ?_
    exact g_91 (b := 0) (nx := 18) (by decide +kernel) h
  · rw [if_neg c6] at h
    refine g_40f (a := 0) (b := 16) (nx := 8) (by decide +kernel) r3 (by exact fun hz => c6 ((cb_0 _ _).mp hz)) ?_
    refine g_7 (a := 0) (b := 0) (nx := 9) (by decide +kernel) rfl ?_
    refine g_5 (a := 1) (b := 0) (nx := 10) (by decide +kernel) rfl ?_
    refine g_80 (a := 257) (b := 1) (nx := 13) (by decide +kernel) (r := x0) (As := [vI x1]) (st' := []) (z := 257) rfl rfl rfl (Nat.le_of_ble_eq_true rfl) h0.2 (Nat.le_of_ble_eq_true rfl) rfl (c_I (by decide +kernel) h (fun y5 M4 h => ?_))
    refine g_44 (a := 0) (b := 17) (nx := 16) (by decide +kernel) ?_
    exact g_91 (b := 0) (nx := 18) (by decide +kernel) h
-- 259 SyllableMakerModel.joinedAt(IIIII)I
theorem t_259 {x0 x1 x2 x3 x4 x5 : Int} {M : Mem} {Q : AV → Mem → Prop} (h0 : gO 12 x0) (h : WI 240 [vR x0, vI x2] M (fun y2 M1 => inR x2 ∧ (if x2 = 0 then (WI 241 [vR x0, vI x2] M1 (fun y69 M68 => inR ((M68 x0 70) - 1) ∧ (if x2 = ((M68 x0 70) - 1) then ((gA 20 (M68 x0 66) x2) ∧ (gA 20 (M68 x0 55) ((M68 (M68 x0 66) x2) - 1)) ∧ (gA 20 (M68 x0 55) 2) ∧ inR x3 ∧ (if x3 = 0 then (if x2 = 0 then (Q (vI (-x4)) M68) else (WI 239 [vR x0, vI x2] M68 (fun y104 M103 => Q (vI y104) M103))) else (if x3 = 1 then (Q (vI (y2 + x4)) M68) else (if x3 = 2 then ((gA 20 (M68 x0 66) x2) ∧ Q (vI (M68 (M68 x0 66) x2)) M68) else (if x3 = 3 then (Q (vI (y69 - x5)) M68) else (if x3 = 4 then (Q (vI ((M68 (M68 x0 55) ((M68 (M68 x0 66) x2) - 1)) + ((M68 (M68 x0 55) 2) * (y69 - x5)))) M68) else (if x3 = 5 then ((gA 20 (M68 x0 55) 3) ∧ inR ((M68 (M68 x0 55) ((M68 (M68 x0 66) x2) - 1)) + ((M68 (M68 x0 55) 2) * (y69 - x5))) ∧ (inR (M68 (M68 x0 55) 3) ∧ (if ((M68 (M68 x0 55) ((M68 (M68 x0 66) x2) - 1)) + ((M68 (M68 x0 55) 2) * (y69 - x5))) < (M68 (M68 x0 55) 3) then (WI 178 [vI 0] M68 (fun y114 M113 => Q (vI y114) M113)) else (WI 178 [vI 1] M68 (fun y116 M115 => Q (vI y116) M115))))) else (if x3 = 7 then (if x2 = 0 then (inR x4 ∧ (if 0 < x4 then (WR 259 192 [some (vR x0), some (vI x1), some (vI x2), some (vI x3), some (vI x4), some (vI x5), some (vI (y2 + x4)), some (vI (y69 - x5)), some (vI ((M68 (M68 x0 55) ((M68 (M68 x0 66) x2) - 1)) + ((M68 (M68 x0 55) 2) * (y69 - x5)))), none, none, none] [] M68 Q) else (WR 259 177 [some (vR x0), some (vI x1), some (vI x2), some (vI x3), some (vI x4), some (vI x5), some (vI (y2 + x4)), some (vI (y69 - x5)), some (vI ((M68 (M68 x0 55) ((M68 (M68 x0 66) x2) - 1)) + ((M68 (M68 x0 55) 2) * (y69 - x5)))), none, none, none] [] M68 Q))) else (WR 259 177 [some (vR x0), some (vI x1), some (vI x2), some (vI x3), some (vI x4), some (vI x5), some (vI (y2 + x4)), some (vI (y69 - x5)), some (vI ((M68 (M68 x0 55) ((M68 (M68 x0 66) x2) - 1)) + ((M68 (M68 x0 55) 2) * (y69 - x5)))), none, none, none] [] M68 Q)) else (WI 239 [vR x0, vI x2] M68 (fun y123 M122 => WI 240 [vR x0, vI x2] M122 (fun y125 M124 => WI 235 [vR x0, vR (M68 x0 64), vI y123, vI y125] M124 (fun y127 M126 => if x2 = 0 then (inR x4 ∧ (if x4 ≤ 0 then (WR 259 296 [some (vR x0), some (vI x1), some (vI x2), some (vI x3), some (vI x4), some (vI x5), some (vI (y2 + x4)), some (vI (y69 - x5)), some (vI ((M68 (M68 x0 55) ((M68 (M68 x0 66) x2) - 1)) + ((M68 (M68 x0 55) 2) * (y69 - x5)))), some (vI y127), none, none] [] M126 Q) else ((gA 20 (M126 x0 58) (x1 - 1)) ∧ WR 259 243 [some (vR x0), some (vI x1), some (vI x2), some (vI x3), some (vI x4), some (vI x5), some (vI (y2 + x4)), some (vI (y69 - x5)), some (vI ((M68 (M68 x0 55) ((M68 (M68 x0 66) x2) - 1)) + ((M68 (M68 x0 55) 2) * (y69 - x5)))), some (vI y127), some (vI (M126 (M126 x0 58) (x1 - 1))), some (vI 0)] [] M126 Q))) else (WR 259 296 [some (vR x0), some (vI x1), some (vI x2), some (vI x3), some (vI x4), some (vI x5), some (vI (y2 + x4)), some (vI (y69 - x5)), some (vI ((M68 (M68 x0 55) ((M68 (M68 x0 66) x2) - 1)) + ((M68 (M68 x0 55) 2) * (y69 - x5)))), some (vI y127), none, none] [] M126 Q))))))))))))) else ((gA 20 (M68 x0 66) x2) ∧ (gA 20 (M68 x0 55) ((M68 (M68 x0 66) x2) - 1)) ∧ (gA 20 (M68 x0 55) 2) ∧ inR x3 ∧ (if x3 = 0 then (if x2 = 0 then (Q (vI (-x4)) M68) else (WI 239 [vR x0, vI x2] M68 (fun y74 M73 => Q (vI y74) M73))) else (if x3 = 1 then (Q (vI (y2 + x4)) M68) else (if x3 = 2 then ((gA 20 (M68 x0 66) x2) ∧ Q (vI (M68 (M68 x0 66) x2)) M68) else (if x3 = 3 then (Q (vI (y69 - 0)) M68) else (if x3 = 4 then (Q (vI ((M68 (M68 x0 55) ((M68 (M68 x0 66) x2) - 1)) + ((M68 (M68 x0 55) 2) * (y69 - 0)))) M68) else (if x3 = 5 then ((gA 20 (M68 x0 55) 3) ∧ inR ((M68 (M68 x0 55) ((M68 (M68 x0 66) x2) - 1)) + ((M68 (M68 x0 55) 2) * (y69 - 0))) ∧ (inR (M68 (M68 x0 55) 3) ∧ (if ((M68 (M68 x0 55) ((M68 (M68 x0 66) x2) - 1)) + ((M68 (M68 x0 55) 2) * (y69 - 0))) < (M68 (M68 x0 55) 3) then (WI 178 [vI 0] M68 (fun y84 M83 => Q (vI y84) M83)) else (WI 178 [vI 1] M68 (fun y86 M85 => Q (vI y86) M85))))) else (if x3 = 7 then (if x2 = 0 then (inR x4 ∧ (if 0 < x4 then (WR 259 192 [some (vR x0), some (vI x1), some (vI x2), some (vI x3), some (vI x4), some (vI x5), some (vI (y2 + x4)), some (vI (y69 - 0)), some (vI ((M68 (M68 x0 55) ((M68 (M68 x0 66) x2) - 1)) + ((M68 (M68 x0 55) 2) * (y69 - 0)))), none, none, none] [] M68 Q) else (WR 259 177 [some (vR x0), some (vI x1), some (vI x2), some (vI x3), some (vI x4), some (vI x5), some (vI (y2 + x4)), some (vI (y69 - 0)), some (vI ((M68 (M68 x0 55) ((M68 (M68 x0 66) x2) - 1)) + ((M68 (M68 x0 55) 2) * (y69 - 0)))), none, none, none] [] M68 Q))) else (WR 259 177 [some (vR x0), some (vI x1), some (vI x2), some (vI x3), some (vI x4), some (vI x5), some (vI (y2 + x4)), some (vI (y69 - 0)), some (vI ((M68 (M68 x0 55) ((M68 (M68 x0 66) x2) - 1)) + ((M68 (M68 x0 55) 2) * (y69 - 0)))), none, none, none] [] M68 Q)) else (WI 239 [vR x0, vI x2] M68 (fun y93 M92 => WI 240 [vR x0, vI x2] M92 (fun y95 M94 => WI 235 [vR x0, vR (M68 x0 64), vI y93, vI y95] M94 (fun y97 M96 => if x2 = 0 then (inR x4 ∧ (if x4 ≤ 0 then (WR 259 296 [some (vR x0), some (vI x1), some (vI x2), some (vI x3), some (vI x4), some (vI x5), some (vI (y2 + x4)), some (vI (y69 - 0)), some (vI ((M68 (M68 x0 55) ((M68 (M68 x0 66) x2) - 1)) + ((M68 (M68 x0 55) 2) * (y69 - 0)))), some (vI y97), none, none] [] M96 Q) else ((gA 20 (M96 x0 58) (x1 - 1)) ∧ WR 259 243 [some (vR x0), some (vI x1), some (vI x2), some (vI x3), some (vI x4), some (vI x5), some (vI (y2 + x4)), some (vI (y69 - 0)), some (vI ((M68 (M68 x0 55) ((M68 (M68 x0 66) x2) - 1)) + ((M68 (M68 x0 55) 2) * (y69 - 0)))), some (vI y97), some (vI (M96 (M96 x0 58) (x1 - 1))), some (vI 0)] [] M96 Q))) else (WR 259 296 [some (vR x0), some (vI x1), some (vI x2), some (vI x3), some (vI x4), some (vI x5), some (vI (y2 + x4)), some (vI (y69 - 0)), some (vI ((M68 (M68 x0 55) ((M68 (M68 x0 66) x2) - 1)) + ((M68 (M68 x0 55) 2) * (y69 - 0)))), some (vI y97), none, none] [] M96 Q)))))))))))))))) else (WI 241 [vR x0, vI x2] M1 (fun y5 M4 => inR ((M4 x0 70) - 1) ∧ (if x2 = ((M4 x0 70) - 1) then ((gA 20 (M4 x0 66) x2) ∧ (gA 20 (M4 x0 55) ((M4 (M4 x0 66) x2) - 1)) ∧ (gA 20 (M4 x0 55) 2) ∧ inR x3 ∧ (if x3 = 0 then (if x2 = 0 then (Q (vI (-x4)) M4) else (WI 239 [vR x0, vI x2] M4 (fun y40 M39 => Q (vI y40) M39))) else (if x3 = 1 then (Q (vI (y2 + 0)) M4) else (if x3 = 2 then ((gA 20 (M4 x0 66) x2) ∧ Q (vI (M4 (M4 x0 66) x2)) M4) else (if x3 = 3 then (Q (vI (y5 - x5)) M4) else (if x3 = 4 then (Q (vI ((M4 (M4 x0 55) ((M4 (M4 x0 66) x2) - 1)) + ((M4 (M4 x0 55) 2) * (y5 - x5)))) M4) else (if x3 = 5 then ((gA 20 (M4 x0 55) 3) ∧ inR ((M4 (M4 x0 55) ((M4 (M4 x0 66) x2) - 1)) + ((M4 (M4 x0 55) 2) * (y5 - x5))) ∧ (inR (M4 (M4 x0 55) 3) ∧ (if ((M4 (M4 x0 55) ((M4 (M4 x0 66) x2) - 1)) + ((M4 (M4 x0 55) 2) * (y5 - x5))) < (M4 (M4 x0 55) 3) then (WI 178 [vI 0] M4 (fun y50 M49 => Q (vI y50) M49)) else (WI 178 [vI 1] M4 (fun y52 M51 => Q (vI y52) M51))))) else (if x3 = 7 then (if x2 = 0 then (inR x4 ∧ (if 0 < x4 then (WR 259 192 [some (vR x0), some (vI x1), some (vI x2), some (vI x3), some (vI x4), some (vI x5), some (vI (y2 + 0)), some (vI (y5 - x5)), some (vI ((M4 (M4 x0 55) ((M4 (M4 x0 66) x2) - 1)) + ((M4 (M4 x0 55) 2) * (y5 - x5)))), none, none, none] [] M4 Q) else (WR 259 177 [some (vR x0), some (vI x1), some (vI x2), some (vI x3), some (vI x4), some (vI x5), some (vI (y2 + 0)), some (vI (y5 - x5)), some (vI ((M4 (M4 x0 55) ((M4 (M4 x0 66) x2) - 1)) + ((M4 (M4 x0 55) 2) * (y5 - x5)))), none, none, none] [] M4 Q))) else (WR 259 177 [some (vR x0), some (vI x1), some (vI x2), some (vI x3), some (vI x4), some (vI x5), some (vI (y2 + 0)), some (vI (y5 - x5)), some (vI ((M4 (M4 x0 55) ((M4 (M4 x0 66) x2) - 1)) + ((M4 (M4 x0 55) 2) * (y5 - x5)))), none, none, none] [] M4 Q)) else (WI 239 [vR x0, vI x2] M4 (fun y59 M58 => WI 240 [vR x0, vI x2] M58 (fun y61 M60 => WI 235 [vR x0, vR (M4 x0 64), vI y59, vI y61] M60 (fun y63 M62 => if x2 = 0 then (inR x4 ∧ (if x4 ≤ 0 then (WR 259 296 [some (vR x0), some (vI x1), some (vI x2), some (vI x3), some (vI x4), some (vI x5), some (vI (y2 + 0)), some (vI (y5 - x5)), some (vI ((M4 (M4 x0 55) ((M4 (M4 x0 66) x2) - 1)) + ((M4 (M4 x0 55) 2) * (y5 - x5)))), some (vI y63), none, none] [] M62 Q) else ((gA 20 (M62 x0 58) (x1 - 1)) ∧ WR 259 243 [some (vR x0), some (vI x1), some (vI x2), some (vI x3), some (vI x4), some (vI x5), some (vI (y2 + 0)), some (vI (y5 - x5)), some (vI ((M4 (M4 x0 55) ((M4 (M4 x0 66) x2) - 1)) + ((M4 (M4 x0 55) 2) * (y5 - x5)))), some (vI y63), some (vI (M62 (M62 x0 58) (x1 - 1))), some (vI 0)] [] M62 Q))) else (WR 259 296 [some (vR x0), some (vI x1), some (vI x2), some (vI x3), some (vI x4), some (vI x5), some (vI (y2 + 0)), some (vI (y5 - x5)), some (vI ((M4 (M4 x0 55) ((M4 (M4 x0 66) x2) - 1)) + ((M4 (M4 x0 55) 2) * (y5 - x5)))), some (vI y63), none, none] [] M62 Q))))))))))))) else ((gA 20 (M4 x0 66) x2) ∧ (gA 20 (M4 x0 55) ((M4 (M4 x0 66) x2) - 1)) ∧ (gA 20 (M4 x0 55) 2) ∧ inR x3 ∧ (if x3 = 0 then (if x2 = 0 then (Q (vI (-x4)) M4) else (WI 239 [vR x0, vI x2] M4 (fun y10 M9 => Q (vI y10) M9))) else (if x3 = 1 then (Q (vI (y2 + 0)) M4) else (if x3 = 2 then ((gA 20 (M4 x0 66) x2) ∧ Q (vI (M4 (M4 x0 66) x2)) M4) else (if x3 = 3 then (Q (vI (y5 - 0)) M4) else (if x3 = 4 then (Q (vI ((M4 (M4 x0 55) ((M4 (M4 x0 66) x2) - 1)) + ((M4 (M4 x0 55) 2) * (y5 - 0)))) M4) else (if x3 = 5 then ((gA 20 (M4 x0 55) 3) ∧ inR ((M4 (M4 x0 55) ((M4 (M4 x0 66) x2) - 1)) + ((M4 (M4 x0 55) 2) * (y5 - 0))) ∧ (inR (M4 (M4 x0 55) 3) ∧ (if ((M4 (M4 x0 55) ((M4 (M4 x0 66) x2) - 1)) + ((M4 (M4 x0 55) 2) * (y5 - 0))) < (M4 (M4 x0 55) 3) then (WI 178 [vI 0] M4 (fun y20 M19 => Q (vI y20) M19)) else (WI 178 [vI 1] M4 (fun y22 M21 => Q (vI y22) M21))))) else (if x3 = 7 then (if x2 = 0 then (inR x4 ∧ (if 0 < x4 then (WR 259 192 [some (vR x0), some (vI x1), some (vI x2), some (vI x3), some (vI x4), some (vI x5), some (vI (y2 + 0)), some (vI (y5 - 0)), some (vI ((M4 (M4 x0 55) ((M4 (M4 x0 66) x2) - 1)) + ((M4 (M4 x0 55) 2) * (y5 - 0)))), none, none, none] [] M4 Q) else (WR 259 177 [some (vR x0), some (vI x1), some (vI x2), some (vI x3), some (vI x4), some (vI x5), some (vI (y2 + 0)), some (vI (y5 - 0)), some (vI ((M4 (M4 x0 55) ((M4 (M4 x0 66) x2) - 1)) + ((M4 (M4 x0 55) 2) * (y5 - 0)))), none, none, none] [] M4 Q))) else (WR 259 177 [some (vR x0), some (vI x1), some (vI x2), some (vI x3), some (vI x4), some (vI x5), some (vI (y2 + 0)), some (vI (y5 - 0)), some (vI ((M4 (M4 x0 55) ((M4 (M4 x0 66) x2) - 1)) + ((M4 (M4 x0 55) 2) * (y5 - 0)))), none, none, none] [] M4 Q)) else (WI 239 [vR x0, vI x2] M4 (fun y29 M28 => WI 240 [vR x0, vI x2] M28 (fun y31 M30 => WI 235 [vR x0, vR (M4 x0 64), vI y29, vI y31] M30 (fun y33 M32 => if x2 = 0 then (inR x4 ∧ (if x4 ≤ 0 then (WR 259 296 [some (vR x0), some (vI x1), some (vI x2), some (vI x3), some (vI x4), some (vI x5), some (vI (y2 + 0)), some (vI (y5 - 0)), some (vI ((M4 (M4 x0 55) ((M4 (M4 x0 66) x2) - 1)) + ((M4 (M4 x0 55) 2) * (y5 - 0)))), some (vI y33), none, none] [] M32 Q) else ((gA 20 (M32 x0 58) (x1 - 1)) ∧ WR 259 243 [some (vR x0), some (vI x1), some (vI x2), some (vI x3), some (vI x4), some (vI x5), some (vI (y2 + 0)), some (vI (y5 - 0)), some (vI ((M4 (M4 x0 55) ((M4 (M4 x0 66) x2) - 1)) + ((M4 (M4 x0 55) 2) * (y5 - 0)))), some (vI y33), some (vI (M32 (M32 x0 58) (x1 - 1))), some (vI 0)] [] M32 Q))) else (WR 259 296 [some (vR x0), some (vI x1), some (vI x2), some (vI x3), some (vI x4), some (vI x5), some (vI (y2 + 0)), some (vI (y5 - 0)), some (vI ((M4 (M4 x0 55) ((M4 (M4 x0 66) x2) - 1)) + ((M4 (M4 x0 55) 2) * (y5 - 0)))), some (vI y33), none, none] [] M32 Q))))))))))))))))))) : WC 259 [vR x0, vI x1, vI x2, vI x3, vI x4, vI x5] M Q := by
  show WR 259 0 [some (vR x0), some (vI x1), some (vI x2), some (vI x3), some (vI x4), some (vI x5), none, none, none, none, none, none] [] M Q
  refine g_7 (a := 0) (b := 0) (nx := 1) (by decide +kernel) rfl ?_
  refine g_5 (a := 2) (b := 0) (nx := 2) (by decide +kernel) rfl ?_
  refine g_80 (a := 240) (b := 1) (nx := 5) (by decide +kernel) (r := x0) (As := [vI x2]) (st' := []) (z := 240) rfl rfl rfl (Nat.le_of_ble_eq_true rfl) h0.2 (Nat.le_of_ble_eq_true rfl) rfl (c_I (by decide +kernel) h (fun y2 M1 h => ?_))
  refine g_5 (a := 2) (b := 0) (nx := 6) (by decide +kernel) rfl ?_
  obtain ⟨r3, h⟩ := h
  by_cases c132 : x2 = 0
  · rw [if_pos c132] at h
    refine g_40f (a := 1) (b := 14) (nx := 9) (by decide +kernel) r3 (by exact fun hz => ((cb_1 _ _).mp hz) c132) ?_
    refine g_5 (a := 4) (b := 0) (nx := 11) (by decide +kernel) rfl ?_
    refine g_44 (a := 0) (b := 15) (nx := 14) (by decide +kernel) ?_
    refine g_15 (a := 0) (b := 0) (nx := 16) (by decide +kernel) ?_
    refine g_8 (a := 6) (b := 0) (nx := 18) (by decide +kernel) rfl (ls' := [some (vR x0), some (vI x1), some (vI x2), some (vI x3), some (vI x4), some (vI x5), some (vI (y2 + x4)), none, none, none, none, none]) rfl ?_
    refine g_7 (a := 0) (b := 0) (nx := 19) (by decide +kernel) rfl ?_
    refine g_5 (a := 2) (b := 0) (nx := 20) (by decide +kernel) rfl ?_
    refine g_80 (a := 241) (b := 1) (nx := 23) (by decide +kernel) (r := x0) (As := [vI x2]) (st' := []) (z := 241) rfl rfl rfl (Nat.le_of_ble_eq_true rfl) h0.2 (Nat.le_of_ble_eq_true rfl) rfl (c_I (by decide +kernel) h (fun y69 M68 h => ?_))
    refine g_5 (a := 2) (b := 0) (nx := 24) (by decide +kernel) rfl ?_
    refine g_7 (a := 0) (b := 0) (nx := 25) (by decide +kernel) rfl ?_
    refine g_50 (a := 12) (b := 70) (nx := 28) (by decide +kernel) h0 ?_
    refine g_1 (a := 1) (b := 0) (nx := 29) (by decide +kernel) ?_
    refine g_16 (a := 0) (b := 0) (nx := 30) (by decide +kernel) ?_
    obtain ⟨r70, h⟩ := h
    by_cases c131 : x2 = ((M68 x0 70) - 1)
    · rw [if_pos c131] at h
      refine g_41f (a := 1) (b := 38) (nx := 33) (by decide +kernel) (by rw [wr_id r3, wr_id r70]; exact fun hz => ((cb_1 _ _).mp hz) c131) ?_
      refine g_5 (a := 5) (b := 0) (nx := 35) (by decide +kernel) rfl ?_
      refine g_44 (a := 0) (b := 39) (nx := 38) (by decide +kernel) ?_
      refine g_16 (a := 0) (b := 0) (nx := 40) (by decide +kernel) ?_
      refine g_8 (a := 7) (b := 0) (nx := 42) (by decide +kernel) rfl (ls' := [some (vR x0), some (vI x1), some (vI x2), some (vI x3), some (vI x4), some (vI x5), some (vI (y2 + x4)), some (vI (y69 - x5)), none, none, none, none]) rfl ?_
      refine g_7 (a := 0) (b := 0) (nx := 43) (by decide +kernel) rfl ?_
      refine g_52 (a := 12) (b := 55) (nx := 46) (by decide +kernel) h0 ?_
      refine g_7 (a := 0) (b := 0) (nx := 47) (by decide +kernel) rfl ?_
      refine g_52 (a := 12) (b := 66) (nx := 50) (by decide +kernel) h0 ?_
      refine g_5 (a := 2) (b := 0) (nx := 51) (by decide +kernel) rfl ?_
      refine g_61 (a := 0) (b := 0) (nx := 52) (by decide +kernel) h.1 ?_
      replace h := h.2
      refine g_1 (a := 1) (b := 0) (nx := 53) (by decide +kernel) ?_
      refine g_16 (a := 0) (b := 0) (nx := 54) (by decide +kernel) ?_
      refine g_61 (a := 0) (b := 0) (nx := 55) (by decide +kernel) h.1 ?_
      replace h := h.2
      refine g_7 (a := 0) (b := 0) (nx := 56) (by decide +kernel) rfl ?_
      refine g_52 (a := 12) (b := 55) (nx := 59) (by decide +kernel) h0 ?_
      refine g_1 (a := 2) (b := 0) (nx := 60) (by decide +kernel) ?_
      refine g_61 (a := 0) (b := 0) (nx := 61) (by decide +kernel) h.1 ?_
      replace h := h.2
      refine g_5 (a := 7) (b := 0) (nx := 63) (by decide +kernel) rfl ?_
      refine g_17 (a := 0) (b := 0) (nx := 64) (by decide +kernel) ?_
      refine g_15 (a := 0) (b := 0) (nx := 65) (by decide +kernel) ?_
      refine g_8 (a := 8) (b := 0) (nx := 67) (by decide +kernel) rfl (ls' := [some (vR x0), some (vI x1), some (vI x2), some (vI x3), some (vI x4), some (vI x5), some (vI (y2 + x4)), some (vI (y69 - x5)), some (vI ((M68 (M68 x0 55) ((M68 (M68 x0 66) x2) - 1)) + ((M68 (M68 x0 55) 2) * (y69 - x5)))), none, none, none]) rfl ?_
      refine g_5 (a := 3) (b := 0) (nx := 68) (by decide +kernel) rfl ?_
      obtain ⟨r101, h⟩ := h
      by_cases c102 : x3 = 0
      · rw [if_pos c102] at h
        refine g_45 (a := 0) (b := 201) (nx := 116) (by decide +kernel) r101 (t := 116) (by rw [(show sws 259 68 = [(0, 116), (1, 132), (2, 135), (3, 142), (4, 145), (5, 148), (6, 201), (7, 168)] from by decide +kernel)]; simp only [swL]; simp [c102]) ?_
        refine g_5 (a := 2) (b := 0) (nx := 117) (by decide +kernel) rfl ?_
        by_cases c105 : x2 = 0
        · rw [if_pos c105] at h
          refine g_40f (a := 1) (b := 126) (nx := 120) (by decide +kernel) r3 (by exact fun hz => ((cb_1 _ _).mp hz) c105) ?_
          refine g_5 (a := 4) (b := 0) (nx := 122) (by decide +kernel) rfl ?_
          refine g_18 (a := 0) (b := 0) (nx := 123) (by decide +kernel) ?_
          refine g_44 (a := 0) (b := 131) (nx := 126) (by decide +kernel) ?_
          exact g_91 (b := 0) (nx := 132) (by decide +kernel) h
        · rw [if_neg c105] at h
          refine g_40t (a := 1) (b := 126) (nx := 120) (by decide +kernel) r3 (by exact (cb_1 _ _).mpr c105) ?_
          refine g_7 (a := 0) (b := 0) (nx := 127) (by decide +kernel) rfl ?_
          refine g_5 (a := 2) (b := 0) (nx := 128) (by decide +kernel) rfl ?_
          refine g_80 (a := 239) (b := 1) (nx := 131) (by decide +kernel) (r := x0) (As := [vI x2]) (st' := []) (z := 239) rfl rfl rfl (Nat.le_of_ble_eq_true rfl) h0.2 (Nat.le_of_ble_eq_true rfl) rfl (c_I (by decide +kernel) h (fun y104 M103 h => ?_))
          exact g_91 (b := 0) (nx := 132) (by decide +kernel) h
      · rw [if_neg c102] at h
        by_cases c106 : x3 = 1
        · rw [if_pos c106] at h
          refine g_45 (a := 0) (b := 201) (nx := 116) (by decide +kernel) r101 (t := 132) (by rw [(show sws 259 68 = [(0, 116), (1, 132), (2, 135), (3, 142), (4, 145), (5, 148), (6, 201), (7, 168)] from by decide +kernel)]; simp only [swL]; simp [c106]) ?_
          refine g_5 (a := 6) (b := 0) (nx := 134) (by decide +kernel) rfl ?_
          exact g_91 (b := 0) (nx := 135) (by decide +kernel) h
        · rw [if_neg c106] at h
          by_cases c107 : x3 = 2
          · rw [if_pos c107] at h
            refine g_45 (a := 0) (b := 201) (nx := 116) (by decide +kernel) r101 (t := 135) (by rw [(show sws 259 68 = [(0, 116), (1, 132), (2, 135), (3, 142), (4, 145), (5, 148), (6, 201), (7, 168)] from by decide +kernel)]; simp only [swL]; simp [c107]) ?_
            refine g_7 (a := 0) (b := 0) (nx := 136) (by decide +kernel) rfl ?_
            refine g_52 (a := 12) (b := 66) (nx := 139) (by decide +kernel) h0 ?_
            refine g_5 (a := 2) (b := 0) (nx := 140) (by decide +kernel) rfl ?_
            refine g_61 (a := 0) (b := 0) (nx := 141) (by decide +kernel) h.1 ?_
            replace h := h.2
            exact g_91 (b := 0) (nx := 142) (by decide +kernel) h
          · rw [if_neg c107] at h
            by_cases c108 : x3 = 3
            · rw [if_pos c108] at h
              refine g_45 (a := 0) (b := 201) (nx := 116) (by decide +kernel) r101 (t := 142) (by rw [(show sws 259 68 = [(0, 116), (1, 132), (2, 135), (3, 142), (4, 145), (5, 148), (6, 201), (7, 168)] from by decide +kernel)]; simp only [swL]; simp [c108]) ?_
              refine g_5 (a := 7) (b := 0) (nx := 144) (by decide +kernel) rfl ?_
              exact g_91 (b := 0) (nx := 145) (by decide +kernel) h
            · rw [if_neg c108] at h
              by_cases c109 : x3 = 4
              · rw [if_pos c109] at h
                refine g_45 (a := 0) (b := 201) (nx := 116) (by decide +kernel) r101 (t := 145) (by rw [(show sws 259 68 = [(0, 116), (1, 132), (2, 135), (3, 142), (4, 145), (5, 148), (6, 201), (7, 168)] from by decide +kernel)]; simp only [swL]; simp [c109]) ?_
                refine g_5 (a := 8) (b := 0) (nx := 147) (by decide +kernel) rfl ?_
                exact g_91 (b := 0) (nx := 148) (by decide +kernel) h
              · rw [if_neg c109] at h
                by_cases c110 : x3 = 5
                · rw [if_pos c110] at h
                  refine g_45 (a := 0) (b := 201) (nx := 116) (by decide +kernel) r101 (t := 148) (by rw [(show sws 259 68 = [(0, 116), (1, 132), (2, 135), (3, 142), (4, 145), (5, 148), (6, 201), (7, 168)] from by decide +kernel)]; simp only [swL]; simp [c110]) ?_
                  refine g_5 (a := 8) (b := 0) (nx := 150) (by decide +kernel) rfl ?_
                  refine g_7 (a := 0) (b := 0) (nx := 151) (by decide +kernel) rfl ?_
                  refine g_52 (a := 12) (b := 55) (nx := 154) (by decide +kernel) h0 ?_
                  refine g_1 (a := 3) (b := 0) (nx := 155) (by decide +kernel) ?_
                  refine g_61 (a := 0) (b := 0) (nx := 156) (by decide +kernel) h.1 ?_
                  replace h := h.2
                  obtain ⟨r111, h⟩ := h
                  obtain ⟨r112, h⟩ := h
                  by_cases c117 : ((M68 (M68 x0 55) ((M68 (M68 x0 66) x2) - 1)) + ((M68 (M68 x0 55) 2) * (y69 - x5))) < (M68 (M68 x0 55) 3)
                  · rw [if_pos c117] at h
                    refine g_41t (a := 2) (b := 163) (nx := 159) (by decide +kernel) (by rw [wr_id r111, wr_id r112]; exact (cb_2 _ _).mpr c117) ?_
                    refine g_1 (a := 0) (b := 0) (nx := 164) (by decide +kernel) ?_
                    refine g_82 (a := 178) (b := 1) (nx := 167) (by decide +kernel) (As := [vI 0]) (st' := []) (z := 178) rfl rfl rfl (Nat.le_of_ble_eq_true rfl) (Nat.le_of_ble_eq_true rfl) rfl (c_I (by decide +kernel) h (fun y114 M113 h => ?_))
                    exact g_91 (b := 0) (nx := 168) (by decide +kernel) h
                  · rw [if_neg c117] at h
                    refine g_41f (a := 2) (b := 163) (nx := 159) (by decide +kernel) (by rw [wr_id r111, wr_id r112]; exact fun hz => c117 ((cb_2 _ _).mp hz)) ?_
                    refine g_1 (a := 1) (b := 0) (nx := 160) (by decide +kernel) ?_
                    refine g_44 (a := 0) (b := 164) (nx := 163) (by decide +kernel) ?_
                    refine g_82 (a := 178) (b := 1) (nx := 167) (by decide +kernel) (As := [vI 1]) (st' := []) (z := 178) rfl rfl rfl (Nat.le_of_ble_eq_true rfl) (Nat.le_of_ble_eq_true rfl) rfl (c_I (by decide +kernel) h (fun y116 M115 h => ?_))
                    exact g_91 (b := 0) (nx := 168) (by decide +kernel) h
                · rw [if_neg c110] at h
                  by_cases c118 : x3 = 7
                  · rw [if_pos c118] at h
                    refine g_45 (a := 0) (b := 201) (nx := 116) (by decide +kernel) r101 (t := 168) (by rw [(show sws 259 68 = [(0, 116), (1, 132), (2, 135), (3, 142), (4, 145), (5, 148), (6, 201), (7, 168)] from by decide +kernel)]; simp only [swL]; simp [c118]) ?_
                    refine g_5 (a := 2) (b := 0) (nx := 169) (by decide +kernel) rfl ?_
                    by_cases c121 : x2 = 0
                    · rw [if_pos c121] at h
                      refine g_40f (a := 1) (b := 177) (nx := 172) (by decide +kernel) r3 (by exact fun hz => ((cb_1 _ _).mp hz) c121) ?_
                      refine g_5 (a := 4) (b := 0) (nx := 174) (by decide +kernel) rfl ?_
                      obtain ⟨r119, h⟩ := h
                      by_cases c120 : 0 < x4
                      · rw [if_pos c120] at h
                        refine g_40t (a := 4) (b := 192) (nx := 177) (by decide +kernel) r119 (by exact (cb_4 _ _).mpr c120) ?_
                        exact h
                      · rw [if_neg c120] at h
                        refine g_40f (a := 4) (b := 192) (nx := 177) (by decide +kernel) r119 (by exact fun hz => c120 ((cb_4 _ _).mp hz)) ?_
                        exact h
                    · rw [if_neg c121] at h
                      refine g_40t (a := 1) (b := 177) (nx := 172) (by decide +kernel) r3 (by exact (cb_1 _ _).mpr c121) ?_
                      exact h
                  · rw [if_neg c118] at h
                    refine g_45 (a := 0) (b := 201) (nx := 116) (by decide +kernel) r101 (t := 201) (by rw [(show sws 259 68 = [(0, 116), (1, 132), (2, 135), (3, 142), (4, 145), (5, 148), (6, 201), (7, 168)] from by decide +kernel)]; simp only [swL]; first | rfl | (simp [c102, c106, c107, c108, c109, c110, c118])) ?_
                    refine g_7 (a := 0) (b := 0) (nx := 202) (by decide +kernel) rfl ?_
                    refine g_7 (a := 0) (b := 0) (nx := 203) (by decide +kernel) rfl ?_
                    refine g_52 (a := 12) (b := 64) (nx := 206) (by decide +kernel) h0 ?_
                    refine g_7 (a := 0) (b := 0) (nx := 207) (by decide +kernel) rfl ?_
                    refine g_5 (a := 2) (b := 0) (nx := 208) (by decide +kernel) rfl ?_
                    refine g_80 (a := 239) (b := 1) (nx := 211) (by decide +kernel) (r := x0) (As := [vI x2]) (st' := [vR (M68 x0 64), vR x0]) (z := 239) rfl rfl rfl (Nat.le_of_ble_eq_true rfl) h0.2 (Nat.le_of_ble_eq_true rfl) rfl (c_I (by decide +kernel) h (fun y123 M122 h => ?_))
                    refine g_7 (a := 0) (b := 0) (nx := 212) (by decide +kernel) rfl ?_
                    refine g_5 (a := 2) (b := 0) (nx := 213) (by decide +kernel) rfl ?_
                    refine g_80 (a := 240) (b := 1) (nx := 216) (by decide +kernel) (r := x0) (As := [vI x2]) (st' := [vI y123, vR (M68 x0 64), vR x0]) (z := 240) rfl rfl rfl (Nat.le_of_ble_eq_true rfl) h0.2 (Nat.le_of_ble_eq_true rfl) rfl (c_I (by decide +kernel) h (fun y125 M124 h => ?_))
                    refine g_80 (a := 235) (b := 3) (nx := 219) (by decide +kernel) (r := x0) (As := [vR (M68 x0 64), vI y123, vI y125]) (st' := []) (z := 235) rfl rfl rfl (Nat.le_of_ble_eq_true rfl) h0.2 (Nat.le_of_ble_eq_true rfl) rfl (c_I (by decide +kernel) h (fun y127 M126 h => ?_))
                    refine g_8 (a := 9) (b := 0) (nx := 221) (by decide +kernel) rfl (ls' := [some (vR x0), some (vI x1), some (vI x2), some (vI x3), some (vI x4), some (vI x5), some (vI (y2 + x4)), some (vI (y69 - x5)), some (vI ((M68 (M68 x0 55) ((M68 (M68 x0 66) x2) - 1)) + ((M68 (M68 x0 55) 2) * (y69 - x5)))), some (vI y127), none, none]) rfl ?_
                    refine g_5 (a := 2) (b := 0) (nx := 222) (by decide +kernel) rfl ?_
                    by_cases c130 : x2 = 0
                    · rw [if_pos c130] at h
                      refine g_40f (a := 1) (b := 296) (nx := 225) (by decide +kernel) r3 (by exact fun hz => ((cb_1 _ _).mp hz) c130) ?_
                      refine g_5 (a := 4) (b := 0) (nx := 227) (by decide +kernel) rfl ?_
                      obtain ⟨r128, h⟩ := h
                      by_cases c129 : x4 ≤ 0
                      · rw [if_pos c129] at h
                        refine g_40t (a := 5) (b := 296) (nx := 230) (by decide +kernel) r128 (by exact (cb_5 _ _).mpr c129) ?_
                        exact h
                      · rw [if_neg c129] at h
                        refine g_40f (a := 5) (b := 296) (nx := 230) (by decide +kernel) r128 (by exact fun hz => c129 ((cb_5 _ _).mp hz)) ?_
                        refine g_7 (a := 0) (b := 0) (nx := 231) (by decide +kernel) rfl ?_
                        refine g_52 (a := 12) (b := 58) (nx := 234) (by decide +kernel) h0 ?_
                        refine g_5 (a := 1) (b := 0) (nx := 235) (by decide +kernel) rfl ?_
                        refine g_1 (a := 1) (b := 0) (nx := 236) (by decide +kernel) ?_
                        refine g_16 (a := 0) (b := 0) (nx := 237) (by decide +kernel) ?_
                        refine g_61 (a := 0) (b := 0) (nx := 238) (by decide +kernel) h.1 ?_
                        replace h := h.2
                        refine g_8 (a := 10) (b := 0) (nx := 240) (by decide +kernel) rfl (ls' := [some (vR x0), some (vI x1), some (vI x2), some (vI x3), some (vI x4), some (vI x5), some (vI (y2 + x4)), some (vI (y69 - x5)), some (vI ((M68 (M68 x0 55) ((M68 (M68 x0 66) x2) - 1)) + ((M68 (M68 x0 55) 2) * (y69 - x5)))), some (vI y127), some (vI (M126 (M126 x0 58) (x1 - 1))), none]) rfl ?_
                        refine g_1 (a := 0) (b := 0) (nx := 241) (by decide +kernel) ?_
                        refine g_8 (a := 11) (b := 0) (nx := 243) (by decide +kernel) rfl (ls' := [some (vR x0), some (vI x1), some (vI x2), some (vI x3), some (vI x4), some (vI x5), some (vI (y2 + x4)), some (vI (y69 - x5)), some (vI ((M68 (M68 x0 55) ((M68 (M68 x0 66) x2) - 1)) + ((M68 (M68 x0 55) 2) * (y69 - x5)))), some (vI y127), some (vI (M126 (M126 x0 58) (x1 - 1))), some (vI 0)]) rfl ?_
                        exact h
                    · rw [if_neg c130] at h
                      refine g_40t (a := 1) (b := 296) (nx := 225) (by decide +kernel) r3 (by exact (cb_1 _ _).mpr c130) ?_
                      exact h
    · rw [if_neg c131] at h
      refine g_41t (a := 1) (b := 38) (nx := 33) (by decide +kernel) (by rw [wr_id r3, wr_id r70]; exact (cb_1 _ _).mpr c131) ?_
      refine g_1 (a := 0) (b := 0) (nx := 39) (by decide +kernel) ?_
      refine g_16 (a := 0) (b := 0) (nx := 40) (by decide +kernel) ?_
      refine g_8 (a := 7) (b := 0) (nx := 42) (by decide +kernel) rfl (ls' := [some (vR x0), some (vI x1), some (vI x2), some (vI x3), some (vI x4), some (vI x5), some (vI (y2 + x4)), some (vI (y69 - 0)), none, none, none, none]) rfl ?_
      refine g_7 (a := 0) (b := 0) (nx := 43) (by decide +kernel) rfl ?_
      refine g_52 (a := 12) (b := 55) (nx := 46) (by decide +kernel) h0 ?_
      refine g_7 (a := 0) (b := 0) (nx := 47) (by decide +kernel) rfl ?_
      refine g_52 (a := 12) (b := 66) (nx := 50) (by decide +kernel) h0 ?_
      refine g_5 (a := 2) (b := 0) (nx := 51) (by decide +kernel) rfl ?_
      refine g_61 (a := 0) (b := 0) (nx := 52) (by decide +kernel) h.1 ?_
      replace h := h.2
      refine g_1 (a := 1) (b := 0) (nx := 53) (by decide +kernel) ?_
      refine g_16 (a := 0) (b := 0) (nx := 54) (by decide +kernel) ?_
      refine g_61 (a := 0) (b := 0) (nx := 55) (by decide +kernel) h.1 ?_
      replace h := h.2
      refine g_7 (a := 0) (b := 0) (nx := 56) (by decide +kernel) rfl ?_
      refine g_52 (a := 12) (b := 55) (nx := 59) (by decide +kernel) h0 ?_
      refine g_1 (a := 2) (b := 0) (nx := 60) (by decide +kernel) ?_
      refine g_61 (a := 0) (b := 0) (nx := 61) (by decide +kernel) h.1 ?_
      replace h := h.2
      refine g_5 (a := 7) (b := 0) (nx := 63) (by decide +kernel) rfl ?_
      refine g_17 (a := 0) (b := 0) (nx := 64) (by decide +kernel) ?_
      refine g_15 (a := 0) (b := 0) (nx := 65) (by decide +kernel) ?_
      refine g_8 (a := 8) (b := 0) (nx := 67) (by decide +kernel) rfl (ls' := [some (vR x0), some (vI x1), some (vI x2), some (vI x3), some (vI x4), some (vI x5), some (vI (y2 + x4)), some (vI (y69 - 0)), some (vI ((M68 (M68 x0 55) ((M68 (M68 x0 66) x2) - 1)) + ((M68 (M68 x0 55) 2) * (y69 - 0)))), none, none, none]) rfl ?_
      refine g_5 (a := 3) (b := 0) (nx := 68) (by decide +kernel) rfl ?_
      obtain ⟨r71, h⟩ := h
      by_cases c72 : x3 = 0
      · rw [if_pos c72] at h
        refine g_45 (a := 0) (b := 201) (nx := 116) (by decide +kernel) r71 (t := 116) (by rw [(show sws 259 68 = [(0, 116), (1, 132), (2, 135), (3, 142), (4, 145), (5, 148), (6, 201), (7, 168)] from by decide +kernel)]; simp only [swL]; simp [c72]) ?_
        refine g_5 (a := 2) (b := 0) (nx := 117) (by decide +kernel) rfl ?_
        by_cases c75 : x2 = 0
        · rw [if_pos c75] at h
          refine g_40f (a := 1) (b := 126) (nx := 120) (by decide +kernel) r3 (by exact fun hz => ((cb_1 _ _).mp hz) c75) ?_
          refine g_5 (a := 4) (b := 0) (nx := 122) (by decide +kernel) rfl ?_
          refine g_18 (a := 0) (b := 0) (nx := 123) (by decide +kernel) ?_
          refine g_44 (a := 0) (b := 131) (nx := 126) (by decide +kernel) ?_
          exact g_91 (b := 0) (nx := 132) (by decide +kernel) h
        · rw [if_neg c75] at h
          refine g_40t (a := 1) (b := 126) (nx := 120) (by decide +kernel) r3 (by exact (cb_1 _ _).mpr c75) ?_
          refine g_7 (a := 0) (b := 0) (nx := 127) (by decide +kernel) rfl ?_
          refine g_5 (a := 2) (b := 0) (nx := 128) (by decide +kernel) rfl ?_
          refine g_80 (a := 239) (b := 1) (nx := 131) (by decide +kernel) (r := x0) (As := [vI x2]) (st' := []) (z := 239) rfl rfl rfl (Nat.le_of_ble_eq_true rfl) h0.2 (Nat.le_of_ble_eq_true rfl) rfl (c_I (by decide +kernel) h (fun y74 M73 h => ?_))
          exact g_91 (b := 0) (nx := 132) (by decide +kernel) h
      · rw [if_neg c72] at h
        by_cases c76 : x3 = 1
        · rw [if_pos c76] at h
          refine g_45 (a := 0) (b := 201) (nx := 116) (by decide +kernel) r71 (t := 132) (by rw [(show sws 259 68 = [(0, 116), (1, 132), (2, 135), (3, 142), (4, 145), (5, 148), (6, 201), (7, 168)] from by decide +kernel)]; simp only [swL]; simp [c76]) ?_
          refine g_5 (a := 6) (b := 0) (nx := 134) (by decide +kernel) rfl ?_
          exact g_91 (b := 0) (nx := 135) (by decide +kernel) h
        · rw [if_neg c76] at h
          by_cases c77 : x3 = 2
          · rw [if_pos c77] at h
            refine g_45 (a := 0) (b := 201) (nx := 116) (by decide +kernel) r71 (t := 135) (by rw [(show sws 259 68 = [(0, 116), (1, 132), (2, 135), (3, 142), (4, 145), (5, 148), (6, 201), (7, 168)] from by decide +kernel)]; simp only [swL]; simp [c77]) ?_
            refine g_7 (a := 0) (b := 0) (nx := 136) (by decide +kernel) rfl ?_
            refine g_52 (a := 12) (b := 66) (nx := 139) (by decide +kernel) h0 ?_
            refine g_5 (a := 2) (b := 0) (nx := 140) (by decide +kernel) rfl ?_
            refine g_61 (a := 0) (b := 0) (nx := 141) (by decide +kernel) h.1 ?_
            replace h := h.2
            exact g_91 (b := 0) (nx := 142) (by decide +kernel) h
          · rw [if_neg c77] at h
            by_cases c78 : x3 = 3
            · rw [if_pos c78] at h
              refine g_45 (a := 0) (b := 201) (nx := 116) (by decide +kernel) r71 (t := 142) (by rw [(show sws 259 68 = [(0, 116), (1, 132), (2, 135), (3, 142), (4, 145), (5, 148), (6, 201), (7, 168)] from by decide +kernel)]; simp only [swL]; simp [c78]) ?_
              refine g_5 (a := 7) (b := 0) (nx := 144) (by decide +kernel) rfl ?_
              exact g_91 (b := 0) (nx := 145) (by decide +kernel) h
            · rw [if_neg c78] at h
              by_cases c79 : x3 = 4
              · rw [if_pos c79] at h
                refine g_45 (a := 0) (b := 201) (nx := 116) (by decide +kernel) r71 (t := 145) (by rw [(show sws 259 68 = [(0, 116), (1, 132), (2, 135), (3, 142), (4, 145), (5, 148), (6, 201), (7, 168)] from by decide +kernel)]; simp only [swL]; simp [c79]) ?_
                refine g_5 (a := 8) (b := 0) (nx := 147) (by decide +kernel) rfl ?_
                exact g_91 (b := 0) (nx := 148) (by decide +kernel) h
              · rw [if_neg c79] at h
                by_cases c80 : x3 = 5
                · rw [if_pos c80] at h
                  refine g_45 (a := 0) (b := 201) (nx := 116) (by decide +kernel) r71 (t := 148) (by rw [(show sws 259 68 = [(0, 116), (1, 132), (2, 135), (3, 142), (4, 145), (5, 148), (6, 201), (7, 168)] from by decide +kernel)]; simp only [swL]; simp [c80]) ?_
                  refine g_5 (a := 8) (b := 0) (nx := 150) (by decide +kernel) rfl ?_
                  refine g_7 (a := 0) (b := 0) (nx := 151) (by decide +kernel) rfl ?_
                  refine g_52 (a := 12) (b := 55) (nx := 154) (by decide +kernel) h0 ?_
                  refine g_1 (a := 3) (b := 0) (nx := 155) (by decide +kernel) ?_
                  refine g_61 (a := 0) (b := 0) (nx := 156) (by decide +kernel) h.1 ?_
                  replace h := h.2
                  obtain ⟨r81, h⟩ := h
                  obtain ⟨r82, h⟩ := h
                  by_cases c87 : ((M68 (M68 x0 55) ((M68 (M68 x0 66) x2) - 1)) + ((M68 (M68 x0 55) 2) * (y69 - 0))) < (M68 (M68 x0 55) 3)
                  · rw [if_pos c87] at h
                    refine g_41t (a := 2) (b := 163) (nx := 159) (by decide +kernel) (by rw [wr_id r81, wr_id r82]; exact (cb_2 _ _).mpr c87) ?_
                    refine g_1 (a := 0) (b := 0) (nx := 164) (by decide +kernel) ?_
                    refine g_82 (a := 178) (b := 1) (nx := 167) (by decide +kernel) (As := [vI 0]) (st' := []) (z := 178) rfl rfl rfl (Nat.le_of_ble_eq_true rfl) (Nat.le_of_ble_eq_true rfl) rfl (c_I (by decide +kernel) h (fun y84 M83 h => ?_))
                    exact g_91 (b := 0) (nx := 168) (by decide +kernel) h
                  · rw [if_neg c87] at h
                    refine g_41f (a := 2) (b := 163) (nx := 159) (by decide +kernel) (by rw [wr_id r81, wr_id r82]; exact fun hz => c87 ((cb_2 _ _).mp hz)) ?_
                    refine g_1 (a := 1) (b := 0) (nx := 160) (by decide +kernel) ?_
                    refine g_44 (a := 0) (b := 164) (nx := 163) (by decide +kernel) ?_
                    refine g_82 (a := 178) (b := 1) (nx := 167) (by decide +kernel) (As := [vI 1]) (st' := []) (z := 178) rfl rfl rfl (Nat.le_of_ble_eq_true rfl) (Nat.le_of_ble_eq_true rfl) rfl (c_I (by decide +kernel) h (fun y86 M85 h => ?_))
                    exact g_91 (b := 0) (nx := 168) (by decide +kernel) h
                · rw [if_neg c80] at h
                  by_cases c88 : x3 = 7
                  · rw [if_pos c88] at h
                    refine g_45 (a := 0) (b := 201) (nx := 116) (by decide +kernel) r71 (t := 168) (by rw [(show sws 259 68 = [(0, 116), (1, 132), (2, 135), (3, 142), (4, 145), (5, 148), (6, 201), (7, 168)] from by decide +kernel)]; simp only [swL]; simp [c88]) ?_
                    refine g_5 (a := 2) (b := 0) (nx := 169) (by decide +kernel) rfl ?_
                    by_cases c91 : x2 = 0
                    · rw [if_pos c91] at h
                      refine g_40f (a := 1) (b := 177) (nx := 172) (by decide +kernel) r3 (by exact fun hz => ((cb_1 _ _).mp hz) c91) ?_
                      refine g_5 (a := 4) (b := 0) (nx := 174) (by decide +kernel) rfl ?_
                      obtain ⟨r89, h⟩ := h
                      by_cases c90 : 0 < x4
                      · rw [if_pos c90] at h
                        refine g_40t (a := 4) (b := 192) (nx := 177) (by decide +kernel) r89 (by exact (cb_4 _ _).mpr c90) ?_
                        exact h
                      · rw [if_neg c90] at h
                        refine g_40f (a := 4) (b := 192) (nx := 177) (by decide +kernel) r89 (by exact fun hz => c90 ((cb_4 _ _).mp hz)) ?_
                        exact h
                    · rw [if_neg c91] at h
                      refine g_40t (a := 1) (b := 177) (nx := 172) (by decide +kernel) r3 (by exact (cb_1 _ _).mpr c91) ?_
                      exact h
                  · rw [if_neg c88] at h
                    refine g_45 (a := 0) (b := 201) (nx := 116) (by decide +kernel) r71 (t := 201) (by rw [(show sws 259 68 = [(0, 116), (1, 132), (2, 135), (3, 142), (4, 145), (5, 148), (6, 201), (7, 168)] from by decide +kernel)]; simp only [swL]; first | rfl | (simp [c72, c76, c77, c78, c79, c80, c88])) ?_
                    refine g_7 (a := 0) (b := 0) (nx := 202) (by decide +kernel) rfl ?_
                    refine g_7 (a := 0) (b := 0) (nx := 203) (by decide +kernel) rfl ?_
                    refine g_52 (a := 12) (b := 64) (nx := 206) (by decide +kernel) h0 ?_
                    refine g_7 (a := 0) (b := 0) (nx := 207) (by decide +kernel) rfl ?_
                    refine g_5 (a := 2) (b := 0) (nx := 208) (by decide +kernel) rfl ?_
                    refine g_80 (a := 239) (b := 1) (nx := 211) (by decide +kernel) (r := x0) (As := [vI x2]) (st' := [vR (M68 x0 64), vR x0]) (z := 239) rfl rfl rfl (Nat.le_of_ble_eq_true rfl) h0.2 (Nat.le_of_ble_eq_true rfl) rfl (c_I (by decide +kernel) h (fun y93 M92 h => ?_))
                    refine g_7 (a := 0) (b := 0) (nx := 212) (by decide +kernel) rfl ?_
                    refine g_5 (a := 2) (b := 0) (nx := 213) (by decide +kernel) rfl ?_
                    refine g_80 (a := 240) (b := 1) (nx := 216) (by decide +kernel) (r := x0) (As := [vI x2]) (st' := [vI y93, vR (M68 x0 64), vR x0]) (z := 240) rfl rfl rfl (Nat.le_of_ble_eq_true rfl) h0.2 (Nat.le_of_ble_eq_true rfl) rfl (c_I (by decide +kernel) h (fun y95 M94 h => ?_))
                    refine g_80 (a := 235) (b := 3) (nx := 219) (by decide +kernel) (r := x0) (As := [vR (M68 x0 64), vI y93, vI y95]) (st' := []) (z := 235) rfl rfl rfl (Nat.le_of_ble_eq_true rfl) h0.2 (Nat.le_of_ble_eq_true rfl) rfl (c_I (by decide +kernel) h (fun y97 M96 h => ?_))
                    refine g_8 (a := 9) (b := 0) (nx := 221) (by decide +kernel) rfl (ls' := [some (vR x0), some (vI x1), some (vI x2), some (vI x3), some (vI x4), some (vI x5), some (vI (y2 + x4)), some (vI (y69 - 0)), some (vI ((M68 (M68 x0 55) ((M68 (M68 x0 66) x2) - 1)) + ((M68 (M68 x0 55) 2) * (y69 - 0)))), some (vI y97), none, none]) rfl ?_
                    refine g_5 (a := 2) (b := 0) (nx := 222) (by decide +kernel) rfl ?_
                    by_cases c100 : x2 = 0
                    · rw [if_pos c100] at h
                      refine g_40f (a := 1) (b := 296) (nx := 225) (by decide +kernel) r3 (by exact fun hz => ((cb_1 _ _).mp hz) c100) ?_
                      refine g_5 (a := 4) (b := 0) (nx := 227) (by decide +kernel) rfl ?_
                      obtain ⟨r98, h⟩ := h
                      by_cases c99 : x4 ≤ 0
                      · rw [if_pos c99] at h
                        refine g_40t (a := 5) (b := 296) (nx := 230) (by decide +kernel) r98 (by exact (cb_5 _ _).mpr c99) ?_
                        exact h
                      · rw [if_neg c99] at h
                        refine g_40f (a := 5) (b := 296) (nx := 230) (by decide +kernel) r98 (by exact fun hz => c99 ((cb_5 _ _).mp hz)) ?_
                        refine g_7 (a := 0) (b := 0) (nx := 231) (by decide +kernel) rfl ?_
                        refine g_52 (a := 12) (b := 58) (nx := 234) (by decide +kernel) h0 ?_
                        refine g_5 (a := 1) (b := 0) (nx := 235) (by decide +kernel) rfl ?_
                        refine g_1 (a := 1) (b := 0) (nx := 236) (by decide +kernel) ?_
                        refine g_16 (a := 0) (b := 0) (nx := 237) (by decide +kernel) ?_
                        refine g_61 (a := 0) (b := 0) (nx := 238) (by decide +kernel) h.1 ?_
                        replace h := h.2
                        refine g_8 (a := 10) (b := 0) (nx := 240) (by decide +kernel) rfl (ls' := [some (vR x0), some (vI x1), some (vI x2), some (vI x3), some (vI x4), some (vI x5), some (vI (y2 + x4)), some (vI (y69 - 0)), some (vI ((M68 (M68 x0 55) ((M68 (M68 x0 66) x2) - 1)) + ((M68 (M68 x0 55) 2) * (y69 - 0)))), some (vI y97), some (vI (M96 (M96 x0 58) (x1 - 1))), none]) rfl ?_
                        refine g_1 (a := 0) (b := 0) (nx := 241) (by decide +kernel) ?_
                        refine g_8 (a := 11) (b := 0) (nx := 243) (by decide +kernel) rfl (ls' := [some (vR x0), some (vI x1), some (vI x2), some (vI x3), some (vI x4), some (vI x5), some (vI (y2 + x4)), some (vI (y69 - 0)), some (vI ((M68 (M68 x0 55) ((M68 (M68 x0 66) x2) - 1)) + ((M68 (M68 x0 55) 2) * (y69 - 0)))), some (vI y97), some (vI (M96 (M96 x0 58) (x1 - 1))), some (vI 0)]) rfl ?_
                        exact h
                    · rw [if_neg c100] at h
                      refine g_40t (a := 1) (b := 296) (nx := 225) (by decide +kernel) r3 (by exact (cb_1 _ _).mpr c100) ?_
                      exact h
  · rw [if_neg c132] at h
    refine g_40t (a := 1) (b := 14) (nx := 9) (by decide +kernel) r3 (by exact (cb_1 _ _).mpr c132) ?_
    refine g_1 (a := 0) (b := 0) (nx := 15) (by decide +kernel) ?_
    refine g_15 (a := 0) (b := 0) (nx := 16) (by decide +kernel) ?_
    refine g_8 (a := 6) (b := 0) (nx := 18) (by decide +kernel) rfl (ls' := [some (vR x0), some (vI x1), some (vI x2), some (vI x3), some (vI x4), some (vI x5), some (vI (y2 + 0)), none, none, none, none, none]) rfl ?_
    refine g_7 (a := 0) (b := 0) (nx := 19) (by decide +kernel) rfl ?_
    refine g_5 (a := 2) (b := 0) (nx := 20) (by decide +kernel) rfl ?_
    refine g_80 (a := 241) (b := 1) (nx := 23) (by decide +kernel) (r := x0) (As := [vI x2]) (st' := []) (z := 241) rfl rfl rfl (Nat.le_of_ble_eq_true rfl) h0.2 (Nat.le_of_ble_eq_true rfl) rfl (c_I (by decide +kernel) h (fun y5 M4 h => ?_))
    refine g_5 (a := 2) (b := 0) (nx := 24) (by decide +kernel) rfl ?_
    refine g_7 (a := 0) (b := 0) (nx := 25) (by decide +kernel) rfl ?_
    refine g_50 (a := 12) (b := 70) (nx := 28) (by decide +kernel) h0 ?_
    refine g_1 (a := 1) (b := 0) (nx := 29) (by decide +kernel) ?_
    refine g_16 (a := 0) (b := 0) (nx := 30) (by decide +kernel) ?_
    obtain ⟨r6, h⟩ := h
    by_cases c67 : x2 = ((M4 x0 70) - 1)
    · rw [if_pos c67] at h
      refine g_41f (a := 1) (b := 38) (nx := 33) (by decide +kernel) (by rw [wr_id r3, wr_id r6]; exact fun hz => ((cb_1 _ _).mp hz) c67) ?_
      refine g_5 (a := 5) (b := 0) (nx := 35) (by decide +kernel) rfl ?_
      refine g_44 (a := 0) (b := 39) (nx := 38) (by decide +kernel) ?_
      refine g_16 (a := 0) (b := 0) (nx := 40) (by decide +kernel) ?_
      refine g_8 (a := 7) (b := 0) (nx := 42) (by decide +kernel) rfl (ls' := [some (vR x0), some (vI x1), some (vI x2), some (vI x3), some (vI x4), some (vI x5), some (vI (y2 + 0)), some (vI (y5 - x5)), none, none, none, none]) rfl ?_
      refine g_7 (a := 0) (b := 0) (nx := 43) (by decide +kernel) rfl ?_
      refine g_52 (a := 12) (b := 55) (nx := 46) (by decide +kernel) h0 ?_
      refine g_7 (a := 0) (b := 0) (nx := 47) (by decide +kernel) rfl ?_
      refine g_52 (a := 12) (b := 66) (nx := 50) (by decide +kernel) h0 ?_
      refine g_5 (a := 2) (b := 0) (nx := 51) (by decide +kernel) rfl ?_
      refine g_61 (a := 0) (b := 0) (nx := 52) (by decide +kernel) h.1 ?_
      replace h := h.2
      refine g_1 (a := 1) (b := 0) (nx := 53) (by decide +kernel) ?_
      refine g_16 (a := 0) (b := 0) (nx := 54) (by decide +kernel) ?_
      refine g_61 (a := 0) (b := 0) (nx := 55) (by decide +kernel) h.1 ?_
      replace h := h.2
      refine g_7 (a := 0) (b := 0) (nx := 56) (by decide +kernel) rfl ?_
      refine g_52 (a := 12) (b := 55) (nx := 59) (by decide +kernel) h0 ?_
      refine g_1 (a := 2) (b := 0) (nx := 60) (by decide +kernel) ?_
      refine g_61 (a := 0) (b := 0) (nx := 61) (by decide +kernel) h.1 ?_
      replace h := h.2
      refine g_5 (a := 7) (b := 0) (nx := 63) (by decide +kernel) rfl ?_
      refine g_17 (a := 0) (b := 0) (nx := 64) (by decide +kernel) ?_
      refine g_15 (a := 0) (b := 0) (nx := 65) (by decide +kernel) ?_
      refine g_8 (a := 8) (b := 0) (nx := 67) (by decide +kernel) rfl (ls' := [some (vR x0), some (vI x1), some (vI x2), some (vI x3), some (vI x4), some (vI x5), some (vI (y2 + 0)), some (vI (y5 - x5)), some (vI ((M4 (M4 x0 55) ((M4 (M4 x0 66) x2) - 1)) + ((M4 (M4 x0 55) 2) * (y5 - x5)))), none, none, none]) rfl ?_
      refine g_5 (a := 3) (b := 0) (nx := 68) (by decide +kernel) rfl ?_
      obtain ⟨r37, h⟩ := h
      by_cases c38 : x3 = 0
      · rw [if_pos c38] at h
        refine g_45 (a := 0) (b := 201) (nx := 116) (by decide +kernel) r37 (t := 116) (by rw [(show sws 259 68 = [(0, 116), (1, 132), (2, 135), (3, 142), (4, 145), (5, 148), (6, 201), (7, 168)] from by decide +kernel)]; simp only [swL]; simp [c38]) ?_
        refine g_5 (a := 2) (b := 0) (nx := 117) (by decide +kernel) rfl ?_
        by_cases c41 : x2 = 0
        · rw [if_pos c41] at h
          refine g_40f (a := 1) (b := 126) (nx := 120) (by decide +kernel) r3 (by exact fun hz => ((cb_1 _ _).mp hz) c41) ?_
          refine g_5 (a := 4) (b := 0) (nx := 122) (by decide +kernel) rfl ?_
          refine g_18 (a := 0) (b := 0) (nx := 123) (by decide +kernel) ?_
          refine g_44 (a := 0) (b := 131) (nx := 126) (by decide +kernel) ?_
          exact g_91 (b := 0) (nx := 132) (by decide +kernel) h
        · rw [if_neg c41] at h
          refine g_40t (a := 1) (b := 126) (nx := 120) (by decide +kernel) r3 (by exact (cb_1 _ _).mpr c41) ?_
          refine g_7 (a := 0) (b := 0) (nx := 127) (by decide +kernel) rfl ?_
          refine g_5 (a := 2) (b := 0) (nx := 128) (by decide +kernel) rfl ?_
          refine g_80 (a := 239) (b := 1) (nx := 131) (by decide +kernel) (r := x0) (As := [vI x2]) (st' := []) (z := 239) rfl rfl rfl (Nat.le_of_ble_eq_true rfl) h0.2 (Nat.le_of_ble_eq_true rfl) rfl (c_I (by decide +kernel) h (fun y40 M39 h => ?_))
          exact g_91 (b := 0) (nx := 132) (by decide +kernel) h
      · rw [if_neg c38] at h
        by_cases c42 : x3 = 1
        · rw [if_pos c42] at h
          refine g_45 (a := 0) (b := 201) (nx := 116) (by decide +kernel) r37 (t := 132) (by rw [(show sws 259 68 = [(0, 116), (1, 132), (2, 135), (3, 142), (4, 145), (5, 148), (6, 201), (7, 168)] from by decide +kernel)]; simp only [swL]; simp [c42]) ?_
          refine g_5 (a := 6) (b := 0) (nx := 134) (by decide +kernel) rfl ?_
          exact g_91 (b := 0) (nx := 135) (by decide +kernel) h
        · rw [if_neg c42] at h
          by_cases c43 : x3 = 2
          · rw [if_pos c43] at h
            refine g_45 (a := 0) (b := 201) (nx := 116) (by decide +kernel) r37 (t := 135) (by rw [(show sws 259 68 = [(0, 116), (1, 132), (2, 135), (3, 142), (4, 145), (5, 148), (6, 201), (7, 168)] from by decide +kernel)]; simp only [swL]; simp [c43]) ?_
            refine g_7 (a := 0) (b := 0) (nx := 136) (by decide +kernel) rfl ?_
            refine g_52 (a := 12) (b := 66) (nx := 139) (by decide +kernel) h0 ?_
            refine g_5 (a := 2) (b := 0) (nx := 140) (by decide +kernel) rfl ?_
            refine g_61 (a := 0) (b := 0) (nx := 141) (by decide +kernel) h.1 ?_
            replace h := h.2
            exact g_91 (b := 0) (nx := 142) (by decide +kernel) h
          · rw [if_neg c43] at h
            by_cases c44 : x3 = 3
            · rw [if_pos c44] at h
              refine g_45 (a := 0) (b := 201) (nx := 116) (by decide +kernel) r37 (t := 142) (by rw [(show sws 259 68 = [(0, 116), (1, 132), (2, 135), (3, 142), (4, 145), (5, 148), (6, 201), (7, 168)] from by decide +kernel)]; simp only [swL]; simp [c44]) ?_
              refine g_5 (a := 7) (b := 0) (nx := 144) (by decide +kernel) rfl ?_
              exact g_91 (b := 0) (nx := 145) (by decide +kernel) h
            · rw [if_neg c44] at h
              by_cases c45 : x3 = 4
              · rw [if_pos c45] at h
                refine g_45 (a := 0) (b := 201) (nx := 116) (by decide +kernel) r37 (t := 145) (by rw [(show sws 259 68 = [(0, 116), (1, 132), (2, 135), (3, 142), (4, 145), (5, 148), (6, 201), (7, 168)] from by decide +kernel)]; simp only [swL]; simp [c45]) ?_
                refine g_5 (a := 8) (b := 0) (nx := 147) (by decide +kernel) rfl ?_
                exact g_91 (b := 0) (nx := 148) (by decide +kernel) h
              · rw [if_neg c45] at h
                by_cases c46 : x3 = 5
                · rw [if_pos c46] at h
                  refine g_45 (a := 0) (b := 201) (nx := 116) (by decide +kernel) r37 (t := 148) (by rw [(show sws 259 68 = [(0, 116), (1, 132), (2, 135), (3, 142), (4, 145), (5, 148), (6, 201), (7, 168)] from by decide +kernel)]; simp only [swL]; simp [c46]) ?_
                  refine g_5 (a := 8) (b := 0) (nx := 150) (by decide +kernel) rfl ?_
                  refine g_7 (a := 0) (b := 0) (nx := 151) (by decide +kernel) rfl ?_
                  refine g_52 (a := 12) (b := 55) (nx := 154) (by decide +kernel) h0 ?_
                  refine g_1 (a := 3) (b := 0) (nx := 155) (by decide +kernel) ?_
                  refine g_61 (a := 0) (b := 0) (nx := 156) (by decide +kernel) h.1 ?_
                  replace h := h.2
                  obtain ⟨r47, h⟩ := h
                  obtain ⟨r48, h⟩ := h
                  by_cases c53 : ((M4 (M4 x0 55) ((M4 (M4 x0 66) x2) - 1)) + ((M4 (M4 x0 55) 2) * (y5 - x5))) < (M4 (M4 x0 55) 3)
                  · rw [if_pos c53] at h
                    refine g_41t (a := 2) (b := 163) (nx := 159) (by decide +kernel) (by rw [wr_id r47, wr_id r48]; exact (cb_2 _ _).mpr c53) ?_
                    refine g_1 (a := 0) (b := 0) (nx := 164) (by decide +kernel) ?_
                    refine g_82 (a := 178) (b := 1) (nx := 167) (by decide +kernel) (As := [vI 0]) (st' := []) (z := 178) rfl rfl rfl (Nat.le_of_ble_eq_true rfl) (Nat.le_of_ble_eq_true rfl) rfl (c_I (by decide +kernel) h (fun y50 M49 h => ?_))
                    exact g_91 (b := 0) (nx := 168) (by decide +kernel) h
                  · rw [if_neg c53] at h
                    refine g_41f (a := 2) (b := 163) (nx := 159) (by decide +kernel) (by rw [wr_id r47, wr_id r48]; exact fun hz => c53 ((cb_2 _ _).mp hz)) ?_
                    refine g_1 (a := 1) (b := 0) (nx := 160) (by decide +kernel) ?_
                    refine g_44 (a := 0) (b := 164) (nx := 163) (by decide +kernel) ?_
                    refine g_82 (a := 178) (b := 1) (nx := 167) (by decide +kernel) (As := [vI 1]) (st' := []) (z := 178) rfl rfl rfl (Nat.le_of_ble_eq_true rfl) (Nat.le_of_ble_eq_true rfl) rfl (c_I (by decide +kernel) h (fun y52 M51 h => ?_))
                    exact g_91 (b := 0) (nx := 168) (by decide +kernel) h
                · rw [if_neg c46] at h
                  by_cases c54 : x3 = 7
                  · rw [if_pos c54] at h
                    refine g_45 (a := 0) (b := 201) (nx := 116) (by decide +kernel) r37 (t := 168) (by rw [(show sws 259 68 = [(0, 116), (1, 132), (2, 135), (3, 142), (4, 145), (5, 148), (6, 201), (7, 168)] from by decide +kernel)]; simp only [swL]; simp [c54]) ?_
                    refine g_5 (a := 2) (b := 0) (nx := 169) (by decide +kernel) rfl ?_
                    by_cases c57 : x2 = 0
                    · rw [if_pos c57] at h
                      refine g_40f (a := 1) (b := 177) (nx := 172) (by decide +kernel) r3 (by exact fun hz => ((cb_1 _ _).mp hz) c57) ?_
                      refine g_5 (a := 4) (b := 0) (nx := 174) (by decide +kernel) rfl ?_
                      obtain ⟨r55, h⟩ := h
                      by_cases c56 : 0 < x4
                      · rw [if_pos c56] at h
                        refine g_40t (a := 4) (b := 192) (nx := 177) (by decide +kernel) r55 (by exact (cb_4 _ _).mpr c56) ?_
                        exact h
                      · rw [if_neg c56] at h
                        refine g_40f (a := 4) (b := 192) (nx := 177) (by decide +kernel) r55 (by exact fun hz => c56 ((cb_4 _ _).mp hz)) ?_
                        exact h
                    · rw [if_neg c57] at h
                      refine g_40t (a := 1) (b := 177) (nx := 172) (by decide +kernel) r3 (by exact (cb_1 _ _).mpr c57) ?_
                      exact h
                  · rw [if_neg c54] at h
                    refine g_45 (a := 0) (b := 201) (nx := 116) (by decide +kernel) r37 (t := 201) (by rw [(show sws 259 68 = [(0, 116), (1, 132), (2, 135), (3, 142), (4, 145), (5, 148), (6, 201), (7, 168)] from by decide +kernel)]; simp only [swL]; first | rfl | (simp [c38, c42, c43, c44, c45, c46, c54])) ?_
                    refine g_7 (a := 0) (b := 0) (nx := 202) (by decide +kernel) rfl ?_
                    refine g_7 (a := 0) (b := 0) (nx := 203) (by decide +kernel) rfl ?_
                    refine g_52 (a := 12) (b := 64) (nx := 206) (by decide +kernel) h0 ?_
                    refine g_7 (a := 0) (b := 0) (nx := 207) (by decide +kernel) rfl ?_
                    refine g_5 (a := 2) (b := 0) (nx := 208) (by decide +kernel) rfl ?_
                    refine g_80 (a := 239) (b := 1) (nx := 211) (by decide +kernel) (r := x0) (As := [vI x2]) (st' := [vR (M4 x0 64), vR x0]) (z := 239) rfl rfl rfl (Nat.le_of_ble_eq_true rfl) h0.2 (Nat.le_of_ble_eq_true rfl) rfl (c_I (by decide +kernel) h (fun y59 M58 h => ?_))
                    refine g_7 (a := 0) (b := 0) (nx := 212) (by decide +kernel) rfl ?_
                    refine g_5 (a := 2) (b := 0) (nx := 213) (by decide +kernel) rfl ?_
                    refine g_80 (a := 240) (b := 1) (nx := 216) (by decide +kernel) (r := x0) (As := [vI x2]) (st' := [vI y59, vR (M4 x0 64), vR x0]) (z := 240) rfl rfl rfl (Nat.le_of_ble_eq_true rfl) h0.2 (Nat.le_of_ble_eq_true rfl) rfl (c_I (by decide +kernel) h (fun y61 M60 h => ?_))
                    refine g_80 (a := 235) (b := 3) (nx := 219) (by decide +kernel) (r := x0) (As := [vR (M4 x0 64), vI y59, vI y61]) (st' := []) (z := 235) rfl rfl rfl (Nat.le_of_ble_eq_true rfl) h0.2 (Nat.le_of_ble_eq_true rfl) rfl (c_I (by decide +kernel) h (fun y63 M62 h => ?_))
                    refine g_8 (a := 9) (b := 0) (nx := 221) (by decide +kernel) rfl (ls' := [some (vR x0), some (vI x1), some (vI x2), some (vI x3), some (vI x4), some (vI x5), some (vI (y2 + 0)), some (vI (y5 - x5)), some (vI ((M4 (M4 x0 55) ((M4 (M4 x0 66) x2) - 1)) + ((M4 (M4 x0 55) 2) * (y5 - x5)))), some (vI y63), none, none]) rfl ?_
                    refine g_5 (a := 2) (b := 0) (nx := 222) (by decide +kernel) rfl ?_
                    by_cases c66 : x2 = 0
                    · rw [if_pos c66] at h
                      refine g_40f (a := 1) (b := 296) (nx := 225) (by decide +kernel) r3 (by exact fun hz => ((cb_1 _ _).mp hz) c66) ?_
                      refine g_5 (a := 4) (b := 0) (nx := 227) (by decide +kernel) rfl ?_
                      obtain ⟨r64, h⟩ := h
                      by_cases c65 : x4 ≤ 0
                      · rw [if_pos c65] at h
                        refine g_40t (a := 5) (b := 296) (nx := 230) (by decide +kernel) r64 (by exact (cb_5 _ _).mpr c65) ?_
                        exact h
                      · rw [if_neg c65] at h
                        refine g_40f (a := 5) (b := 296) (nx := 230) (by decide +kernel) r64 (by exact fun hz => c65 ((cb_5 _ _).mp hz)) ?_
                        refine g_7 (a := 0) (b := 0) (nx := 231) (by decide +kernel) rfl ?_
                        refine g_52 (a := 12) (b := 58) (nx := 234) (by decide +kernel) h0 ?_
                        refine g_5 (a := 1) (b := 0) (nx := 235) (by decide +kernel) rfl ?_
                        refine g_1 (a := 1) (b := 0) (nx := 236) (by decide +kernel) ?_
                        refine g_16 (a := 0) (b := 0) (nx := 237) (by decide +kernel) ?_
                        refine g_61 (a := 0) (b := 0) (nx := 238) (by decide +kernel) h.1 ?_
                        replace h := h.2
                        refine g_8 (a := 10) (b := 0) (nx := 240) (by decide +kernel) rfl (ls' := [some (vR x0), some (vI x1), some (vI x2), some (vI x3), some (vI x4), some (vI x5), some (vI (y2 + 0)), some (vI (y5 - x5)), some (vI ((M4 (M4 x0 55) ((M4 (M4 x0 66) x2) - 1)) + ((M4 (M4 x0 55) 2) * (y5 - x5)))), some (vI y63), some (vI (M62 (M62 x0 58) (x1 - 1))), none]) rfl ?_
                        refine g_1 (a := 0) (b := 0) (nx := 241) (by decide +kernel) ?_
                        refine g_8 (a := 11) (b := 0) (nx := 243) (by decide +kernel) rfl (ls' := [some (vR x0), some (vI x1), some (vI x2), some (vI x3), some (vI x4), some (vI x5), some (vI (y2 + 0)), some (vI (y5 - x5)), some (vI ((M4 (M4 x0 55) ((M4 (M4 x0 66) x2) - 1)) + ((M4 (M4 x0 55) 2) * (y5 - x5)))), some (vI y63), some (vI (M62 (M62 x0 58) (x1 - 1))), some (vI 0)]) rfl ?_
                        exact h
                    · rw [if_neg c66] at h
                      refine g_40t (a := 1) (b := 296) (nx := 225) (by decide +kernel) r3 (by exact (cb_1 _ _).mpr c66) ?_
                      exact h
    · rw [if_neg c67] at h
      refine g_41t (a := 1) (b := 38) (nx := 33) (by decide +kernel) (by rw [wr_id r3, wr_id r6]; exact (cb_1 _ _).mpr c67) ?_
      refine g_1 (a := 0) (b := 0) (nx := 39) (by decide +kernel) ?_
      refine g_16 (a := 0) (b := 0) (nx := 40) (by decide +kernel) ?_
      refine g_8 (a := 7) (b := 0) (nx := 42) (by decide +kernel) rfl (ls' := [some (vR x0), some (vI x1), some (vI x2), some (vI x3), some (vI x4), some (vI x5), some (vI (y2 + 0)), some (vI (y5 - 0)), none, none, none, none]) rfl ?_
      refine g_7 (a := 0) (b := 0) (nx := 43) (by decide +kernel) rfl ?_
      refine g_52 (a := 12) (b := 55) (nx := 46) (by decide +kernel) h0 ?_
      refine g_7 (a := 0) (b := 0) (nx := 47) (by decide +kernel) rfl ?_
      refine g_52 (a := 12) (b := 66) (nx := 50) (by decide +kernel) h0 ?_
      refine g_5 (a := 2) (b := 0) (nx := 51) (by decide +kernel) rfl ?_
      refine g_61 (a := 0) (b := 0) (nx := 52) (by decide +kernel) h.1 ?_
      replace h := h.2
      refine g_1 (a := 1) (b := 0) (nx := 53) (by decide +kernel) ?_
      refine g_16 (a := 0) (b := 0) (nx := 54) (by decide +kernel) ?_
      refine g_61 (a := 0) (b := 0) (nx := 55) (by decide +kernel) h.1 ?_
      replace h := h.2
      refine g_7 (a := 0) (b := 0) (nx := 56) (by decide +kernel) rfl ?_
      refine g_52 (a := 12) (b := 55) (nx := 59) (by decide +kernel) h0 ?_
      refine g_1 (a := 2) (b := 0) (nx := 60) (by decide +kernel) ?_
      refine g_61 (a := 0) (b := 0) (nx := 61) (by decide +kernel) h.1 ?_
      replace h := h.2
      refine g_5 (a := 7) (b := 0) (nx := 63) (by decide +kernel) rfl ?_
      refine g_17 (a := 0) (b := 0) (nx := 64) (by decide +kernel) ?_
      refine g_15 (a := 0) (b := 0) (nx := 65) (by decide +kernel) ?_
      refine g_8 (a := 8) (b := 0) (nx := 67) (by decide +kernel) rfl (ls' := [some (vR x0), some (vI x1), some (vI x2), some (vI x3), some (vI x4), some (vI x5), some (vI (y2 + 0)), some (vI (y5 - 0)), some (vI ((M4 (M4 x0 55) ((M4 (M4 x0 66) x2) - 1)) + ((M4 (M4 x0 55) 2) * (y5 - 0)))), none, none, none]) rfl ?_
      refine g_5 (a := 3) (b := 0) (nx := 68) (by decide +kernel) rfl ?_
      obtain ⟨r7, h⟩ := h
      by_cases c8 : x3 = 0
      · rw [if_pos c8] at h
        refine g_45 (a := 0) (b := 201) (nx := 116) (by decide +kernel) r7 (t := 116) (by rw [(show sws 259 68 = [(0, 116), (1, 132), (2, 135), (3, 142), (4, 145), (5, 148), (6, 201), (7, 168)] from by decide +kernel)]; simp only [swL]; simp [c8]) ?_
        refine g_5 (a := 2) (b := 0) (nx := 117) (by decide +kernel) rfl ?_
        by_cases c11 : x2 = 0
        · rw [if_pos c11] at h
          refine g_40f (a := 1) (b := 126) (nx := 120) (by decide +kernel) r3 (by exact fun hz => ((cb_1 _ _).mp hz) c11) ?_
          refine g_5 (a := 4) (b := 0) (nx := 122) (by decide +kernel) rfl ?_
          refine g_18 (a := 0) (b := 0) (nx := 123) (by decide +kernel) ?_
          refine g_44 (a := 0) (b := 131) (nx := 126) (by decide +kernel) ?_
          exact g_91 (b := 0) (nx := 132) (by decide +kernel) h
        · rw [if_neg c11] at h
          refine g_40t (a := 1) (b := 126) (nx := 120) (by decide +kernel) r3 (by exact (cb_1 _ _).mpr c11) ?_
          refine g_7 (a := 0) (b := 0) (nx := 127) (by decide +kernel) rfl ?_
          refine g_5 (a := 2) (b := 0) (nx := 128) (by decide +kernel) rfl ?_
          refine g_80 (a := 239) (b := 1) (nx := 131) (by decide +kernel) (r := x0) (As := [vI x2]) (st' := []) (z := 239) rfl rfl rfl (Nat.le_of_ble_eq_true rfl) h0.2 (Nat.le_of_ble_eq_true rfl) rfl (c_I (by decide +kernel) h (fun y10 M9 h => ?_))
          exact g_91 (b := 0) (nx := 132) (by decide +kernel) h
      · rw [if_neg c8] at h
        by_cases c12 : x3 = 1
        · rw [if_pos c12] at h
          refine g_45 (a := 0) (b := 201) (nx := 116) (by decide +kernel) r7 (t := 132) (by rw [(show sws 259 68 = [(0, 116), (1, 132), (2, 135), (3, 142), (4, 145), (5, 148), (6, 201), (7, 168)] from by decide +kernel)]; simp only [swL]; simp [c12]) ?_
          refine g_5 (a := 6) (b := 0) (nx := 134) (by decide +kernel) rfl ?_
          exact g_91 (b := 0) (nx := 135) (by decide +kernel) h
        · rw [if_neg c12] at h
          by_cases c13 : x3 = 2
          · rw [if_pos c13] at h
            refine g_45 (a := 0) (b := 201) (nx := 116) (by decide +kernel) r7 (t := 135) (by rw [(show sws 259 68 = [(0, 116), (1, 132), (2, 135), (3, 142), (4, 145), (5, 148), (6, 201), (7, 168)] from by decide +kernel)]; simp only [swL]; simp [c13]) ?_
            refine g_7 (a := 0) (b := 0) (nx := 136) (by decide +kernel) rfl ?_
            refine g_52 (a := 12) (b := 66) (nx := 139) (by decide +kernel) h0 ?_
            refine g_5 (a := 2) (b := 0) (nx := 140) (by decide +kernel) rfl ?_
            refine g_61 (a := 0) (b := 0) (nx := 141) (by decide +kernel) h.1 ?_
            replace h := h.2
            exact g_91 (b := 0) (nx := 142) (by decide +kernel) h
          · rw [if_neg c13] at h
            by_cases c14 : x3 = 3
            · rw [if_pos c14] at h
              refine g_45 (a := 0) (b := 201) (nx := 116) (by decide +kernel) r7 (t := 142) (by rw [(show sws 259 68 = [(0, 116), (1, 132), (2, 135), (3, 142), (4, 145), (5, 148), (6, 201), (7, 168)] from by decide +kernel)]; simp only [swL]; simp [c14]) ?_
              refine g_5 (a := 7) (b := 0) (nx := 144) (by decide +kernel) rfl ?_
              exact g_91 (b := 0) (nx := 145) (by decide +kernel) h
            · rw [if_neg c14] at h
              by_cases c15 : x3 = 4
              · rw [if_pos c15] at h
                refine g_45 (a := 0) (b := 201) (nx := 116) (by decide +kernel) r7 (t := 145) (by rw [(show sws 259 68 = [(0, 116), (1, 132), (2, 135), (3, 142), (4, 145), (5, 148), (6, 201), (7, 168)] from by decide +kernel)]; simp only [swL]; simp [c15]) ?_
                refine g_5 (a := 8) (b := 0) (nx := 147) (by decide +kernel) rfl ?_
                exact g_91 (b := 0) (nx := 148) (by decide +kernel) h
              · rw [if_neg c15] at h
                by_cases c16 : x3 = 5
                · rw [if_pos c16] at h
                  refine g_45 (a := 0) (b := 201) (nx := 116) (by decide +kernel) r7 (t := 148) (by rw [(show sws 259 68 = [(0, 116), (1, 132), (2, 135), (3, 142), (4, 145), (5, 148), (6, 201), (7, 168)] from by decide +kernel)]; simp only [swL]; simp [c16]) ?_
                  refine g_5 (a := 8) (b := 0) (nx := 150) (by decide +kernel) rfl ?_
                  refine g_7 (a := 0) (b := 0) (nx := 151) (by decide +kernel) rfl ?_
                  refine g_52 (a := 12) (b := 55) (nx := 154) (by decide +kernel) h0 ?_
                  refine g_1 (a := 3) (b := 0) (nx := 155) (by decide +kernel) ?_
                  refine g_61 (a := 0) (b := 0) (nx := 156) (by decide +kernel) h.1 ?_
                  replace h := h.2
                  obtain ⟨r17, h⟩ := h
                  obtain ⟨r18, h⟩ := h
                  by_cases c23 : ((M4 (M4 x0 55) ((M4 (M4 x0 66) x2) - 1)) + ((M4 (M4 x0 55) 2) * (y5 - 0))) < (M4 (M4 x0 55) 3)
                  · rw [if_pos c23] at h
                    refine g_41t (a := 2) (b := 163) (nx := 159) (by decide +kernel) (by rw [wr_id r17, wr_id r18]; exact (cb_2 _ _).mpr c23) ?_
                    refine g_1 (a := 0) (b := 0) (nx := 164) (by decide +kernel) ?_
                    refine g_82 (a := 178) (b := 1) (nx := 167) (by decide +kernel) (As := [vI 0]) (st' := []) (z := 178) rfl rfl rfl (Nat.le_of_ble_eq_true rfl) (Nat.le_of_ble_eq_true rfl) rfl (c_I (by decide +kernel) h (fun y20 M19 h => ?_))
                    exact g_91 (b := 0) (nx := 168) (by decide +kernel) h
                  · rw [if_neg c23] at h
                    refine g_41f (a := 2) (b := 163) (nx := 159) (by decide +kernel) (by rw [wr_id r17, wr_id r18]; exact fun hz => c23 ((cb_2 _ _).mp hz)) ?_
                    refine g_1 (a := 1) (b := 0) (nx := 160) (by decide +kernel) ?_
                    refine g_44 (a := 0) (b := 164) (nx := 163) (by decide +kernel) ?_
                    refine g_82 (a := 178) (b := 1) (nx := 167) (by decide +kernel) (As := [vI 1]) (st' := []) (z := 178) rfl rfl rfl (Nat.le_of_ble_eq_true rfl) (Nat.le_of_ble_eq_true rfl) rfl (c_I (by decide +kernel) h (fun y22 M21 h => ?_))
                    exact g_91 (b := 0) (nx := 168) (by decide +kernel) h
                · rw [if_neg c16] at h
                  by_cases c24 : x3 = 7
                  · rw [if_pos c24] at h
                    refine g_45 (a := 0) (b := 201) (nx := 116) (by decide +kernel) r7 (t := 168) (by rw [(show sws 259 68 = [(0, 116), (1, 132), (2, 135), (3, 142), (4, 145), (5, 148), (6, 201), (7, 168)] from by decide +kernel)]; simp only [swL]; simp [c24]) ?_
                    refine g_5 (a := 2) (b := 0) (nx := 169) (by decide +kernel) rfl ?_
                    by_cases c27 : x2 = 0
                    · rw [if_pos c27] at h
                      refine g_40f (a := 1) (b := 177) (nx := 172) (by decide +kernel) r3 (by exact fun hz => ((cb_1 _ _).mp hz) c27) ?_
                      refine g_5 (a := 4) (b := 0) (nx := 174) (by decide +kernel) rfl ?_
                      obtain ⟨r25, h⟩ := h
                      by_cases c26 : 0 < x4
                      · rw [if_pos c26] at h
                        refine g_40t (a := 4) (b := 192) (nx := 177) (by decide +kernel) r25 (by exact (cb_4 _ _).mpr c26) ?_
                        exact h
                      · rw [if_neg c26] at h
                        refine g_40f (a := 4) (b := 192) (nx := 177) (by decide +kernel) r25 (by exact fun hz => c26 ((cb_4 _ _).mp hz)) ?_
                        exact h
                    · rw [if_neg c27] at h
                      refine g_40t (a := 1) (b := 177) (nx := 172) (by decide +kernel) r3 (by exact (cb_1 _ _).mpr c27) ?_
                      exact h
                  · rw [if_neg c24] at h
                    refine g_45 (a := 0) (b := 201) (nx := 116) (by decide +kernel) r7 (t := 201) (by rw [(show sws 259 68 = [(0, 116), (1, 132), (2, 135), (3, 142), (4, 145), (5, 148), (6, 201), (7, 168)] from by decide +kernel)]; simp only [swL]; first | rfl | (simp [c8, c12, c13, c14, c15, c16, c24])) ?_
                    refine g_7 (a := 0) (b := 0) (nx := 202) (by decide +kernel) rfl ?_
                    refine g_7 (a := 0) (b := 0) (nx := 203) (by decide +kernel) rfl ?_
                    refine g_52 (a := 12) (b := 64) (nx := 206) (by decide +kernel) h0 ?_
                    refine g_7 (a := 0) (b := 0) (nx := 207) (by decide +kernel) rfl ?_
                    refine g_5 (a := 2) (b := 0) (nx := 208) (by decide +kernel) rfl ?_
                    refine g_80 (a := 239) (b := 1) (nx := 211) (by decide +kernel) (r := x0) (As := [vI x2]) (st' := [vR (M4 x0 64), vR x0]) (z := 239) rfl rfl rfl (Nat.le_of_ble_eq_true rfl) h0.2 (Nat.le_of_ble_eq_true rfl) rfl (c_I (by decide +kernel) h (fun y29 M28 h => ?_))
                    refine g_7 (a := 0) (b := 0) (nx := 212) (by decide +kernel) rfl ?_
                    refine g_5 (a := 2) (b := 0) (nx := 213) (by decide +kernel) rfl ?_
                    refine g_80 (a := 240) (b := 1) (nx := 216) (by decide +kernel) (r := x0) (As := [vI x2]) (st' := [vI y29, vR (M4 x0 64), vR x0]) (z := 240) rfl rfl rfl (Nat.le_of_ble_eq_true rfl) h0.2 (Nat.le_of_ble_eq_true rfl) rfl (c_I (by decide +kernel) h (fun y31 M30 h => ?_))
                    refine g_80 (a := 235) (b := 3) (nx := 219) (by decide +kernel) (r := x0) (As := [vR (M4 x0 64), vI y29, vI y31]) (st' := []) (z := 235) rfl rfl rfl (Nat.le_of_ble_eq_true rfl) h0.2 (Nat.le_of_ble_eq_true rfl) rfl (c_I (by decide +kernel) h (fun y33 M32 h => ?_))
                    refine g_8 (a := 9) (b := 0) (nx := 221) (by decide +kernel) rfl (ls' := [some (vR x0), some (vI x1), some (vI x2), some (vI x3), some (vI x4), some (vI x5), some (vI (y2 + 0)), some (vI (y5 - 0)), some (vI ((M4 (M4 x0 55) ((M4 (M4 x0 66) x2) - 1)) + ((M4 (M4 x0 55) 2) * (y5 - 0)))), some (vI y33), none, none]) rfl ?_
                    refine g_5 (a := 2) (b := 0) (nx := 222) (by decide +kernel) rfl ?_
                    by_cases c36 : x2 = 0
                    · rw [if_pos c36] at h
                      refine g_40f (a := 1) (b := 296) (nx := 225) (by decide +kernel) r3 (by exact fun hz => ((cb_1 _ _).mp hz) c36) ?_
                      refine g_5 (a := 4) (b := 0) (nx := 227) (by decide +kernel) rfl ?_
                      obtain ⟨r34, h⟩ := h
                      by_cases c35 : x4 ≤ 0
                      · rw [if_pos c35] at h
                        refine g_40t (a := 5) (b := 296) (nx := 230) (by decide +kernel) r34 (by exact (cb_5 _ _).mpr c35) ?_
                        exact h
                      · rw [if_neg c35] at h
                        refine g_40f (a := 5) (b := 296) (nx := 230) (by decide +kernel) r34 (by exact fun hz => c35 ((cb_5 _ _).mp hz)) ?_
                        refine g_7 (a := 0) (b := 0) (nx := 231) (by decide +kernel) rfl ?_
                        refine g_52 (a := 12) (b := 58) (nx := 234) (by decide +kernel) h0 ?_
                        refine g_5 (a := 1) (b := 0) (nx := 235) (by decide +kernel) rfl ?_
                        refine g_1 (a := 1) (b := 0) (nx := 236) (by decide +kernel) ?_
                        refine g_16 (a := 0) (b := 0) (nx := 237) (by decide +kernel) ?_
                        refine g_61 (a := 0) (b := 0) (nx := 238) (by decide +kernel) h.1 ?_
                        replace h := h.2
                        refine g_8 (a := 10) (b := 0) (nx := 240) (by decide +kernel) rfl (ls' := [some (vR x0), some (vI x1), some (vI x2), some (vI x3), some (vI x4), some (vI x5), some (vI (y2 + 0)), some (vI (y5 - 0)), some (vI ((M4 (M4 x0 55) ((M4 (M4 x0 66) x2) - 1)) + ((M4 (M4 x0 55) 2) * (y5 - 0)))), some (vI y33), some (vI (M32 (M32 x0 58) (x1 - 1))), none]) rfl ?_
                        refine g_1 (a := 0) (b := 0) (nx := 241) (by decide +kernel) ?_
                        refine g_8 (a := 11) (b := 0) (nx := 243) (by decide +kernel) rfl (ls' := [some (vR x0), some (vI x1), some (vI x2), some (vI x3), some (vI x4), some (vI x5), some (vI (y2 + 0)), some (vI (y5 - 0)), some (vI ((M4 (M4 x0 55) ((M4 (M4 x0 66) x2) - 1)) + ((M4 (M4 x0 55) 2) * (y5 - 0)))), some (vI y33), some (vI (M32 (M32 x0 58) (x1 - 1))), some (vI 0)]) rfl ?_
                        exact h
                    · rw [if_neg c36] at h
                      refine g_40t (a := 1) (b := 296) (nx := 225) (by decide +kernel) r3 (by exact (cb_1 _ _).mpr c36) ?_
                      exact h
theorem t_259_177 {x0 x1 x2 x3 x4 x5 x6 x7 x8 : Int} {M : Mem} {Q : AV → Mem → Prop} (h0 : gO 12 x0) (h : inR x2 ∧ (inR ((M x0 70) - 1) ∧ (if x2 = ((M x0 70) - 1) then (inR x5 ∧ (if x5 ≤ 0 then (WR 259 196 [some (vR x0), some (vI x1), some (vI x2), some (vI x3), some (vI x4), some (vI x5), some (vI x6), some (vI x7), some (vI x8), none, none, none] [] M Q) else (WR 259 192 [some (vR x0), some (vI x1), some (vI x2), some (vI x3), some (vI x4), some (vI x5), some (vI x6), some (vI x7), some (vI x8), none, none, none] [] M Q))) else (WR 259 196 [some (vR x0), some (vI x1), some (vI x2), some (vI x3), some (vI x4), some (vI x5), some (vI x6), some (vI x7), some (vI x8), none, none, none] [] M Q)))) : WR 259 177 [some (vR x0), some (vI x1), some (vI x2), some (vI x3), some (vI x4), some (vI x5), some (vI x6), some (vI x7), some (vI x8), none, none, none] [] M Q := by
  refine g_5 (a := 2) (b := 0) (nx := 178) (by decide +kernel) rfl ?_
  refine g_7 (a := 0) (b := 0) (nx := 179) (by decide +kernel) rfl ?_
  refine g_50 (a := 12) (b := 70) (nx := 182) (by decide +kernel) h0 ?_
  refine g_1 (a := 1) (b := 0) (nx := 183) (by decide +kernel) ?_
  refine g_16 (a := 0) (b := 0) (nx := 184) (by decide +kernel) ?_
  obtain ⟨r1, h⟩ := h
  obtain ⟨r2, h⟩ := h
  by_cases c5 : x2 = ((M x0 70) - 1)
  · rw [if_pos c5] at h
    refine g_41f (a := 1) (b := 196) (nx := 187) (by decide +kernel) (by rw [wr_id r1, wr_id r2]; exact fun hz => ((cb_1 _ _).mp hz) c5) ?_
    refine g_5 (a := 5) (b := 0) (nx := 189) (by decide +kernel) rfl ?_
    obtain ⟨r3, h⟩ := h
    by_cases c4 : x5 ≤ 0
    · rw [if_pos c4] at h
      refine g_40t (a := 5) (b := 196) (nx := 192) (by decide +kernel) r3 (by exact (cb_5 _ _).mpr c4) ?_
      exact h
    · rw [if_neg c4] at h
      refine g_40f (a := 5) (b := 196) (nx := 192) (by decide +kernel) r3 (by exact fun hz => c4 ((cb_5 _ _).mp hz)) ?_
      exact h
  · rw [if_neg c5] at h
    refine g_41t (a := 1) (b := 196) (nx := 187) (by decide +kernel) (by rw [wr_id r1, wr_id r2]; exact (cb_1 _ _).mpr c5) ?_
    exact h
theorem t_259_192 {x0 x1 x2 x3 x4 x5 x6 x7 x8 : Int} {M : Mem} {Q : AV → Mem → Prop} (h0 : gO 12 x0) (h : WI 178 [vI 1] M (fun y2 M1 => Q (vI y2) M1)) : WR 259 192 [some (vR x0), some (vI x1), some (vI x2), some (vI x3), some (vI x4), some (vI x5), some (vI x6), some (vI x7), some (vI x8), none, none, none] [] M Q := by
  refine g_1 (a := 1) (b := 0) (nx := 193) (by decide +kernel) ?_
  refine g_44 (a := 0) (b := 197) (nx := 196) (by decide +kernel) ?_
  refine g_82 (a := 178) (b := 1) (nx := 200) (by decide +kernel) (As := [vI 1]) (st' := []) (z := 178) rfl rfl rfl (Nat.le_of_ble_eq_true rfl) (Nat.le_of_ble_eq_true rfl) rfl (c_I (by decide +kernel) h (fun y2 M1 h => ?_))
  exact g_91 (b := 0) (nx := 201) (by decide +kernel) h
theorem t_259_196 {x0 x1 x2 x3 x4 x5 x6 x7 x8 : Int} {M : Mem} {Q : AV → Mem → Prop} (h0 : gO 12 x0) (h : WI 178 [vI 0] M (fun y2 M1 => Q (vI y2) M1)) : WR 259 196 [some (vR x0), some (vI x1), some (vI x2), some (vI x3), some (vI x4), some (vI x5), some (vI x6), some (vI x7), some (vI x8), none, none, none] [] M Q := by
  refine g_1 (a := 0) (b := 0) (nx := 197) (by decide +kernel) ?_
  refine g_82 (a := 178) (b := 1) (nx := 200) (by decide +kernel) (As := [vI 0]) (st' := []) (z := 178) rfl rfl rfl (Nat.le_of_ble_eq_true rfl) (Nat.le_of_ble_eq_true rfl) rfl (c_I (by decide +kernel) h (fun y2 M1 h => ?_))
  exact g_91 (b := 0) (nx := 201) (by decide +kernel) h
theorem t_259_243 {x0 x1 x2 x3 x4 x5 x6 x7 x8 x9 x10 x11 : Int} {M : Mem} {Q : AV → Mem → Prop} (h0 : gO 12 x0) (h : inR x11 ∧ (inR x4 ∧ (if x4 ≤ x11 then (WI 235 [vR x0, vR (M x0 72), vI 0, vI x4] M (fun y4 M3 => WR 259 296 [some (vR x0), some (vI x1), some (vI x2), some (vI x3), some (vI x4), some (vI x5), some (vI x6), some (vI x7), some (vI x8), some (vI y4), some (vI x10), some (vI x11)] [] M3 Q)) else ((gA 20 (M x0 57) ((((12 * (x1 - 1)) + x10) - x4) + x11)) ∧ (gA 20 (M x0 72) x11) ∧ WR 259 243 [some (vR x0), some (vI x1), some (vI x2), some (vI x3), some (vI x4), some (vI x5), some (vI x6), some (vI x7), some (vI x8), some (vI x9), some (vI x10), some (vI (x11 + 1))] [] (upM M (M x0 72) x11 (M (M x0 57) ((((12 * (x1 - 1)) + x10) - x4) + x11))) Q)))) : WR 259 243 [some (vR x0), some (vI x1), some (vI x2), some (vI x3), some (vI x4), some (vI x5), some (vI x6), some (vI x7), some (vI x8), some (vI x9), some (vI x10), some (vI x11)] [] M Q := by
  refine g_5 (a := 11) (b := 0) (nx := 245) (by decide +kernel) rfl ?_
  refine g_5 (a := 4) (b := 0) (nx := 247) (by decide +kernel) rfl ?_
  obtain ⟨r1, h⟩ := h
  obtain ⟨r2, h⟩ := h
  by_cases c5 : x4 ≤ x11
  · rw [if_pos c5] at h
    refine g_41t (a := 3) (b := 283) (nx := 250) (by decide +kernel) (by rw [wr_id r1, wr_id r2]; exact (cb_3 _ _).mpr c5) ?_
    refine g_7 (a := 0) (b := 0) (nx := 284) (by decide +kernel) rfl ?_
    refine g_7 (a := 0) (b := 0) (nx := 285) (by decide +kernel) rfl ?_
    refine g_52 (a := 12) (b := 72) (nx := 288) (by decide +kernel) h0 ?_
    refine g_1 (a := 0) (b := 0) (nx := 289) (by decide +kernel) ?_
    refine g_5 (a := 4) (b := 0) (nx := 291) (by decide +kernel) rfl ?_
    refine g_80 (a := 235) (b := 3) (nx := 294) (by decide +kernel) (r := x0) (As := [vR (M x0 72), vI 0, vI x4]) (st' := []) (z := 235) rfl rfl rfl (Nat.le_of_ble_eq_true rfl) h0.2 (Nat.le_of_ble_eq_true rfl) rfl (c_I (by decide +kernel) h (fun y4 M3 h => ?_))
    refine g_8 (a := 9) (b := 0) (nx := 296) (by decide +kernel) rfl (ls' := [some (vR x0), some (vI x1), some (vI x2), some (vI x3), some (vI x4), some (vI x5), some (vI x6), some (vI x7), some (vI x8), some (vI y4), some (vI x10), some (vI x11)]) rfl ?_
    exact h
  · rw [if_neg c5] at h
    refine g_41f (a := 3) (b := 283) (nx := 250) (by decide +kernel) (by rw [wr_id r1, wr_id r2]; exact fun hz => c5 ((cb_3 _ _).mp hz)) ?_
    refine g_7 (a := 0) (b := 0) (nx := 251) (by decide +kernel) rfl ?_
    refine g_52 (a := 12) (b := 72) (nx := 254) (by decide +kernel) h0 ?_
    refine g_5 (a := 11) (b := 0) (nx := 256) (by decide +kernel) rfl ?_
    refine g_7 (a := 0) (b := 0) (nx := 257) (by decide +kernel) rfl ?_
    refine g_52 (a := 12) (b := 57) (nx := 260) (by decide +kernel) h0 ?_
    refine g_1 (a := 12) (b := 0) (nx := 262) (by decide +kernel) ?_
    refine g_5 (a := 1) (b := 0) (nx := 263) (by decide +kernel) rfl ?_
    refine g_1 (a := 1) (b := 0) (nx := 264) (by decide +kernel) ?_
    refine g_16 (a := 0) (b := 0) (nx := 265) (by decide +kernel) ?_
    refine g_17 (a := 0) (b := 0) (nx := 266) (by decide +kernel) ?_
    refine g_5 (a := 10) (b := 0) (nx := 268) (by decide +kernel) rfl ?_
    refine g_15 (a := 0) (b := 0) (nx := 269) (by decide +kernel) ?_
    refine g_5 (a := 4) (b := 0) (nx := 271) (by decide +kernel) rfl ?_
    refine g_16 (a := 0) (b := 0) (nx := 272) (by decide +kernel) ?_
    refine g_5 (a := 11) (b := 0) (nx := 274) (by decide +kernel) rfl ?_
    refine g_15 (a := 0) (b := 0) (nx := 275) (by decide +kernel) ?_
    refine g_61 (a := 0) (b := 0) (nx := 276) (by decide +kernel) h.1 ?_
    replace h := h.2
    refine g_62 (a := 0) (b := 0) (nx := 277) (by decide +kernel) h.1 ?_
    replace h := h.2
    refine g_11 (a := 11) (b := 1) (nx := 280) (by decide +kernel) rfl rfl (ls' := [some (vR x0), some (vI x1), some (vI x2), some (vI x3), some (vI x4), some (vI x5), some (vI x6), some (vI x7), some (vI x8), some (vI x9), some (vI x10), some (vI (x11 + 1))]) rfl ?_
    refine g_44 (a := 0) (b := 243) (nx := 283) (by decide +kernel) ?_
    exact h
theorem t_259_296 {x0 x1 x2 x3 x4 x5 x6 x7 x8 x9 : Int} {l10 l11 : Option AV} {M : Mem} {Q : AV → Mem → Prop} (h0 : gO 12 x0) (h : inR x2 ∧ (if x2 ≤ 0 then (WR 259 325 [some (vR x0), some (vI x1), some (vI x2), some (vI x3), some (vI x4), some (vI x5), some (vI x6), some (vI x7), some (vI x8), some (vI x9), l10, l11] [] M Q) else (WI 243 [vR x0, vI (x2 - 1)] M (fun y3 M2 => inR y3 ∧ (if y3 = 0 then (WR 259 325 [some (vR x0), some (vI x1), some (vI x2), some (vI x3), some (vI x4), some (vI x5), some (vI x6), some (vI x7), some (vI x8), some (vI x9), l10, l11] [] M2 Q) else ((gA 20 (M2 x0 55) 3) ∧ inR x8 ∧ (inR (M2 (M2 x0 55) 3) ∧ (if x8 < (M2 (M2 x0 55) 3) then (WR 259 325 [some (vR x0), some (vI x1), some (vI x2), some (vI x3), some (vI x4), some (vI x5), some (vI x6), some (vI x7), some (vI x8), some (vI x9), l10, l11] [] M2 Q) else (WI 229 [vR x0, vI x2] M2 (fun y8 M7 => WI 236 [vR x0, vR (M2 x0 64), vI y8, vI x7] M7 (fun y10 M9 => WI 244 [vR x0, vI x6, vI x9, vI x7, vI y10] M9 (fun y12 M11 => WI 218 [vR x0, vI 5] M11 (fun y14 M13 => Q (vI (y12 + y14)) M13))))))))))))) : WR 259 296 [some (vR x0), some (vI x1), some (vI x2), some (vI x3), some (vI x4), some (vI x5), some (vI x6), some (vI x7), some (vI x8), some (vI x9), l10, l11] [] M Q := by
  refine g_5 (a := 2) (b := 0) (nx := 297) (by decide +kernel) rfl ?_
  obtain ⟨r1, h⟩ := h
  by_cases c17 : x2 ≤ 0
  · rw [if_pos c17] at h
    refine g_40t (a := 5) (b := 325) (nx := 300) (by decide +kernel) r1 (by exact (cb_5 _ _).mpr c17) ?_
    exact h
  · rw [if_neg c17] at h
    refine g_40f (a := 5) (b := 325) (nx := 300) (by decide +kernel) r1 (by exact fun hz => c17 ((cb_5 _ _).mp hz)) ?_
    refine g_7 (a := 0) (b := 0) (nx := 301) (by decide +kernel) rfl ?_
    refine g_5 (a := 2) (b := 0) (nx := 302) (by decide +kernel) rfl ?_
    refine g_1 (a := 1) (b := 0) (nx := 303) (by decide +kernel) ?_
    refine g_16 (a := 0) (b := 0) (nx := 304) (by decide +kernel) ?_
    refine g_80 (a := 243) (b := 1) (nx := 307) (by decide +kernel) (r := x0) (As := [vI (x2 - 1)]) (st' := []) (z := 243) rfl rfl rfl (Nat.le_of_ble_eq_true rfl) h0.2 (Nat.le_of_ble_eq_true rfl) rfl (c_I (by decide +kernel) h (fun y3 M2 h => ?_))
    obtain ⟨r4, h⟩ := h
    by_cases c16 : y3 = 0
    · rw [if_pos c16] at h
      refine g_40t (a := 0) (b := 325) (nx := 310) (by decide +kernel) r4 (by exact (cb_0 _ _).mpr c16) ?_
      exact h
    · rw [if_neg c16] at h
      refine g_40f (a := 0) (b := 325) (nx := 310) (by decide +kernel) r4 (by exact fun hz => c16 ((cb_0 _ _).mp hz)) ?_
      refine g_5 (a := 8) (b := 0) (nx := 312) (by decide +kernel) rfl ?_
      refine g_7 (a := 0) (b := 0) (nx := 313) (by decide +kernel) rfl ?_
      refine g_52 (a := 12) (b := 55) (nx := 316) (by decide +kernel) h0 ?_
      refine g_1 (a := 3) (b := 0) (nx := 317) (by decide +kernel) ?_
      refine g_61 (a := 0) (b := 0) (nx := 318) (by decide +kernel) h.1 ?_
      replace h := h.2
      obtain ⟨r5, h⟩ := h
      obtain ⟨r6, h⟩ := h
      by_cases c15 : x8 < (M2 (M2 x0 55) 3)
      · rw [if_pos c15] at h
        refine g_41t (a := 2) (b := 325) (nx := 321) (by decide +kernel) (by rw [wr_id r5, wr_id r6]; exact (cb_2 _ _).mpr c15) ?_
        exact h
      · rw [if_neg c15] at h
        refine g_41f (a := 2) (b := 325) (nx := 321) (by decide +kernel) (by rw [wr_id r5, wr_id r6]; exact fun hz => c15 ((cb_2 _ _).mp hz)) ?_
        refine g_1 (a := 1) (b := 0) (nx := 322) (by decide +kernel) ?_
        refine g_44 (a := 0) (b := 326) (nx := 325) (by decide +kernel) ?_
        refine g_8 (a := 10) (b := 0) (nx := 328) (by decide +kernel) rfl (ls' := [some (vR x0), some (vI x1), some (vI x2), some (vI x3), some (vI x4), some (vI x5), some (vI x6), some (vI x7), some (vI x8), some (vI x9), some (vI 1), l11]) rfl ?_
        refine g_7 (a := 0) (b := 0) (nx := 329) (by decide +kernel) rfl ?_
        refine g_5 (a := 6) (b := 0) (nx := 331) (by decide +kernel) rfl ?_
        refine g_5 (a := 9) (b := 0) (nx := 333) (by decide +kernel) rfl ?_
        refine g_5 (a := 7) (b := 0) (nx := 335) (by decide +kernel) rfl ?_
        refine g_7 (a := 0) (b := 0) (nx := 336) (by decide +kernel) rfl ?_
        refine g_7 (a := 0) (b := 0) (nx := 337) (by decide +kernel) rfl ?_
        refine g_52 (a := 12) (b := 64) (nx := 340) (by decide +kernel) h0 ?_
        refine g_7 (a := 0) (b := 0) (nx := 341) (by decide +kernel) rfl ?_
        refine g_5 (a := 2) (b := 0) (nx := 342) (by decide +kernel) rfl ?_
        refine g_80 (a := 229) (b := 1) (nx := 345) (by decide +kernel) (r := x0) (As := [vI x2]) (st' := [vR (M2 x0 64), vR x0, vI x7, vI x9, vI x6, vR x0]) (z := 229) rfl rfl rfl (Nat.le_of_ble_eq_true rfl) h0.2 (Nat.le_of_ble_eq_true rfl) rfl (c_I (by decide +kernel) h (fun y8 M7 h => ?_))
        refine g_5 (a := 7) (b := 0) (nx := 347) (by decide +kernel) rfl ?_
        refine g_80 (a := 236) (b := 3) (nx := 350) (by decide +kernel) (r := x0) (As := [vR (M2 x0 64), vI y8, vI x7]) (st' := [vI x7, vI x9, vI x6, vR x0]) (z := 236) rfl rfl rfl (Nat.le_of_ble_eq_true rfl) h0.2 (Nat.le_of_ble_eq_true rfl) rfl (c_I (by decide +kernel) h (fun y10 M9 h => ?_))
        refine g_80 (a := 244) (b := 4) (nx := 353) (by decide +kernel) (r := x0) (As := [vI x6, vI x9, vI x7, vI y10]) (st' := []) (z := 244) rfl rfl rfl (Nat.le_of_ble_eq_true rfl) h0.2 (Nat.le_of_ble_eq_true rfl) rfl (c_I (by decide +kernel) h (fun y12 M11 h => ?_))
        refine g_5 (a := 10) (b := 0) (nx := 355) (by decide +kernel) rfl ?_
        refine g_40f (a := 0) (b := 366) (nx := 358) (by decide +kernel) (show inR 1 by decide) (by decide +kernel) ?_
        refine g_7 (a := 0) (b := 0) (nx := 359) (by decide +kernel) rfl ?_
        refine g_1 (a := 5) (b := 0) (nx := 360) (by decide +kernel) ?_
        refine g_80 (a := 218) (b := 1) (nx := 363) (by decide +kernel) (r := x0) (As := [vI 5]) (st' := [vI y12]) (z := 218) rfl rfl rfl (Nat.le_of_ble_eq_true rfl) h0.2 (Nat.le_of_ble_eq_true rfl) rfl (c_I (by decide +kernel) h (fun y14 M13 h => ?_))
        refine g_44 (a := 0) (b := 367) (nx := 366) (by decide +kernel) ?_
        refine g_15 (a := 0) (b := 0) (nx := 368) (by decide +kernel) ?_
        exact g_91 (b := 0) (nx := 369) (by decide +kernel) h
theorem t_259_325 {x0 x1 x2 x3 x4 x5 x6 x7 x8 x9 : Int} {l10 l11 : Option AV} {M : Mem} {Q : AV → Mem → Prop} (h0 : gO 12 x0) (h : WI 229 [vR x0, vI x2] M (fun y2 M1 => WI 236 [vR x0, vR (M x0 64), vI y2, vI x7] M1 (fun y4 M3 => WI 244 [vR x0, vI x6, vI x9, vI x7, vI y4] M3 (fun y6 M5 => Q (vI (y6 + 0)) M5)))) : WR 259 325 [some (vR x0), some (vI x1), some (vI x2), some (vI x3), some (vI x4), some (vI x5), some (vI x6), some (vI x7), some (vI x8), some (vI x9), l10, l11] [] M Q := by
  refine g_1 (a := 0) (b := 0) (nx := 326) (by decide +kernel) ?_
  refine g_8 (a := 10) (b := 0) (nx := 328) (by decide +kernel) rfl (ls' := [some (vR x0), some (vI x1), some (vI x2), some (vI x3), some (vI x4), some (vI x5), some (vI x6), some (vI x7), some (vI x8), some (vI x9), some (vI 0), l11]) rfl ?_
  refine g_7 (a := 0) (b := 0) (nx := 329) (by decide +kernel) rfl ?_
  refine g_5 (a := 6) (b := 0) (nx := 331) (by decide +kernel) rfl ?_
  refine g_5 (a := 9) (b := 0) (nx := 333) (by decide +kernel) rfl ?_
  refine g_5 (a := 7) (b := 0) (nx := 335) (by decide +kernel) rfl ?_
  refine g_7 (a := 0) (b := 0) (nx := 336) (by decide +kernel) rfl ?_
  refine g_7 (a := 0) (b := 0) (nx := 337) (by decide +kernel) rfl ?_
  refine g_52 (a := 12) (b := 64) (nx := 340) (by decide +kernel) h0 ?_
  refine g_7 (a := 0) (b := 0) (nx := 341) (by decide +kernel) rfl ?_
  refine g_5 (a := 2) (b := 0) (nx := 342) (by decide +kernel) rfl ?_
  refine g_80 (a := 229) (b := 1) (nx := 345) (by decide +kernel) (r := x0) (As := [vI x2]) (st' := [vR (M x0 64), vR x0, vI x7, vI x9, vI x6, vR x0]) (z := 229) rfl rfl rfl (Nat.le_of_ble_eq_true rfl) h0.2 (Nat.le_of_ble_eq_true rfl) rfl (c_I (by decide +kernel) h (fun y2 M1 h => ?_))
  refine g_5 (a := 7) (b := 0) (nx := 347) (by decide +kernel) rfl ?_
  refine g_80 (a := 236) (b := 3) (nx := 350) (by decide +kernel) (r := x0) (As := [vR (M x0 64), vI y2, vI x7]) (st' := [vI x7, vI x9, vI x6, vR x0]) (z := 236) rfl rfl rfl (Nat.le_of_ble_eq_true rfl) h0.2 (Nat.le_of_ble_eq_true rfl) rfl (c_I (by decide +kernel) h (fun y4 M3 h => ?_))
  refine g_80 (a := 244) (b := 4) (nx := 353) (by decide +kernel) (r := x0) (As := [vI x6, vI x9, vI x7, vI y4]) (st' := []) (z := 244) rfl rfl rfl (Nat.le_of_ble_eq_true rfl) h0.2 (Nat.le_of_ble_eq_true rfl) rfl (c_I (by decide +kernel) h (fun y6 M5 h => ?_))
  refine g_5 (a := 10) (b := 0) (nx := 355) (by decide +kernel) rfl ?_
  refine g_40t (a := 0) (b := 366) (nx := 358) (by decide +kernel) (show inR 0 by decide) (by decide +kernel) ?_
  refine g_1 (a := 0) (b := 0) (nx := 367) (by decide +kernel) ?_
  refine g_15 (a := 0) (b := 0) (nx := 368) (by decide +kernel) ?_
  exact g_91 (b := 0) (nx := 369) (by decide +kernel) h
-- 260 SyllableMakerModel.syllable(IIII)I
theorem t_260 {x0 x1 x2 x3 x4 : Int} {M : Mem} {Q : AV → Mem → Prop} (h0 : gO 12 x0) (h : WI 219 [vR x0, vI x1] M (fun y2 M1 => inR y2 ∧ (if y2 = 0 then (WR 260 46 [some (vR x0), some (vI x1), some (vI x2), some (vI x3), some (vI x4), none, none] [] M1 Q) else (WI 177 [vL (wr32 x2), vL 0, vL 2] M1 (fun y5 M4 => inR y5 ∧ (if y5 = 0 then (WR 260 46 [some (vR x0), some (vI x1), some (vI x2), some (vI x3), some (vI x4), none, none] [] M4 Q) else (inR x2 ∧ (if x2 = 2 then (WI 220 [vR x0, vI x1] M4 (fun y66 M65 => inR y66 ∧ (if y66 = 0 then (WR 260 46 [some (vR x0), some (vI x1), some (vI x2), some (vI x3), some (vI x4), none, none] [] M65 Q) else (WI 177 [vL (wr32 x4), vL 0, vL 6] M65 (fun y69 M68 => inR y69 ∧ (if y69 = 0 then (WR 260 46 [some (vR x0), some (vI x1), some (vI x2), some (vI x3), some (vI x4), none, none] [] M68 Q) else (if x2 = 2 then (WI 257 [vR x0, vI x1] M68 (fun y97 M96 => if x2 = 2 then (WI 257 [vR x0, vI (x1 + 1)] M96 (fun y110 M109 => WV 227 [vR x0, vI x1] M109 (fun M111 => WI 177 [vL (wr32 x3), vL 0, vL (wr32 ((M111 x0 70) - 1))] M111 (fun y114 M113 => inR y114 ∧ (if y114 = 0 then (Q (vI (-100)) M113) else (if x2 = 1 then (WI 250 [vR x0] M113 (fun y119 M118 => WR 260 124 [some (vR x0), some (vI x1), some (vI x2), some (vI x3), some (vI x4), some (vI y97), some (vI y110)] [] M118 Q)) else (WV 238 [vR x0] M113 (fun M116 => WR 260 124 [some (vR x0), some (vI x1), some (vI x2), some (vI x3), some (vI x4), some (vI y97), some (vI y110)] [] M116 Q)))))))) else (WV 227 [vR x0, vI x1] M96 (fun M98 => WI 177 [vL (wr32 x3), vL 0, vL (wr32 ((M98 x0 70) - 1))] M98 (fun y101 M100 => inR y101 ∧ (if y101 = 0 then (Q (vI (-100)) M100) else (if x2 = 1 then (WI 250 [vR x0] M100 (fun y106 M105 => WR 260 124 [some (vR x0), some (vI x1), some (vI x2), some (vI x3), some (vI x4), some (vI y97), some (vI 0)] [] M105 Q)) else (WV 238 [vR x0] M100 (fun M103 => WR 260 124 [some (vR x0), some (vI x1), some (vI x2), some (vI x3), some (vI x4), some (vI y97), some (vI 0)] [] M103 Q))))))))) else (if x2 = 2 then (WI 257 [vR x0, vI (x1 + 1)] M68 (fun y83 M82 => WV 227 [vR x0, vI x1] M82 (fun M84 => WI 177 [vL (wr32 x3), vL 0, vL (wr32 ((M84 x0 70) - 1))] M84 (fun y87 M86 => inR y87 ∧ (if y87 = 0 then (Q (vI (-100)) M86) else (if x2 = 1 then (WI 250 [vR x0] M86 (fun y92 M91 => WR 260 124 [some (vR x0), some (vI x1), some (vI x2), some (vI x3), some (vI x4), some (vI 0), some (vI y83)] [] M91 Q)) else (WV 238 [vR x0] M86 (fun M89 => WR 260 124 [some (vR x0), some (vI x1), some (vI x2), some (vI x3), some (vI x4), some (vI 0), some (vI y83)] [] M89 Q)))))))) else (WV 227 [vR x0, vI x1] M68 (fun M71 => WI 177 [vL (wr32 x3), vL 0, vL (wr32 ((M71 x0 70) - 1))] M71 (fun y74 M73 => inR y74 ∧ (if y74 = 0 then (Q (vI (-100)) M73) else (if x2 = 1 then (WI 250 [vR x0] M73 (fun y79 M78 => WR 260 124 [some (vR x0), some (vI x1), some (vI x2), some (vI x3), some (vI x4), some (vI 0), some (vI 0)] [] M78 Q)) else (WV 238 [vR x0] M73 (fun M76 => WR 260 124 [some (vR x0), some (vI x1), some (vI x2), some (vI x3), some (vI x4), some (vI 0), some (vI 0)] [] M76 Q))))))))))))))) else (WI 177 [vL (wr32 x4), vL 0, vL 6] M4 (fun y9 M8 => inR y9 ∧ (if y9 = 0 then (WR 260 46 [some (vR x0), some (vI x1), some (vI x2), some (vI x3), some (vI x4), none, none] [] M8 Q) else (if x2 = 2 then (WI 257 [vR x0, vI x1] M8 (fun y37 M36 => if x2 = 2 then (WI 257 [vR x0, vI (x1 + 1)] M36 (fun y50 M49 => WV 227 [vR x0, vI x1] M49 (fun M51 => WI 177 [vL (wr32 x3), vL 0, vL (wr32 ((M51 x0 70) - 1))] M51 (fun y54 M53 => inR y54 ∧ (if y54 = 0 then (Q (vI (-100)) M53) else (if x2 = 1 then (WI 250 [vR x0] M53 (fun y59 M58 => WR 260 124 [some (vR x0), some (vI x1), some (vI x2), some (vI x3), some (vI x4), some (vI y37), some (vI y50)] [] M58 Q)) else (WV 238 [vR x0] M53 (fun M56 => WR 260 124 [some (vR x0), some (vI x1), some (vI x2), some (vI x3), some (vI x4), some (vI y37), some (vI y50)] [] M56 Q)))))))) else (WV 227 [vR x0, vI x1] M36 (fun M38 => WI 177 [vL (wr32 x3), vL 0, vL (wr32 ((M38 x0 70) - 1))] M38 (fun y41 M40 => inR y41 ∧ (if y41 = 0 then (Q (vI (-100)) M40) else (if x2 = 1 then (WI 250 [vR x0] M40 (fun y46 M45 => WR 260 124 [some (vR x0), some (vI x1), some (vI x2), some (vI x3), some (vI x4), some (vI y37), some (vI 0)] [] M45 Q)) else (WV 238 [vR x0] M40 (fun M43 => WR 260 124 [some (vR x0), some (vI x1), some (vI x2), some (vI x3), some (vI x4), some (vI y37), some (vI 0)] [] M43 Q))))))))) else (if x2 = 2 then (WI 257 [vR x0, vI (x1 + 1)] M8 (fun y23 M22 => WV 227 [vR x0, vI x1] M22 (fun M24 => WI 177 [vL (wr32 x3), vL 0, vL (wr32 ((M24 x0 70) - 1))] M24 (fun y27 M26 => inR y27 ∧ (if y27 = 0 then (Q (vI (-100)) M26) else (if x2 = 1 then (WI 250 [vR x0] M26 (fun y32 M31 => WR 260 124 [some (vR x0), some (vI x1), some (vI x2), some (vI x3), some (vI x4), some (vI 0), some (vI y23)] [] M31 Q)) else (WV 238 [vR x0] M26 (fun M29 => WR 260 124 [some (vR x0), some (vI x1), some (vI x2), some (vI x3), some (vI x4), some (vI 0), some (vI y23)] [] M29 Q)))))))) else (WV 227 [vR x0, vI x1] M8 (fun M11 => WI 177 [vL (wr32 x3), vL 0, vL (wr32 ((M11 x0 70) - 1))] M11 (fun y14 M13 => inR y14 ∧ (if y14 = 0 then (Q (vI (-100)) M13) else (if x2 = 1 then (WI 250 [vR x0] M13 (fun y19 M18 => WR 260 124 [some (vR x0), some (vI x1), some (vI x2), some (vI x3), some (vI x4), some (vI 0), some (vI 0)] [] M18 Q)) else (WV 238 [vR x0] M13 (fun M16 => WR 260 124 [some (vR x0), some (vI x1), some (vI x2), some (vI x3), some (vI x4), some (vI 0), some (vI 0)] [] M16 Q)))))))))))))))))))) : WC 260 [vR x0, vI x1, vI x2, vI x3, vI x4] M Q := by
  show WR 260 0 [some (vR x0), some (vI x1), some (vI x2), some (vI x3), some (vI x4), none, none] [] M Q
  refine g_7 (a := 0) (b := 0) (nx := 1) (by decide +kernel) rfl ?_
  refine g_5 (a := 1) (b := 0) (nx := 2) (by decide +kernel) rfl ?_
  refine g_80 (a := 219) (b := 1) (nx := 5) (by decide +kernel) (r := x0) (As := [vI x1]) (st' := []) (z := 219) rfl rfl rfl (Nat.le_of_ble_eq_true rfl) h0.2 (Nat.le_of_ble_eq_true rfl) rfl (c_I (by decide +kernel) h (fun y2 M1 h => ?_))
  obtain ⟨r3, h⟩ := h
  by_cases c128 : y2 = 0
  · rw [if_pos c128] at h
    refine g_40t (a := 0) (b := 46) (nx := 8) (by decide +kernel) r3 (by exact (cb_0 _ _).mpr c128) ?_
    exact h
  · rw [if_neg c128] at h
    refine g_40f (a := 0) (b := 46) (nx := 8) (by decide +kernel) r3 (by exact fun hz => c128 ((cb_0 _ _).mp hz)) ?_
    refine g_5 (a := 2) (b := 0) (nx := 9) (by decide +kernel) rfl ?_
    refine g_35 (a := 0) (b := 0) (nx := 10) (by decide +kernel) ?_
    refine g_2 (a := 0) (b := 0) (nx := 11) (by decide +kernel) ?_
    refine g_2 (a := 2) (b := 0) (nx := 14) (by decide +kernel) ?_
    refine g_82 (a := 177) (b := 3) (nx := 17) (by decide +kernel) (As := [vL (wr32 x2), vL 0, vL 2]) (st' := []) (z := 177) rfl rfl rfl (Nat.le_of_ble_eq_true rfl) (Nat.le_of_ble_eq_true rfl) rfl (c_I (by decide +kernel) h (fun y5 M4 h => ?_))
    obtain ⟨r6, h⟩ := h
    by_cases c127 : y5 = 0
    · rw [if_pos c127] at h
      refine g_40t (a := 0) (b := 46) (nx := 20) (by decide +kernel) r6 (by exact (cb_0 _ _).mpr c127) ?_
      exact h
    · rw [if_neg c127] at h
      refine g_40f (a := 0) (b := 46) (nx := 20) (by decide +kernel) r6 (by exact fun hz => c127 ((cb_0 _ _).mp hz)) ?_
      refine g_5 (a := 2) (b := 0) (nx := 21) (by decide +kernel) rfl ?_
      refine g_1 (a := 2) (b := 0) (nx := 22) (by decide +kernel) ?_
      obtain ⟨r7, h⟩ := h
      by_cases c126 : x2 = 2
      · rw [if_pos c126] at h
        refine g_41f (a := 1) (b := 33) (nx := 25) (by decide +kernel) (by rw [wr_id r7, wr_id (show inR 2 by decide)]; exact fun hz => ((cb_1 _ _).mp hz) c126) ?_
        refine g_7 (a := 0) (b := 0) (nx := 26) (by decide +kernel) rfl ?_
        refine g_5 (a := 1) (b := 0) (nx := 27) (by decide +kernel) rfl ?_
        refine g_80 (a := 220) (b := 1) (nx := 30) (by decide +kernel) (r := x0) (As := [vI x1]) (st' := []) (z := 220) rfl rfl rfl (Nat.le_of_ble_eq_true rfl) h0.2 (Nat.le_of_ble_eq_true rfl) rfl (c_I (by decide +kernel) h (fun y66 M65 h => ?_))
        obtain ⟨r67, h⟩ := h
        by_cases c125 : y66 = 0
        · rw [if_pos c125] at h
          refine g_40t (a := 0) (b := 46) (nx := 33) (by decide +kernel) r67 (by exact (cb_0 _ _).mpr c125) ?_
          exact h
        · rw [if_neg c125] at h
          refine g_40f (a := 0) (b := 46) (nx := 33) (by decide +kernel) r67 (by exact fun hz => c125 ((cb_0 _ _).mp hz)) ?_
          refine g_5 (a := 4) (b := 0) (nx := 35) (by decide +kernel) rfl ?_
          refine g_35 (a := 0) (b := 0) (nx := 36) (by decide +kernel) ?_
          refine g_2 (a := 0) (b := 0) (nx := 37) (by decide +kernel) ?_
          refine g_2 (a := 6) (b := 0) (nx := 40) (by decide +kernel) ?_
          refine g_82 (a := 177) (b := 3) (nx := 43) (by decide +kernel) (As := [vL (wr32 x4), vL 0, vL 6]) (st' := []) (z := 177) rfl rfl rfl (Nat.le_of_ble_eq_true rfl) (Nat.le_of_ble_eq_true rfl) rfl (c_I (by decide +kernel) h (fun y69 M68 h => ?_))
          obtain ⟨r70, h⟩ := h
          by_cases c124 : y69 = 0
          · rw [if_pos c124] at h
            refine g_40f (a := 1) (b := 49) (nx := 46) (by decide +kernel) r70 (by exact fun hz => ((cb_1 _ _).mp hz) c124) ?_
            exact h
          · rw [if_neg c124] at h
            refine g_40t (a := 1) (b := 49) (nx := 46) (by decide +kernel) r70 (by exact (cb_1 _ _).mpr c124) ?_
            refine g_5 (a := 2) (b := 0) (nx := 50) (by decide +kernel) rfl ?_
            refine g_1 (a := 2) (b := 0) (nx := 51) (by decide +kernel) ?_
            by_cases c123 : x2 = 2
            · rw [if_pos c123] at h
              refine g_41f (a := 1) (b := 62) (nx := 54) (by decide +kernel) (by rw [wr_id r7, wr_id (show inR 2 by decide)]; exact fun hz => ((cb_1 _ _).mp hz) c123) ?_
              refine g_7 (a := 0) (b := 0) (nx := 55) (by decide +kernel) rfl ?_
              refine g_5 (a := 1) (b := 0) (nx := 56) (by decide +kernel) rfl ?_
              refine g_80 (a := 257) (b := 1) (nx := 59) (by decide +kernel) (r := x0) (As := [vI x1]) (st' := []) (z := 257) rfl rfl rfl (Nat.le_of_ble_eq_true rfl) h0.2 (Nat.le_of_ble_eq_true rfl) rfl (c_I (by decide +kernel) h (fun y97 M96 h => ?_))
              refine g_44 (a := 0) (b := 63) (nx := 62) (by decide +kernel) ?_
              refine g_8 (a := 5) (b := 0) (nx := 65) (by decide +kernel) rfl (ls' := [some (vR x0), some (vI x1), some (vI x2), some (vI x3), some (vI x4), some (vI y97), none]) rfl ?_
              refine g_5 (a := 2) (b := 0) (nx := 66) (by decide +kernel) rfl ?_
              refine g_1 (a := 2) (b := 0) (nx := 67) (by decide +kernel) ?_
              by_cases c122 : x2 = 2
              · rw [if_pos c122] at h
                refine g_41f (a := 1) (b := 80) (nx := 70) (by decide +kernel) (by rw [wr_id r7, wr_id (show inR 2 by decide)]; exact fun hz => ((cb_1 _ _).mp hz) c122) ?_
                refine g_7 (a := 0) (b := 0) (nx := 71) (by decide +kernel) rfl ?_
                refine g_5 (a := 1) (b := 0) (nx := 72) (by decide +kernel) rfl ?_
                refine g_1 (a := 1) (b := 0) (nx := 73) (by decide +kernel) ?_
                refine g_15 (a := 0) (b := 0) (nx := 74) (by decide +kernel) ?_
                refine g_80 (a := 257) (b := 1) (nx := 77) (by decide +kernel) (r := x0) (As := [vI (x1 + 1)]) (st' := []) (z := 257) rfl rfl rfl (Nat.le_of_ble_eq_true rfl) h0.2 (Nat.le_of_ble_eq_true rfl) rfl (c_I (by decide +kernel) h (fun y110 M109 h => ?_))
                refine g_44 (a := 0) (b := 81) (nx := 80) (by decide +kernel) ?_
                refine g_8 (a := 6) (b := 0) (nx := 83) (by decide +kernel) rfl (ls' := [some (vR x0), some (vI x1), some (vI x2), some (vI x3), some (vI x4), some (vI y97), some (vI y110)]) rfl ?_
                refine g_7 (a := 0) (b := 0) (nx := 84) (by decide +kernel) rfl ?_
                refine g_5 (a := 1) (b := 0) (nx := 85) (by decide +kernel) rfl ?_
                refine g_80 (a := 227) (b := 1) (nx := 88) (by decide +kernel) (r := x0) (As := [vI x1]) (st' := []) (z := 227) rfl rfl rfl (Nat.le_of_ble_eq_true rfl) h0.2 (Nat.le_of_ble_eq_true rfl) rfl (c_V (by decide +kernel) h (fun M111 h => ?_))
                refine g_5 (a := 3) (b := 0) (nx := 89) (by decide +kernel) rfl ?_
                refine g_35 (a := 0) (b := 0) (nx := 90) (by decide +kernel) ?_
                refine g_2 (a := 0) (b := 0) (nx := 91) (by decide +kernel) ?_
                refine g_7 (a := 0) (b := 0) (nx := 92) (by decide +kernel) rfl ?_
                refine g_50 (a := 12) (b := 70) (nx := 95) (by decide +kernel) h0 ?_
                refine g_1 (a := 1) (b := 0) (nx := 96) (by decide +kernel) ?_
                refine g_16 (a := 0) (b := 0) (nx := 97) (by decide +kernel) ?_
                refine g_35 (a := 0) (b := 0) (nx := 98) (by decide +kernel) ?_
                refine g_82 (a := 177) (b := 3) (nx := 101) (by decide +kernel) (As := [vL (wr32 x3), vL 0, vL (wr32 ((M111 x0 70) - 1))]) (st' := []) (z := 177) rfl rfl rfl (Nat.le_of_ble_eq_true rfl) (Nat.le_of_ble_eq_true rfl) rfl (c_I (by decide +kernel) h (fun y114 M113 h => ?_))
                obtain ⟨r115, h⟩ := h
                by_cases c121 : y114 = 0
                · rw [if_pos c121] at h
                  refine g_40f (a := 1) (b := 107) (nx := 104) (by decide +kernel) r115 (by exact fun hz => ((cb_1 _ _).mp hz) c121) ?_
                  refine g_1 (a := (-100)) (b := 0) (nx := 106) (by decide +kernel) ?_
                  exact g_91 (b := 0) (nx := 107) (by decide +kernel) h
                · rw [if_neg c121] at h
                  refine g_40t (a := 1) (b := 107) (nx := 104) (by decide +kernel) r115 (by exact (cb_1 _ _).mpr c121) ?_
                  refine g_5 (a := 2) (b := 0) (nx := 108) (by decide +kernel) rfl ?_
                  refine g_1 (a := 1) (b := 0) (nx := 109) (by decide +kernel) ?_
                  by_cases c120 : x2 = 1
                  · rw [if_pos c120] at h
                    refine g_41f (a := 1) (b := 120) (nx := 112) (by decide +kernel) (by rw [wr_id r7, wr_id (show inR 1 by decide)]; exact fun hz => ((cb_1 _ _).mp hz) c120) ?_
                    refine g_7 (a := 0) (b := 0) (nx := 113) (by decide +kernel) rfl ?_
                    refine g_80 (a := 250) (b := 0) (nx := 116) (by decide +kernel) (r := x0) (As := []) (st' := []) (z := 250) rfl rfl rfl (Nat.le_of_ble_eq_true rfl) h0.2 (Nat.le_of_ble_eq_true rfl) rfl (c_I (by decide +kernel) h (fun y119 M118 h => ?_))
                    refine g_12 (a := 0) (b := 0) (nx := 117) (by decide +kernel) rfl ?_
                    refine g_44 (a := 0) (b := 124) (nx := 120) (by decide +kernel) ?_
                    exact h
                  · rw [if_neg c120] at h
                    refine g_41t (a := 1) (b := 120) (nx := 112) (by decide +kernel) (by rw [wr_id r7, wr_id (show inR 1 by decide)]; exact (cb_1 _ _).mpr c120) ?_
                    refine g_7 (a := 0) (b := 0) (nx := 121) (by decide +kernel) rfl ?_
                    refine g_80 (a := 238) (b := 0) (nx := 124) (by decide +kernel) (r := x0) (As := []) (st' := []) (z := 238) rfl rfl rfl (Nat.le_of_ble_eq_true rfl) h0.2 (Nat.le_of_ble_eq_true rfl) rfl (c_V (by decide +kernel) h (fun M116 h => ?_))
                    exact h
              · rw [if_neg c122] at h
                refine g_41t (a := 1) (b := 80) (nx := 70) (by decide +kernel) (by rw [wr_id r7, wr_id (show inR 2 by decide)]; exact (cb_1 _ _).mpr c122) ?_
                refine g_1 (a := 0) (b := 0) (nx := 81) (by decide +kernel) ?_
                refine g_8 (a := 6) (b := 0) (nx := 83) (by decide +kernel) rfl (ls' := [some (vR x0), some (vI x1), some (vI x2), some (vI x3), some (vI x4), some (vI y97), some (vI 0)]) rfl ?_
                refine g_7 (a := 0) (b := 0) (nx := 84) (by decide +kernel) rfl ?_
                refine g_5 (a := 1) (b := 0) (nx := 85) (by decide +kernel) rfl ?_
                refine g_80 (a := 227) (b := 1) (nx := 88) (by decide +kernel) (r := x0) (As := [vI x1]) (st' := []) (z := 227) rfl rfl rfl (Nat.le_of_ble_eq_true rfl) h0.2 (Nat.le_of_ble_eq_true rfl) rfl (c_V (by decide +kernel) h (fun M98 h => ?_))
                refine g_5 (a := 3) (b := 0) (nx := 89) (by decide +kernel) rfl ?_
                refine g_35 (a := 0) (b := 0) (nx := 90) (by decide +kernel) ?_
                refine g_2 (a := 0) (b := 0) (nx := 91) (by decide +kernel) ?_
                refine g_7 (a := 0) (b := 0) (nx := 92) (by decide +kernel) rfl ?_
                refine g_50 (a := 12) (b := 70) (nx := 95) (by decide +kernel) h0 ?_
                refine g_1 (a := 1) (b := 0) (nx := 96) (by decide +kernel) ?_
                refine g_16 (a := 0) (b := 0) (nx := 97) (by decide +kernel) ?_
                refine g_35 (a := 0) (b := 0) (nx := 98) (by decide +kernel) ?_
                refine g_82 (a := 177) (b := 3) (nx := 101) (by decide +kernel) (As := [vL (wr32 x3), vL 0, vL (wr32 ((M98 x0 70) - 1))]) (st' := []) (z := 177) rfl rfl rfl (Nat.le_of_ble_eq_true rfl) (Nat.le_of_ble_eq_true rfl) rfl (c_I (by decide +kernel) h (fun y101 M100 h => ?_))
                obtain ⟨r102, h⟩ := h
                by_cases c108 : y101 = 0
                · rw [if_pos c108] at h
                  refine g_40f (a := 1) (b := 107) (nx := 104) (by decide +kernel) r102 (by exact fun hz => ((cb_1 _ _).mp hz) c108) ?_
                  refine g_1 (a := (-100)) (b := 0) (nx := 106) (by decide +kernel) ?_
                  exact g_91 (b := 0) (nx := 107) (by decide +kernel) h
                · rw [if_neg c108] at h
                  refine g_40t (a := 1) (b := 107) (nx := 104) (by decide +kernel) r102 (by exact (cb_1 _ _).mpr c108) ?_
                  refine g_5 (a := 2) (b := 0) (nx := 108) (by decide +kernel) rfl ?_
                  refine g_1 (a := 1) (b := 0) (nx := 109) (by decide +kernel) ?_
                  by_cases c107 : x2 = 1
                  · rw [if_pos c107] at h
                    refine g_41f (a := 1) (b := 120) (nx := 112) (by decide +kernel) (by rw [wr_id r7, wr_id (show inR 1 by decide)]; exact fun hz => ((cb_1 _ _).mp hz) c107) ?_
                    refine g_7 (a := 0) (b := 0) (nx := 113) (by decide +kernel) rfl ?_
                    refine g_80 (a := 250) (b := 0) (nx := 116) (by decide +kernel) (r := x0) (As := []) (st' := []) (z := 250) rfl rfl rfl (Nat.le_of_ble_eq_true rfl) h0.2 (Nat.le_of_ble_eq_true rfl) rfl (c_I (by decide +kernel) h (fun y106 M105 h => ?_))
                    refine g_12 (a := 0) (b := 0) (nx := 117) (by decide +kernel) rfl ?_
                    refine g_44 (a := 0) (b := 124) (nx := 120) (by decide +kernel) ?_
                    exact h
                  · rw [if_neg c107] at h
                    refine g_41t (a := 1) (b := 120) (nx := 112) (by decide +kernel) (by rw [wr_id r7, wr_id (show inR 1 by decide)]; exact (cb_1 _ _).mpr c107) ?_
                    refine g_7 (a := 0) (b := 0) (nx := 121) (by decide +kernel) rfl ?_
                    refine g_80 (a := 238) (b := 0) (nx := 124) (by decide +kernel) (r := x0) (As := []) (st' := []) (z := 238) rfl rfl rfl (Nat.le_of_ble_eq_true rfl) h0.2 (Nat.le_of_ble_eq_true rfl) rfl (c_V (by decide +kernel) h (fun M103 h => ?_))
                    exact h
            · rw [if_neg c123] at h
              refine g_41t (a := 1) (b := 62) (nx := 54) (by decide +kernel) (by rw [wr_id r7, wr_id (show inR 2 by decide)]; exact (cb_1 _ _).mpr c123) ?_
              refine g_1 (a := 0) (b := 0) (nx := 63) (by decide +kernel) ?_
              refine g_8 (a := 5) (b := 0) (nx := 65) (by decide +kernel) rfl (ls' := [some (vR x0), some (vI x1), some (vI x2), some (vI x3), some (vI x4), some (vI 0), none]) rfl ?_
              refine g_5 (a := 2) (b := 0) (nx := 66) (by decide +kernel) rfl ?_
              refine g_1 (a := 2) (b := 0) (nx := 67) (by decide +kernel) ?_
              by_cases c95 : x2 = 2
              · rw [if_pos c95] at h
                refine g_41f (a := 1) (b := 80) (nx := 70) (by decide +kernel) (by rw [wr_id r7, wr_id (show inR 2 by decide)]; exact fun hz => ((cb_1 _ _).mp hz) c95) ?_
                refine g_7 (a := 0) (b := 0) (nx := 71) (by decide +kernel) rfl ?_
                refine g_5 (a := 1) (b := 0) (nx := 72) (by decide +kernel) rfl ?_
                refine g_1 (a := 1) (b := 0) (nx := 73) (by decide +kernel) ?_
                refine g_15 (a := 0) (b := 0) (nx := 74) (by decide +kernel) ?_
                refine g_80 (a := 257) (b := 1) (nx := 77) (by decide +kernel) (r := x0) (As := [vI (x1 + 1)]) (st' := []) (z := 257) rfl rfl rfl (Nat.le_of_ble_eq_true rfl) h0.2 (Nat.le_of_ble_eq_true rfl) rfl (c_I (by decide +kernel) h (fun y83 M82 h => ?_))
                refine g_44 (a := 0) (b := 81) (nx := 80) (by decide +kernel) ?_
                refine g_8 (a := 6) (b := 0) (nx := 83) (by decide +kernel) rfl (ls' := [some (vR x0), some (vI x1), some (vI x2), some (vI x3), some (vI x4), some (vI 0), some (vI y83)]) rfl ?_
                refine g_7 (a := 0) (b := 0) (nx := 84) (by decide +kernel) rfl ?_
                refine g_5 (a := 1) (b := 0) (nx := 85) (by decide +kernel) rfl ?_
                refine g_80 (a := 227) (b := 1) (nx := 88) (by decide +kernel) (r := x0) (As := [vI x1]) (st' := []) (z := 227) rfl rfl rfl (Nat.le_of_ble_eq_true rfl) h0.2 (Nat.le_of_ble_eq_true rfl) rfl (c_V (by decide +kernel) h (fun M84 h => ?_))
                refine g_5 (a := 3) (b := 0) (nx := 89) (by decide +kernel) rfl ?_
                refine g_35 (a := 0) (b := 0) (nx := 90) (by decide +kernel) ?_
                refine g_2 (a := 0) (b := 0) (nx := 91) (by decide +kernel) ?_
                refine g_7 (a := 0) (b := 0) (nx := 92) (by decide +kernel) rfl ?_
                refine g_50 (a := 12) (b := 70) (nx := 95) (by decide +kernel) h0 ?_
                refine g_1 (a := 1) (b := 0) (nx := 96) (by decide +kernel) ?_
                refine g_16 (a := 0) (b := 0) (nx := 97) (by decide +kernel) ?_
                refine g_35 (a := 0) (b := 0) (nx := 98) (by decide +kernel) ?_
                refine g_82 (a := 177) (b := 3) (nx := 101) (by decide +kernel) (As := [vL (wr32 x3), vL 0, vL (wr32 ((M84 x0 70) - 1))]) (st' := []) (z := 177) rfl rfl rfl (Nat.le_of_ble_eq_true rfl) (Nat.le_of_ble_eq_true rfl) rfl (c_I (by decide +kernel) h (fun y87 M86 h => ?_))
                obtain ⟨r88, h⟩ := h
                by_cases c94 : y87 = 0
                · rw [if_pos c94] at h
                  refine g_40f (a := 1) (b := 107) (nx := 104) (by decide +kernel) r88 (by exact fun hz => ((cb_1 _ _).mp hz) c94) ?_
                  refine g_1 (a := (-100)) (b := 0) (nx := 106) (by decide +kernel) ?_
                  exact g_91 (b := 0) (nx := 107) (by decide +kernel) h
                · rw [if_neg c94] at h
                  refine g_40t (a := 1) (b := 107) (nx := 104) (by decide +kernel) r88 (by exact (cb_1 _ _).mpr c94) ?_
                  refine g_5 (a := 2) (b := 0) (nx := 108) (by decide +kernel) rfl ?_
                  refine g_1 (a := 1) (b := 0) (nx := 109) (by decide +kernel) ?_
                  by_cases c93 : x2 = 1
                  · rw [if_pos c93] at h
                    refine g_41f (a := 1) (b := 120) (nx := 112) (by decide +kernel) (by rw [wr_id r7, wr_id (show inR 1 by decide)]; exact fun hz => ((cb_1 _ _).mp hz) c93) ?_
                    refine g_7 (a := 0) (b := 0) (nx := 113) (by decide +kernel) rfl ?_
                    refine g_80 (a := 250) (b := 0) (nx := 116) (by decide +kernel) (r := x0) (As := []) (st' := []) (z := 250) rfl rfl rfl (Nat.le_of_ble_eq_true rfl) h0.2 (Nat.le_of_ble_eq_true rfl) rfl (c_I (by decide +kernel) h (fun y92 M91 h => ?_))
                    refine g_12 (a := 0) (b := 0) (nx := 117) (by decide +kernel) rfl ?_
                    refine g_44 (a := 0) (b := 124) (nx := 120) (by decide +kernel) ?_
                    exact h
                  · rw [if_neg c93] at h
                    refine g_41t (a := 1) (b := 120) (nx := 112) (by decide +kernel) (by rw [wr_id r7, wr_id (show inR 1 by decide)]; exact (cb_1 _ _).mpr c93) ?_
                    refine g_7 (a := 0) (b := 0) (nx := 121) (by decide +kernel) rfl ?_
                    refine g_80 (a := 238) (b := 0) (nx := 124) (by decide +kernel) (r := x0) (As := []) (st' := []) (z := 238) rfl rfl rfl (Nat.le_of_ble_eq_true rfl) h0.2 (Nat.le_of_ble_eq_true rfl) rfl (c_V (by decide +kernel) h (fun M89 h => ?_))
                    exact h
              · rw [if_neg c95] at h
                refine g_41t (a := 1) (b := 80) (nx := 70) (by decide +kernel) (by rw [wr_id r7, wr_id (show inR 2 by decide)]; exact (cb_1 _ _).mpr c95) ?_
                refine g_1 (a := 0) (b := 0) (nx := 81) (by decide +kernel) ?_
                refine g_8 (a := 6) (b := 0) (nx := 83) (by decide +kernel) rfl (ls' := [some (vR x0), some (vI x1), some (vI x2), some (vI x3), some (vI x4), some (vI 0), some (vI 0)]) rfl ?_
                refine g_7 (a := 0) (b := 0) (nx := 84) (by decide +kernel) rfl ?_
                refine g_5 (a := 1) (b := 0) (nx := 85) (by decide +kernel) rfl ?_
                refine g_80 (a := 227) (b := 1) (nx := 88) (by decide +kernel) (r := x0) (As := [vI x1]) (st' := []) (z := 227) rfl rfl rfl (Nat.le_of_ble_eq_true rfl) h0.2 (Nat.le_of_ble_eq_true rfl) rfl (c_V (by decide +kernel) h (fun M71 h => ?_))
                refine g_5 (a := 3) (b := 0) (nx := 89) (by decide +kernel) rfl ?_
                refine g_35 (a := 0) (b := 0) (nx := 90) (by decide +kernel) ?_
                refine g_2 (a := 0) (b := 0) (nx := 91) (by decide +kernel) ?_
                refine g_7 (a := 0) (b := 0) (nx := 92) (by decide +kernel) rfl ?_
                refine g_50 (a := 12) (b := 70) (nx := 95) (by decide +kernel) h0 ?_
                refine g_1 (a := 1) (b := 0) (nx := 96) (by decide +kernel) ?_
                refine g_16 (a := 0) (b := 0) (nx := 97) (by decide +kernel) ?_
                refine g_35 (a := 0) (b := 0) (nx := 98) (by decide +kernel) ?_
                refine g_82 (a := 177) (b := 3) (nx := 101) (by decide +kernel) (As := [vL (wr32 x3), vL 0, vL (wr32 ((M71 x0 70) - 1))]) (st' := []) (z := 177) rfl rfl rfl (Nat.le_of_ble_eq_true rfl) (Nat.le_of_ble_eq_true rfl) rfl (c_I (by decide +kernel) h (fun y74 M73 h => ?_))
                obtain ⟨r75, h⟩ := h
                by_cases c81 : y74 = 0
                · rw [if_pos c81] at h
                  refine g_40f (a := 1) (b := 107) (nx := 104) (by decide +kernel) r75 (by exact fun hz => ((cb_1 _ _).mp hz) c81) ?_
                  refine g_1 (a := (-100)) (b := 0) (nx := 106) (by decide +kernel) ?_
                  exact g_91 (b := 0) (nx := 107) (by decide +kernel) h
                · rw [if_neg c81] at h
                  refine g_40t (a := 1) (b := 107) (nx := 104) (by decide +kernel) r75 (by exact (cb_1 _ _).mpr c81) ?_
                  refine g_5 (a := 2) (b := 0) (nx := 108) (by decide +kernel) rfl ?_
                  refine g_1 (a := 1) (b := 0) (nx := 109) (by decide +kernel) ?_
                  by_cases c80 : x2 = 1
                  · rw [if_pos c80] at h
                    refine g_41f (a := 1) (b := 120) (nx := 112) (by decide +kernel) (by rw [wr_id r7, wr_id (show inR 1 by decide)]; exact fun hz => ((cb_1 _ _).mp hz) c80) ?_
                    refine g_7 (a := 0) (b := 0) (nx := 113) (by decide +kernel) rfl ?_
                    refine g_80 (a := 250) (b := 0) (nx := 116) (by decide +kernel) (r := x0) (As := []) (st' := []) (z := 250) rfl rfl rfl (Nat.le_of_ble_eq_true rfl) h0.2 (Nat.le_of_ble_eq_true rfl) rfl (c_I (by decide +kernel) h (fun y79 M78 h => ?_))
                    refine g_12 (a := 0) (b := 0) (nx := 117) (by decide +kernel) rfl ?_
                    refine g_44 (a := 0) (b := 124) (nx := 120) (by decide +kernel) ?_
                    exact h
                  · rw [if_neg c80] at h
                    refine g_41t (a := 1) (b := 120) (nx := 112) (by decide +kernel) (by rw [wr_id r7, wr_id (show inR 1 by decide)]; exact (cb_1 _ _).mpr c80) ?_
                    refine g_7 (a := 0) (b := 0) (nx := 121) (by decide +kernel) rfl ?_
                    refine g_80 (a := 238) (b := 0) (nx := 124) (by decide +kernel) (r := x0) (As := []) (st' := []) (z := 238) rfl rfl rfl (Nat.le_of_ble_eq_true rfl) h0.2 (Nat.le_of_ble_eq_true rfl) rfl (c_V (by decide +kernel) h (fun M76 h => ?_))
                    exact h
      · rw [if_neg c126] at h
        refine g_41t (a := 1) (b := 33) (nx := 25) (by decide +kernel) (by rw [wr_id r7, wr_id (show inR 2 by decide)]; exact (cb_1 _ _).mpr c126) ?_
        refine g_5 (a := 4) (b := 0) (nx := 35) (by decide +kernel) rfl ?_
        refine g_35 (a := 0) (b := 0) (nx := 36) (by decide +kernel) ?_
        refine g_2 (a := 0) (b := 0) (nx := 37) (by decide +kernel) ?_
        refine g_2 (a := 6) (b := 0) (nx := 40) (by decide +kernel) ?_
        refine g_82 (a := 177) (b := 3) (nx := 43) (by decide +kernel) (As := [vL (wr32 x4), vL 0, vL 6]) (st' := []) (z := 177) rfl rfl rfl (Nat.le_of_ble_eq_true rfl) (Nat.le_of_ble_eq_true rfl) rfl (c_I (by decide +kernel) h (fun y9 M8 h => ?_))
        obtain ⟨r10, h⟩ := h
        by_cases c64 : y9 = 0
        · rw [if_pos c64] at h
          refine g_40f (a := 1) (b := 49) (nx := 46) (by decide +kernel) r10 (by exact fun hz => ((cb_1 _ _).mp hz) c64) ?_
          exact h
        · rw [if_neg c64] at h
          refine g_40t (a := 1) (b := 49) (nx := 46) (by decide +kernel) r10 (by exact (cb_1 _ _).mpr c64) ?_
          refine g_5 (a := 2) (b := 0) (nx := 50) (by decide +kernel) rfl ?_
          refine g_1 (a := 2) (b := 0) (nx := 51) (by decide +kernel) ?_
          by_cases c63 : x2 = 2
          · rw [if_pos c63] at h
            refine g_41f (a := 1) (b := 62) (nx := 54) (by decide +kernel) (by rw [wr_id r7, wr_id (show inR 2 by decide)]; exact fun hz => ((cb_1 _ _).mp hz) c63) ?_
            refine g_7 (a := 0) (b := 0) (nx := 55) (by decide +kernel) rfl ?_
            refine g_5 (a := 1) (b := 0) (nx := 56) (by decide +kernel) rfl ?_
            refine g_80 (a := 257) (b := 1) (nx := 59) (by decide +kernel) (r := x0) (As := [vI x1]) (st' := []) (z := 257) rfl rfl rfl (Nat.le_of_ble_eq_true rfl) h0.2 (Nat.le_of_ble_eq_true rfl) rfl (c_I (by decide +kernel) h (fun y37 M36 h => ?_))
            refine g_44 (a := 0) (b := 63) (nx := 62) (by decide +kernel) ?_
            refine g_8 (a := 5) (b := 0) (nx := 65) (by decide +kernel) rfl (ls' := [some (vR x0), some (vI x1), some (vI x2), some (vI x3), some (vI x4), some (vI y37), none]) rfl ?_
            refine g_5 (a := 2) (b := 0) (nx := 66) (by decide +kernel) rfl ?_
            refine g_1 (a := 2) (b := 0) (nx := 67) (by decide +kernel) ?_
            by_cases c62 : x2 = 2
            · rw [if_pos c62] at h
              refine g_41f (a := 1) (b := 80) (nx := 70) (by decide +kernel) (by rw [wr_id r7, wr_id (show inR 2 by decide)]; exact fun hz => ((cb_1 _ _).mp hz) c62) ?_
              refine g_7 (a := 0) (b := 0) (nx := 71) (by decide +kernel) rfl ?_
              refine g_5 (a := 1) (b := 0) (nx := 72) (by decide +kernel) rfl ?_
              refine g_1 (a := 1) (b := 0) (nx := 73) (by decide +kernel) ?_
              refine g_15 (a := 0) (b := 0) (nx := 74) (by decide +kernel) ?_
              refine g_80 (a := 257) (b := 1) (nx := 77) (by decide +kernel) (r := x0) (As := [vI (x1 + 1)]) (st' := []) (z := 257) rfl rfl rfl (Nat.le_of_ble_eq_true rfl) h0.2 (Nat.le_of_ble_eq_true rfl) rfl (c_I (by decide +kernel) h (fun y50 M49 h => ?_))
              refine g_44 (a := 0) (b := 81) (nx := 80) (by decide +kernel) ?_
              refine g_8 (a := 6) (b := 0) (nx := 83) (by decide +kernel) rfl (ls' := [some (vR x0), some (vI x1), some (vI x2), some (vI x3), some (vI x4), some (vI y37), some (vI y50)]) rfl ?_
              refine g_7 (a := 0) (b := 0) (nx := 84) (by decide +kernel) rfl ?_
              refine g_5 (a := 1) (b := 0) (nx := 85) (by decide +kernel) rfl ?_
              refine g_80 (a := 227) (b := 1) (nx := 88) (by decide +kernel) (r := x0) (As := [vI x1]) (st' := []) (z := 227) rfl rfl rfl (Nat.le_of_ble_eq_true rfl) h0.2 (Nat.le_of_ble_eq_true rfl) rfl (c_V (by decide +kernel) h (fun M51 h => ?_))
              refine g_5 (a := 3) (b := 0) (nx := 89) (by decide +kernel) rfl ?_
              refine g_35 (a := 0) (b := 0) (nx := 90) (by decide +kernel) ?_
              refine g_2 (a := 0) (b := 0) (nx := 91) (by decide +kernel) ?_
              refine g_7 (a := 0) (b := 0) (nx := 92) (by decide +kernel) rfl ?_
              refine g_50 (a := 12) (b := 70) (nx := 95) (by decide +kernel) h0 ?_
              refine g_1 (a := 1) (b := 0) (nx := 96) (by decide +kernel) ?_
              refine g_16 (a := 0) (b := 0) (nx := 97) (by decide +kernel) ?_
              refine g_35 (a := 0) (b := 0) (nx := 98) (by decide +kernel) ?_
              refine g_82 (a := 177) (b := 3) (nx := 101) (by decide +kernel) (As := [vL (wr32 x3), vL 0, vL (wr32 ((M51 x0 70) - 1))]) (st' := []) (z := 177) rfl rfl rfl (Nat.le_of_ble_eq_true rfl) (Nat.le_of_ble_eq_true rfl) rfl (c_I (by decide +kernel) h (fun y54 M53 h => ?_))
              obtain ⟨r55, h⟩ := h
              by_cases c61 : y54 = 0
              · rw [if_pos c61] at h
                refine g_40f (a := 1) (b := 107) (nx := 104) (by decide +kernel) r55 (by exact fun hz => ((cb_1 _ _).mp hz) c61) ?_
                refine g_1 (a := (-100)) (b := 0) (nx := 106) (by decide +kernel) ?_
                exact g_91 (b := 0) (nx := 107) (by decide +kernel) h
              · rw [if_neg c61] at h
                refine g_40t (a := 1) (b := 107) (nx := 104) (by decide +kernel) r55 (by exact (cb_1 _ _).mpr c61) ?_
                refine g_5 (a := 2) (b := 0) (nx := 108) (by decide +kernel) rfl ?_
                refine g_1 (a := 1) (b := 0) (nx := 109) (by decide +kernel) ?_
                by_cases c60 : x2 = 1
                · rw [if_pos c60] at h
                  refine g_41f (a := 1) (b := 120) (nx := 112) (by decide +kernel) (by rw [wr_id r7, wr_id (show inR 1 by decide)]; exact fun hz => ((cb_1 _ _).mp hz) c60) ?_
                  refine g_7 (a := 0) (b := 0) (nx := 113) (by decide +kernel) rfl ?_
                  refine g_80 (a := 250) (b := 0) (nx := 116) (by decide +kernel) (r := x0) (As := []) (st' := []) (z := 250) rfl rfl rfl (Nat.le_of_ble_eq_true rfl) h0.2 (Nat.le_of_ble_eq_true rfl) rfl (c_I (by decide +kernel) h (fun y59 M58 h => ?_))
                  refine g_12 (a := 0) (b := 0) (nx := 117) (by decide +kernel) rfl ?_
                  refine g_44 (a := 0) (b := 124) (nx := 120) (by decide +kernel) ?_
                  exact h
                · rw [if_neg c60] at h
                  refine g_41t (a := 1) (b := 120) (nx := 112) (by decide +kernel) (by rw [wr_id r7, wr_id (show inR 1 by decide)]; exact (cb_1 _ _).mpr c60) ?_
                  refine g_7 (a := 0) (b := 0) (nx := 121) (by decide +kernel) rfl ?_
                  refine g_80 (a := 238) (b := 0) (nx := 124) (by decide +kernel) (r := x0) (As := []) (st' := []) (z := 238) rfl rfl rfl (Nat.le_of_ble_eq_true rfl) h0.2 (Nat.le_of_ble_eq_true rfl) rfl (c_V (by decide +kernel) h (fun M56 h => ?_))
                  exact h
            · rw [if_neg c62] at h
              refine g_41t (a := 1) (b := 80) (nx := 70) (by decide +kernel) (by rw [wr_id r7, wr_id (show inR 2 by decide)]; exact (cb_1 _ _).mpr c62) ?_
              refine g_1 (a := 0) (b := 0) (nx := 81) (by decide +kernel) ?_
              refine g_8 (a := 6) (b := 0) (nx := 83) (by decide +kernel) rfl (ls' := [some (vR x0), some (vI x1), some (vI x2), some (vI x3), some (vI x4), some (vI y37), some (vI 0)]) rfl ?_
              refine g_7 (a := 0) (b := 0) (nx := 84) (by decide +kernel) rfl ?_
              refine g_5 (a := 1) (b := 0) (nx := 85) (by decide +kernel) rfl ?_
              refine g_80 (a := 227) (b := 1) (nx := 88) (by decide +kernel) (r := x0) (As := [vI x1]) (st' := []) (z := 227) rfl rfl rfl (Nat.le_of_ble_eq_true rfl) h0.2 (Nat.le_of_ble_eq_true rfl) rfl (c_V (by decide +kernel) h (fun M38 h => ?_))
              refine g_5 (a := 3) (b := 0) (nx := 89) (by decide +kernel) rfl ?_
              refine g_35 (a := 0) (b := 0) (nx := 90) (by decide +kernel) ?_
              refine g_2 (a := 0) (b := 0) (nx := 91) (by decide +kernel) ?_
              refine g_7 (a := 0) (b := 0) (nx := 92) (by decide +kernel) rfl ?_
              refine g_50 (a := 12) (b := 70) (nx := 95) (by decide +kernel) h0 ?_
              refine g_1 (a := 1) (b := 0) (nx := 96) (by decide +kernel) ?_
              refine g_16 (a := 0) (b := 0) (nx := 97) (by decide +kernel) ?_
              refine g_35 (a := 0) (b := 0) (nx := 98) (by decide +kernel) ?_
              refine g_82 (a := 177) (b := 3) (nx := 101) (by decide +kernel) (As := [vL (wr32 x3), vL 0, vL (wr32 ((M38 x0 70) - 1))]) (st' := []) (z := 177) rfl rfl rfl (Nat.le_of_ble_eq_true rfl) (Nat.le_of_ble_eq_true rfl) rfl (c_I (by decide +kernel) h (fun y41 M40 h => ?_))
              obtain ⟨r42, h⟩ := h
              by_cases c48 : y41 = 0
              · rw [if_pos c48] at h
                refine g_40f (a := 1) (b := 107) (nx := 104) (by decide +kernel) r42 (by exact fun hz => ((cb_1 _ _).mp hz) c48) ?_
                refine g_1 (a := (-100)) (b := 0) (nx := 106) (by decide +kernel) ?_
                exact g_91 (b := 0) (nx := 107) (by decide +kernel) h
              · rw [if_neg c48] at h
                refine g_40t (a := 1) (b := 107) (nx := 104) (by decide +kernel) r42 (by exact (cb_1 _ _).mpr c48) ?_
                refine g_5 (a := 2) (b := 0) (nx := 108) (by decide +kernel) rfl ?_
                refine g_1 (a := 1) (b := 0) (nx := 109) (by decide +kernel) ?_
                by_cases c47 : x2 = 1
                · rw [if_pos c47] at h
                  refine g_41f (a := 1) (b := 120) (nx := 112) (by decide +kernel) (by rw [wr_id r7, wr_id (show inR 1 by decide)]; exact fun hz => ((cb_1 _ _).mp hz) c47) ?_
                  refine g_7 (a := 0) (b := 0) (nx := 113) (by decide +kernel) rfl ?_
                  refine g_80 (a := 250) (b := 0) (nx := 116) (by decide +kernel) (r := x0) (As := []) (st' := []) (z := 250) rfl rfl rfl (Nat.le_of_ble_eq_true rfl) h0.2 (Nat.le_of_ble_eq_true rfl) rfl (c_I (by decide +kernel) h (fun y46 M45 h => ?_))
                  refine g_12 (a := 0) (b := 0) (nx := 117) (by decide +kernel) rfl ?_
                  refine g_44 (a := 0) (b := 124) (nx := 120) (by decide +kernel) ?_
                  exact h
                · rw [if_neg c47] at h
                  refine g_41t (a := 1) (b := 120) (nx := 112) (by decide +kernel) (by rw [wr_id r7, wr_id (show inR 1 by decide)]; exact (cb_1 _ _).mpr c47) ?_
                  refine g_7 (a := 0) (b := 0) (nx := 121) (by decide +kernel) rfl ?_
                  refine g_80 (a := 238) (b := 0) (nx := 124) (by decide +kernel) (r := x0) (As := []) (st' := []) (z := 238) rfl rfl rfl (Nat.le_of_ble_eq_true rfl) h0.2 (Nat.le_of_ble_eq_true rfl) rfl (c_V (by decide +kernel) h (fun M43 h => ?_))
                  exact h
          · rw [if_neg c63] at h
            refine g_41t (a := 1) (b := 62) (nx := 54) (by decide +kernel) (by rw [wr_id r7, wr_id (show inR 2 by decide)]; exact (cb_1 _ _).mpr c63) ?_
            refine g_1 (a := 0) (b := 0) (nx := 63) (by decide +kernel) ?_
            refine g_8 (a := 5) (b := 0) (nx := 65) (by decide +kernel) rfl (ls' := [some (vR x0), some (vI x1), some (vI x2), some (vI x3), some (vI x4), some (vI 0), none]) rfl ?_
            refine g_5 (a := 2) (b := 0) (nx := 66) (by decide +kernel) rfl ?_
            refine g_1 (a := 2) (b := 0) (nx := 67) (by decide +kernel) ?_
            by_cases c35 : x2 = 2
            · rw [if_pos c35] at h
              refine g_41f (a := 1) (b := 80) (nx := 70) (by decide +kernel) (by rw [wr_id r7, wr_id (show inR 2 by decide)]; exact fun hz => ((cb_1 _ _).mp hz) c35) ?_
              refine g_7 (a := 0) (b := 0) (nx := 71) (by decide +kernel) rfl ?_
              refine g_5 (a := 1) (b := 0) (nx := 72) (by decide +kernel) rfl ?_
              refine g_1 (a := 1) (b := 0) (nx := 73) (by decide +kernel) ?_
              refine g_15 (a := 0) (b := 0) (nx := 74) (by decide +kernel) ?_
              refine g_80 (a := 257) (b := 1) (nx := 77) (by decide +kernel) (r := x0) (As := [vI (x1 + 1)]) (st' := []) (z := 257) rfl rfl rfl (Nat.le_of_ble_eq_true rfl) h0.2 (Nat.le_of_ble_eq_true rfl) rfl (c_I (by decide +kernel) h (fun y23 M22 h => ?_))
              refine g_44 (a := 0) (b := 81) (nx := 80) (by decide +kernel) ?_
              refine g_8 (a := 6) (b := 0) (nx := 83) (by decide +kernel) rfl (ls' := [some (vR x0), some (vI x1), some (vI x2), some (vI x3), some (vI x4), some (vI 0), some (vI y23)]) rfl ?_
              refine g_7 (a := 0) (b := 0) (nx := 84) (by decide +kernel) rfl ?_
              refine g_5 (a := 1) (b := 0) (nx := 85) (by decide +kernel) rfl ?_
              refine g_80 (a := 227) (b := 1) (nx := 88) (by decide +kernel) (r := x0) (As := [vI x1]) (st' := []) (z := 227) rfl rfl rfl (Nat.le_of_ble_eq_true rfl) h0.2 (Nat.le_of_ble_eq_true rfl) rfl (c_V (by decide +kernel) h (fun M24 h => ?_))
              refine g_5 (a := 3) (b := 0) (nx := 89) (by decide +kernel) rfl ?_
              refine g_35 (a := 0) (b := 0) (nx := 90) (by decide +kernel) ?_
              refine g_2 (a := 0) (b := 0) (nx := 91) (by decide +kernel) ?_
              refine g_7 (a := 0) (b := 0) (nx := 92) (by decide +kernel) rfl ?_
              refine g_50 (a := 12) (b := 70) (nx := 95) (by decide +kernel) h0 ?_
              refine g_1 (a := 1) (b := 0) (nx := 96) (by decide +kernel) ?_
              refine g_16 (a := 0) (b := 0) (nx := 97) (by decide +kernel) ?_
              refine g_35 (a := 0) (b := 0) (nx := 98) (by decide +kernel) ?_
              refine g_82 (a := 177) (b := 3) (nx := 101) (by decide +kernel) (As := [vL (wr32 x3), vL 0, vL (wr32 ((M24 x0 70) - 1))]) (st' := []) (z := 177) rfl rfl rfl (Nat.le_of_ble_eq_true rfl) (Nat.le_of_ble_eq_true rfl) rfl (c_I (by decide +kernel) h (fun y27 M26 h => ?_))
              obtain ⟨r28, h⟩ := h
              by_cases c34 : y27 = 0
              · rw [if_pos c34] at h
                refine g_40f (a := 1) (b := 107) (nx := 104) (by decide +kernel) r28 (by exact fun hz => ((cb_1 _ _).mp hz) c34) ?_
                refine g_1 (a := (-100)) (b := 0) (nx := 106) (by decide +kernel) ?_
                exact g_91 (b := 0) (nx := 107) (by decide +kernel) h
              · rw [if_neg c34] at h
                refine g_40t (a := 1) (b := 107) (nx := 104) (by decide +kernel) r28 (by exact (cb_1 _ _).mpr c34) ?_
                refine g_5 (a := 2) (b := 0) (nx := 108) (by decide +kernel) rfl ?_
                refine g_1 (a := 1) (b := 0) (nx := 109) (by decide +kernel) ?_
                by_cases c33 : x2 = 1
                · rw [if_pos c33] at h
                  refine g_41f (a := 1) (b := 120) (nx := 112) (by decide +kernel) (by rw [wr_id r7, wr_id (show inR 1 by decide)]; exact fun hz => ((cb_1 _ _).mp hz) c33) ?_
                  refine g_7 (a := 0) (b := 0) (nx := 113) (by decide +kernel) rfl ?_
                  refine g_80 (a := 250) (b := 0) (nx := 116) (by decide +kernel) (r := x0) (As := []) (st' := []) (z := 250) rfl rfl rfl (Nat.le_of_ble_eq_true rfl) h0.2 (Nat.le_of_ble_eq_true rfl) rfl (c_I (by decide +kernel) h (fun y32 M31 h => ?_))
                  refine g_12 (a := 0) (b := 0) (nx := 117) (by decide +kernel) rfl ?_
                  refine g_44 (a := 0) (b := 124) (nx := 120) (by decide +kernel) ?_
                  exact h
                · rw [if_neg c33] at h
                  refine g_41t (a := 1) (b := 120) (nx := 112) (by decide +kernel) (by rw [wr_id r7, wr_id (show inR 1 by decide)]; exact (cb_1 _ _).mpr c33) ?_
                  refine g_7 (a := 0) (b := 0) (nx := 121) (by decide +kernel) rfl ?_
                  refine g_80 (a := 238) (b := 0) (nx := 124) (by decide +kernel) (r := x0) (As := []) (st' := []) (z := 238) rfl rfl rfl (Nat.le_of_ble_eq_true rfl) h0.2 (Nat.le_of_ble_eq_true rfl) rfl (c_V (by decide +kernel) h (fun M29 h => ?_))
                  exact h
            · rw [if_neg c35] at h
              refine g_41t (a := 1) (b := 80) (nx := 70) (by decide +kernel) (by rw [wr_id r7, wr_id (show inR 2 by decide)]; exact (cb_1 _ _).mpr c35) ?_
              refine g_1 (a := 0) (b := 0) (nx := 81) (by decide +kernel) ?_
              refine g_8 (a := 6) (b := 0) (nx := 83) (by decide +kernel) rfl (ls' := [some (vR x0), some (vI x1), some (vI x2), some (vI x3), some (vI x4), some (vI 0), some (vI 0)]) rfl ?_
              refine g_7 (a := 0) (b := 0) (nx := 84) (by decide +kernel) rfl ?_
              refine g_5 (a := 1) (b := 0) (nx := 85) (by decide +kernel) rfl ?_
              refine g_80 (a := 227) (b := 1) (nx := 88) (by decide +kernel) (r := x0) (As := [vI x1]) (st' := []) (z := 227) rfl rfl rfl (Nat.le_of_ble_eq_true rfl) h0.2 (Nat.le_of_ble_eq_true rfl) rfl (c_V (by decide +kernel) h (fun M11 h => ?_))
              refine g_5 (a := 3) (b := 0) (nx := 89) (by decide +kernel) rfl ?_
              refine g_35 (a := 0) (b := 0) (nx := 90) (by decide +kernel) ?_
              refine g_2 (a := 0) (b := 0) (nx := 91) (by decide +kernel) ?_
              refine g_7 (a := 0) (b := 0) (nx := 92) (by decide +kernel) rfl ?_
              refine g_50 (a := 12) (b := 70) (nx := 95) (by decide +kernel) h0 ?_
              refine g_1 (a := 1) (b := 0) (nx := 96) (by decide +kernel) ?_
              refine g_16 (a := 0) (b := 0) (nx := 97) (by decide +kernel) ?_
              refine g_35 (a := 0) (b := 0) (nx := 98) (by decide +kernel) ?_
              refine g_82 (a := 177) (b := 3) (nx := 101) (by decide +kernel) (As := [vL (wr32 x3), vL 0, vL (wr32 ((M11 x0 70) - 1))]) (st' := []) (z := 177) rfl rfl rfl (Nat.le_of_ble_eq_true rfl) (Nat.le_of_ble_eq_true rfl) rfl (c_I (by decide +kernel) h (fun y14 M13 h => ?_))
              obtain ⟨r15, h⟩ := h
              by_cases c21 : y14 = 0
              · rw [if_pos c21] at h
                refine g_40f (a := 1) (b := 107) (nx := 104) (by decide +kernel) r15 (by exact fun hz => ((cb_1 _ _).mp hz) c21) ?_
                refine g_1 (a := (-100)) (b := 0) (nx := 106) (by decide +kernel) ?_
                exact g_91 (b := 0) (nx := 107) (by decide +kernel) h
              · rw [if_neg c21] at h
                refine g_40t (a := 1) (b := 107) (nx := 104) (by decide +kernel) r15 (by exact (cb_1 _ _).mpr c21) ?_
                refine g_5 (a := 2) (b := 0) (nx := 108) (by decide +kernel) rfl ?_
                refine g_1 (a := 1) (b := 0) (nx := 109) (by decide +kernel) ?_
                by_cases c20 : x2 = 1
                · rw [if_pos c20] at h
                  refine g_41f (a := 1) (b := 120) (nx := 112) (by decide +kernel) (by rw [wr_id r7, wr_id (show inR 1 by decide)]; exact fun hz => ((cb_1 _ _).mp hz) c20) ?_
                  refine g_7 (a := 0) (b := 0) (nx := 113) (by decide +kernel) rfl ?_
                  refine g_80 (a := 250) (b := 0) (nx := 116) (by decide +kernel) (r := x0) (As := []) (st' := []) (z := 250) rfl rfl rfl (Nat.le_of_ble_eq_true rfl) h0.2 (Nat.le_of_ble_eq_true rfl) rfl (c_I (by decide +kernel) h (fun y19 M18 h => ?_))
                  refine g_12 (a := 0) (b := 0) (nx := 117) (by decide +kernel) rfl ?_
                  refine g_44 (a := 0) (b := 124) (nx := 120) (by decide +kernel) ?_
                  exact h
                · rw [if_neg c20] at h
                  refine g_41t (a := 1) (b := 120) (nx := 112) (by decide +kernel) (by rw [wr_id r7, wr_id (show inR 1 by decide)]; exact (cb_1 _ _).mpr c20) ?_
                  refine g_7 (a := 0) (b := 0) (nx := 121) (by decide +kernel) rfl ?_
                  refine g_80 (a := 238) (b := 0) (nx := 124) (by decide +kernel) (r := x0) (As := []) (st' := []) (z := 238) rfl rfl rfl (Nat.le_of_ble_eq_true rfl) h0.2 (Nat.le_of_ble_eq_true rfl) rfl (c_V (by decide +kernel) h (fun M16 h => ?_))
                  exact h
theorem t_260_46 {x0 x1 x2 x3 x4 : Int} {M : Mem} {Q : AV → Mem → Prop} (h0 : gO 12 x0) (h : Q (vI (-100)) M) : WR 260 46 [some (vR x0), some (vI x1), some (vI x2), some (vI x3), some (vI x4), none, none] [] M Q := by
  refine g_1 (a := (-100)) (b := 0) (nx := 48) (by decide +kernel) ?_
  exact g_91 (b := 0) (nx := 49) (by decide +kernel) h
theorem t_260_124 {x0 x1 x2 x3 x4 x5 x6 : Int} {M : Mem} {Q : AV → Mem → Prop} (h0 : gO 12 x0) (h : inR x2 ∧ (if x2 = 2 then (WI 259 [vR x0, vI x1, vI x3, vI x4, vI x5, vI x6] M (fun y24 M23 => Q (vI y24) M23)) else (inR x4 ∧ (if x4 = 0 then (WI 239 [vR x0, vI x3] M (fun y5 M4 => Q (vI y5) M4)) else (if x4 = 1 then (WI 240 [vR x0, vI x3] M (fun y8 M7 => Q (vI y8) M7)) else (if x4 = 2 then ((gA 20 (M x0 66) x3) ∧ Q (vI (M (M x0 66) x3)) M) else (if x4 = 3 then (WI 241 [vR x0, vI x3] M (fun y12 M11 => Q (vI y12) M11)) else (if x4 = 4 then (WI 242 [vR x0, vI x3] M (fun y15 M14 => Q (vI y15) M14)) else (if x4 = 5 then (WI 243 [vR x0, vI x3] M (fun y18 M17 => WI 178 [vI y18] M17 (fun y20 M19 => Q (vI y20) M19))) else (WI 245 [vR x0, vI x3] M (fun y22 M21 => Q (vI y22) M21))))))))))) : WR 260 124 [some (vR x0), some (vI x1), some (vI x2), some (vI x3), some (vI x4), some (vI x5), some (vI x6)] [] M Q := by
  refine g_5 (a := 2) (b := 0) (nx := 125) (by decide +kernel) rfl ?_
  refine g_1 (a := 2) (b := 0) (nx := 126) (by decide +kernel) ?_
  obtain ⟨r1, h⟩ := h
  by_cases c25 : x2 = 2
  · rw [if_pos c25] at h
    refine g_41f (a := 1) (b := 142) (nx := 129) (by decide +kernel) (by rw [wr_id r1, wr_id (show inR 2 by decide)]; exact fun hz => ((cb_1 _ _).mp hz) c25) ?_
    refine g_7 (a := 0) (b := 0) (nx := 130) (by decide +kernel) rfl ?_
    refine g_5 (a := 1) (b := 0) (nx := 131) (by decide +kernel) rfl ?_
    refine g_5 (a := 3) (b := 0) (nx := 132) (by decide +kernel) rfl ?_
    refine g_5 (a := 4) (b := 0) (nx := 134) (by decide +kernel) rfl ?_
    refine g_5 (a := 5) (b := 0) (nx := 136) (by decide +kernel) rfl ?_
    refine g_5 (a := 6) (b := 0) (nx := 138) (by decide +kernel) rfl ?_
    refine g_80 (a := 259) (b := 5) (nx := 141) (by decide +kernel) (r := x0) (As := [vI x1, vI x3, vI x4, vI x5, vI x6]) (st' := []) (z := 259) rfl rfl rfl (Nat.le_of_ble_eq_true rfl) h0.2 (Nat.le_of_ble_eq_true rfl) rfl (c_I (by decide +kernel) h (fun y24 M23 h => ?_))
    exact g_91 (b := 0) (nx := 142) (by decide +kernel) h
  · rw [if_neg c25] at h
    refine g_41t (a := 1) (b := 142) (nx := 129) (by decide +kernel) (by rw [wr_id r1, wr_id (show inR 2 by decide)]; exact (cb_1 _ _).mpr c25) ?_
    refine g_5 (a := 4) (b := 0) (nx := 144) (by decide +kernel) rfl ?_
    obtain ⟨r2, h⟩ := h
    by_cases c3 : x4 = 0
    · rw [if_pos c3] at h
      refine g_45 (a := 0) (b := 224) (nx := 184) (by decide +kernel) r2 (t := 184) (by rw [(show sws 260 144 = [(0, 184), (1, 190), (2, 196), (3, 203), (4, 209), (5, 215)] from by decide +kernel)]; simp only [swL]; simp [c3]) ?_
      refine g_7 (a := 0) (b := 0) (nx := 185) (by decide +kernel) rfl ?_
      refine g_5 (a := 3) (b := 0) (nx := 186) (by decide +kernel) rfl ?_
      refine g_80 (a := 239) (b := 1) (nx := 189) (by decide +kernel) (r := x0) (As := [vI x3]) (st' := []) (z := 239) rfl rfl rfl (Nat.le_of_ble_eq_true rfl) h0.2 (Nat.le_of_ble_eq_true rfl) rfl (c_I (by decide +kernel) h (fun y5 M4 h => ?_))
      exact g_91 (b := 0) (nx := 190) (by decide +kernel) h
    · rw [if_neg c3] at h
      by_cases c6 : x4 = 1
      · rw [if_pos c6] at h
        refine g_45 (a := 0) (b := 224) (nx := 184) (by decide +kernel) r2 (t := 190) (by rw [(show sws 260 144 = [(0, 184), (1, 190), (2, 196), (3, 203), (4, 209), (5, 215)] from by decide +kernel)]; simp only [swL]; simp [c6]) ?_
        refine g_7 (a := 0) (b := 0) (nx := 191) (by decide +kernel) rfl ?_
        refine g_5 (a := 3) (b := 0) (nx := 192) (by decide +kernel) rfl ?_
        refine g_80 (a := 240) (b := 1) (nx := 195) (by decide +kernel) (r := x0) (As := [vI x3]) (st' := []) (z := 240) rfl rfl rfl (Nat.le_of_ble_eq_true rfl) h0.2 (Nat.le_of_ble_eq_true rfl) rfl (c_I (by decide +kernel) h (fun y8 M7 h => ?_))
        exact g_91 (b := 0) (nx := 196) (by decide +kernel) h
      · rw [if_neg c6] at h
        by_cases c9 : x4 = 2
        · rw [if_pos c9] at h
          refine g_45 (a := 0) (b := 224) (nx := 184) (by decide +kernel) r2 (t := 196) (by rw [(show sws 260 144 = [(0, 184), (1, 190), (2, 196), (3, 203), (4, 209), (5, 215)] from by decide +kernel)]; simp only [swL]; simp [c9]) ?_
          refine g_7 (a := 0) (b := 0) (nx := 197) (by decide +kernel) rfl ?_
          refine g_52 (a := 12) (b := 66) (nx := 200) (by decide +kernel) h0 ?_
          refine g_5 (a := 3) (b := 0) (nx := 201) (by decide +kernel) rfl ?_
          refine g_61 (a := 0) (b := 0) (nx := 202) (by decide +kernel) h.1 ?_
          replace h := h.2
          exact g_91 (b := 0) (nx := 203) (by decide +kernel) h
        · rw [if_neg c9] at h
          by_cases c10 : x4 = 3
          · rw [if_pos c10] at h
            refine g_45 (a := 0) (b := 224) (nx := 184) (by decide +kernel) r2 (t := 203) (by rw [(show sws 260 144 = [(0, 184), (1, 190), (2, 196), (3, 203), (4, 209), (5, 215)] from by decide +kernel)]; simp only [swL]; simp [c10]) ?_
            refine g_7 (a := 0) (b := 0) (nx := 204) (by decide +kernel) rfl ?_
            refine g_5 (a := 3) (b := 0) (nx := 205) (by decide +kernel) rfl ?_
            refine g_80 (a := 241) (b := 1) (nx := 208) (by decide +kernel) (r := x0) (As := [vI x3]) (st' := []) (z := 241) rfl rfl rfl (Nat.le_of_ble_eq_true rfl) h0.2 (Nat.le_of_ble_eq_true rfl) rfl (c_I (by decide +kernel) h (fun y12 M11 h => ?_))
            exact g_91 (b := 0) (nx := 209) (by decide +kernel) h
          · rw [if_neg c10] at h
            by_cases c13 : x4 = 4
            · rw [if_pos c13] at h
              refine g_45 (a := 0) (b := 224) (nx := 184) (by decide +kernel) r2 (t := 209) (by rw [(show sws 260 144 = [(0, 184), (1, 190), (2, 196), (3, 203), (4, 209), (5, 215)] from by decide +kernel)]; simp only [swL]; simp [c13]) ?_
              refine g_7 (a := 0) (b := 0) (nx := 210) (by decide +kernel) rfl ?_
              refine g_5 (a := 3) (b := 0) (nx := 211) (by decide +kernel) rfl ?_
              refine g_80 (a := 242) (b := 1) (nx := 214) (by decide +kernel) (r := x0) (As := [vI x3]) (st' := []) (z := 242) rfl rfl rfl (Nat.le_of_ble_eq_true rfl) h0.2 (Nat.le_of_ble_eq_true rfl) rfl (c_I (by decide +kernel) h (fun y15 M14 h => ?_))
              exact g_91 (b := 0) (nx := 215) (by decide +kernel) h
            · rw [if_neg c13] at h
              by_cases c16 : x4 = 5
              · rw [if_pos c16] at h
                refine g_45 (a := 0) (b := 224) (nx := 184) (by decide +kernel) r2 (t := 215) (by rw [(show sws 260 144 = [(0, 184), (1, 190), (2, 196), (3, 203), (4, 209), (5, 215)] from by decide +kernel)]; simp only [swL]; simp [c16]) ?_
                refine g_7 (a := 0) (b := 0) (nx := 216) (by decide +kernel) rfl ?_
                refine g_5 (a := 3) (b := 0) (nx := 217) (by decide +kernel) rfl ?_
                refine g_80 (a := 243) (b := 1) (nx := 220) (by decide +kernel) (r := x0) (As := [vI x3]) (st' := []) (z := 243) rfl rfl rfl (Nat.le_of_ble_eq_true rfl) h0.2 (Nat.le_of_ble_eq_true rfl) rfl (c_I (by decide +kernel) h (fun y18 M17 h => ?_))
                refine g_82 (a := 178) (b := 1) (nx := 223) (by decide +kernel) (As := [vI y18]) (st' := []) (z := 178) rfl rfl rfl (Nat.le_of_ble_eq_true rfl) (Nat.le_of_ble_eq_true rfl) rfl (c_I (by decide +kernel) h (fun y20 M19 h => ?_))
                exact g_91 (b := 0) (nx := 224) (by decide +kernel) h
              · rw [if_neg c16] at h
                refine g_45 (a := 0) (b := 224) (nx := 184) (by decide +kernel) r2 (t := 224) (by rw [(show sws 260 144 = [(0, 184), (1, 190), (2, 196), (3, 203), (4, 209), (5, 215)] from by decide +kernel)]; simp only [swL]; first | rfl | (simp [c3, c6, c9, c10, c13, c16])) ?_
                refine g_7 (a := 0) (b := 0) (nx := 225) (by decide +kernel) rfl ?_
                refine g_5 (a := 3) (b := 0) (nx := 226) (by decide +kernel) rfl ?_
                refine g_80 (a := 245) (b := 1) (nx := 229) (by decide +kernel) (r := x0) (As := [vI x3]) (st' := []) (z := 245) rfl rfl rfl (Nat.le_of_ble_eq_true rfl) h0.2 (Nat.le_of_ble_eq_true rfl) rfl (c_I (by decide +kernel) h (fun y22 M21 h => ?_))
                exact g_91 (b := 0) (nx := 230) (by decide +kernel) h
-- 261 SyllableMakerModel.speech(I)I
theorem t_261 {x0 x1 : Int} {M : Mem} {Q : AV → Mem → Prop} (h0 : gO 12 x0) (h : inR (M x0 56) ∧ (if (M x0 56) = 0 then (Q (vI (-1)) M) else (WI 177 [vL (wr32 x1), vL 0, vL 2] M (fun y3 M2 => inR y3 ∧ (if y3 = 0 then (Q (vI (-1)) M2) else (WR 261 25 [some (vR x0), some (vI x1), some (vI 0), some (vI 0), none, none, none] [] M2 Q)))))) : WC 261 [vR x0, vI x1] M Q := by
  show WR 261 0 [some (vR x0), some (vI x1), none, none, none, none, none] [] M Q
  refine g_7 (a := 0) (b := 0) (nx := 1) (by decide +kernel) rfl ?_
  refine g_50 (a := 12) (b := 56) (nx := 4) (by decide +kernel) h0 ?_
  obtain ⟨r1, h⟩ := h
  by_cases c6 : (M x0 56) = 0
  · rw [if_pos c6] at h
    refine g_40t (a := 0) (b := 19) (nx := 7) (by decide +kernel) r1 (by exact (cb_0 _ _).mpr c6) ?_
    refine g_1 (a := (-1)) (b := 0) (nx := 20) (by decide +kernel) ?_
    exact g_91 (b := 0) (nx := 21) (by decide +kernel) h
  · rw [if_neg c6] at h
    refine g_40f (a := 0) (b := 19) (nx := 7) (by decide +kernel) r1 (by exact fun hz => c6 ((cb_0 _ _).mp hz)) ?_
    refine g_5 (a := 1) (b := 0) (nx := 8) (by decide +kernel) rfl ?_
    refine g_35 (a := 0) (b := 0) (nx := 9) (by decide +kernel) ?_
    refine g_2 (a := 0) (b := 0) (nx := 10) (by decide +kernel) ?_
    refine g_2 (a := 2) (b := 0) (nx := 13) (by decide +kernel) ?_
    refine g_82 (a := 177) (b := 3) (nx := 16) (by decide +kernel) (As := [vL (wr32 x1), vL 0, vL 2]) (st' := []) (z := 177) rfl rfl rfl (Nat.le_of_ble_eq_true rfl) (Nat.le_of_ble_eq_true rfl) rfl (c_I (by decide +kernel) h (fun y3 M2 h => ?_))
    obtain ⟨r4, h⟩ := h
    by_cases c5 : y3 = 0
    · rw [if_pos c5] at h
      refine g_40f (a := 1) (b := 21) (nx := 19) (by decide +kernel) r4 (by exact fun hz => ((cb_1 _ _).mp hz) c5) ?_
      refine g_1 (a := (-1)) (b := 0) (nx := 20) (by decide +kernel) ?_
      exact g_91 (b := 0) (nx := 21) (by decide +kernel) h
    · rw [if_neg c5] at h
      refine g_40t (a := 1) (b := 21) (nx := 19) (by decide +kernel) r4 (by exact (cb_1 _ _).mpr c5) ?_
      refine g_1 (a := 0) (b := 0) (nx := 22) (by decide +kernel) ?_
      refine g_8 (a := 2) (b := 0) (nx := 23) (by decide +kernel) rfl (ls' := [some (vR x0), some (vI x1), some (vI 0), none, none, none, none]) rfl ?_
      refine g_1 (a := 0) (b := 0) (nx := 24) (by decide +kernel) ?_
      refine g_8 (a := 3) (b := 0) (nx := 25) (by decide +kernel) rfl (ls' := [some (vR x0), some (vI x1), some (vI 0), some (vI 0), none, none, none]) rfl ?_
      exact h
theorem t_261_25 {x0 x1 x2 x3 : Int} {l4 l5 l6 : Option AV} {M : Mem} {Q : AV → Mem → Prop} (h0 : gO 12 x0) (h : inR x3 ∧ (inR (M x0 56) ∧ (if (M x0 56) ≤ x3 then (Q (vI x2) M) else (WI 257 [vR x0, vI x3] M (fun y4 M3 => WI 257 [vR x0, vI (x3 + 1)] M3 (fun y6 M5 => WV 227 [vR x0, vI x3] M5 (fun M7 => WV 238 [vR x0] M7 (fun M9 => WR 261 61 [some (vR x0), some (vI x1), some (vI x2), some (vI x3), some (vI y4), some (vI y6), some (vI 0)] [] M9 Q)))))))) : WR 261 25 [some (vR x0), some (vI x1), some (vI x2), some (vI x3), l4, l5, l6] [] M Q := by
  refine g_5 (a := 3) (b := 0) (nx := 26) (by decide +kernel) rfl ?_
  refine g_7 (a := 0) (b := 0) (nx := 27) (by decide +kernel) rfl ?_
  refine g_50 (a := 12) (b := 56) (nx := 30) (by decide +kernel) h0 ?_
  obtain ⟨r1, h⟩ := h
  obtain ⟨r2, h⟩ := h
  by_cases c11 : (M x0 56) ≤ x3
  · rw [if_pos c11] at h
    refine g_41t (a := 3) (b := 123) (nx := 33) (by decide +kernel) (by rw [wr_id r1, wr_id r2]; exact (cb_3 _ _).mpr c11) ?_
    refine g_5 (a := 2) (b := 0) (nx := 124) (by decide +kernel) rfl ?_
    exact g_91 (b := 0) (nx := 125) (by decide +kernel) h
  · rw [if_neg c11] at h
    refine g_41f (a := 3) (b := 123) (nx := 33) (by decide +kernel) (by rw [wr_id r1, wr_id r2]; exact fun hz => c11 ((cb_3 _ _).mp hz)) ?_
    refine g_7 (a := 0) (b := 0) (nx := 34) (by decide +kernel) rfl ?_
    refine g_5 (a := 3) (b := 0) (nx := 35) (by decide +kernel) rfl ?_
    refine g_80 (a := 257) (b := 1) (nx := 38) (by decide +kernel) (r := x0) (As := [vI x3]) (st' := []) (z := 257) rfl rfl rfl (Nat.le_of_ble_eq_true rfl) h0.2 (Nat.le_of_ble_eq_true rfl) rfl (c_I (by decide +kernel) h (fun y4 M3 h => ?_))
    refine g_8 (a := 4) (b := 0) (nx := 40) (by decide +kernel) rfl (ls' := [some (vR x0), some (vI x1), some (vI x2), some (vI x3), some (vI y4), l5, l6]) rfl ?_
    refine g_7 (a := 0) (b := 0) (nx := 41) (by decide +kernel) rfl ?_
    refine g_5 (a := 3) (b := 0) (nx := 42) (by decide +kernel) rfl ?_
    refine g_1 (a := 1) (b := 0) (nx := 43) (by decide +kernel) ?_
    refine g_15 (a := 0) (b := 0) (nx := 44) (by decide +kernel) ?_
    refine g_80 (a := 257) (b := 1) (nx := 47) (by decide +kernel) (r := x0) (As := [vI (x3 + 1)]) (st' := []) (z := 257) rfl rfl rfl (Nat.le_of_ble_eq_true rfl) h0.2 (Nat.le_of_ble_eq_true rfl) rfl (c_I (by decide +kernel) h (fun y6 M5 h => ?_))
    refine g_8 (a := 5) (b := 0) (nx := 49) (by decide +kernel) rfl (ls' := [some (vR x0), some (vI x1), some (vI x2), some (vI x3), some (vI y4), some (vI y6), l6]) rfl ?_
    refine g_7 (a := 0) (b := 0) (nx := 50) (by decide +kernel) rfl ?_
    refine g_5 (a := 3) (b := 0) (nx := 51) (by decide +kernel) rfl ?_
    refine g_80 (a := 227) (b := 1) (nx := 54) (by decide +kernel) (r := x0) (As := [vI x3]) (st' := []) (z := 227) rfl rfl rfl (Nat.le_of_ble_eq_true rfl) h0.2 (Nat.le_of_ble_eq_true rfl) rfl (c_V (by decide +kernel) h (fun M7 h => ?_))
    refine g_7 (a := 0) (b := 0) (nx := 55) (by decide +kernel) rfl ?_
    refine g_80 (a := 238) (b := 0) (nx := 58) (by decide +kernel) (r := x0) (As := []) (st' := []) (z := 238) rfl rfl rfl (Nat.le_of_ble_eq_true rfl) h0.2 (Nat.le_of_ble_eq_true rfl) rfl (c_V (by decide +kernel) h (fun M9 h => ?_))
    refine g_1 (a := 0) (b := 0) (nx := 59) (by decide +kernel) ?_
    refine g_8 (a := 6) (b := 0) (nx := 61) (by decide +kernel) rfl (ls' := [some (vR x0), some (vI x1), some (vI x2), some (vI x3), some (vI y4), some (vI y6), some (vI 0)]) rfl ?_
    exact h
theorem t_261_61 {x0 x1 x2 x3 x4 x5 x6 : Int} {M : Mem} {Q : AV → Mem → Prop} (h0 : gO 12 x0) (h : inR x6 ∧ (inR (M x0 70) ∧ (if (M x0 70) ≤ x6 then (WR 261 25 [some (vR x0), some (vI x1), some (vI x2), some (vI (x3 + 1)), some (vI x4), some (vI x5), some (vI x6)] [] M Q) else (inR x1 ∧ (if x1 = 1 then (WI 243 [vR x0, vI x6] M (fun y10 M9 => WI 178 [vI y10] M9 (fun y12 M11 => WR 261 61 [some (vR x0), some (vI x1), some (vI (x2 + y12)), some (vI x3), some (vI x4), some (vI x5), some (vI (x6 + 1))] [] M11 Q))) else (if x1 = 0 then (WI 259 [vR x0, vI x3, vI x6, vI 5, vI x4, vI x5] M (fun y7 M6 => WR 261 61 [some (vR x0), some (vI x1), some (vI (x2 + y7)), some (vI x3), some (vI x4), some (vI x5), some (vI (x6 + 1))] [] M6 Q)) else (WI 259 [vR x0, vI x3, vI x6, vI 7, vI x4, vI x5] M (fun y5 M4 => WR 261 61 [some (vR x0), some (vI x1), some (vI (x2 + y5)), some (vI x3), some (vI x4), some (vI x5), some (vI (x6 + 1))] [] M4 Q)))))))) : WR 261 61 [some (vR x0), some (vI x1), some (vI x2), some (vI x3), some (vI x4), some (vI x5), some (vI x6)] [] M Q := by
  refine g_5 (a := 6) (b := 0) (nx := 63) (by decide +kernel) rfl ?_
  refine g_7 (a := 0) (b := 0) (nx := 64) (by decide +kernel) rfl ?_
  refine g_50 (a := 12) (b := 70) (nx := 67) (by decide +kernel) h0 ?_
  obtain ⟨r1, h⟩ := h
  obtain ⟨r2, h⟩ := h
  by_cases c14 : (M x0 70) ≤ x6
  · rw [if_pos c14] at h
    refine g_41t (a := 3) (b := 117) (nx := 70) (by decide +kernel) (by rw [wr_id r1, wr_id r2]; exact (cb_3 _ _).mpr c14) ?_
    refine g_11 (a := 3) (b := 1) (nx := 120) (by decide +kernel) rfl rfl (ls' := [some (vR x0), some (vI x1), some (vI x2), some (vI (x3 + 1)), some (vI x4), some (vI x5), some (vI x6)]) rfl ?_
    refine g_44 (a := 0) (b := 25) (nx := 123) (by decide +kernel) ?_
    exact h
  · rw [if_neg c14] at h
    refine g_41f (a := 3) (b := 117) (nx := 70) (by decide +kernel) (by rw [wr_id r1, wr_id r2]; exact fun hz => c14 ((cb_3 _ _).mp hz)) ?_
    refine g_5 (a := 2) (b := 0) (nx := 71) (by decide +kernel) rfl ?_
    refine g_5 (a := 1) (b := 0) (nx := 72) (by decide +kernel) rfl ?_
    refine g_1 (a := 1) (b := 0) (nx := 73) (by decide +kernel) ?_
    obtain ⟨r3, h⟩ := h
    by_cases c13 : x1 = 1
    · rw [if_pos c13] at h
      refine g_41f (a := 1) (b := 88) (nx := 76) (by decide +kernel) (by rw [wr_id r3, wr_id (show inR 1 by decide)]; exact fun hz => ((cb_1 _ _).mp hz) c13) ?_
      refine g_7 (a := 0) (b := 0) (nx := 77) (by decide +kernel) rfl ?_
      refine g_5 (a := 6) (b := 0) (nx := 79) (by decide +kernel) rfl ?_
      refine g_80 (a := 243) (b := 1) (nx := 82) (by decide +kernel) (r := x0) (As := [vI x6]) (st' := [vI x2]) (z := 243) rfl rfl rfl (Nat.le_of_ble_eq_true rfl) h0.2 (Nat.le_of_ble_eq_true rfl) rfl (c_I (by decide +kernel) h (fun y10 M9 h => ?_))
      refine g_82 (a := 178) (b := 1) (nx := 85) (by decide +kernel) (As := [vI y10]) (st' := [vI x2]) (z := 178) rfl rfl rfl (Nat.le_of_ble_eq_true rfl) (Nat.le_of_ble_eq_true rfl) rfl (c_I (by decide +kernel) h (fun y12 M11 h => ?_))
      refine g_44 (a := 0) (b := 109) (nx := 88) (by decide +kernel) ?_
      refine g_15 (a := 0) (b := 0) (nx := 110) (by decide +kernel) ?_
      refine g_8 (a := 2) (b := 0) (nx := 111) (by decide +kernel) rfl (ls' := [some (vR x0), some (vI x1), some (vI (x2 + y12)), some (vI x3), some (vI x4), some (vI x5), some (vI x6)]) rfl ?_
      refine g_11 (a := 6) (b := 1) (nx := 114) (by decide +kernel) rfl rfl (ls' := [some (vR x0), some (vI x1), some (vI (x2 + y12)), some (vI x3), some (vI x4), some (vI x5), some (vI (x6 + 1))]) rfl ?_
      refine g_44 (a := 0) (b := 61) (nx := 117) (by decide +kernel) ?_
      exact h
    · rw [if_neg c13] at h
      refine g_41t (a := 1) (b := 88) (nx := 76) (by decide +kernel) (by rw [wr_id r3, wr_id (show inR 1 by decide)]; exact (cb_1 _ _).mpr c13) ?_
      refine g_7 (a := 0) (b := 0) (nx := 89) (by decide +kernel) rfl ?_
      refine g_5 (a := 3) (b := 0) (nx := 90) (by decide +kernel) rfl ?_
      refine g_5 (a := 6) (b := 0) (nx := 92) (by decide +kernel) rfl ?_
      refine g_5 (a := 1) (b := 0) (nx := 93) (by decide +kernel) rfl ?_
      by_cases c8 : x1 = 0
      · rw [if_pos c8] at h
        refine g_40f (a := 1) (b := 100) (nx := 96) (by decide +kernel) r3 (by exact fun hz => ((cb_1 _ _).mp hz) c8) ?_
        refine g_1 (a := 5) (b := 0) (nx := 97) (by decide +kernel) ?_
        refine g_44 (a := 0) (b := 102) (nx := 100) (by decide +kernel) ?_
        refine g_5 (a := 4) (b := 0) (nx := 104) (by decide +kernel) rfl ?_
        refine g_5 (a := 5) (b := 0) (nx := 106) (by decide +kernel) rfl ?_
        refine g_80 (a := 259) (b := 5) (nx := 109) (by decide +kernel) (r := x0) (As := [vI x3, vI x6, vI 5, vI x4, vI x5]) (st' := [vI x2]) (z := 259) rfl rfl rfl (Nat.le_of_ble_eq_true rfl) h0.2 (Nat.le_of_ble_eq_true rfl) rfl (c_I (by decide +kernel) h (fun y7 M6 h => ?_))
        refine g_15 (a := 0) (b := 0) (nx := 110) (by decide +kernel) ?_
        refine g_8 (a := 2) (b := 0) (nx := 111) (by decide +kernel) rfl (ls' := [some (vR x0), some (vI x1), some (vI (x2 + y7)), some (vI x3), some (vI x4), some (vI x5), some (vI x6)]) rfl ?_
        refine g_11 (a := 6) (b := 1) (nx := 114) (by decide +kernel) rfl rfl (ls' := [some (vR x0), some (vI x1), some (vI (x2 + y7)), some (vI x3), some (vI x4), some (vI x5), some (vI (x6 + 1))]) rfl ?_
        refine g_44 (a := 0) (b := 61) (nx := 117) (by decide +kernel) ?_
        exact h
      · rw [if_neg c8] at h
        refine g_40t (a := 1) (b := 100) (nx := 96) (by decide +kernel) r3 (by exact (cb_1 _ _).mpr c8) ?_
        refine g_1 (a := 7) (b := 0) (nx := 102) (by decide +kernel) ?_
        refine g_5 (a := 4) (b := 0) (nx := 104) (by decide +kernel) rfl ?_
        refine g_5 (a := 5) (b := 0) (nx := 106) (by decide +kernel) rfl ?_
        refine g_80 (a := 259) (b := 5) (nx := 109) (by decide +kernel) (r := x0) (As := [vI x3, vI x6, vI 7, vI x4, vI x5]) (st' := [vI x2]) (z := 259) rfl rfl rfl (Nat.le_of_ble_eq_true rfl) h0.2 (Nat.le_of_ble_eq_true rfl) rfl (c_I (by decide +kernel) h (fun y5 M4 h => ?_))
        refine g_15 (a := 0) (b := 0) (nx := 110) (by decide +kernel) ?_
        refine g_8 (a := 2) (b := 0) (nx := 111) (by decide +kernel) rfl (ls' := [some (vR x0), some (vI x1), some (vI (x2 + y5)), some (vI x3), some (vI x4), some (vI x5), some (vI x6)]) rfl ?_
        refine g_11 (a := 6) (b := 1) (nx := 114) (by decide +kernel) rfl rfl (ls' := [some (vR x0), some (vI x1), some (vI (x2 + y5)), some (vI x3), some (vI x4), some (vI x5), some (vI (x6 + 1))]) rfl ?_
        refine g_44 (a := 0) (b := 61) (nx := 117) (by decide +kernel) ?_
        exact h
-- 262 SyllableMakerModel.rhyme(II)I
theorem t_262 {x0 x1 x2 : Int} {M : Mem} {Q : AV → Mem → Prop} (h0 : gO 12 x0) (h : WI 220 [vR x0, vI x1] M (fun y2 M1 => inR y2 ∧ (if y2 = 0 then (Q (vI (-1)) M1) else (WI 220 [vR x0, vI x2] M1 (fun y5 M4 => inR y5 ∧ (if y5 = 0 then (Q (vI (-1)) M4) else (WV 227 [vR x0, vI x1] M4 (fun M7 => inR (M7 x0 70) ∧ (if (M7 x0 70) = 0 then (Q (vI 0) M7) else (WV 238 [vR x0] M7 (fun M10 => WI 252 [vR x0] M10 (fun y13 M12 => (gA 20 (M10 x0 65) y13) ∧ WR 262 57 [some (vR x0), some (vI x1), some (vI x2), some (vI (M12 (M10 x0 65) y13)), some (vI ((M12 x0 69) - (M12 (M10 x0 65) y13))), some (vI 0)] [] M12 Q)))))))))))) : WC 262 [vR x0, vI x1, vI x2] M Q := by
  show WR 262 0 [some (vR x0), some (vI x1), some (vI x2), none, none, none] [] M Q
  refine g_7 (a := 0) (b := 0) (nx := 1) (by decide +kernel) rfl ?_
  refine g_5 (a := 1) (b := 0) (nx := 2) (by decide +kernel) rfl ?_
  refine g_80 (a := 220) (b := 1) (nx := 5) (by decide +kernel) (r := x0) (As := [vI x1]) (st' := []) (z := 220) rfl rfl rfl (Nat.le_of_ble_eq_true rfl) h0.2 (Nat.le_of_ble_eq_true rfl) rfl (c_I (by decide +kernel) h (fun y2 M1 h => ?_))
  obtain ⟨r3, h⟩ := h
  by_cases c16 : y2 = 0
  · rw [if_pos c16] at h
    refine g_40t (a := 0) (b := 16) (nx := 8) (by decide +kernel) r3 (by exact (cb_0 _ _).mpr c16) ?_
    refine g_1 (a := (-1)) (b := 0) (nx := 17) (by decide +kernel) ?_
    exact g_91 (b := 0) (nx := 18) (by decide +kernel) h
  · rw [if_neg c16] at h
    refine g_40f (a := 0) (b := 16) (nx := 8) (by decide +kernel) r3 (by exact fun hz => c16 ((cb_0 _ _).mp hz)) ?_
    refine g_7 (a := 0) (b := 0) (nx := 9) (by decide +kernel) rfl ?_
    refine g_5 (a := 2) (b := 0) (nx := 10) (by decide +kernel) rfl ?_
    refine g_80 (a := 220) (b := 1) (nx := 13) (by decide +kernel) (r := x0) (As := [vI x2]) (st' := []) (z := 220) rfl rfl rfl (Nat.le_of_ble_eq_true rfl) h0.2 (Nat.le_of_ble_eq_true rfl) rfl (c_I (by decide +kernel) h (fun y5 M4 h => ?_))
    obtain ⟨r6, h⟩ := h
    by_cases c15 : y5 = 0
    · rw [if_pos c15] at h
      refine g_40f (a := 1) (b := 18) (nx := 16) (by decide +kernel) r6 (by exact fun hz => ((cb_1 _ _).mp hz) c15) ?_
      refine g_1 (a := (-1)) (b := 0) (nx := 17) (by decide +kernel) ?_
      exact g_91 (b := 0) (nx := 18) (by decide +kernel) h
    · rw [if_neg c15] at h
      refine g_40t (a := 1) (b := 18) (nx := 16) (by decide +kernel) r6 (by exact (cb_1 _ _).mpr c15) ?_
      refine g_7 (a := 0) (b := 0) (nx := 19) (by decide +kernel) rfl ?_
      refine g_5 (a := 1) (b := 0) (nx := 20) (by decide +kernel) rfl ?_
      refine g_80 (a := 227) (b := 1) (nx := 23) (by decide +kernel) (r := x0) (As := [vI x1]) (st' := []) (z := 227) rfl rfl rfl (Nat.le_of_ble_eq_true rfl) h0.2 (Nat.le_of_ble_eq_true rfl) rfl (c_V (by decide +kernel) h (fun M7 h => ?_))
      refine g_7 (a := 0) (b := 0) (nx := 24) (by decide +kernel) rfl ?_
      refine g_50 (a := 12) (b := 70) (nx := 27) (by decide +kernel) h0 ?_
      obtain ⟨r9, h⟩ := h
      by_cases c14 : (M7 x0 70) = 0
      · rw [if_pos c14] at h
        refine g_40f (a := 1) (b := 32) (nx := 30) (by decide +kernel) r9 (by exact fun hz => ((cb_1 _ _).mp hz) c14) ?_
        refine g_1 (a := 0) (b := 0) (nx := 31) (by decide +kernel) ?_
        exact g_91 (b := 0) (nx := 32) (by decide +kernel) h
      · rw [if_neg c14] at h
        refine g_40t (a := 1) (b := 32) (nx := 30) (by decide +kernel) r9 (by exact (cb_1 _ _).mpr c14) ?_
        refine g_7 (a := 0) (b := 0) (nx := 33) (by decide +kernel) rfl ?_
        refine g_80 (a := 238) (b := 0) (nx := 36) (by decide +kernel) (r := x0) (As := []) (st' := []) (z := 238) rfl rfl rfl (Nat.le_of_ble_eq_true rfl) h0.2 (Nat.le_of_ble_eq_true rfl) rfl (c_V (by decide +kernel) h (fun M10 h => ?_))
        refine g_7 (a := 0) (b := 0) (nx := 37) (by decide +kernel) rfl ?_
        refine g_52 (a := 12) (b := 65) (nx := 40) (by decide +kernel) h0 ?_
        refine g_7 (a := 0) (b := 0) (nx := 41) (by decide +kernel) rfl ?_
        refine g_80 (a := 252) (b := 0) (nx := 44) (by decide +kernel) (r := x0) (As := []) (st' := [vR (M10 x0 65)]) (z := 252) rfl rfl rfl (Nat.le_of_ble_eq_true rfl) h0.2 (Nat.le_of_ble_eq_true rfl) rfl (c_I (by decide +kernel) h (fun y13 M12 h => ?_))
        refine g_61 (a := 0) (b := 0) (nx := 45) (by decide +kernel) h.1 ?_
        replace h := h.2
        refine g_8 (a := 3) (b := 0) (nx := 46) (by decide +kernel) rfl (ls' := [some (vR x0), some (vI x1), some (vI x2), some (vI (M12 (M10 x0 65) y13)), none, none]) rfl ?_
        refine g_7 (a := 0) (b := 0) (nx := 47) (by decide +kernel) rfl ?_
        refine g_50 (a := 12) (b := 69) (nx := 50) (by decide +kernel) h0 ?_
        refine g_5 (a := 3) (b := 0) (nx := 51) (by decide +kernel) rfl ?_
        refine g_16 (a := 0) (b := 0) (nx := 52) (by decide +kernel) ?_
        refine g_8 (a := 4) (b := 0) (nx := 54) (by decide +kernel) rfl (ls' := [some (vR x0), some (vI x1), some (vI x2), some (vI (M12 (M10 x0 65) y13)), some (vI ((M12 x0 69) - (M12 (M10 x0 65) y13))), none]) rfl ?_
        refine g_1 (a := 0) (b := 0) (nx := 55) (by decide +kernel) ?_
        refine g_8 (a := 5) (b := 0) (nx := 57) (by decide +kernel) rfl (ls' := [some (vR x0), some (vI x1), some (vI x2), some (vI (M12 (M10 x0 65) y13)), some (vI ((M12 x0 69) - (M12 (M10 x0 65) y13))), some (vI 0)]) rfl ?_
        exact h
theorem t_262_57 {x0 x1 x2 x3 x4 x5 : Int} {M : Mem} {Q : AV → Mem → Prop} (h0 : gO 12 x0) (h : inR x5 ∧ (inR x4 ∧ (if x4 ≤ x5 then (WV 227 [vR x0, vI x2] M (fun M3 => inR (M3 x0 70) ∧ (if (M3 x0 70) = 0 then (Q (vI 0) M3) else (WV 238 [vR x0] M3 (fun M6 => WI 252 [vR x0] M6 (fun y9 M8 => (gA 20 (M6 x0 65) y9) ∧ inR ((M8 x0 69) - (M8 (M6 x0 65) y9)) ∧ (if ((M8 x0 69) - (M8 (M6 x0 65) y9)) = x4 then (WR 262 130 [some (vR x0), some (vI x1), some (vI x2), some (vI (M8 (M6 x0 65) y9)), some (vI x4), some (vI 0)] [] M8 Q) else (Q (vI 0) M8)))))))) else ((gA 20 (M x0 64) (x3 + x5)) ∧ (gA 20 (M x0 73) x5) ∧ WR 262 57 [some (vR x0), some (vI x1), some (vI x2), some (vI x3), some (vI x4), some (vI (x5 + 1))] [] (upM M (M x0 73) x5 (M (M x0 64) (x3 + x5))) Q)))) : WR 262 57 [some (vR x0), some (vI x1), some (vI x2), some (vI x3), some (vI x4), some (vI x5)] [] M Q := by
  refine g_5 (a := 5) (b := 0) (nx := 59) (by decide +kernel) rfl ?_
  refine g_5 (a := 4) (b := 0) (nx := 61) (by decide +kernel) rfl ?_
  obtain ⟨r1, h⟩ := h
  obtain ⟨r2, h⟩ := h
  by_cases c13 : x4 ≤ x5
  · rw [if_pos c13] at h
    refine g_41t (a := 3) (b := 86) (nx := 64) (by decide +kernel) (by rw [wr_id r1, wr_id r2]; exact (cb_3 _ _).mpr c13) ?_
    refine g_7 (a := 0) (b := 0) (nx := 87) (by decide +kernel) rfl ?_
    refine g_5 (a := 2) (b := 0) (nx := 88) (by decide +kernel) rfl ?_
    refine g_80 (a := 227) (b := 1) (nx := 91) (by decide +kernel) (r := x0) (As := [vI x2]) (st' := []) (z := 227) rfl rfl rfl (Nat.le_of_ble_eq_true rfl) h0.2 (Nat.le_of_ble_eq_true rfl) rfl (c_V (by decide +kernel) h (fun M3 h => ?_))
    refine g_7 (a := 0) (b := 0) (nx := 92) (by decide +kernel) rfl ?_
    refine g_50 (a := 12) (b := 70) (nx := 95) (by decide +kernel) h0 ?_
    obtain ⟨r5, h⟩ := h
    by_cases c12 : (M3 x0 70) = 0
    · rw [if_pos c12] at h
      refine g_40f (a := 1) (b := 100) (nx := 98) (by decide +kernel) r5 (by exact fun hz => ((cb_1 _ _).mp hz) c12) ?_
      refine g_1 (a := 0) (b := 0) (nx := 99) (by decide +kernel) ?_
      exact g_91 (b := 0) (nx := 100) (by decide +kernel) h
    · rw [if_neg c12] at h
      refine g_40t (a := 1) (b := 100) (nx := 98) (by decide +kernel) r5 (by exact (cb_1 _ _).mpr c12) ?_
      refine g_7 (a := 0) (b := 0) (nx := 101) (by decide +kernel) rfl ?_
      refine g_80 (a := 238) (b := 0) (nx := 104) (by decide +kernel) (r := x0) (As := []) (st' := []) (z := 238) rfl rfl rfl (Nat.le_of_ble_eq_true rfl) h0.2 (Nat.le_of_ble_eq_true rfl) rfl (c_V (by decide +kernel) h (fun M6 h => ?_))
      refine g_7 (a := 0) (b := 0) (nx := 105) (by decide +kernel) rfl ?_
      refine g_52 (a := 12) (b := 65) (nx := 108) (by decide +kernel) h0 ?_
      refine g_7 (a := 0) (b := 0) (nx := 109) (by decide +kernel) rfl ?_
      refine g_80 (a := 252) (b := 0) (nx := 112) (by decide +kernel) (r := x0) (As := []) (st' := [vR (M6 x0 65)]) (z := 252) rfl rfl rfl (Nat.le_of_ble_eq_true rfl) h0.2 (Nat.le_of_ble_eq_true rfl) rfl (c_I (by decide +kernel) h (fun y9 M8 h => ?_))
      refine g_61 (a := 0) (b := 0) (nx := 113) (by decide +kernel) h.1 ?_
      replace h := h.2
      refine g_8 (a := 3) (b := 0) (nx := 114) (by decide +kernel) rfl (ls' := [some (vR x0), some (vI x1), some (vI x2), some (vI (M8 (M6 x0 65) y9)), some (vI x4), some (vI x5)]) rfl ?_
      refine g_7 (a := 0) (b := 0) (nx := 115) (by decide +kernel) rfl ?_
      refine g_50 (a := 12) (b := 69) (nx := 118) (by decide +kernel) h0 ?_
      refine g_5 (a := 3) (b := 0) (nx := 119) (by decide +kernel) rfl ?_
      refine g_16 (a := 0) (b := 0) (nx := 120) (by decide +kernel) ?_
      refine g_5 (a := 4) (b := 0) (nx := 122) (by decide +kernel) rfl ?_
      obtain ⟨r10, h⟩ := h
      by_cases c11 : ((M8 x0 69) - (M8 (M6 x0 65) y9)) = x4
      · rw [if_pos c11] at h
        refine g_41t (a := 0) (b := 127) (nx := 125) (by decide +kernel) (by rw [wr_id r10, wr_id r2]; exact (cb_0 _ _).mpr c11) ?_
        refine g_1 (a := 0) (b := 0) (nx := 128) (by decide +kernel) ?_
        refine g_8 (a := 5) (b := 0) (nx := 130) (by decide +kernel) rfl (ls' := [some (vR x0), some (vI x1), some (vI x2), some (vI (M8 (M6 x0 65) y9)), some (vI x4), some (vI 0)]) rfl ?_
        exact h
      · rw [if_neg c11] at h
        refine g_41f (a := 0) (b := 127) (nx := 125) (by decide +kernel) (by rw [wr_id r10, wr_id r2]; exact fun hz => c11 ((cb_0 _ _).mp hz)) ?_
        refine g_1 (a := 0) (b := 0) (nx := 126) (by decide +kernel) ?_
        exact g_91 (b := 0) (nx := 127) (by decide +kernel) h
  · rw [if_neg c13] at h
    refine g_41f (a := 3) (b := 86) (nx := 64) (by decide +kernel) (by rw [wr_id r1, wr_id r2]; exact fun hz => c13 ((cb_3 _ _).mp hz)) ?_
    refine g_7 (a := 0) (b := 0) (nx := 65) (by decide +kernel) rfl ?_
    refine g_52 (a := 12) (b := 73) (nx := 68) (by decide +kernel) h0 ?_
    refine g_5 (a := 5) (b := 0) (nx := 70) (by decide +kernel) rfl ?_
    refine g_7 (a := 0) (b := 0) (nx := 71) (by decide +kernel) rfl ?_
    refine g_52 (a := 12) (b := 64) (nx := 74) (by decide +kernel) h0 ?_
    refine g_5 (a := 3) (b := 0) (nx := 75) (by decide +kernel) rfl ?_
    refine g_5 (a := 5) (b := 0) (nx := 77) (by decide +kernel) rfl ?_
    refine g_15 (a := 0) (b := 0) (nx := 78) (by decide +kernel) ?_
    refine g_61 (a := 0) (b := 0) (nx := 79) (by decide +kernel) h.1 ?_
    replace h := h.2
    refine g_62 (a := 0) (b := 0) (nx := 80) (by decide +kernel) h.1 ?_
    replace h := h.2
    refine g_11 (a := 5) (b := 1) (nx := 83) (by decide +kernel) rfl rfl (ls' := [some (vR x0), some (vI x1), some (vI x2), some (vI x3), some (vI x4), some (vI (x5 + 1))]) rfl ?_
    refine g_44 (a := 0) (b := 57) (nx := 86) (by decide +kernel) ?_
    exact h
theorem t_262_130 {x0 x1 x2 x3 x4 x5 : Int} {M : Mem} {Q : AV → Mem → Prop} (h0 : gO 12 x0) (h : inR x5 ∧ (inR x4 ∧ (if x4 ≤ x5 then (Q (vI 1) M) else ((gA 20 (M x0 64) (x3 + x5)) ∧ (gA 20 (M x0 73) x5) ∧ inR (M (M x0 64) (x3 + x5)) ∧ (inR (M (M x0 73) x5) ∧ (if (M (M x0 64) (x3 + x5)) = (M (M x0 73) x5) then (WR 262 130 [some (vR x0), some (vI x1), some (vI x2), some (vI x3), some (vI x4), some (vI (x5 + 1))] [] M Q) else (Q (vI 0) M))))))) : WR 262 130 [some (vR x0), some (vI x1), some (vI x2), some (vI x3), some (vI x4), some (vI x5)] [] M Q := by
  refine g_5 (a := 5) (b := 0) (nx := 132) (by decide +kernel) rfl ?_
  refine g_5 (a := 4) (b := 0) (nx := 134) (by decide +kernel) rfl ?_
  obtain ⟨r1, h⟩ := h
  obtain ⟨r2, h⟩ := h
  by_cases c6 : x4 ≤ x5
  · rw [if_pos c6] at h
    refine g_41t (a := 3) (b := 164) (nx := 137) (by decide +kernel) (by rw [wr_id r1, wr_id r2]; exact (cb_3 _ _).mpr c6) ?_
    refine g_1 (a := 1) (b := 0) (nx := 165) (by decide +kernel) ?_
    exact g_91 (b := 0) (nx := 166) (by decide +kernel) h
  · rw [if_neg c6] at h
    refine g_41f (a := 3) (b := 164) (nx := 137) (by decide +kernel) (by rw [wr_id r1, wr_id r2]; exact fun hz => c6 ((cb_3 _ _).mp hz)) ?_
    refine g_7 (a := 0) (b := 0) (nx := 138) (by decide +kernel) rfl ?_
    refine g_52 (a := 12) (b := 64) (nx := 141) (by decide +kernel) h0 ?_
    refine g_5 (a := 3) (b := 0) (nx := 142) (by decide +kernel) rfl ?_
    refine g_5 (a := 5) (b := 0) (nx := 144) (by decide +kernel) rfl ?_
    refine g_15 (a := 0) (b := 0) (nx := 145) (by decide +kernel) ?_
    refine g_61 (a := 0) (b := 0) (nx := 146) (by decide +kernel) h.1 ?_
    replace h := h.2
    refine g_7 (a := 0) (b := 0) (nx := 147) (by decide +kernel) rfl ?_
    refine g_52 (a := 12) (b := 73) (nx := 150) (by decide +kernel) h0 ?_
    refine g_5 (a := 5) (b := 0) (nx := 152) (by decide +kernel) rfl ?_
    refine g_61 (a := 0) (b := 0) (nx := 153) (by decide +kernel) h.1 ?_
    replace h := h.2
    obtain ⟨r3, h⟩ := h
    obtain ⟨r4, h⟩ := h
    by_cases c5 : (M (M x0 64) (x3 + x5)) = (M (M x0 73) x5)
    · rw [if_pos c5] at h
      refine g_41t (a := 0) (b := 158) (nx := 156) (by decide +kernel) (by rw [wr_id r3, wr_id r4]; exact (cb_0 _ _).mpr c5) ?_
      refine g_11 (a := 5) (b := 1) (nx := 161) (by decide +kernel) rfl rfl (ls' := [some (vR x0), some (vI x1), some (vI x2), some (vI x3), some (vI x4), some (vI (x5 + 1))]) rfl ?_
      refine g_44 (a := 0) (b := 130) (nx := 164) (by decide +kernel) ?_
      exact h
    · rw [if_neg c5] at h
      refine g_41f (a := 0) (b := 158) (nx := 156) (by decide +kernel) (by rw [wr_id r3, wr_id r4]; exact fun hz => c5 ((cb_0 _ _).mp hz)) ?_
      refine g_1 (a := 0) (b := 0) (nx := 157) (by decide +kernel) ?_
      exact g_91 (b := 0) (nx := 158) (by decide +kernel) h
