/-! TREES, printed by a program: what each method's run comes to. -/
-- 263 SyllableMakerModel.isMendedBy(II)Z
theorem t_263 {x0 x1 x2 : Int} {M : Mem} {Q : AV → Mem → Prop} (h0 : gO 12 x0) (h : WI 221 [vR x0, vI x1] M (fun y2 M1 => WR 263 14 [some (vR x0), some (vI x1), some (vI x2), some (vI y2), some (vI 0)] [] (upM M1 x0 69 0) Q)) : WC 263 [vR x0, vI x1, vI x2] M Q := by
  show WR 263 0 [some (vR x0), some (vI x1), some (vI x2), none, none] [] M Q
  refine g_7 (a := 0) (b := 0) (nx := 1) (by decide +kernel) rfl ?_
  refine g_5 (a := 1) (b := 0) (nx := 2) (by decide +kernel) rfl ?_
  refine g_80 (a := 221) (b := 1) (nx := 5) (by decide +kernel) (r := x0) (As := [vI x1]) (st' := []) (z := 221) rfl rfl rfl (Nat.le_of_ble_eq_true rfl) h0.2 (Nat.le_of_ble_eq_true rfl) rfl (c_I (by decide +kernel) h (fun y2 M1 h => ?_))
  refine g_8 (a := 3) (b := 0) (nx := 6) (by decide +kernel) rfl (ls' := [some (vR x0), some (vI x1), some (vI x2), some (vI y2), none]) rfl ?_
  refine g_7 (a := 0) (b := 0) (nx := 7) (by decide +kernel) rfl ?_
  refine g_1 (a := 0) (b := 0) (nx := 8) (by decide +kernel) ?_
  refine g_53 (a := 12) (b := 69) (nx := 11) (by decide +kernel) h0 ?_
  refine g_1 (a := 0) (b := 0) (nx := 12) (by decide +kernel) ?_
  refine g_8 (a := 4) (b := 0) (nx := 14) (by decide +kernel) rfl (ls' := [some (vR x0), some (vI x1), some (vI x2), some (vI y2), some (vI 0)]) rfl ?_
  exact h
theorem t_263_14 {x0 x1 x2 x3 x4 : Int} {M : Mem} {Q : AV → Mem → Prop} (h0 : gO 12 x0) (h : inR x4 ∧ (inR x3 ∧ (if x3 < x4 then (WV 228 [vR x0] M (fun M3 => inR (M3 x0 70) ∧ (if (M3 x0 70) = 0 then (Q (vI 0) M3) else (WV 238 [vR x0] M3 (fun M6 => WR 263 113 [some (vR x0), some (vI x1), some (vI x2), some (vI x3), some (vI 0)] [] M6 Q))))) else ((0 ≤ (x3 - x4) ∧ (x3 - x4) < 32 ∧ -2147483648 ≤ x2 ∧ x2 < 2147483648) ∧ inR (and32 (x2 / 2 ^ ((x3 - x4)).toNat) 1) ∧ (if (and32 (x2 / 2 ^ ((x3 - x4)).toNat) 1) = 1 then ((gA 20 (M x0 64) (M x0 69)) ∧ if x3 ≤ x4 then (WR 263 14 [some (vR x0), some (vI x1), some (vI x2), some (vI x3), some (vI (x4 + 1))] [] (upM (upM M (M x0 64) (M x0 69) (M x0 44)) x0 69 (((upM M (M x0 64) (M x0 69) (M x0 44)) x0 69) + 1)) Q) else (WI 222 [vR x0, vI x1, vI x4] (upM (upM M (M x0 64) (M x0 69) (M x0 44)) x0 69 (((upM M (M x0 64) (M x0 69) (M x0 44)) x0 69) + 1)) (fun y14 M13 => (gA 20 ((upM (upM M (M x0 64) (M x0 69) (M x0 44)) x0 69 (((upM M (M x0 64) (M x0 69) (M x0 44)) x0 69) + 1)) x0 64) ((upM (upM M (M x0 64) (M x0 69) (M x0 44)) x0 69 (((upM M (M x0 64) (M x0 69) (M x0 44)) x0 69) + 1)) x0 69)) ∧ WR 263 14 [some (vR x0), some (vI x1), some (vI x2), some (vI x3), some (vI (x4 + 1))] [] (upM (upM M13 ((upM (upM M (M x0 64) (M x0 69) (M x0 44)) x0 69 (((upM M (M x0 64) (M x0 69) (M x0 44)) x0 69) + 1)) x0 64) ((upM (upM M (M x0 64) (M x0 69) (M x0 44)) x0 69 (((upM M (M x0 64) (M x0 69) (M x0 44)) x0 69) + 1)) x0 69) y14) x0 69 (((upM M13 ((upM (upM M (M x0 64) (M x0 69) (M x0 44)) x0 69 (((upM M (M x0 64) (M x0 69) (M x0 44)) x0 69) + 1)) x0 64) ((upM (upM M (M x0 64) (M x0 69) (M x0 44)) x0 69 (((upM M (M x0 64) (M x0 69) (M x0 44)) x0 69) + 1)) x0 69) y14) x0 69) + 1)) Q))) else (if x3 ≤ x4 then (WR 263 14 [some (vR x0), some (vI x1), some (vI x2), some (vI x3), some (vI (x4 + 1))] [] M Q) else (WI 222 [vR x0, vI x1, vI x4] M (fun y11 M10 => (gA 20 (M x0 64) (M x0 69)) ∧ WR 263 14 [some (vR x0), some (vI x1), some (vI x2), some (vI x3), some (vI (x4 + 1))] [] (upM (upM M10 (M x0 64) (M x0 69) y11) x0 69 (((upM M10 (M x0 64) (M x0 69) y11) x0 69) + 1)) Q)))))))) : WR 263 14 [some (vR x0), some (vI x1), some (vI x2), some (vI x3), some (vI x4)] [] M Q := by
  refine g_5 (a := 4) (b := 0) (nx := 16) (by decide +kernel) rfl ?_
  refine g_5 (a := 3) (b := 0) (nx := 17) (by decide +kernel) rfl ?_
  obtain ⟨r1, h⟩ := h
  obtain ⟨r2, h⟩ := h
  by_cases c17 : x3 < x4
  · rw [if_pos c17] at h
    refine g_41t (a := 4) (b := 93) (nx := 20) (by decide +kernel) (by rw [wr_id r1, wr_id r2]; exact (cb_4 _ _).mpr c17) ?_
    refine g_7 (a := 0) (b := 0) (nx := 94) (by decide +kernel) rfl ?_
    refine g_80 (a := 228) (b := 0) (nx := 97) (by decide +kernel) (r := x0) (As := []) (st' := []) (z := 228) rfl rfl rfl (Nat.le_of_ble_eq_true rfl) h0.2 (Nat.le_of_ble_eq_true rfl) rfl (c_V (by decide +kernel) h (fun M3 h => ?_))
    refine g_7 (a := 0) (b := 0) (nx := 98) (by decide +kernel) rfl ?_
    refine g_50 (a := 12) (b := 70) (nx := 101) (by decide +kernel) h0 ?_
    obtain ⟨r5, h⟩ := h
    by_cases c8 : (M3 x0 70) = 0
    · rw [if_pos c8] at h
      refine g_40f (a := 1) (b := 106) (nx := 104) (by decide +kernel) r5 (by exact fun hz => ((cb_1 _ _).mp hz) c8) ?_
      refine g_1 (a := 0) (b := 0) (nx := 105) (by decide +kernel) ?_
      exact g_91z (b := 0) (nx := 106) (by decide +kernel) (by decide) h
    · rw [if_neg c8] at h
      refine g_40t (a := 1) (b := 106) (nx := 104) (by decide +kernel) r5 (by exact (cb_1 _ _).mpr c8) ?_
      refine g_7 (a := 0) (b := 0) (nx := 107) (by decide +kernel) rfl ?_
      refine g_80 (a := 238) (b := 0) (nx := 110) (by decide +kernel) (r := x0) (As := []) (st' := []) (z := 238) rfl rfl rfl (Nat.le_of_ble_eq_true rfl) h0.2 (Nat.le_of_ble_eq_true rfl) rfl (c_V (by decide +kernel) h (fun M6 h => ?_))
      refine g_1 (a := 0) (b := 0) (nx := 111) (by decide +kernel) ?_
      refine g_8 (a := 4) (b := 0) (nx := 113) (by decide +kernel) rfl (ls' := [some (vR x0), some (vI x1), some (vI x2), some (vI x3), some (vI 0)]) rfl ?_
      exact h
  · rw [if_neg c17] at h
    refine g_41f (a := 4) (b := 93) (nx := 20) (by decide +kernel) (by rw [wr_id r1, wr_id r2]; exact fun hz => c17 ((cb_4 _ _).mp hz)) ?_
    refine g_5 (a := 2) (b := 0) (nx := 21) (by decide +kernel) rfl ?_
    refine g_5 (a := 3) (b := 0) (nx := 22) (by decide +kernel) rfl ?_
    refine g_5 (a := 4) (b := 0) (nx := 24) (by decide +kernel) rfl ?_
    refine g_16 (a := 0) (b := 0) (nx := 25) (by decide +kernel) ?_
    refine g_23 (a := 0) (b := 0) (nx := 26) (by decide +kernel) h.1 ?_
    show WR 263 26 [some (vR x0), some (vI x1), some (vI x2), some (vI x3), some (vI x4)] [vI (x2 / 2 ^ ((x3 - x4)).toNat)] M Q
    replace h := h.2
    refine g_1 (a := 1) (b := 0) (nx := 27) (by decide +kernel) ?_
    refine g_20 (a := 0) (b := 0) (nx := 28) (by decide +kernel) ?_
    refine g_1 (a := 1) (b := 0) (nx := 29) (by decide +kernel) ?_
    obtain ⟨r9, h⟩ := h
    by_cases c16 : (and32 (x2 / 2 ^ ((x3 - x4)).toNat) 1) = 1
    · rw [if_pos c16] at h
      refine g_41f (a := 1) (b := 55) (nx := 32) (by decide +kernel) (by rw [wr_id r9, wr_id (show inR 1 by decide)]; exact fun hz => ((cb_1 _ _).mp hz) c16) ?_
      refine g_7 (a := 0) (b := 0) (nx := 33) (by decide +kernel) rfl ?_
      refine g_52 (a := 12) (b := 64) (nx := 36) (by decide +kernel) h0 ?_
      refine g_7 (a := 0) (b := 0) (nx := 37) (by decide +kernel) rfl ?_
      refine g_50 (a := 12) (b := 69) (nx := 40) (by decide +kernel) h0 ?_
      refine g_7 (a := 0) (b := 0) (nx := 41) (by decide +kernel) rfl ?_
      refine g_50 (a := 12) (b := 44) (nx := 44) (by decide +kernel) h0 ?_
      refine g_62 (a := 0) (b := 0) (nx := 45) (by decide +kernel) h.1 ?_
      replace h := h.2
      refine g_7 (a := 0) (b := 0) (nx := 46) (by decide +kernel) rfl ?_
      refine g_13 (a := 0) (b := 0) (nx := 47) (by decide +kernel) rfl ?_
      refine g_50 (a := 12) (b := 69) (nx := 50) (by decide +kernel) h0 ?_
      refine g_1 (a := 1) (b := 0) (nx := 51) (by decide +kernel) ?_
      refine g_15 (a := 0) (b := 0) (nx := 52) (by decide +kernel) ?_
      refine g_53 (a := 12) (b := 69) (nx := 55) (by decide +kernel) h0 ?_
      refine g_5 (a := 4) (b := 0) (nx := 57) (by decide +kernel) rfl ?_
      refine g_5 (a := 3) (b := 0) (nx := 58) (by decide +kernel) rfl ?_
      by_cases c15 : x3 ≤ x4
      · rw [if_pos c15] at h
        refine g_41t (a := 3) (b := 87) (nx := 61) (by decide +kernel) (by rw [wr_id r1, wr_id r2]; exact (cb_3 _ _).mpr c15) ?_
        refine g_11 (a := 4) (b := 1) (nx := 90) (by decide +kernel) rfl rfl (ls' := [some (vR x0), some (vI x1), some (vI x2), some (vI x3), some (vI (x4 + 1))]) rfl ?_
        refine g_44 (a := 0) (b := 14) (nx := 93) (by decide +kernel) ?_
        exact h
      · rw [if_neg c15] at h
        refine g_41f (a := 3) (b := 87) (nx := 61) (by decide +kernel) (by rw [wr_id r1, wr_id r2]; exact fun hz => c15 ((cb_3 _ _).mp hz)) ?_
        refine g_7 (a := 0) (b := 0) (nx := 62) (by decide +kernel) rfl ?_
        refine g_52 (a := 12) (b := 64) (nx := 65) (by decide +kernel) h0 ?_
        refine g_7 (a := 0) (b := 0) (nx := 66) (by decide +kernel) rfl ?_
        refine g_50 (a := 12) (b := 69) (nx := 69) (by decide +kernel) h0 ?_
        refine g_7 (a := 0) (b := 0) (nx := 70) (by decide +kernel) rfl ?_
        refine g_5 (a := 1) (b := 0) (nx := 71) (by decide +kernel) rfl ?_
        refine g_5 (a := 4) (b := 0) (nx := 73) (by decide +kernel) rfl ?_
        refine g_80 (a := 222) (b := 2) (nx := 76) (by decide +kernel) (r := x0) (As := [vI x1, vI x4]) (st' := [vI ((upM (upM M (M x0 64) (M x0 69) (M x0 44)) x0 69 (((upM M (M x0 64) (M x0 69) (M x0 44)) x0 69) + 1)) x0 69), vR ((upM (upM M (M x0 64) (M x0 69) (M x0 44)) x0 69 (((upM M (M x0 64) (M x0 69) (M x0 44)) x0 69) + 1)) x0 64)]) (z := 222) rfl rfl rfl (Nat.le_of_ble_eq_true rfl) h0.2 (Nat.le_of_ble_eq_true rfl) rfl (c_I (by decide +kernel) h (fun y14 M13 h => ?_))
        refine g_62 (a := 0) (b := 0) (nx := 77) (by decide +kernel) h.1 ?_
        replace h := h.2
        refine g_7 (a := 0) (b := 0) (nx := 78) (by decide +kernel) rfl ?_
        refine g_13 (a := 0) (b := 0) (nx := 79) (by decide +kernel) rfl ?_
        refine g_50 (a := 12) (b := 69) (nx := 82) (by decide +kernel) h0 ?_
        refine g_1 (a := 1) (b := 0) (nx := 83) (by decide +kernel) ?_
        refine g_15 (a := 0) (b := 0) (nx := 84) (by decide +kernel) ?_
        refine g_53 (a := 12) (b := 69) (nx := 87) (by decide +kernel) h0 ?_
        refine g_11 (a := 4) (b := 1) (nx := 90) (by decide +kernel) rfl rfl (ls' := [some (vR x0), some (vI x1), some (vI x2), some (vI x3), some (vI (x4 + 1))]) rfl ?_
        refine g_44 (a := 0) (b := 14) (nx := 93) (by decide +kernel) ?_
        exact h
    · rw [if_neg c16] at h
      refine g_41t (a := 1) (b := 55) (nx := 32) (by decide +kernel) (by rw [wr_id r9, wr_id (show inR 1 by decide)]; exact (cb_1 _ _).mpr c16) ?_
      refine g_5 (a := 4) (b := 0) (nx := 57) (by decide +kernel) rfl ?_
      refine g_5 (a := 3) (b := 0) (nx := 58) (by decide +kernel) rfl ?_
      by_cases c12 : x3 ≤ x4
      · rw [if_pos c12] at h
        refine g_41t (a := 3) (b := 87) (nx := 61) (by decide +kernel) (by rw [wr_id r1, wr_id r2]; exact (cb_3 _ _).mpr c12) ?_
        refine g_11 (a := 4) (b := 1) (nx := 90) (by decide +kernel) rfl rfl (ls' := [some (vR x0), some (vI x1), some (vI x2), some (vI x3), some (vI (x4 + 1))]) rfl ?_
        refine g_44 (a := 0) (b := 14) (nx := 93) (by decide +kernel) ?_
        exact h
      · rw [if_neg c12] at h
        refine g_41f (a := 3) (b := 87) (nx := 61) (by decide +kernel) (by rw [wr_id r1, wr_id r2]; exact fun hz => c12 ((cb_3 _ _).mp hz)) ?_
        refine g_7 (a := 0) (b := 0) (nx := 62) (by decide +kernel) rfl ?_
        refine g_52 (a := 12) (b := 64) (nx := 65) (by decide +kernel) h0 ?_
        refine g_7 (a := 0) (b := 0) (nx := 66) (by decide +kernel) rfl ?_
        refine g_50 (a := 12) (b := 69) (nx := 69) (by decide +kernel) h0 ?_
        refine g_7 (a := 0) (b := 0) (nx := 70) (by decide +kernel) rfl ?_
        refine g_5 (a := 1) (b := 0) (nx := 71) (by decide +kernel) rfl ?_
        refine g_5 (a := 4) (b := 0) (nx := 73) (by decide +kernel) rfl ?_
        refine g_80 (a := 222) (b := 2) (nx := 76) (by decide +kernel) (r := x0) (As := [vI x1, vI x4]) (st' := [vI (M x0 69), vR (M x0 64)]) (z := 222) rfl rfl rfl (Nat.le_of_ble_eq_true rfl) h0.2 (Nat.le_of_ble_eq_true rfl) rfl (c_I (by decide +kernel) h (fun y11 M10 h => ?_))
        refine g_62 (a := 0) (b := 0) (nx := 77) (by decide +kernel) h.1 ?_
        replace h := h.2
        refine g_7 (a := 0) (b := 0) (nx := 78) (by decide +kernel) rfl ?_
        refine g_13 (a := 0) (b := 0) (nx := 79) (by decide +kernel) rfl ?_
        refine g_50 (a := 12) (b := 69) (nx := 82) (by decide +kernel) h0 ?_
        refine g_1 (a := 1) (b := 0) (nx := 83) (by decide +kernel) ?_
        refine g_15 (a := 0) (b := 0) (nx := 84) (by decide +kernel) ?_
        refine g_53 (a := 12) (b := 69) (nx := 87) (by decide +kernel) h0 ?_
        refine g_11 (a := 4) (b := 1) (nx := 90) (by decide +kernel) rfl rfl (ls' := [some (vR x0), some (vI x1), some (vI x2), some (vI x3), some (vI (x4 + 1))]) rfl ?_
        refine g_44 (a := 0) (b := 14) (nx := 93) (by decide +kernel) ?_
        exact h
theorem t_263_113 {x0 x1 x2 x3 x4 : Int} {M : Mem} {Q : AV → Mem → Prop} (h0 : gO 12 x0) (h : inR x4 ∧ (inR (M x0 70) ∧ (if (M x0 70) ≤ x4 then (Q (vI 1) M) else (WI 239 [vR x0, vI x4] M (fun y4 M3 => WI 240 [vR x0, vI x4] M3 (fun y6 M5 => WI 235 [vR x0, vR (M x0 64), vI y4, vI y6] M5 (fun y8 M7 => inR y8 ∧ (if y8 = 0 then (Q (vI 0) M7) else (WI 229 [vR x0, vI x4] M7 (fun y11 M10 => WI 241 [vR x0, vI x4] M10 (fun y13 M12 => WI 236 [vR x0, vR (M7 x0 64), vI y11, vI y13] M12 (fun y15 M14 => inR y15 ∧ (if y15 = 0 then (Q (vI 0) M14) else (WR 263 113 [some (vR x0), some (vI x1), some (vI x2), some (vI x3), some (vI (x4 + 1))] [] M14 Q)))))))))))))) : WR 263 113 [some (vR x0), some (vI x1), some (vI x2), some (vI x3), some (vI x4)] [] M Q := by
  refine g_5 (a := 4) (b := 0) (nx := 115) (by decide +kernel) rfl ?_
  refine g_7 (a := 0) (b := 0) (nx := 116) (by decide +kernel) rfl ?_
  refine g_50 (a := 12) (b := 70) (nx := 119) (by decide +kernel) h0 ?_
  obtain ⟨r1, h⟩ := h
  obtain ⟨r2, h⟩ := h
  by_cases c19 : (M x0 70) ≤ x4
  · rw [if_pos c19] at h
    refine g_41t (a := 3) (b := 176) (nx := 122) (by decide +kernel) (by rw [wr_id r1, wr_id r2]; exact (cb_3 _ _).mpr c19) ?_
    refine g_1 (a := 1) (b := 0) (nx := 177) (by decide +kernel) ?_
    exact g_91z (b := 0) (nx := 178) (by decide +kernel) (by decide) h
  · rw [if_neg c19] at h
    refine g_41f (a := 3) (b := 176) (nx := 122) (by decide +kernel) (by rw [wr_id r1, wr_id r2]; exact fun hz => c19 ((cb_3 _ _).mp hz)) ?_
    refine g_7 (a := 0) (b := 0) (nx := 123) (by decide +kernel) rfl ?_
    refine g_7 (a := 0) (b := 0) (nx := 124) (by decide +kernel) rfl ?_
    refine g_52 (a := 12) (b := 64) (nx := 127) (by decide +kernel) h0 ?_
    refine g_7 (a := 0) (b := 0) (nx := 128) (by decide +kernel) rfl ?_
    refine g_5 (a := 4) (b := 0) (nx := 130) (by decide +kernel) rfl ?_
    refine g_80 (a := 239) (b := 1) (nx := 133) (by decide +kernel) (r := x0) (As := [vI x4]) (st' := [vR (M x0 64), vR x0]) (z := 239) rfl rfl rfl (Nat.le_of_ble_eq_true rfl) h0.2 (Nat.le_of_ble_eq_true rfl) rfl (c_I (by decide +kernel) h (fun y4 M3 h => ?_))
    refine g_7 (a := 0) (b := 0) (nx := 134) (by decide +kernel) rfl ?_
    refine g_5 (a := 4) (b := 0) (nx := 136) (by decide +kernel) rfl ?_
    refine g_80 (a := 240) (b := 1) (nx := 139) (by decide +kernel) (r := x0) (As := [vI x4]) (st' := [vI y4, vR (M x0 64), vR x0]) (z := 240) rfl rfl rfl (Nat.le_of_ble_eq_true rfl) h0.2 (Nat.le_of_ble_eq_true rfl) rfl (c_I (by decide +kernel) h (fun y6 M5 h => ?_))
    refine g_80 (a := 235) (b := 3) (nx := 142) (by decide +kernel) (r := x0) (As := [vR (M x0 64), vI y4, vI y6]) (st' := []) (z := 235) rfl rfl rfl (Nat.le_of_ble_eq_true rfl) h0.2 (Nat.le_of_ble_eq_true rfl) rfl (c_I (by decide +kernel) h (fun y8 M7 h => ?_))
    obtain ⟨r9, h⟩ := h
    by_cases c18 : y8 = 0
    · rw [if_pos c18] at h
      refine g_40t (a := 0) (b := 168) (nx := 145) (by decide +kernel) r9 (by exact (cb_0 _ _).mpr c18) ?_
      refine g_1 (a := 0) (b := 0) (nx := 169) (by decide +kernel) ?_
      exact g_91z (b := 0) (nx := 170) (by decide +kernel) (by decide) h
    · rw [if_neg c18] at h
      refine g_40f (a := 0) (b := 168) (nx := 145) (by decide +kernel) r9 (by exact fun hz => c18 ((cb_0 _ _).mp hz)) ?_
      refine g_7 (a := 0) (b := 0) (nx := 146) (by decide +kernel) rfl ?_
      refine g_7 (a := 0) (b := 0) (nx := 147) (by decide +kernel) rfl ?_
      refine g_52 (a := 12) (b := 64) (nx := 150) (by decide +kernel) h0 ?_
      refine g_7 (a := 0) (b := 0) (nx := 151) (by decide +kernel) rfl ?_
      refine g_5 (a := 4) (b := 0) (nx := 153) (by decide +kernel) rfl ?_
      refine g_80 (a := 229) (b := 1) (nx := 156) (by decide +kernel) (r := x0) (As := [vI x4]) (st' := [vR (M7 x0 64), vR x0]) (z := 229) rfl rfl rfl (Nat.le_of_ble_eq_true rfl) h0.2 (Nat.le_of_ble_eq_true rfl) rfl (c_I (by decide +kernel) h (fun y11 M10 h => ?_))
      refine g_7 (a := 0) (b := 0) (nx := 157) (by decide +kernel) rfl ?_
      refine g_5 (a := 4) (b := 0) (nx := 159) (by decide +kernel) rfl ?_
      refine g_80 (a := 241) (b := 1) (nx := 162) (by decide +kernel) (r := x0) (As := [vI x4]) (st' := [vI y11, vR (M7 x0 64), vR x0]) (z := 241) rfl rfl rfl (Nat.le_of_ble_eq_true rfl) h0.2 (Nat.le_of_ble_eq_true rfl) rfl (c_I (by decide +kernel) h (fun y13 M12 h => ?_))
      refine g_80 (a := 236) (b := 3) (nx := 165) (by decide +kernel) (r := x0) (As := [vR (M7 x0 64), vI y11, vI y13]) (st' := []) (z := 236) rfl rfl rfl (Nat.le_of_ble_eq_true rfl) h0.2 (Nat.le_of_ble_eq_true rfl) rfl (c_I (by decide +kernel) h (fun y15 M14 h => ?_))
      obtain ⟨r16, h⟩ := h
      by_cases c17 : y15 = 0
      · rw [if_pos c17] at h
        refine g_40f (a := 1) (b := 170) (nx := 168) (by decide +kernel) r16 (by exact fun hz => ((cb_1 _ _).mp hz) c17) ?_
        refine g_1 (a := 0) (b := 0) (nx := 169) (by decide +kernel) ?_
        exact g_91z (b := 0) (nx := 170) (by decide +kernel) (by decide) h
      · rw [if_neg c17] at h
        refine g_40t (a := 1) (b := 170) (nx := 168) (by decide +kernel) r16 (by exact (cb_1 _ _).mpr c17) ?_
        refine g_11 (a := 4) (b := 1) (nx := 173) (by decide +kernel) rfl rfl (ls' := [some (vR x0), some (vI x1), some (vI x2), some (vI x3), some (vI (x4 + 1))]) rfl ?_
        refine g_44 (a := 0) (b := 113) (nx := 176) (by decide +kernel) ?_
        exact h
-- 264 SyllableMakerModel.ones(I)I
theorem t_264 {x0 : Int} {M : Mem} {Q : AV → Mem → Prop} (h : WR 264 4 [some (vI x0), some (vI 0), some (vI x0)] [] M Q) : WC 264 [vI x0] M Q := by
  show WR 264 0 [some (vI x0), none, none] [] M Q
  refine g_1 (a := 0) (b := 0) (nx := 1) (by decide +kernel) ?_
  refine g_8 (a := 1) (b := 0) (nx := 2) (by decide +kernel) rfl (ls' := [some (vI x0), some (vI 0), none]) rfl ?_
  refine g_5 (a := 0) (b := 0) (nx := 3) (by decide +kernel) rfl ?_
  refine g_8 (a := 2) (b := 0) (nx := 4) (by decide +kernel) rfl (ls' := [some (vI x0), some (vI 0), some (vI x0)]) rfl ?_
  exact h
theorem t_264_4 {x0 x1 x2 : Int} {M : Mem} {Q : AV → Mem → Prop} (h : inR x2 ∧ (if x2 ≤ 0 then (Q (vI x1) M) else ((-2147483648 ≤ x2 ∧ x2 < 2147483648) ∧ WR 264 4 [some (vI x0), some (vI (x1 + (and32 x2 1))), some (vI (x2 / 2))] [] M Q))) : WR 264 4 [some (vI x0), some (vI x1), some (vI x2)] [] M Q := by
  refine g_5 (a := 2) (b := 0) (nx := 5) (by decide +kernel) rfl ?_
  obtain ⟨r1, h⟩ := h
  by_cases c2 : x2 ≤ 0
  · rw [if_pos c2] at h
    refine g_40t (a := 5) (b := 21) (nx := 8) (by decide +kernel) r1 (by exact (cb_5 _ _).mpr c2) ?_
    refine g_5 (a := 1) (b := 0) (nx := 22) (by decide +kernel) rfl ?_
    exact g_91 (b := 0) (nx := 23) (by decide +kernel) h
  · rw [if_neg c2] at h
    refine g_40f (a := 5) (b := 21) (nx := 8) (by decide +kernel) r1 (by exact fun hz => c2 ((cb_5 _ _).mp hz)) ?_
    refine g_5 (a := 1) (b := 0) (nx := 9) (by decide +kernel) rfl ?_
    refine g_5 (a := 2) (b := 0) (nx := 10) (by decide +kernel) rfl ?_
    refine g_1 (a := 1) (b := 0) (nx := 11) (by decide +kernel) ?_
    refine g_20 (a := 0) (b := 0) (nx := 12) (by decide +kernel) ?_
    refine g_15 (a := 0) (b := 0) (nx := 13) (by decide +kernel) ?_
    refine g_8 (a := 1) (b := 0) (nx := 14) (by decide +kernel) rfl (ls' := [some (vI x0), some (vI (x1 + (and32 x2 1))), some (vI x2)]) rfl ?_
    refine g_5 (a := 2) (b := 0) (nx := 15) (by decide +kernel) rfl ?_
    refine g_1 (a := 1) (b := 0) (nx := 16) (by decide +kernel) ?_
    refine g_23 (a := 0) (b := 0) (nx := 17) (by decide +kernel) ⟨by decide, by decide, h.1⟩ ?_
    show WR 264 17 [some (vI x0), some (vI (x1 + (and32 x2 1))), some (vI x2)] [vI (x2 / 2)] M Q
    replace h := h.2
    refine g_8 (a := 2) (b := 0) (nx := 18) (by decide +kernel) rfl (ls' := [some (vI x0), some (vI (x1 + (and32 x2 1))), some (vI (x2 / 2))]) rfl ?_
    refine g_44 (a := 0) (b := 4) (nx := 21) (by decide +kernel) ?_
    exact h
-- 265 SyllableMakerModel.mendedBy(I)I
theorem t_265 {x0 x1 : Int} {M : Mem} {Q : AV → Mem → Prop} (h0 : gO 12 x0) (h : WI 221 [vR x0, vI x1] M (fun y2 M1 => WR 265 8 [some (vR x0), some (vI x1), some (vI y2), some (vI 0), none] [] M1 Q)) : WC 265 [vR x0, vI x1] M Q := by
  show WR 265 0 [some (vR x0), some (vI x1), none, none, none] [] M Q
  refine g_7 (a := 0) (b := 0) (nx := 1) (by decide +kernel) rfl ?_
  refine g_5 (a := 1) (b := 0) (nx := 2) (by decide +kernel) rfl ?_
  refine g_80 (a := 221) (b := 1) (nx := 5) (by decide +kernel) (r := x0) (As := [vI x1]) (st' := []) (z := 221) rfl rfl rfl (Nat.le_of_ble_eq_true rfl) h0.2 (Nat.le_of_ble_eq_true rfl) rfl (c_I (by decide +kernel) h (fun y2 M1 h => ?_))
  refine g_8 (a := 2) (b := 0) (nx := 6) (by decide +kernel) rfl (ls' := [some (vR x0), some (vI x1), some (vI y2), none, none]) rfl ?_
  refine g_1 (a := 0) (b := 0) (nx := 7) (by decide +kernel) ?_
  refine g_8 (a := 3) (b := 0) (nx := 8) (by decide +kernel) rfl (ls' := [some (vR x0), some (vI x1), some (vI y2), some (vI 0), none]) rfl ?_
  exact h
theorem t_265_8 {x0 x1 x2 x3 : Int} {l4 : Option AV} {M : Mem} {Q : AV → Mem → Prop} (h0 : gO 12 x0) (h : inR x3 ∧ (inR (12 - x2) ∧ (if (12 - x2) < x3 then (Q (vI (-1)) M) else ((0 ≤ x2 ∧ x2 < 32) ∧ WR 265 23 [some (vR x0), some (vI x1), some (vI x2), some (vI x3), some (vI (((2 : Int) * 2 ^ (x2).toNat) - 1))] [] M Q)))) : WR 265 8 [some (vR x0), some (vI x1), some (vI x2), some (vI x3), l4] [] M Q := by
  refine g_5 (a := 3) (b := 0) (nx := 9) (by decide +kernel) rfl ?_
  refine g_1 (a := 12) (b := 0) (nx := 11) (by decide +kernel) ?_
  refine g_5 (a := 2) (b := 0) (nx := 12) (by decide +kernel) rfl ?_
  refine g_16 (a := 0) (b := 0) (nx := 13) (by decide +kernel) ?_
  obtain ⟨r1, h⟩ := h
  obtain ⟨r2, h⟩ := h
  by_cases c3 : (12 - x2) < x3
  · rw [if_pos c3] at h
    refine g_41t (a := 4) (b := 62) (nx := 16) (by decide +kernel) (by rw [wr_id r1, wr_id r2]; exact (cb_4 _ _).mpr c3) ?_
    refine g_1 (a := (-1)) (b := 0) (nx := 63) (by decide +kernel) ?_
    exact g_91 (b := 0) (nx := 64) (by decide +kernel) h
  · rw [if_neg c3] at h
    refine g_41f (a := 4) (b := 62) (nx := 16) (by decide +kernel) (by rw [wr_id r1, wr_id r2]; exact fun hz => c3 ((cb_4 _ _).mp hz)) ?_
    refine g_1 (a := 2) (b := 0) (nx := 17) (by decide +kernel) ?_
    refine g_5 (a := 2) (b := 0) (nx := 18) (by decide +kernel) rfl ?_
    refine g_22 (a := 0) (b := 0) (nx := 19) (by decide +kernel) h.1 ?_
    show WR 265 19 [some (vR x0), some (vI x1), some (vI x2), some (vI x3), l4] [vI ((2 : Int) * 2 ^ (x2).toNat)] M Q
    replace h := h.2
    refine g_1 (a := 1) (b := 0) (nx := 20) (by decide +kernel) ?_
    refine g_16 (a := 0) (b := 0) (nx := 21) (by decide +kernel) ?_
    refine g_8 (a := 4) (b := 0) (nx := 23) (by decide +kernel) rfl (ls' := [some (vR x0), some (vI x1), some (vI x2), some (vI x3), some (vI (((2 : Int) * 2 ^ (x2).toNat) - 1))]) rfl ?_
    exact h
theorem t_265_23 {x0 x1 x2 x3 x4 : Int} {M : Mem} {Q : AV → Mem → Prop} (h0 : gO 12 x0) (h : inR x4 ∧ (if x4 < 0 then (WR 265 8 [some (vR x0), some (vI x1), some (vI x2), some (vI (x3 + 1)), some (vI x4)] [] M Q) else (WI 264 [vI x4] M (fun y3 M2 => inR y3 ∧ (inR x3 ∧ (if y3 = x3 then (WI 263 [vR x0, vI x1, vI x4] M2 (fun y7 M6 => inR y7 ∧ (if y7 = 0 then (WR 265 23 [some (vR x0), some (vI x1), some (vI x2), some (vI x3), some (vI (x4 + (-1)))] [] M6 Q) else (Q (vI x4) M6)))) else (WR 265 23 [some (vR x0), some (vI x1), some (vI x2), some (vI x3), some (vI (x4 + (-1)))] [] M2 Q))))))) : WR 265 23 [some (vR x0), some (vI x1), some (vI x2), some (vI x3), some (vI x4)] [] M Q := by
  refine g_5 (a := 4) (b := 0) (nx := 25) (by decide +kernel) rfl ?_
  obtain ⟨r1, h⟩ := h
  by_cases c11 : x4 < 0
  · rw [if_pos c11] at h
    refine g_40t (a := 2) (b := 56) (nx := 28) (by decide +kernel) r1 (by exact (cb_2 _ _).mpr c11) ?_
    refine g_11 (a := 3) (b := 1) (nx := 59) (by decide +kernel) rfl rfl (ls' := [some (vR x0), some (vI x1), some (vI x2), some (vI (x3 + 1)), some (vI x4)]) rfl ?_
    refine g_44 (a := 0) (b := 8) (nx := 62) (by decide +kernel) ?_
    exact h
  · rw [if_neg c11] at h
    refine g_40f (a := 2) (b := 56) (nx := 28) (by decide +kernel) r1 (by exact fun hz => c11 ((cb_2 _ _).mp hz)) ?_
    refine g_5 (a := 4) (b := 0) (nx := 30) (by decide +kernel) rfl ?_
    refine g_82 (a := 264) (b := 1) (nx := 33) (by decide +kernel) (As := [vI x4]) (st' := []) (z := 264) rfl rfl rfl (Nat.le_of_ble_eq_true rfl) (Nat.le_of_ble_eq_true rfl) rfl (c_I (by decide +kernel) h (fun y3 M2 h => ?_))
    refine g_5 (a := 3) (b := 0) (nx := 34) (by decide +kernel) rfl ?_
    obtain ⟨r4, h⟩ := h
    obtain ⟨r5, h⟩ := h
    by_cases c10 : y3 = x3
    · rw [if_pos c10] at h
      refine g_41f (a := 1) (b := 50) (nx := 37) (by decide +kernel) (by rw [wr_id r4, wr_id r5]; exact fun hz => ((cb_1 _ _).mp hz) c10) ?_
      refine g_7 (a := 0) (b := 0) (nx := 38) (by decide +kernel) rfl ?_
      refine g_5 (a := 1) (b := 0) (nx := 39) (by decide +kernel) rfl ?_
      refine g_5 (a := 4) (b := 0) (nx := 41) (by decide +kernel) rfl ?_
      refine g_80 (a := 263) (b := 2) (nx := 44) (by decide +kernel) (r := x0) (As := [vI x1, vI x4]) (st' := []) (z := 263) rfl rfl rfl (Nat.le_of_ble_eq_true rfl) h0.2 (Nat.le_of_ble_eq_true rfl) rfl (c_I (by decide +kernel) h (fun y7 M6 h => ?_))
      obtain ⟨r8, h⟩ := h
      by_cases c9 : y7 = 0
      · rw [if_pos c9] at h
        refine g_40t (a := 0) (b := 50) (nx := 47) (by decide +kernel) r8 (by exact (cb_0 _ _).mpr c9) ?_
        refine g_11 (a := 4) (b := (-1)) (nx := 53) (by decide +kernel) rfl rfl (ls' := [some (vR x0), some (vI x1), some (vI x2), some (vI x3), some (vI (x4 + (-1)))]) rfl ?_
        refine g_44 (a := 0) (b := 23) (nx := 56) (by decide +kernel) ?_
        exact h
      · rw [if_neg c9] at h
        refine g_40f (a := 0) (b := 50) (nx := 47) (by decide +kernel) r8 (by exact fun hz => c9 ((cb_0 _ _).mp hz)) ?_
        refine g_5 (a := 4) (b := 0) (nx := 49) (by decide +kernel) rfl ?_
        exact g_91 (b := 0) (nx := 50) (by decide +kernel) h
    · rw [if_neg c10] at h
      refine g_41t (a := 1) (b := 50) (nx := 37) (by decide +kernel) (by rw [wr_id r4, wr_id r5]; exact (cb_1 _ _).mpr c10) ?_
      refine g_11 (a := 4) (b := (-1)) (nx := 53) (by decide +kernel) rfl rfl (ls' := [some (vR x0), some (vI x1), some (vI x2), some (vI x3), some (vI (x4 + (-1)))]) rfl ?_
      refine g_44 (a := 0) (b := 23) (nx := 56) (by decide +kernel) ?_
      exact h
-- 266 SyllableMakerModel.mend(II)I
theorem t_266 {x0 x1 x2 : Int} {M : Mem} {Q : AV → Mem → Prop} (h0 : gO 12 x0) (h : WI 219 [vR x0, vI x1] M (fun y2 M1 => inR y2 ∧ (if y2 = 0 then (Q (vI (-1)) M1) else (inR (M1 x0 44) ∧ (if (M1 x0 44) = (-1) then (Q (vI (-2)) M1) else (WI 265 [vR x0, vI x1] M1 (fun y6 M5 => inR y6 ∧ (if y6 = (-1) then (Q (vI (-2)) M5) else (inR x2 ∧ (if x2 = (-1) then (WI 264 [vI y6] M5 (fun y13 M12 => Q (vI y13) M12)) else (if 0 ≤ x2 then (WI 221 [vR x0, vI x1] M5 (fun y10 M9 => WR 266 64 [some (vR x0), some (vI x1), some (vI x2), some (vI y6), some (vI x2), some (vI y10), some (vI 0)] [] M9 Q)) else (Q (vI (-1)) M5)))))))))))) : WC 266 [vR x0, vI x1, vI x2] M Q := by
  show WR 266 0 [some (vR x0), some (vI x1), some (vI x2), none, none, none, none] [] M Q
  refine g_7 (a := 0) (b := 0) (nx := 1) (by decide +kernel) rfl ?_
  refine g_5 (a := 1) (b := 0) (nx := 2) (by decide +kernel) rfl ?_
  refine g_80 (a := 219) (b := 1) (nx := 5) (by decide +kernel) (r := x0) (As := [vI x1]) (st' := []) (z := 219) rfl rfl rfl (Nat.le_of_ble_eq_true rfl) h0.2 (Nat.le_of_ble_eq_true rfl) rfl (c_I (by decide +kernel) h (fun y2 M1 h => ?_))
  obtain ⟨r3, h⟩ := h
  by_cases c17 : y2 = 0
  · rw [if_pos c17] at h
    refine g_40f (a := 1) (b := 10) (nx := 8) (by decide +kernel) r3 (by exact fun hz => ((cb_1 _ _).mp hz) c17) ?_
    refine g_1 (a := (-1)) (b := 0) (nx := 9) (by decide +kernel) ?_
    exact g_91 (b := 0) (nx := 10) (by decide +kernel) h
  · rw [if_neg c17] at h
    refine g_40t (a := 1) (b := 10) (nx := 8) (by decide +kernel) r3 (by exact (cb_1 _ _).mpr c17) ?_
    refine g_7 (a := 0) (b := 0) (nx := 11) (by decide +kernel) rfl ?_
    refine g_50 (a := 12) (b := 44) (nx := 14) (by decide +kernel) h0 ?_
    refine g_1 (a := (-1)) (b := 0) (nx := 15) (by decide +kernel) ?_
    obtain ⟨r4, h⟩ := h
    by_cases c16 : (M1 x0 44) = (-1)
    · rw [if_pos c16] at h
      refine g_41f (a := 1) (b := 21) (nx := 18) (by decide +kernel) (by rw [wr_id r4, wr_id (show inR (-1) by decide)]; exact fun hz => ((cb_1 _ _).mp hz) c16) ?_
      refine g_1 (a := (-2)) (b := 0) (nx := 20) (by decide +kernel) ?_
      exact g_91 (b := 0) (nx := 21) (by decide +kernel) h
    · rw [if_neg c16] at h
      refine g_41t (a := 1) (b := 21) (nx := 18) (by decide +kernel) (by rw [wr_id r4, wr_id (show inR (-1) by decide)]; exact (cb_1 _ _).mpr c16) ?_
      refine g_7 (a := 0) (b := 0) (nx := 22) (by decide +kernel) rfl ?_
      refine g_5 (a := 1) (b := 0) (nx := 23) (by decide +kernel) rfl ?_
      refine g_80 (a := 265) (b := 1) (nx := 26) (by decide +kernel) (r := x0) (As := [vI x1]) (st' := []) (z := 265) rfl rfl rfl (Nat.le_of_ble_eq_true rfl) h0.2 (Nat.le_of_ble_eq_true rfl) rfl (c_I (by decide +kernel) h (fun y6 M5 h => ?_))
      refine g_8 (a := 3) (b := 0) (nx := 27) (by decide +kernel) rfl (ls' := [some (vR x0), some (vI x1), some (vI x2), some (vI y6), none, none, none]) rfl ?_
      refine g_5 (a := 3) (b := 0) (nx := 28) (by decide +kernel) rfl ?_
      refine g_1 (a := (-1)) (b := 0) (nx := 29) (by decide +kernel) ?_
      obtain ⟨r7, h⟩ := h
      by_cases c15 : y6 = (-1)
      · rw [if_pos c15] at h
        refine g_41f (a := 1) (b := 35) (nx := 32) (by decide +kernel) (by rw [wr_id r7, wr_id (show inR (-1) by decide)]; exact fun hz => ((cb_1 _ _).mp hz) c15) ?_
        refine g_1 (a := (-2)) (b := 0) (nx := 34) (by decide +kernel) ?_
        exact g_91 (b := 0) (nx := 35) (by decide +kernel) h
      · rw [if_neg c15] at h
        refine g_41t (a := 1) (b := 35) (nx := 32) (by decide +kernel) (by rw [wr_id r7, wr_id (show inR (-1) by decide)]; exact (cb_1 _ _).mpr c15) ?_
        refine g_5 (a := 2) (b := 0) (nx := 36) (by decide +kernel) rfl ?_
        refine g_1 (a := (-1)) (b := 0) (nx := 37) (by decide +kernel) ?_
        obtain ⟨r8, h⟩ := h
        by_cases c14 : x2 = (-1)
        · rw [if_pos c14] at h
          refine g_41f (a := 1) (b := 45) (nx := 40) (by decide +kernel) (by rw [wr_id r8, wr_id (show inR (-1) by decide)]; exact fun hz => ((cb_1 _ _).mp hz) c14) ?_
          refine g_5 (a := 3) (b := 0) (nx := 41) (by decide +kernel) rfl ?_
          refine g_82 (a := 264) (b := 1) (nx := 44) (by decide +kernel) (As := [vI y6]) (st' := []) (z := 264) rfl rfl rfl (Nat.le_of_ble_eq_true rfl) (Nat.le_of_ble_eq_true rfl) rfl (c_I (by decide +kernel) h (fun y13 M12 h => ?_))
          exact g_91 (b := 0) (nx := 45) (by decide +kernel) h
        · rw [if_neg c14] at h
          refine g_41t (a := 1) (b := 45) (nx := 40) (by decide +kernel) (by rw [wr_id r8, wr_id (show inR (-1) by decide)]; exact (cb_1 _ _).mpr c14) ?_
          refine g_5 (a := 2) (b := 0) (nx := 46) (by decide +kernel) rfl ?_
          by_cases c11 : 0 ≤ x2
          · rw [if_pos c11] at h
            refine g_40t (a := 3) (b := 51) (nx := 49) (by decide +kernel) r8 (by exact (cb_3 _ _).mpr c11) ?_
            refine g_5 (a := 2) (b := 0) (nx := 52) (by decide +kernel) rfl ?_
            refine g_8 (a := 4) (b := 0) (nx := 54) (by decide +kernel) rfl (ls' := [some (vR x0), some (vI x1), some (vI x2), some (vI y6), some (vI x2), none, none]) rfl ?_
            refine g_7 (a := 0) (b := 0) (nx := 55) (by decide +kernel) rfl ?_
            refine g_5 (a := 1) (b := 0) (nx := 56) (by decide +kernel) rfl ?_
            refine g_80 (a := 221) (b := 1) (nx := 59) (by decide +kernel) (r := x0) (As := [vI x1]) (st' := []) (z := 221) rfl rfl rfl (Nat.le_of_ble_eq_true rfl) h0.2 (Nat.le_of_ble_eq_true rfl) rfl (c_I (by decide +kernel) h (fun y10 M9 h => ?_))
            refine g_8 (a := 5) (b := 0) (nx := 61) (by decide +kernel) rfl (ls' := [some (vR x0), some (vI x1), some (vI x2), some (vI y6), some (vI x2), some (vI y10), none]) rfl ?_
            refine g_1 (a := 0) (b := 0) (nx := 62) (by decide +kernel) ?_
            refine g_8 (a := 6) (b := 0) (nx := 64) (by decide +kernel) rfl (ls' := [some (vR x0), some (vI x1), some (vI x2), some (vI y6), some (vI x2), some (vI y10), some (vI 0)]) rfl ?_
            exact h
          · rw [if_neg c11] at h
            refine g_40f (a := 3) (b := 51) (nx := 49) (by decide +kernel) r8 (by exact fun hz => c11 ((cb_3 _ _).mp hz)) ?_
            refine g_1 (a := (-1)) (b := 0) (nx := 50) (by decide +kernel) ?_
            exact g_91 (b := 0) (nx := 51) (by decide +kernel) h
theorem t_266_64 {x0 x1 x2 x3 x4 x5 x6 : Int} {M : Mem} {Q : AV → Mem → Prop} (h0 : gO 12 x0) (h : inR x6 ∧ (inR x5 ∧ (if x5 < x6 then (Q (vI (-1)) M) else ((0 ≤ (x5 - x6) ∧ (x5 - x6) < 32 ∧ -2147483648 ≤ x3 ∧ x3 < 2147483648) ∧ inR (and32 (x3 / 2 ^ ((x5 - x6)).toNat) 1) ∧ (if (and32 (x3 / 2 ^ ((x5 - x6)).toNat) 1) = 0 then (WR 266 64 [some (vR x0), some (vI x1), some (vI x2), some (vI x3), some (vI x4), some (vI x5), some (vI (x6 + 1))] [] M Q) else (inR x4 ∧ (if x4 = 0 then (Q (vI x6) M) else (WR 266 64 [some (vR x0), some (vI x1), some (vI x2), some (vI x3), some (vI (x4 + (-1))), some (vI x5), some (vI (x6 + 1))] [] M Q)))))))) : WR 266 64 [some (vR x0), some (vI x1), some (vI x2), some (vI x3), some (vI x4), some (vI x5), some (vI x6)] [] M Q := by
  refine g_5 (a := 6) (b := 0) (nx := 66) (by decide +kernel) rfl ?_
  refine g_5 (a := 5) (b := 0) (nx := 68) (by decide +kernel) rfl ?_
  obtain ⟨r1, h⟩ := h
  obtain ⟨r2, h⟩ := h
  by_cases c7 : x5 < x6
  · rw [if_pos c7] at h
    refine g_41t (a := 4) (b := 103) (nx := 71) (by decide +kernel) (by rw [wr_id r1, wr_id r2]; exact (cb_4 _ _).mpr c7) ?_
    refine g_1 (a := (-1)) (b := 0) (nx := 104) (by decide +kernel) ?_
    exact g_91 (b := 0) (nx := 105) (by decide +kernel) h
  · rw [if_neg c7] at h
    refine g_41f (a := 4) (b := 103) (nx := 71) (by decide +kernel) (by rw [wr_id r1, wr_id r2]; exact fun hz => c7 ((cb_4 _ _).mp hz)) ?_
    refine g_5 (a := 3) (b := 0) (nx := 72) (by decide +kernel) rfl ?_
    refine g_5 (a := 5) (b := 0) (nx := 74) (by decide +kernel) rfl ?_
    refine g_5 (a := 6) (b := 0) (nx := 76) (by decide +kernel) rfl ?_
    refine g_16 (a := 0) (b := 0) (nx := 77) (by decide +kernel) ?_
    refine g_23 (a := 0) (b := 0) (nx := 78) (by decide +kernel) h.1 ?_
    show WR 266 78 [some (vR x0), some (vI x1), some (vI x2), some (vI x3), some (vI x4), some (vI x5), some (vI x6)] [vI (x3 / 2 ^ ((x5 - x6)).toNat)] M Q
    replace h := h.2
    refine g_1 (a := 1) (b := 0) (nx := 79) (by decide +kernel) ?_
    refine g_20 (a := 0) (b := 0) (nx := 80) (by decide +kernel) ?_
    obtain ⟨r3, h⟩ := h
    by_cases c6 : (and32 (x3 / 2 ^ ((x5 - x6)).toNat) 1) = 0
    · rw [if_pos c6] at h
      refine g_40f (a := 1) (b := 86) (nx := 83) (by decide +kernel) r3 (by exact fun hz => ((cb_1 _ _).mp hz) c6) ?_
      refine g_44 (a := 0) (b := 97) (nx := 86) (by decide +kernel) ?_
      refine g_11 (a := 6) (b := 1) (nx := 100) (by decide +kernel) rfl rfl (ls' := [some (vR x0), some (vI x1), some (vI x2), some (vI x3), some (vI x4), some (vI x5), some (vI (x6 + 1))]) rfl ?_
      refine g_44 (a := 0) (b := 64) (nx := 103) (by decide +kernel) ?_
      exact h
    · rw [if_neg c6] at h
      refine g_40t (a := 1) (b := 86) (nx := 83) (by decide +kernel) r3 (by exact (cb_1 _ _).mpr c6) ?_
      refine g_5 (a := 4) (b := 0) (nx := 88) (by decide +kernel) rfl ?_
      obtain ⟨r4, h⟩ := h
      by_cases c5 : x4 = 0
      · rw [if_pos c5] at h
        refine g_40f (a := 1) (b := 94) (nx := 91) (by decide +kernel) r4 (by exact fun hz => ((cb_1 _ _).mp hz) c5) ?_
        refine g_5 (a := 6) (b := 0) (nx := 93) (by decide +kernel) rfl ?_
        exact g_91 (b := 0) (nx := 94) (by decide +kernel) h
      · rw [if_neg c5] at h
        refine g_40t (a := 1) (b := 94) (nx := 91) (by decide +kernel) r4 (by exact (cb_1 _ _).mpr c5) ?_
        refine g_11 (a := 4) (b := (-1)) (nx := 97) (by decide +kernel) rfl rfl (ls' := [some (vR x0), some (vI x1), some (vI x2), some (vI x3), some (vI (x4 + (-1))), some (vI x5), some (vI x6)]) rfl ?_
        refine g_11 (a := 6) (b := 1) (nx := 100) (by decide +kernel) rfl rfl (ls' := [some (vR x0), some (vI x1), some (vI x2), some (vI x3), some (vI (x4 + (-1))), some (vI x5), some (vI (x6 + 1))]) rfl ?_
        refine g_44 (a := 0) (b := 64) (nx := 103) (by decide +kernel) ?_
        exact h
-- 267 SyllableMakerModel.unlike(II)I
theorem t_267 {x0 x1 x2 : Int} {M : Mem} {Q : AV → Mem → Prop} (h0 : gO 12 x0) (h : inR x1 ∧ (inR x2 ∧ (if x1 = x2 then (Q (vI 0) M) else ((gA 20 (M x0 50) x1) ∧ (gA 20 (M x0 50) x2) ∧ inR ((M (M x0 50) x1) - (M (M x0 50) x2)) ∧ (if 0 ≤ ((M (M x0 50) x1) - (M (M x0 50) x2)) then ((gA 20 (M x0 51) x1) ∧ (gA 20 (M x0 51) x2) ∧ inR (M (M x0 51) x1) ∧ (inR (M (M x0 51) x2) ∧ (if (M (M x0 51) x1) = (M (M x0 51) x2) then (WI 180 [vI 1, vI (((M (M x0 50) x1) - (M (M x0 50) x2)) + 0)] M (fun y7 M6 => Q (vI y7) M6)) else (WI 180 [vI 1, vI (((M (M x0 50) x1) - (M (M x0 50) x2)) + 3)] M (fun y9 M8 => Q (vI y9) M8))))) else ((gA 20 (M x0 51) x1) ∧ (gA 20 (M x0 51) x2) ∧ inR (M (M x0 51) x1) ∧ (inR (M (M x0 51) x2) ∧ (if (M (M x0 51) x1) = (M (M x0 51) x2) then (WI 180 [vI 1, vI ((-((M (M x0 50) x1) - (M (M x0 50) x2))) + 0)] M (fun y14 M13 => Q (vI y14) M13)) else (WI 180 [vI 1, vI ((-((M (M x0 50) x1) - (M (M x0 50) x2))) + 3)] M (fun y16 M15 => Q (vI y16) M15)))))))))) : WC 267 [vR x0, vI x1, vI x2] M Q := by
  show WR 267 0 [some (vR x0), some (vI x1), some (vI x2), none] [] M Q
  refine g_5 (a := 1) (b := 0) (nx := 1) (by decide +kernel) rfl ?_
  refine g_5 (a := 2) (b := 0) (nx := 2) (by decide +kernel) rfl ?_
  obtain ⟨r1, h⟩ := h
  obtain ⟨r2, h⟩ := h
  by_cases c19 : x1 = x2
  · rw [if_pos c19] at h
    refine g_41f (a := 1) (b := 7) (nx := 5) (by decide +kernel) (by rw [wr_id r1, wr_id r2]; exact fun hz => ((cb_1 _ _).mp hz) c19) ?_
    refine g_1 (a := 0) (b := 0) (nx := 6) (by decide +kernel) ?_
    exact g_91 (b := 0) (nx := 7) (by decide +kernel) h
  · rw [if_neg c19] at h
    refine g_41t (a := 1) (b := 7) (nx := 5) (by decide +kernel) (by rw [wr_id r1, wr_id r2]; exact (cb_1 _ _).mpr c19) ?_
    refine g_7 (a := 0) (b := 0) (nx := 8) (by decide +kernel) rfl ?_
    refine g_52 (a := 12) (b := 50) (nx := 11) (by decide +kernel) h0 ?_
    refine g_5 (a := 1) (b := 0) (nx := 12) (by decide +kernel) rfl ?_
    refine g_61 (a := 0) (b := 0) (nx := 13) (by decide +kernel) h.1 ?_
    replace h := h.2
    refine g_7 (a := 0) (b := 0) (nx := 14) (by decide +kernel) rfl ?_
    refine g_52 (a := 12) (b := 50) (nx := 17) (by decide +kernel) h0 ?_
    refine g_5 (a := 2) (b := 0) (nx := 18) (by decide +kernel) rfl ?_
    refine g_61 (a := 0) (b := 0) (nx := 19) (by decide +kernel) h.1 ?_
    replace h := h.2
    refine g_16 (a := 0) (b := 0) (nx := 20) (by decide +kernel) ?_
    refine g_8 (a := 3) (b := 0) (nx := 21) (by decide +kernel) rfl (ls' := [some (vR x0), some (vI x1), some (vI x2), some (vI ((M (M x0 50) x1) - (M (M x0 50) x2)))]) rfl ?_
    refine g_1 (a := 1) (b := 0) (nx := 22) (by decide +kernel) ?_
    refine g_5 (a := 3) (b := 0) (nx := 23) (by decide +kernel) rfl ?_
    obtain ⟨r3, h⟩ := h
    by_cases c18 : 0 ≤ ((M (M x0 50) x1) - (M (M x0 50) x2))
    · rw [if_pos c18] at h
      refine g_40t (a := 3) (b := 31) (nx := 26) (by decide +kernel) r3 (by exact (cb_3 _ _).mpr c18) ?_
      refine g_5 (a := 3) (b := 0) (nx := 32) (by decide +kernel) rfl ?_
      refine g_7 (a := 0) (b := 0) (nx := 33) (by decide +kernel) rfl ?_
      refine g_52 (a := 12) (b := 51) (nx := 36) (by decide +kernel) h0 ?_
      refine g_5 (a := 1) (b := 0) (nx := 37) (by decide +kernel) rfl ?_
      refine g_61 (a := 0) (b := 0) (nx := 38) (by decide +kernel) h.1 ?_
      replace h := h.2
      refine g_7 (a := 0) (b := 0) (nx := 39) (by decide +kernel) rfl ?_
      refine g_52 (a := 12) (b := 51) (nx := 42) (by decide +kernel) h0 ?_
      refine g_5 (a := 2) (b := 0) (nx := 43) (by decide +kernel) rfl ?_
      refine g_61 (a := 0) (b := 0) (nx := 44) (by decide +kernel) h.1 ?_
      replace h := h.2
      obtain ⟨r4, h⟩ := h
      obtain ⟨r5, h⟩ := h
      by_cases c10 : (M (M x0 51) x1) = (M (M x0 51) x2)
      · rw [if_pos c10] at h
        refine g_41t (a := 0) (b := 51) (nx := 47) (by decide +kernel) (by rw [wr_id r4, wr_id r5]; exact (cb_0 _ _).mpr c10) ?_
        refine g_1 (a := 0) (b := 0) (nx := 52) (by decide +kernel) ?_
        refine g_15 (a := 0) (b := 0) (nx := 53) (by decide +kernel) ?_
        refine g_82 (a := 180) (b := 2) (nx := 56) (by decide +kernel) (As := [vI 1, vI (((M (M x0 50) x1) - (M (M x0 50) x2)) + 0)]) (st' := []) (z := 180) rfl rfl rfl (Nat.le_of_ble_eq_true rfl) (Nat.le_of_ble_eq_true rfl) rfl (c_I (by decide +kernel) h (fun y7 M6 h => ?_))
        exact g_91 (b := 0) (nx := 57) (by decide +kernel) h
      · rw [if_neg c10] at h
        refine g_41f (a := 0) (b := 51) (nx := 47) (by decide +kernel) (by rw [wr_id r4, wr_id r5]; exact fun hz => c10 ((cb_0 _ _).mp hz)) ?_
        refine g_1 (a := 3) (b := 0) (nx := 48) (by decide +kernel) ?_
        refine g_44 (a := 0) (b := 52) (nx := 51) (by decide +kernel) ?_
        refine g_15 (a := 0) (b := 0) (nx := 53) (by decide +kernel) ?_
        refine g_82 (a := 180) (b := 2) (nx := 56) (by decide +kernel) (As := [vI 1, vI (((M (M x0 50) x1) - (M (M x0 50) x2)) + 3)]) (st' := []) (z := 180) rfl rfl rfl (Nat.le_of_ble_eq_true rfl) (Nat.le_of_ble_eq_true rfl) rfl (c_I (by decide +kernel) h (fun y9 M8 h => ?_))
        exact g_91 (b := 0) (nx := 57) (by decide +kernel) h
    · rw [if_neg c18] at h
      refine g_40f (a := 3) (b := 31) (nx := 26) (by decide +kernel) r3 (by exact fun hz => c18 ((cb_3 _ _).mp hz)) ?_
      refine g_5 (a := 3) (b := 0) (nx := 27) (by decide +kernel) rfl ?_
      refine g_18 (a := 0) (b := 0) (nx := 28) (by decide +kernel) ?_
      refine g_44 (a := 0) (b := 32) (nx := 31) (by decide +kernel) ?_
      refine g_7 (a := 0) (b := 0) (nx := 33) (by decide +kernel) rfl ?_
      refine g_52 (a := 12) (b := 51) (nx := 36) (by decide +kernel) h0 ?_
      refine g_5 (a := 1) (b := 0) (nx := 37) (by decide +kernel) rfl ?_
      refine g_61 (a := 0) (b := 0) (nx := 38) (by decide +kernel) h.1 ?_
      replace h := h.2
      refine g_7 (a := 0) (b := 0) (nx := 39) (by decide +kernel) rfl ?_
      refine g_52 (a := 12) (b := 51) (nx := 42) (by decide +kernel) h0 ?_
      refine g_5 (a := 2) (b := 0) (nx := 43) (by decide +kernel) rfl ?_
      refine g_61 (a := 0) (b := 0) (nx := 44) (by decide +kernel) h.1 ?_
      replace h := h.2
      obtain ⟨r11, h⟩ := h
      obtain ⟨r12, h⟩ := h
      by_cases c17 : (M (M x0 51) x1) = (M (M x0 51) x2)
      · rw [if_pos c17] at h
        refine g_41t (a := 0) (b := 51) (nx := 47) (by decide +kernel) (by rw [wr_id r11, wr_id r12]; exact (cb_0 _ _).mpr c17) ?_
        refine g_1 (a := 0) (b := 0) (nx := 52) (by decide +kernel) ?_
        refine g_15 (a := 0) (b := 0) (nx := 53) (by decide +kernel) ?_
        refine g_82 (a := 180) (b := 2) (nx := 56) (by decide +kernel) (As := [vI 1, vI ((-((M (M x0 50) x1) - (M (M x0 50) x2))) + 0)]) (st' := []) (z := 180) rfl rfl rfl (Nat.le_of_ble_eq_true rfl) (Nat.le_of_ble_eq_true rfl) rfl (c_I (by decide +kernel) h (fun y14 M13 h => ?_))
        exact g_91 (b := 0) (nx := 57) (by decide +kernel) h
      · rw [if_neg c17] at h
        refine g_41f (a := 0) (b := 51) (nx := 47) (by decide +kernel) (by rw [wr_id r11, wr_id r12]; exact fun hz => c17 ((cb_0 _ _).mp hz)) ?_
        refine g_1 (a := 3) (b := 0) (nx := 48) (by decide +kernel) ?_
        refine g_44 (a := 0) (b := 52) (nx := 51) (by decide +kernel) ?_
        refine g_15 (a := 0) (b := 0) (nx := 53) (by decide +kernel) ?_
        refine g_82 (a := 180) (b := 2) (nx := 56) (by decide +kernel) (As := [vI 1, vI ((-((M (M x0 50) x1) - (M (M x0 50) x2))) + 3)]) (st' := []) (z := 180) rfl rfl rfl (Nat.le_of_ble_eq_true rfl) (Nat.le_of_ble_eq_true rfl) rfl (c_I (by decide +kernel) h (fun y16 M15 h => ?_))
        exact g_91 (b := 0) (nx := 57) (by decide +kernel) h
-- 268 SyllableMakerModel.farOf(II)I
theorem t_268 {x0 x1 x2 : Int} {M : Mem} {Q : AV → Mem → Prop} (h0 : gO 12 x0) (h : WI 221 [vR x0, vI x1] M (fun y2 M1 => WI 221 [vR x0, vI x2] M1 (fun y4 M3 => WR 268 16 [some (vR x0), some (vI x1), some (vI x2), some (vI y2), some (vI y4), some (vI 0), none] [] M3 Q))) : WC 268 [vR x0, vI x1, vI x2] M Q := by
  show WR 268 0 [some (vR x0), some (vI x1), some (vI x2), none, none, none, none] [] M Q
  refine g_7 (a := 0) (b := 0) (nx := 1) (by decide +kernel) rfl ?_
  refine g_5 (a := 1) (b := 0) (nx := 2) (by decide +kernel) rfl ?_
  refine g_80 (a := 221) (b := 1) (nx := 5) (by decide +kernel) (r := x0) (As := [vI x1]) (st' := []) (z := 221) rfl rfl rfl (Nat.le_of_ble_eq_true rfl) h0.2 (Nat.le_of_ble_eq_true rfl) rfl (c_I (by decide +kernel) h (fun y2 M1 h => ?_))
  refine g_8 (a := 3) (b := 0) (nx := 6) (by decide +kernel) rfl (ls' := [some (vR x0), some (vI x1), some (vI x2), some (vI y2), none, none, none]) rfl ?_
  refine g_7 (a := 0) (b := 0) (nx := 7) (by decide +kernel) rfl ?_
  refine g_5 (a := 2) (b := 0) (nx := 8) (by decide +kernel) rfl ?_
  refine g_80 (a := 221) (b := 1) (nx := 11) (by decide +kernel) (r := x0) (As := [vI x2]) (st' := []) (z := 221) rfl rfl rfl (Nat.le_of_ble_eq_true rfl) h0.2 (Nat.le_of_ble_eq_true rfl) rfl (c_I (by decide +kernel) h (fun y4 M3 h => ?_))
  refine g_8 (a := 4) (b := 0) (nx := 13) (by decide +kernel) rfl (ls' := [some (vR x0), some (vI x1), some (vI x2), some (vI y2), some (vI y4), none, none]) rfl ?_
  refine g_1 (a := 0) (b := 0) (nx := 14) (by decide +kernel) ?_
  refine g_8 (a := 5) (b := 0) (nx := 16) (by decide +kernel) rfl (ls' := [some (vR x0), some (vI x1), some (vI x2), some (vI y2), some (vI y4), some (vI 0), none]) rfl ?_
  exact h
theorem t_268_16 {x0 x1 x2 x3 x4 x5 : Int} {M : Mem} {Q : AV → Mem → Prop} (h0 : gO 12 x0) (h : inR x5 ∧ (inR x4 ∧ (if x4 < x5 then (WR 268 43 [some (vR x0), some (vI x1), some (vI x2), some (vI x3), some (vI x4), some (vI 0), none] [] M Q) else ((gA 20 (M x0 74) x5) ∧ WR 268 16 [some (vR x0), some (vI x1), some (vI x2), some (vI x3), some (vI x4), some (vI (x5 + 1)), none] [] (upM M (M x0 74) x5 (5 * x5)) Q)))) : WR 268 16 [some (vR x0), some (vI x1), some (vI x2), some (vI x3), some (vI x4), some (vI x5), none] [] M Q := by
  refine g_5 (a := 5) (b := 0) (nx := 18) (by decide +kernel) rfl ?_
  refine g_5 (a := 4) (b := 0) (nx := 20) (by decide +kernel) rfl ?_
  obtain ⟨r1, h⟩ := h
  obtain ⟨r2, h⟩ := h
  by_cases c3 : x4 < x5
  · rw [if_pos c3] at h
    refine g_41t (a := 4) (b := 40) (nx := 23) (by decide +kernel) (by rw [wr_id r1, wr_id r2]; exact (cb_4 _ _).mpr c3) ?_
    refine g_1 (a := 0) (b := 0) (nx := 41) (by decide +kernel) ?_
    refine g_8 (a := 5) (b := 0) (nx := 43) (by decide +kernel) rfl (ls' := [some (vR x0), some (vI x1), some (vI x2), some (vI x3), some (vI x4), some (vI 0), none]) rfl ?_
    exact h
  · rw [if_neg c3] at h
    refine g_41f (a := 4) (b := 40) (nx := 23) (by decide +kernel) (by rw [wr_id r1, wr_id r2]; exact fun hz => c3 ((cb_4 _ _).mp hz)) ?_
    refine g_7 (a := 0) (b := 0) (nx := 24) (by decide +kernel) rfl ?_
    refine g_52 (a := 12) (b := 74) (nx := 27) (by decide +kernel) h0 ?_
    refine g_5 (a := 5) (b := 0) (nx := 29) (by decide +kernel) rfl ?_
    refine g_1 (a := 5) (b := 0) (nx := 30) (by decide +kernel) ?_
    refine g_5 (a := 5) (b := 0) (nx := 32) (by decide +kernel) rfl ?_
    refine g_17 (a := 0) (b := 0) (nx := 33) (by decide +kernel) ?_
    refine g_62 (a := 0) (b := 0) (nx := 34) (by decide +kernel) h.1 ?_
    replace h := h.2
    refine g_11 (a := 5) (b := 1) (nx := 37) (by decide +kernel) rfl rfl (ls' := [some (vR x0), some (vI x1), some (vI x2), some (vI x3), some (vI x4), some (vI (x5 + 1)), none]) rfl ?_
    refine g_44 (a := 0) (b := 16) (nx := 40) (by decide +kernel) ?_
    exact h
theorem t_268_43 {x0 x1 x2 x3 x4 x5 : Int} {l6 : Option AV} {M : Mem} {Q : AV → Mem → Prop} (h0 : gO 12 x0) (h : inR x5 ∧ (inR x3 ∧ (if x3 ≤ x5 then ((gA 20 (M x0 74) x4) ∧ Q (vI (M (M x0 74) x4)) M) else ((gA 20 (M x0 75) 0) ∧ WR 268 64 [some (vR x0), some (vI x1), some (vI x2), some (vI x3), some (vI x4), some (vI x5), some (vI 0)] [] (upM M (M x0 75) 0 (5 * (x5 + 1))) Q)))) : WR 268 43 [some (vR x0), some (vI x1), some (vI x2), some (vI x3), some (vI x4), some (vI x5), l6] [] M Q := by
  refine g_5 (a := 5) (b := 0) (nx := 45) (by decide +kernel) rfl ?_
  refine g_5 (a := 3) (b := 0) (nx := 46) (by decide +kernel) rfl ?_
  obtain ⟨r1, h⟩ := h
  obtain ⟨r2, h⟩ := h
  by_cases c3 : x3 ≤ x5
  · rw [if_pos c3] at h
    refine g_41t (a := 3) (b := 172) (nx := 49) (by decide +kernel) (by rw [wr_id r1, wr_id r2]; exact (cb_3 _ _).mpr c3) ?_
    refine g_7 (a := 0) (b := 0) (nx := 173) (by decide +kernel) rfl ?_
    refine g_52 (a := 12) (b := 74) (nx := 176) (by decide +kernel) h0 ?_
    refine g_5 (a := 4) (b := 0) (nx := 178) (by decide +kernel) rfl ?_
    refine g_61 (a := 0) (b := 0) (nx := 179) (by decide +kernel) h.1 ?_
    replace h := h.2
    exact g_91 (b := 0) (nx := 180) (by decide +kernel) h
  · rw [if_neg c3] at h
    refine g_41f (a := 3) (b := 172) (nx := 49) (by decide +kernel) (by rw [wr_id r1, wr_id r2]; exact fun hz => c3 ((cb_3 _ _).mp hz)) ?_
    refine g_7 (a := 0) (b := 0) (nx := 50) (by decide +kernel) rfl ?_
    refine g_52 (a := 12) (b := 75) (nx := 53) (by decide +kernel) h0 ?_
    refine g_1 (a := 0) (b := 0) (nx := 54) (by decide +kernel) ?_
    refine g_1 (a := 5) (b := 0) (nx := 55) (by decide +kernel) ?_
    refine g_5 (a := 5) (b := 0) (nx := 57) (by decide +kernel) rfl ?_
    refine g_1 (a := 1) (b := 0) (nx := 58) (by decide +kernel) ?_
    refine g_15 (a := 0) (b := 0) (nx := 59) (by decide +kernel) ?_
    refine g_17 (a := 0) (b := 0) (nx := 60) (by decide +kernel) ?_
    refine g_62 (a := 0) (b := 0) (nx := 61) (by decide +kernel) h.1 ?_
    replace h := h.2
    refine g_1 (a := 0) (b := 0) (nx := 62) (by decide +kernel) ?_
    refine g_8 (a := 6) (b := 0) (nx := 64) (by decide +kernel) rfl (ls' := [some (vR x0), some (vI x1), some (vI x2), some (vI x3), some (vI x4), some (vI x5), some (vI 0)]) rfl ?_
    exact h
theorem t_268_64 {x0 x1 x2 x3 x4 x5 x6 : Int} {M : Mem} {Q : AV → Mem → Prop} (h0 : gO 12 x0) (h : inR x6 ∧ (inR x4 ∧ (if x4 ≤ x6 then (WR 268 139 [some (vR x0), some (vI x1), some (vI x2), some (vI x3), some (vI x4), some (vI x5), some (vI 0)] [] M Q) else ((gA 20 (M x0 74) x6) ∧ WI 222 [vR x0, vI x1, vI x5] M (fun y4 M3 => WI 222 [vR x0, vI x2, vI x6] M3 (fun y6 M5 => WI 267 [vR x0, vI y4, vI y6] M5 (fun y8 M7 => (gA 20 (M7 x0 74) (x6 + 1)) ∧ (gA 20 (M7 x0 75) x6) ∧ WI 179 [vI (M7 (M7 x0 74) (x6 + 1)), vI (M7 (M7 x0 75) x6)] M7 (fun y10 M9 => WI 179 [vI ((M (M x0 74) x6) + y8), vI (5 + y10)] M9 (fun y12 M11 => (gA 20 (M x0 75) (x6 + 1)) ∧ WR 268 64 [some (vR x0), some (vI x1), some (vI x2), some (vI x3), some (vI x4), some (vI x5), some (vI (x6 + 1))] [] (upM M11 (M x0 75) (x6 + 1) y12) Q))))))))) : WR 268 64 [some (vR x0), some (vI x1), some (vI x2), some (vI x3), some (vI x4), some (vI x5), some (vI x6)] [] M Q := by
  refine g_5 (a := 6) (b := 0) (nx := 66) (by decide +kernel) rfl ?_
  refine g_5 (a := 4) (b := 0) (nx := 68) (by decide +kernel) rfl ?_
  obtain ⟨r1, h⟩ := h
  obtain ⟨r2, h⟩ := h
  by_cases c13 : x4 ≤ x6
  · rw [if_pos c13] at h
    refine g_41t (a := 3) (b := 136) (nx := 71) (by decide +kernel) (by rw [wr_id r1, wr_id r2]; exact (cb_3 _ _).mpr c13) ?_
    refine g_1 (a := 0) (b := 0) (nx := 137) (by decide +kernel) ?_
    refine g_8 (a := 6) (b := 0) (nx := 139) (by decide +kernel) rfl (ls' := [some (vR x0), some (vI x1), some (vI x2), some (vI x3), some (vI x4), some (vI x5), some (vI 0)]) rfl ?_
    exact h
  · rw [if_neg c13] at h
    refine g_41f (a := 3) (b := 136) (nx := 71) (by decide +kernel) (by rw [wr_id r1, wr_id r2]; exact fun hz => c13 ((cb_3 _ _).mp hz)) ?_
    refine g_7 (a := 0) (b := 0) (nx := 72) (by decide +kernel) rfl ?_
    refine g_52 (a := 12) (b := 75) (nx := 75) (by decide +kernel) h0 ?_
    refine g_5 (a := 6) (b := 0) (nx := 77) (by decide +kernel) rfl ?_
    refine g_1 (a := 1) (b := 0) (nx := 78) (by decide +kernel) ?_
    refine g_15 (a := 0) (b := 0) (nx := 79) (by decide +kernel) ?_
    refine g_7 (a := 0) (b := 0) (nx := 80) (by decide +kernel) rfl ?_
    refine g_52 (a := 12) (b := 74) (nx := 83) (by decide +kernel) h0 ?_
    refine g_5 (a := 6) (b := 0) (nx := 85) (by decide +kernel) rfl ?_
    refine g_61 (a := 0) (b := 0) (nx := 86) (by decide +kernel) h.1 ?_
    replace h := h.2
    refine g_7 (a := 0) (b := 0) (nx := 87) (by decide +kernel) rfl ?_
    refine g_7 (a := 0) (b := 0) (nx := 88) (by decide +kernel) rfl ?_
    refine g_5 (a := 1) (b := 0) (nx := 89) (by decide +kernel) rfl ?_
    refine g_5 (a := 5) (b := 0) (nx := 91) (by decide +kernel) rfl ?_
    refine g_80 (a := 222) (b := 2) (nx := 94) (by decide +kernel) (r := x0) (As := [vI x1, vI x5]) (st' := [vR x0, vI (M (M x0 74) x6), vI (x6 + 1), vR (M x0 75)]) (z := 222) rfl rfl rfl (Nat.le_of_ble_eq_true rfl) h0.2 (Nat.le_of_ble_eq_true rfl) rfl (c_I (by decide +kernel) h (fun y4 M3 h => ?_))
    refine g_7 (a := 0) (b := 0) (nx := 95) (by decide +kernel) rfl ?_
    refine g_5 (a := 2) (b := 0) (nx := 96) (by decide +kernel) rfl ?_
    refine g_5 (a := 6) (b := 0) (nx := 98) (by decide +kernel) rfl ?_
    refine g_80 (a := 222) (b := 2) (nx := 101) (by decide +kernel) (r := x0) (As := [vI x2, vI x6]) (st' := [vI y4, vR x0, vI (M (M x0 74) x6), vI (x6 + 1), vR (M x0 75)]) (z := 222) rfl rfl rfl (Nat.le_of_ble_eq_true rfl) h0.2 (Nat.le_of_ble_eq_true rfl) rfl (c_I (by decide +kernel) h (fun y6 M5 h => ?_))
    refine g_80 (a := 267) (b := 2) (nx := 104) (by decide +kernel) (r := x0) (As := [vI y4, vI y6]) (st' := [vI (M (M x0 74) x6), vI (x6 + 1), vR (M x0 75)]) (z := 267) rfl rfl rfl (Nat.le_of_ble_eq_true rfl) h0.2 (Nat.le_of_ble_eq_true rfl) rfl (c_I (by decide +kernel) h (fun y8 M7 h => ?_))
    refine g_15 (a := 0) (b := 0) (nx := 105) (by decide +kernel) ?_
    refine g_1 (a := 5) (b := 0) (nx := 106) (by decide +kernel) ?_
    refine g_7 (a := 0) (b := 0) (nx := 107) (by decide +kernel) rfl ?_
    refine g_52 (a := 12) (b := 74) (nx := 110) (by decide +kernel) h0 ?_
    refine g_5 (a := 6) (b := 0) (nx := 112) (by decide +kernel) rfl ?_
    refine g_1 (a := 1) (b := 0) (nx := 113) (by decide +kernel) ?_
    refine g_15 (a := 0) (b := 0) (nx := 114) (by decide +kernel) ?_
    refine g_61 (a := 0) (b := 0) (nx := 115) (by decide +kernel) h.1 ?_
    replace h := h.2
    refine g_7 (a := 0) (b := 0) (nx := 116) (by decide +kernel) rfl ?_
    refine g_52 (a := 12) (b := 75) (nx := 119) (by decide +kernel) h0 ?_
    refine g_5 (a := 6) (b := 0) (nx := 121) (by decide +kernel) rfl ?_
    refine g_61 (a := 0) (b := 0) (nx := 122) (by decide +kernel) h.1 ?_
    replace h := h.2
    refine g_82 (a := 179) (b := 2) (nx := 125) (by decide +kernel) (As := [vI (M7 (M7 x0 74) (x6 + 1)), vI (M7 (M7 x0 75) x6)]) (st' := [vI 5, vI ((M (M x0 74) x6) + y8), vI (x6 + 1), vR (M x0 75)]) (z := 179) rfl rfl rfl (Nat.le_of_ble_eq_true rfl) (Nat.le_of_ble_eq_true rfl) rfl (c_I (by decide +kernel) h (fun y10 M9 h => ?_))
    refine g_15 (a := 0) (b := 0) (nx := 126) (by decide +kernel) ?_
    refine g_82 (a := 179) (b := 2) (nx := 129) (by decide +kernel) (As := [vI ((M (M x0 74) x6) + y8), vI (5 + y10)]) (st' := [vI (x6 + 1), vR (M x0 75)]) (z := 179) rfl rfl rfl (Nat.le_of_ble_eq_true rfl) (Nat.le_of_ble_eq_true rfl) rfl (c_I (by decide +kernel) h (fun y12 M11 h => ?_))
    refine g_62 (a := 0) (b := 0) (nx := 130) (by decide +kernel) h.1 ?_
    replace h := h.2
    refine g_11 (a := 6) (b := 1) (nx := 133) (by decide +kernel) rfl rfl (ls' := [some (vR x0), some (vI x1), some (vI x2), some (vI x3), some (vI x4), some (vI x5), some (vI (x6 + 1))]) rfl ?_
    refine g_44 (a := 0) (b := 64) (nx := 136) (by decide +kernel) ?_
    exact h
theorem t_268_139 {x0 x1 x2 x3 x4 x5 x6 : Int} {M : Mem} {Q : AV → Mem → Prop} (h0 : gO 12 x0) (h : inR x6 ∧ (inR x4 ∧ (if x4 < x6 then (WR 268 43 [some (vR x0), some (vI x1), some (vI x2), some (vI x3), some (vI x4), some (vI (x5 + 1)), some (vI x6)] [] M Q) else ((gA 20 (M x0 75) x6) ∧ (gA 20 (M x0 74) x6) ∧ WR 268 139 [some (vR x0), some (vI x1), some (vI x2), some (vI x3), some (vI x4), some (vI x5), some (vI (x6 + 1))] [] (upM M (M x0 74) x6 (M (M x0 75) x6)) Q)))) : WR 268 139 [some (vR x0), some (vI x1), some (vI x2), some (vI x3), some (vI x4), some (vI x5), some (vI x6)] [] M Q := by
  refine g_5 (a := 6) (b := 0) (nx := 141) (by decide +kernel) rfl ?_
  refine g_5 (a := 4) (b := 0) (nx := 143) (by decide +kernel) rfl ?_
  obtain ⟨r1, h⟩ := h
  obtain ⟨r2, h⟩ := h
  by_cases c3 : x4 < x6
  · rw [if_pos c3] at h
    refine g_41t (a := 4) (b := 166) (nx := 146) (by decide +kernel) (by rw [wr_id r1, wr_id r2]; exact (cb_4 _ _).mpr c3) ?_
    refine g_11 (a := 5) (b := 1) (nx := 169) (by decide +kernel) rfl rfl (ls' := [some (vR x0), some (vI x1), some (vI x2), some (vI x3), some (vI x4), some (vI (x5 + 1)), some (vI x6)]) rfl ?_
    refine g_44 (a := 0) (b := 43) (nx := 172) (by decide +kernel) ?_
    exact h
  · rw [if_neg c3] at h
    refine g_41f (a := 4) (b := 166) (nx := 146) (by decide +kernel) (by rw [wr_id r1, wr_id r2]; exact fun hz => c3 ((cb_4 _ _).mp hz)) ?_
    refine g_7 (a := 0) (b := 0) (nx := 147) (by decide +kernel) rfl ?_
    refine g_52 (a := 12) (b := 74) (nx := 150) (by decide +kernel) h0 ?_
    refine g_5 (a := 6) (b := 0) (nx := 152) (by decide +kernel) rfl ?_
    refine g_7 (a := 0) (b := 0) (nx := 153) (by decide +kernel) rfl ?_
    refine g_52 (a := 12) (b := 75) (nx := 156) (by decide +kernel) h0 ?_
    refine g_5 (a := 6) (b := 0) (nx := 158) (by decide +kernel) rfl ?_
    refine g_61 (a := 0) (b := 0) (nx := 159) (by decide +kernel) h.1 ?_
    replace h := h.2
    refine g_62 (a := 0) (b := 0) (nx := 160) (by decide +kernel) h.1 ?_
    replace h := h.2
    refine g_11 (a := 6) (b := 1) (nx := 163) (by decide +kernel) rfl rfl (ls' := [some (vR x0), some (vI x1), some (vI x2), some (vI x3), some (vI x4), some (vI x5), some (vI (x6 + 1))]) rfl ?_
    refine g_44 (a := 0) (b := 139) (nx := 166) (by decide +kernel) ?_
    exact h
-- 269 SyllableMakerModel.far(II)I
theorem t_269 {x0 x1 x2 : Int} {M : Mem} {Q : AV → Mem → Prop} (h0 : gO 12 x0) (h : WI 219 [vR x0, vI x1] M (fun y2 M1 => inR y2 ∧ (if y2 = 0 then (Q (vI (-1)) M1) else (WI 219 [vR x0, vI x2] M1 (fun y5 M4 => inR y5 ∧ (if y5 = 0 then (Q (vI (-1)) M4) else (WI 268 [vR x0, vI x1, vI x2] M4 (fun y8 M7 => Q (vI y8) M7)))))))) : WC 269 [vR x0, vI x1, vI x2] M Q := by
  show WR 269 0 [some (vR x0), some (vI x1), some (vI x2)] [] M Q
  refine g_7 (a := 0) (b := 0) (nx := 1) (by decide +kernel) rfl ?_
  refine g_5 (a := 1) (b := 0) (nx := 2) (by decide +kernel) rfl ?_
  refine g_80 (a := 219) (b := 1) (nx := 5) (by decide +kernel) (r := x0) (As := [vI x1]) (st' := []) (z := 219) rfl rfl rfl (Nat.le_of_ble_eq_true rfl) h0.2 (Nat.le_of_ble_eq_true rfl) rfl (c_I (by decide +kernel) h (fun y2 M1 h => ?_))
  obtain ⟨r3, h⟩ := h
  by_cases c10 : y2 = 0
  · rw [if_pos c10] at h
    refine g_40t (a := 0) (b := 25) (nx := 8) (by decide +kernel) r3 (by exact (cb_0 _ _).mpr c10) ?_
    refine g_1 (a := (-1)) (b := 0) (nx := 26) (by decide +kernel) ?_
    exact g_91 (b := 0) (nx := 27) (by decide +kernel) h
  · rw [if_neg c10] at h
    refine g_40f (a := 0) (b := 25) (nx := 8) (by decide +kernel) r3 (by exact fun hz => c10 ((cb_0 _ _).mp hz)) ?_
    refine g_7 (a := 0) (b := 0) (nx := 9) (by decide +kernel) rfl ?_
    refine g_5 (a := 2) (b := 0) (nx := 10) (by decide +kernel) rfl ?_
    refine g_80 (a := 219) (b := 1) (nx := 13) (by decide +kernel) (r := x0) (As := [vI x2]) (st' := []) (z := 219) rfl rfl rfl (Nat.le_of_ble_eq_true rfl) h0.2 (Nat.le_of_ble_eq_true rfl) rfl (c_I (by decide +kernel) h (fun y5 M4 h => ?_))
    obtain ⟨r6, h⟩ := h
    by_cases c9 : y5 = 0
    · rw [if_pos c9] at h
      refine g_40t (a := 0) (b := 25) (nx := 16) (by decide +kernel) r6 (by exact (cb_0 _ _).mpr c9) ?_
      refine g_1 (a := (-1)) (b := 0) (nx := 26) (by decide +kernel) ?_
      exact g_91 (b := 0) (nx := 27) (by decide +kernel) h
    · rw [if_neg c9] at h
      refine g_40f (a := 0) (b := 25) (nx := 16) (by decide +kernel) r6 (by exact fun hz => c9 ((cb_0 _ _).mp hz)) ?_
      refine g_7 (a := 0) (b := 0) (nx := 17) (by decide +kernel) rfl ?_
      refine g_5 (a := 1) (b := 0) (nx := 18) (by decide +kernel) rfl ?_
      refine g_5 (a := 2) (b := 0) (nx := 19) (by decide +kernel) rfl ?_
      refine g_80 (a := 268) (b := 2) (nx := 22) (by decide +kernel) (r := x0) (As := [vI x1, vI x2]) (st' := []) (z := 268) rfl rfl rfl (Nat.le_of_ble_eq_true rfl) h0.2 (Nat.le_of_ble_eq_true rfl) rfl (c_I (by decide +kernel) h (fun y8 M7 h => ?_))
      refine g_44 (a := 0) (b := 26) (nx := 25) (by decide +kernel) ?_
      exact g_91 (b := 0) (nx := 27) (by decide +kernel) h
-- 270 SyllableMakerModel.nearest(I)I
theorem t_270 {x0 x1 : Int} {M : Mem} {Q : AV → Mem → Prop} (h0 : gO 12 x0) (h : WI 219 [vR x0, vI x1] M (fun y2 M1 => inR y2 ∧ (if y2 = 0 then (Q (vI (-1)) M1) else (WR 270 18 [some (vR x0), some (vI x1), some (vI (-1)), some (vI 0), some (vI 100), none] [] M1 Q)))) : WC 270 [vR x0, vI x1] M Q := by
  show WR 270 0 [some (vR x0), some (vI x1), none, none, none, none] [] M Q
  refine g_7 (a := 0) (b := 0) (nx := 1) (by decide +kernel) rfl ?_
  refine g_5 (a := 1) (b := 0) (nx := 2) (by decide +kernel) rfl ?_
  refine g_80 (a := 219) (b := 1) (nx := 5) (by decide +kernel) (r := x0) (As := [vI x1]) (st' := []) (z := 219) rfl rfl rfl (Nat.le_of_ble_eq_true rfl) h0.2 (Nat.le_of_ble_eq_true rfl) rfl (c_I (by decide +kernel) h (fun y2 M1 h => ?_))
  obtain ⟨r3, h⟩ := h
  by_cases c4 : y2 = 0
  · rw [if_pos c4] at h
    refine g_40f (a := 1) (b := 10) (nx := 8) (by decide +kernel) r3 (by exact fun hz => ((cb_1 _ _).mp hz) c4) ?_
    refine g_1 (a := (-1)) (b := 0) (nx := 9) (by decide +kernel) ?_
    exact g_91 (b := 0) (nx := 10) (by decide +kernel) h
  · rw [if_neg c4] at h
    refine g_40t (a := 1) (b := 10) (nx := 8) (by decide +kernel) r3 (by exact (cb_1 _ _).mpr c4) ?_
    refine g_1 (a := (-1)) (b := 0) (nx := 11) (by decide +kernel) ?_
    refine g_8 (a := 2) (b := 0) (nx := 12) (by decide +kernel) rfl (ls' := [some (vR x0), some (vI x1), some (vI (-1)), none, none, none]) rfl ?_
    refine g_1 (a := 0) (b := 0) (nx := 13) (by decide +kernel) ?_
    refine g_8 (a := 3) (b := 0) (nx := 14) (by decide +kernel) rfl (ls' := [some (vR x0), some (vI x1), some (vI (-1)), some (vI 0), none, none]) rfl ?_
    refine g_1 (a := 100) (b := 0) (nx := 16) (by decide +kernel) ?_
    refine g_8 (a := 4) (b := 0) (nx := 18) (by decide +kernel) rfl (ls' := [some (vR x0), some (vI x1), some (vI (-1)), some (vI 0), some (vI 100), none]) rfl ?_
    exact h
theorem t_270_18 {x0 x1 x2 x3 x4 : Int} {l5 : Option AV} {M : Mem} {Q : AV → Mem → Prop} (h0 : gO 12 x0) (h : (gA 20 (M x0 61) 0) ∧ inR x4 ∧ (inR (100 + (M (M x0 61) 0)) ∧ (if (100 + (M (M x0 61) 0)) ≤ x4 then (Q (vI x2) M) else (inR x1 ∧ (if x4 = x1 then (WR 270 18 [some (vR x0), some (vI x1), some (vI x2), some (vI x3), some (vI (x4 + 1)), l5] [] M Q) else (WI 268 [vR x0, vI x1, vI x4] M (fun y5 M4 => inR x2 ∧ (if x2 = (-1) then (WR 270 18 [some (vR x0), some (vI x1), some (vI x4), some (vI y5), some (vI (x4 + 1)), some (vI y5)] [] M4 Q) else (inR y5 ∧ (inR x3 ∧ (if y5 < x3 then (WR 270 18 [some (vR x0), some (vI x1), some (vI x4), some (vI y5), some (vI (x4 + 1)), some (vI y5)] [] M4 Q) else (WR 270 18 [some (vR x0), some (vI x1), some (vI x2), some (vI x3), some (vI (x4 + 1)), some (vI y5)] [] M4 Q)))))))))))) : WR 270 18 [some (vR x0), some (vI x1), some (vI x2), some (vI x3), some (vI x4), l5] [] M Q := by
  refine g_5 (a := 4) (b := 0) (nx := 20) (by decide +kernel) rfl ?_
  refine g_1 (a := 100) (b := 0) (nx := 22) (by decide +kernel) ?_
  refine g_7 (a := 0) (b := 0) (nx := 23) (by decide +kernel) rfl ?_
  refine g_52 (a := 12) (b := 61) (nx := 26) (by decide +kernel) h0 ?_
  refine g_1 (a := 0) (b := 0) (nx := 27) (by decide +kernel) ?_
  refine g_61 (a := 0) (b := 0) (nx := 28) (by decide +kernel) h.1 ?_
  replace h := h.2
  refine g_15 (a := 0) (b := 0) (nx := 29) (by decide +kernel) ?_
  obtain ⟨r1, h⟩ := h
  obtain ⟨r2, h⟩ := h
  by_cases c12 : (100 + (M (M x0 61) 0)) ≤ x4
  · rw [if_pos c12] at h
    refine g_41t (a := 3) (b := 76) (nx := 32) (by decide +kernel) (by rw [wr_id r1, wr_id r2]; exact (cb_3 _ _).mpr c12) ?_
    refine g_5 (a := 2) (b := 0) (nx := 77) (by decide +kernel) rfl ?_
    exact g_91 (b := 0) (nx := 78) (by decide +kernel) h
  · rw [if_neg c12] at h
    refine g_41f (a := 3) (b := 76) (nx := 32) (by decide +kernel) (by rw [wr_id r1, wr_id r2]; exact fun hz => c12 ((cb_3 _ _).mp hz)) ?_
    refine g_5 (a := 4) (b := 0) (nx := 34) (by decide +kernel) rfl ?_
    refine g_5 (a := 1) (b := 0) (nx := 35) (by decide +kernel) rfl ?_
    obtain ⟨r3, h⟩ := h
    by_cases c11 : x4 = x1
    · rw [if_pos c11] at h
      refine g_41f (a := 1) (b := 41) (nx := 38) (by decide +kernel) (by rw [wr_id r1, wr_id r3]; exact fun hz => ((cb_1 _ _).mp hz) c11) ?_
      refine g_44 (a := 0) (b := 70) (nx := 41) (by decide +kernel) ?_
      refine g_11 (a := 4) (b := 1) (nx := 73) (by decide +kernel) rfl rfl (ls' := [some (vR x0), some (vI x1), some (vI x2), some (vI x3), some (vI (x4 + 1)), l5]) rfl ?_
      refine g_44 (a := 0) (b := 18) (nx := 76) (by decide +kernel) ?_
      exact h
    · rw [if_neg c11] at h
      refine g_41t (a := 1) (b := 41) (nx := 38) (by decide +kernel) (by rw [wr_id r1, wr_id r3]; exact (cb_1 _ _).mpr c11) ?_
      refine g_7 (a := 0) (b := 0) (nx := 42) (by decide +kernel) rfl ?_
      refine g_5 (a := 1) (b := 0) (nx := 43) (by decide +kernel) rfl ?_
      refine g_5 (a := 4) (b := 0) (nx := 45) (by decide +kernel) rfl ?_
      refine g_80 (a := 268) (b := 2) (nx := 48) (by decide +kernel) (r := x0) (As := [vI x1, vI x4]) (st' := []) (z := 268) rfl rfl rfl (Nat.le_of_ble_eq_true rfl) h0.2 (Nat.le_of_ble_eq_true rfl) rfl (c_I (by decide +kernel) h (fun y5 M4 h => ?_))
      refine g_8 (a := 5) (b := 0) (nx := 50) (by decide +kernel) rfl (ls' := [some (vR x0), some (vI x1), some (vI x2), some (vI x3), some (vI x4), some (vI y5)]) rfl ?_
      refine g_5 (a := 2) (b := 0) (nx := 51) (by decide +kernel) rfl ?_
      refine g_1 (a := (-1)) (b := 0) (nx := 52) (by decide +kernel) ?_
      obtain ⟨r6, h⟩ := h
      by_cases c10 : x2 = (-1)
      · rw [if_pos c10] at h
        refine g_41t (a := 0) (b := 64) (nx := 55) (by decide +kernel) (by rw [wr_id r6, wr_id (show inR (-1) by decide)]; exact (cb_0 _ _).mpr c10) ?_
        refine g_5 (a := 4) (b := 0) (nx := 66) (by decide +kernel) rfl ?_
        refine g_8 (a := 2) (b := 0) (nx := 67) (by decide +kernel) rfl (ls' := [some (vR x0), some (vI x1), some (vI x4), some (vI x3), some (vI x4), some (vI y5)]) rfl ?_
        refine g_5 (a := 5) (b := 0) (nx := 69) (by decide +kernel) rfl ?_
        refine g_8 (a := 3) (b := 0) (nx := 70) (by decide +kernel) rfl (ls' := [some (vR x0), some (vI x1), some (vI x4), some (vI y5), some (vI x4), some (vI y5)]) rfl ?_
        refine g_11 (a := 4) (b := 1) (nx := 73) (by decide +kernel) rfl rfl (ls' := [some (vR x0), some (vI x1), some (vI x4), some (vI y5), some (vI (x4 + 1)), some (vI y5)]) rfl ?_
        refine g_44 (a := 0) (b := 18) (nx := 76) (by decide +kernel) ?_
        exact h
      · rw [if_neg c10] at h
        refine g_41f (a := 0) (b := 64) (nx := 55) (by decide +kernel) (by rw [wr_id r6, wr_id (show inR (-1) by decide)]; exact fun hz => c10 ((cb_0 _ _).mp hz)) ?_
        refine g_5 (a := 5) (b := 0) (nx := 57) (by decide +kernel) rfl ?_
        refine g_5 (a := 3) (b := 0) (nx := 58) (by decide +kernel) rfl ?_
        obtain ⟨r7, h⟩ := h
        obtain ⟨r8, h⟩ := h
        by_cases c9 : y5 < x3
        · rw [if_pos c9] at h
          refine g_41t (a := 2) (b := 64) (nx := 61) (by decide +kernel) (by rw [wr_id r7, wr_id r8]; exact (cb_2 _ _).mpr c9) ?_
          refine g_5 (a := 4) (b := 0) (nx := 66) (by decide +kernel) rfl ?_
          refine g_8 (a := 2) (b := 0) (nx := 67) (by decide +kernel) rfl (ls' := [some (vR x0), some (vI x1), some (vI x4), some (vI x3), some (vI x4), some (vI y5)]) rfl ?_
          refine g_5 (a := 5) (b := 0) (nx := 69) (by decide +kernel) rfl ?_
          refine g_8 (a := 3) (b := 0) (nx := 70) (by decide +kernel) rfl (ls' := [some (vR x0), some (vI x1), some (vI x4), some (vI y5), some (vI x4), some (vI y5)]) rfl ?_
          refine g_11 (a := 4) (b := 1) (nx := 73) (by decide +kernel) rfl rfl (ls' := [some (vR x0), some (vI x1), some (vI x4), some (vI y5), some (vI (x4 + 1)), some (vI y5)]) rfl ?_
          refine g_44 (a := 0) (b := 18) (nx := 76) (by decide +kernel) ?_
          exact h
        · rw [if_neg c9] at h
          refine g_41f (a := 2) (b := 64) (nx := 61) (by decide +kernel) (by rw [wr_id r7, wr_id r8]; exact fun hz => c9 ((cb_2 _ _).mp hz)) ?_
          refine g_44 (a := 0) (b := 70) (nx := 64) (by decide +kernel) ?_
          refine g_11 (a := 4) (b := 1) (nx := 73) (by decide +kernel) rfl rfl (ls' := [some (vR x0), some (vI x1), some (vI x2), some (vI x3), some (vI (x4 + 1)), some (vI y5)]) rfl ?_
          refine g_44 (a := 0) (b := 18) (nx := 76) (by decide +kernel) ?_
          exact h
-- 271 SyllableMakerModel.areAlike(II)Z
theorem t_271 {x0 x1 x2 : Int} {M : Mem} {Q : AV → Mem → Prop} (h0 : gO 12 x0) (h : WI 221 [vR x0, vI x1] M (fun y2 M1 => WI 221 [vR x0, vI x2] M1 (fun y4 M3 => inR y2 ∧ (inR y4 ∧ (if y2 = y4 then (WR 271 17 [some (vR x0), some (vI x1), some (vI x2), some (vI 0)] [] M3 Q) else (Q (vI 0) M3)))))) : WC 271 [vR x0, vI x1, vI x2] M Q := by
  show WR 271 0 [some (vR x0), some (vI x1), some (vI x2), none] [] M Q
  refine g_7 (a := 0) (b := 0) (nx := 1) (by decide +kernel) rfl ?_
  refine g_5 (a := 1) (b := 0) (nx := 2) (by decide +kernel) rfl ?_
  refine g_80 (a := 221) (b := 1) (nx := 5) (by decide +kernel) (r := x0) (As := [vI x1]) (st' := []) (z := 221) rfl rfl rfl (Nat.le_of_ble_eq_true rfl) h0.2 (Nat.le_of_ble_eq_true rfl) rfl (c_I (by decide +kernel) h (fun y2 M1 h => ?_))
  refine g_7 (a := 0) (b := 0) (nx := 6) (by decide +kernel) rfl ?_
  refine g_5 (a := 2) (b := 0) (nx := 7) (by decide +kernel) rfl ?_
  refine g_80 (a := 221) (b := 1) (nx := 10) (by decide +kernel) (r := x0) (As := [vI x2]) (st' := [vI y2]) (z := 221) rfl rfl rfl (Nat.le_of_ble_eq_true rfl) h0.2 (Nat.le_of_ble_eq_true rfl) rfl (c_I (by decide +kernel) h (fun y4 M3 h => ?_))
  obtain ⟨r5, h⟩ := h
  obtain ⟨r6, h⟩ := h
  by_cases c7 : y2 = y4
  · rw [if_pos c7] at h
    refine g_41t (a := 0) (b := 15) (nx := 13) (by decide +kernel) (by rw [wr_id r5, wr_id r6]; exact (cb_0 _ _).mpr c7) ?_
    refine g_1 (a := 0) (b := 0) (nx := 16) (by decide +kernel) ?_
    refine g_8 (a := 3) (b := 0) (nx := 17) (by decide +kernel) rfl (ls' := [some (vR x0), some (vI x1), some (vI x2), some (vI 0)]) rfl ?_
    exact h
  · rw [if_neg c7] at h
    refine g_41f (a := 0) (b := 15) (nx := 13) (by decide +kernel) (by rw [wr_id r5, wr_id r6]; exact fun hz => c7 ((cb_0 _ _).mp hz)) ?_
    refine g_1 (a := 0) (b := 0) (nx := 14) (by decide +kernel) ?_
    exact g_91z (b := 0) (nx := 15) (by decide +kernel) (by decide) h
theorem t_271_17 {x0 x1 x2 x3 : Int} {M : Mem} {Q : AV → Mem → Prop} (h0 : gO 12 x0) (h : WI 221 [vR x0, vI x1] M (fun y2 M1 => inR x3 ∧ (inR y2 ∧ (if y2 ≤ x3 then (Q (vI 1) M1) else (WI 222 [vR x0, vI x1, vI x3] M1 (fun y6 M5 => WI 222 [vR x0, vI x2, vI x3] M5 (fun y8 M7 => inR y6 ∧ (inR y8 ∧ (if y6 = y8 then (WR 271 17 [some (vR x0), some (vI x1), some (vI x2), some (vI (x3 + 1))] [] M7 Q) else (Q (vI 0) M7)))))))))) : WR 271 17 [some (vR x0), some (vI x1), some (vI x2), some (vI x3)] [] M Q := by
  refine g_5 (a := 3) (b := 0) (nx := 18) (by decide +kernel) rfl ?_
  refine g_7 (a := 0) (b := 0) (nx := 19) (by decide +kernel) rfl ?_
  refine g_5 (a := 1) (b := 0) (nx := 20) (by decide +kernel) rfl ?_
  refine g_80 (a := 221) (b := 1) (nx := 23) (by decide +kernel) (r := x0) (As := [vI x1]) (st' := [vI x3]) (z := 221) rfl rfl rfl (Nat.le_of_ble_eq_true rfl) h0.2 (Nat.le_of_ble_eq_true rfl) rfl (c_I (by decide +kernel) h (fun y2 M1 h => ?_))
  obtain ⟨r3, h⟩ := h
  obtain ⟨r4, h⟩ := h
  by_cases c12 : y2 ≤ x3
  · rw [if_pos c12] at h
    refine g_41t (a := 3) (b := 49) (nx := 26) (by decide +kernel) (by rw [wr_id r3, wr_id r4]; exact (cb_3 _ _).mpr c12) ?_
    refine g_1 (a := 1) (b := 0) (nx := 50) (by decide +kernel) ?_
    exact g_91z (b := 0) (nx := 51) (by decide +kernel) (by decide) h
  · rw [if_neg c12] at h
    refine g_41f (a := 3) (b := 49) (nx := 26) (by decide +kernel) (by rw [wr_id r3, wr_id r4]; exact fun hz => c12 ((cb_3 _ _).mp hz)) ?_
    refine g_7 (a := 0) (b := 0) (nx := 27) (by decide +kernel) rfl ?_
    refine g_5 (a := 1) (b := 0) (nx := 28) (by decide +kernel) rfl ?_
    refine g_5 (a := 3) (b := 0) (nx := 29) (by decide +kernel) rfl ?_
    refine g_80 (a := 222) (b := 2) (nx := 32) (by decide +kernel) (r := x0) (As := [vI x1, vI x3]) (st' := []) (z := 222) rfl rfl rfl (Nat.le_of_ble_eq_true rfl) h0.2 (Nat.le_of_ble_eq_true rfl) rfl (c_I (by decide +kernel) h (fun y6 M5 h => ?_))
    refine g_7 (a := 0) (b := 0) (nx := 33) (by decide +kernel) rfl ?_
    refine g_5 (a := 2) (b := 0) (nx := 34) (by decide +kernel) rfl ?_
    refine g_5 (a := 3) (b := 0) (nx := 35) (by decide +kernel) rfl ?_
    refine g_80 (a := 222) (b := 2) (nx := 38) (by decide +kernel) (r := x0) (As := [vI x2, vI x3]) (st' := [vI y6]) (z := 222) rfl rfl rfl (Nat.le_of_ble_eq_true rfl) h0.2 (Nat.le_of_ble_eq_true rfl) rfl (c_I (by decide +kernel) h (fun y8 M7 h => ?_))
    obtain ⟨r9, h⟩ := h
    obtain ⟨r10, h⟩ := h
    by_cases c11 : y6 = y8
    · rw [if_pos c11] at h
      refine g_41t (a := 0) (b := 43) (nx := 41) (by decide +kernel) (by rw [wr_id r9, wr_id r10]; exact (cb_0 _ _).mpr c11) ?_
      refine g_11 (a := 3) (b := 1) (nx := 46) (by decide +kernel) rfl rfl (ls' := [some (vR x0), some (vI x1), some (vI x2), some (vI (x3 + 1))]) rfl ?_
      refine g_44 (a := 0) (b := 17) (nx := 49) (by decide +kernel) ?_
      exact h
    · rw [if_neg c11] at h
      refine g_41f (a := 0) (b := 43) (nx := 41) (by decide +kernel) (by rw [wr_id r9, wr_id r10]; exact fun hz => c11 ((cb_0 _ _).mp hz)) ?_
      refine g_1 (a := 0) (b := 0) (nx := 42) (by decide +kernel) ?_
      exact g_91z (b := 0) (nx := 43) (by decide +kernel) (by decide) h
-- 272 SyllableMakerModel.isPart(III)Z
theorem t_272 {x0 x1 x2 x3 : Int} {M : Mem} {Q : AV → Mem → Prop} (h0 : gO 12 x0) (h : WR 272 4 [some (vR x0), some (vI x1), some (vI x2), some (vI x3), some (vI 100)] [] M Q) : WC 272 [vR x0, vI x1, vI x2, vI x3] M Q := by
  show WR 272 0 [some (vR x0), some (vI x1), some (vI x2), some (vI x3), none] [] M Q
  refine g_1 (a := 100) (b := 0) (nx := 2) (by decide +kernel) ?_
  refine g_8 (a := 4) (b := 0) (nx := 4) (by decide +kernel) rfl (ls' := [some (vR x0), some (vI x1), some (vI x2), some (vI x3), some (vI 100)]) rfl ?_
  exact h
theorem t_272_4 {x0 x1 x2 x3 x4 : Int} {M : Mem} {Q : AV → Mem → Prop} (h0 : gO 12 x0) (h : inR x4 ∧ (inR x3 ∧ (if x3 ≤ x4 then (WI 221 [vR x0, vI x3] M (fun y4 M3 => WI 221 [vR x0, vI x1] M3 (fun y6 M5 => inR (x2 + y4) ∧ (inR y6 ∧ (if (x2 + y4) ≤ y6 then (WR 272 48 [some (vR x0), some (vI x1), some (vI x2), some (vI x3), some (vI 0)] [] M5 Q) else (Q (vI 0) M5)))))) else (WI 271 [vR x0, vI x4, vI x3] M (fun y11 M10 => inR y11 ∧ (if y11 = 0 then (WR 272 4 [some (vR x0), some (vI x1), some (vI x2), some (vI x3), some (vI (x4 + 1))] [] M10 Q) else (Q (vI 0) M10))))))) : WR 272 4 [some (vR x0), some (vI x1), some (vI x2), some (vI x3), some (vI x4)] [] M Q := by
  refine g_5 (a := 4) (b := 0) (nx := 6) (by decide +kernel) rfl ?_
  refine g_5 (a := 3) (b := 0) (nx := 7) (by decide +kernel) rfl ?_
  obtain ⟨r1, h⟩ := h
  obtain ⟨r2, h⟩ := h
  by_cases c14 : x3 ≤ x4
  · rw [if_pos c14] at h
    refine g_41t (a := 3) (b := 28) (nx := 10) (by decide +kernel) (by rw [wr_id r1, wr_id r2]; exact (cb_3 _ _).mpr c14) ?_
    refine g_5 (a := 2) (b := 0) (nx := 29) (by decide +kernel) rfl ?_
    refine g_7 (a := 0) (b := 0) (nx := 30) (by decide +kernel) rfl ?_
    refine g_5 (a := 3) (b := 0) (nx := 31) (by decide +kernel) rfl ?_
    refine g_80 (a := 221) (b := 1) (nx := 34) (by decide +kernel) (r := x0) (As := [vI x3]) (st' := [vI x2]) (z := 221) rfl rfl rfl (Nat.le_of_ble_eq_true rfl) h0.2 (Nat.le_of_ble_eq_true rfl) rfl (c_I (by decide +kernel) h (fun y4 M3 h => ?_))
    refine g_15 (a := 0) (b := 0) (nx := 35) (by decide +kernel) ?_
    refine g_7 (a := 0) (b := 0) (nx := 36) (by decide +kernel) rfl ?_
    refine g_5 (a := 1) (b := 0) (nx := 37) (by decide +kernel) rfl ?_
    refine g_80 (a := 221) (b := 1) (nx := 40) (by decide +kernel) (r := x0) (As := [vI x1]) (st' := [vI (x2 + y4)]) (z := 221) rfl rfl rfl (Nat.le_of_ble_eq_true rfl) h0.2 (Nat.le_of_ble_eq_true rfl) rfl (c_I (by decide +kernel) h (fun y6 M5 h => ?_))
    obtain ⟨r7, h⟩ := h
    obtain ⟨r8, h⟩ := h
    by_cases c9 : (x2 + y4) ≤ y6
    · rw [if_pos c9] at h
      refine g_41t (a := 5) (b := 45) (nx := 43) (by decide +kernel) (by rw [wr_id r7, wr_id r8]; exact (cb_5 _ _).mpr c9) ?_
      refine g_1 (a := 0) (b := 0) (nx := 46) (by decide +kernel) ?_
      refine g_8 (a := 4) (b := 0) (nx := 48) (by decide +kernel) rfl (ls' := [some (vR x0), some (vI x1), some (vI x2), some (vI x3), some (vI 0)]) rfl ?_
      exact h
    · rw [if_neg c9] at h
      refine g_41f (a := 5) (b := 45) (nx := 43) (by decide +kernel) (by rw [wr_id r7, wr_id r8]; exact fun hz => c9 ((cb_5 _ _).mp hz)) ?_
      refine g_1 (a := 0) (b := 0) (nx := 44) (by decide +kernel) ?_
      exact g_91z (b := 0) (nx := 45) (by decide +kernel) (by decide) h
  · rw [if_neg c14] at h
    refine g_41f (a := 3) (b := 28) (nx := 10) (by decide +kernel) (by rw [wr_id r1, wr_id r2]; exact fun hz => c14 ((cb_3 _ _).mp hz)) ?_
    refine g_7 (a := 0) (b := 0) (nx := 11) (by decide +kernel) rfl ?_
    refine g_5 (a := 4) (b := 0) (nx := 13) (by decide +kernel) rfl ?_
    refine g_5 (a := 3) (b := 0) (nx := 14) (by decide +kernel) rfl ?_
    refine g_80 (a := 271) (b := 2) (nx := 17) (by decide +kernel) (r := x0) (As := [vI x4, vI x3]) (st' := []) (z := 271) rfl rfl rfl (Nat.le_of_ble_eq_true rfl) h0.2 (Nat.le_of_ble_eq_true rfl) rfl (c_I (by decide +kernel) h (fun y11 M10 h => ?_))
    obtain ⟨r12, h⟩ := h
    by_cases c13 : y11 = 0
    · rw [if_pos c13] at h
      refine g_40t (a := 0) (b := 22) (nx := 20) (by decide +kernel) r12 (by exact (cb_0 _ _).mpr c13) ?_
      refine g_11 (a := 4) (b := 1) (nx := 25) (by decide +kernel) rfl rfl (ls' := [some (vR x0), some (vI x1), some (vI x2), some (vI x3), some (vI (x4 + 1))]) rfl ?_
      refine g_44 (a := 0) (b := 4) (nx := 28) (by decide +kernel) ?_
      exact h
    · rw [if_neg c13] at h
      refine g_40f (a := 0) (b := 22) (nx := 20) (by decide +kernel) r12 (by exact fun hz => c13 ((cb_0 _ _).mp hz)) ?_
      refine g_1 (a := 0) (b := 0) (nx := 21) (by decide +kernel) ?_
      exact g_91z (b := 0) (nx := 22) (by decide +kernel) (by decide) h
theorem t_272_48 {x0 x1 x2 x3 x4 : Int} {M : Mem} {Q : AV → Mem → Prop} (h0 : gO 12 x0) (h : WI 221 [vR x0, vI x3] M (fun y2 M1 => inR x4 ∧ (inR y2 ∧ (if y2 ≤ x4 then (Q (vI 1) M1) else (WI 222 [vR x0, vI x1, vI (x2 + x4)] M1 (fun y6 M5 => WI 222 [vR x0, vI x3, vI x4] M5 (fun y8 M7 => inR y6 ∧ (inR y8 ∧ (if y6 = y8 then (WR 272 48 [some (vR x0), some (vI x1), some (vI x2), some (vI x3), some (vI (x4 + 1))] [] M7 Q) else (Q (vI 0) M7)))))))))) : WR 272 48 [some (vR x0), some (vI x1), some (vI x2), some (vI x3), some (vI x4)] [] M Q := by
  refine g_5 (a := 4) (b := 0) (nx := 50) (by decide +kernel) rfl ?_
  refine g_7 (a := 0) (b := 0) (nx := 51) (by decide +kernel) rfl ?_
  refine g_5 (a := 3) (b := 0) (nx := 52) (by decide +kernel) rfl ?_
  refine g_80 (a := 221) (b := 1) (nx := 55) (by decide +kernel) (r := x0) (As := [vI x3]) (st' := [vI x4]) (z := 221) rfl rfl rfl (Nat.le_of_ble_eq_true rfl) h0.2 (Nat.le_of_ble_eq_true rfl) rfl (c_I (by decide +kernel) h (fun y2 M1 h => ?_))
  obtain ⟨r3, h⟩ := h
  obtain ⟨r4, h⟩ := h
  by_cases c12 : y2 ≤ x4
  · rw [if_pos c12] at h
    refine g_41t (a := 3) (b := 85) (nx := 58) (by decide +kernel) (by rw [wr_id r3, wr_id r4]; exact (cb_3 _ _).mpr c12) ?_
    refine g_1 (a := 1) (b := 0) (nx := 86) (by decide +kernel) ?_
    exact g_91z (b := 0) (nx := 87) (by decide +kernel) (by decide) h
  · rw [if_neg c12] at h
    refine g_41f (a := 3) (b := 85) (nx := 58) (by decide +kernel) (by rw [wr_id r3, wr_id r4]; exact fun hz => c12 ((cb_3 _ _).mp hz)) ?_
    refine g_7 (a := 0) (b := 0) (nx := 59) (by decide +kernel) rfl ?_
    refine g_5 (a := 1) (b := 0) (nx := 60) (by decide +kernel) rfl ?_
    refine g_5 (a := 2) (b := 0) (nx := 61) (by decide +kernel) rfl ?_
    refine g_5 (a := 4) (b := 0) (nx := 63) (by decide +kernel) rfl ?_
    refine g_15 (a := 0) (b := 0) (nx := 64) (by decide +kernel) ?_
    refine g_80 (a := 222) (b := 2) (nx := 67) (by decide +kernel) (r := x0) (As := [vI x1, vI (x2 + x4)]) (st' := []) (z := 222) rfl rfl rfl (Nat.le_of_ble_eq_true rfl) h0.2 (Nat.le_of_ble_eq_true rfl) rfl (c_I (by decide +kernel) h (fun y6 M5 h => ?_))
    refine g_7 (a := 0) (b := 0) (nx := 68) (by decide +kernel) rfl ?_
    refine g_5 (a := 3) (b := 0) (nx := 69) (by decide +kernel) rfl ?_
    refine g_5 (a := 4) (b := 0) (nx := 71) (by decide +kernel) rfl ?_
    refine g_80 (a := 222) (b := 2) (nx := 74) (by decide +kernel) (r := x0) (As := [vI x3, vI x4]) (st' := [vI y6]) (z := 222) rfl rfl rfl (Nat.le_of_ble_eq_true rfl) h0.2 (Nat.le_of_ble_eq_true rfl) rfl (c_I (by decide +kernel) h (fun y8 M7 h => ?_))
    obtain ⟨r9, h⟩ := h
    obtain ⟨r10, h⟩ := h
    by_cases c11 : y6 = y8
    · rw [if_pos c11] at h
      refine g_41t (a := 0) (b := 79) (nx := 77) (by decide +kernel) (by rw [wr_id r9, wr_id r10]; exact (cb_0 _ _).mpr c11) ?_
      refine g_11 (a := 4) (b := 1) (nx := 82) (by decide +kernel) rfl rfl (ls' := [some (vR x0), some (vI x1), some (vI x2), some (vI x3), some (vI (x4 + 1))]) rfl ?_
      refine g_44 (a := 0) (b := 48) (nx := 85) (by decide +kernel) ?_
      exact h
    · rw [if_neg c11] at h
      refine g_41f (a := 0) (b := 79) (nx := 77) (by decide +kernel) (by rw [wr_id r9, wr_id r10]; exact fun hz => c11 ((cb_0 _ _).mp hz)) ?_
      refine g_1 (a := 0) (b := 0) (nx := 78) (by decide +kernel) ?_
      exact g_91z (b := 0) (nx := 79) (by decide +kernel) (by decide) h
-- 273 SyllableMakerModel.parts(I)I
theorem t_273 {x0 x1 : Int} {M : Mem} {Q : AV → Mem → Prop} (h0 : gO 12 x0) (h : WI 219 [vR x0, vI x1] M (fun y2 M1 => inR y2 ∧ (if y2 = 0 then (Q (vI (-1)) M1) else (WI 221 [vR x0, vI x1] M1 (fun y5 M4 => (gA 20 (M4 x0 76) y5) ∧ WR 273 27 [some (vR x0), some (vI x1), some (vI y5), some (vI (y5 - 1)), none] [] (upM M4 (M4 x0 76) y5 1) Q))))) : WC 273 [vR x0, vI x1] M Q := by
  show WR 273 0 [some (vR x0), some (vI x1), none, none, none] [] M Q
  refine g_7 (a := 0) (b := 0) (nx := 1) (by decide +kernel) rfl ?_
  refine g_5 (a := 1) (b := 0) (nx := 2) (by decide +kernel) rfl ?_
  refine g_80 (a := 219) (b := 1) (nx := 5) (by decide +kernel) (r := x0) (As := [vI x1]) (st' := []) (z := 219) rfl rfl rfl (Nat.le_of_ble_eq_true rfl) h0.2 (Nat.le_of_ble_eq_true rfl) rfl (c_I (by decide +kernel) h (fun y2 M1 h => ?_))
  obtain ⟨r3, h⟩ := h
  by_cases c6 : y2 = 0
  · rw [if_pos c6] at h
    refine g_40f (a := 1) (b := 10) (nx := 8) (by decide +kernel) r3 (by exact fun hz => ((cb_1 _ _).mp hz) c6) ?_
    refine g_1 (a := (-1)) (b := 0) (nx := 9) (by decide +kernel) ?_
    exact g_91 (b := 0) (nx := 10) (by decide +kernel) h
  · rw [if_neg c6] at h
    refine g_40t (a := 1) (b := 10) (nx := 8) (by decide +kernel) r3 (by exact (cb_1 _ _).mpr c6) ?_
    refine g_7 (a := 0) (b := 0) (nx := 11) (by decide +kernel) rfl ?_
    refine g_5 (a := 1) (b := 0) (nx := 12) (by decide +kernel) rfl ?_
    refine g_80 (a := 221) (b := 1) (nx := 15) (by decide +kernel) (r := x0) (As := [vI x1]) (st' := []) (z := 221) rfl rfl rfl (Nat.le_of_ble_eq_true rfl) h0.2 (Nat.le_of_ble_eq_true rfl) rfl (c_I (by decide +kernel) h (fun y5 M4 h => ?_))
    refine g_8 (a := 2) (b := 0) (nx := 16) (by decide +kernel) rfl (ls' := [some (vR x0), some (vI x1), some (vI y5), none, none]) rfl ?_
    refine g_7 (a := 0) (b := 0) (nx := 17) (by decide +kernel) rfl ?_
    refine g_52 (a := 12) (b := 76) (nx := 20) (by decide +kernel) h0 ?_
    refine g_5 (a := 2) (b := 0) (nx := 21) (by decide +kernel) rfl ?_
    refine g_1 (a := 1) (b := 0) (nx := 22) (by decide +kernel) ?_
    refine g_62 (a := 0) (b := 0) (nx := 23) (by decide +kernel) h.1 ?_
    replace h := h.2
    refine g_5 (a := 2) (b := 0) (nx := 24) (by decide +kernel) rfl ?_
    refine g_1 (a := 1) (b := 0) (nx := 25) (by decide +kernel) ?_
    refine g_16 (a := 0) (b := 0) (nx := 26) (by decide +kernel) ?_
    refine g_8 (a := 3) (b := 0) (nx := 27) (by decide +kernel) rfl (ls' := [some (vR x0), some (vI x1), some (vI y5), some (vI (y5 - 1)), none]) rfl ?_
    exact h
theorem t_273_27 {x0 x1 x2 x3 : Int} {l4 : Option AV} {M : Mem} {Q : AV → Mem → Prop} (h0 : gO 12 x0) (h : inR x3 ∧ (if x3 < 0 then ((gA 20 (M x0 76) 0) ∧ Q (vI (M (M x0 76) 0)) M) else ((gA 20 (M x0 76) x3) ∧ WR 273 42 [some (vR x0), some (vI x1), some (vI x2), some (vI x3), some (vI 100)] [] (upM M (M x0 76) x3 0) Q))) : WR 273 27 [some (vR x0), some (vI x1), some (vI x2), some (vI x3), l4] [] M Q := by
  refine g_5 (a := 3) (b := 0) (nx := 28) (by decide +kernel) rfl ?_
  obtain ⟨r1, h⟩ := h
  by_cases c2 : x3 < 0
  · rw [if_pos c2] at h
    refine g_40t (a := 2) (b := 111) (nx := 31) (by decide +kernel) r1 (by exact (cb_2 _ _).mpr c2) ?_
    refine g_7 (a := 0) (b := 0) (nx := 112) (by decide +kernel) rfl ?_
    refine g_52 (a := 12) (b := 76) (nx := 115) (by decide +kernel) h0 ?_
    refine g_1 (a := 0) (b := 0) (nx := 116) (by decide +kernel) ?_
    refine g_61 (a := 0) (b := 0) (nx := 117) (by decide +kernel) h.1 ?_
    replace h := h.2
    exact g_91 (b := 0) (nx := 118) (by decide +kernel) h
  · rw [if_neg c2] at h
    refine g_40f (a := 2) (b := 111) (nx := 31) (by decide +kernel) r1 (by exact fun hz => c2 ((cb_2 _ _).mp hz)) ?_
    refine g_7 (a := 0) (b := 0) (nx := 32) (by decide +kernel) rfl ?_
    refine g_52 (a := 12) (b := 76) (nx := 35) (by decide +kernel) h0 ?_
    refine g_5 (a := 3) (b := 0) (nx := 36) (by decide +kernel) rfl ?_
    refine g_1 (a := 0) (b := 0) (nx := 37) (by decide +kernel) ?_
    refine g_62 (a := 0) (b := 0) (nx := 38) (by decide +kernel) h.1 ?_
    replace h := h.2
    refine g_1 (a := 100) (b := 0) (nx := 40) (by decide +kernel) ?_
    refine g_8 (a := 4) (b := 0) (nx := 42) (by decide +kernel) rfl (ls' := [some (vR x0), some (vI x1), some (vI x2), some (vI x3), some (vI 100)]) rfl ?_
    exact h
theorem t_273_42 {x0 x1 x2 x3 x4 : Int} {M : Mem} {Q : AV → Mem → Prop} (h0 : gO 12 x0) (h : (gA 20 (M x0 61) 0) ∧ inR x4 ∧ (inR (100 + (M (M x0 61) 0)) ∧ (if (100 + (M (M x0 61) 0)) ≤ x4 then (WR 273 27 [some (vR x0), some (vI x1), some (vI x2), some (vI (x3 + (-1))), some (vI x4)] [] M Q) else (WI 272 [vR x0, vI x1, vI x3, vI x4] M (fun y4 M3 => inR y4 ∧ (if y4 = 0 then (WR 273 42 [some (vR x0), some (vI x1), some (vI x2), some (vI x3), some (vI (x4 + 1))] [] M3 Q) else ((gA 20 (M3 x0 76) x3) ∧ WI 221 [vR x0, vI x4] M3 (fun y7 M6 => (gA 20 (M3 x0 76) (x3 + y7)) ∧ WI 179 [vI 1000000, vI ((M3 (M3 x0 76) x3) + (M6 (M3 x0 76) (x3 + y7)))] M6 (fun y9 M8 => (gA 20 (M3 x0 76) x3) ∧ WR 273 42 [some (vR x0), some (vI x1), some (vI x2), some (vI x3), some (vI (x4 + 1))] [] (upM M8 (M3 x0 76) x3 y9) Q))))))))) : WR 273 42 [some (vR x0), some (vI x1), some (vI x2), some (vI x3), some (vI x4)] [] M Q := by
  refine g_5 (a := 4) (b := 0) (nx := 44) (by decide +kernel) rfl ?_
  refine g_1 (a := 100) (b := 0) (nx := 46) (by decide +kernel) ?_
  refine g_7 (a := 0) (b := 0) (nx := 47) (by decide +kernel) rfl ?_
  refine g_52 (a := 12) (b := 61) (nx := 50) (by decide +kernel) h0 ?_
  refine g_1 (a := 0) (b := 0) (nx := 51) (by decide +kernel) ?_
  refine g_61 (a := 0) (b := 0) (nx := 52) (by decide +kernel) h.1 ?_
  replace h := h.2
  refine g_15 (a := 0) (b := 0) (nx := 53) (by decide +kernel) ?_
  obtain ⟨r1, h⟩ := h
  obtain ⟨r2, h⟩ := h
  by_cases c11 : (100 + (M (M x0 61) 0)) ≤ x4
  · rw [if_pos c11] at h
    refine g_41t (a := 3) (b := 105) (nx := 56) (by decide +kernel) (by rw [wr_id r1, wr_id r2]; exact (cb_3 _ _).mpr c11) ?_
    refine g_11 (a := 3) (b := (-1)) (nx := 108) (by decide +kernel) rfl rfl (ls' := [some (vR x0), some (vI x1), some (vI x2), some (vI (x3 + (-1))), some (vI x4)]) rfl ?_
    refine g_44 (a := 0) (b := 27) (nx := 111) (by decide +kernel) ?_
    exact h
  · rw [if_neg c11] at h
    refine g_41f (a := 3) (b := 105) (nx := 56) (by decide +kernel) (by rw [wr_id r1, wr_id r2]; exact fun hz => c11 ((cb_3 _ _).mp hz)) ?_
    refine g_7 (a := 0) (b := 0) (nx := 57) (by decide +kernel) rfl ?_
    refine g_5 (a := 1) (b := 0) (nx := 58) (by decide +kernel) rfl ?_
    refine g_5 (a := 3) (b := 0) (nx := 59) (by decide +kernel) rfl ?_
    refine g_5 (a := 4) (b := 0) (nx := 61) (by decide +kernel) rfl ?_
    refine g_80 (a := 272) (b := 3) (nx := 64) (by decide +kernel) (r := x0) (As := [vI x1, vI x3, vI x4]) (st' := []) (z := 272) rfl rfl rfl (Nat.le_of_ble_eq_true rfl) h0.2 (Nat.le_of_ble_eq_true rfl) rfl (c_I (by decide +kernel) h (fun y4 M3 h => ?_))
    obtain ⟨r5, h⟩ := h
    by_cases c10 : y4 = 0
    · rw [if_pos c10] at h
      refine g_40t (a := 0) (b := 99) (nx := 67) (by decide +kernel) r5 (by exact (cb_0 _ _).mpr c10) ?_
      refine g_11 (a := 4) (b := 1) (nx := 102) (by decide +kernel) rfl rfl (ls' := [some (vR x0), some (vI x1), some (vI x2), some (vI x3), some (vI (x4 + 1))]) rfl ?_
      refine g_44 (a := 0) (b := 42) (nx := 105) (by decide +kernel) ?_
      exact h
    · rw [if_neg c10] at h
      refine g_40f (a := 0) (b := 99) (nx := 67) (by decide +kernel) r5 (by exact fun hz => c10 ((cb_0 _ _).mp hz)) ?_
      refine g_7 (a := 0) (b := 0) (nx := 68) (by decide +kernel) rfl ?_
      refine g_52 (a := 12) (b := 76) (nx := 71) (by decide +kernel) h0 ?_
      refine g_5 (a := 3) (b := 0) (nx := 72) (by decide +kernel) rfl ?_
      refine g_1 (a := 1000000) (b := 0) (nx := 75) (by decide +kernel) ?_
      refine g_7 (a := 0) (b := 0) (nx := 76) (by decide +kernel) rfl ?_
      refine g_52 (a := 12) (b := 76) (nx := 79) (by decide +kernel) h0 ?_
      refine g_5 (a := 3) (b := 0) (nx := 80) (by decide +kernel) rfl ?_
      refine g_61 (a := 0) (b := 0) (nx := 81) (by decide +kernel) h.1 ?_
      replace h := h.2
      refine g_7 (a := 0) (b := 0) (nx := 82) (by decide +kernel) rfl ?_
      refine g_52 (a := 12) (b := 76) (nx := 85) (by decide +kernel) h0 ?_
      refine g_5 (a := 3) (b := 0) (nx := 86) (by decide +kernel) rfl ?_
      refine g_7 (a := 0) (b := 0) (nx := 87) (by decide +kernel) rfl ?_
      refine g_5 (a := 4) (b := 0) (nx := 89) (by decide +kernel) rfl ?_
      refine g_80 (a := 221) (b := 1) (nx := 92) (by decide +kernel) (r := x0) (As := [vI x4]) (st' := [vI x3, vR (M3 x0 76), vI (M3 (M3 x0 76) x3), vI 1000000, vI x3, vR (M3 x0 76)]) (z := 221) rfl rfl rfl (Nat.le_of_ble_eq_true rfl) h0.2 (Nat.le_of_ble_eq_true rfl) rfl (c_I (by decide +kernel) h (fun y7 M6 h => ?_))
      refine g_15 (a := 0) (b := 0) (nx := 93) (by decide +kernel) ?_
      refine g_61 (a := 0) (b := 0) (nx := 94) (by decide +kernel) h.1 ?_
      replace h := h.2
      refine g_15 (a := 0) (b := 0) (nx := 95) (by decide +kernel) ?_
      refine g_82 (a := 179) (b := 2) (nx := 98) (by decide +kernel) (As := [vI 1000000, vI ((M3 (M3 x0 76) x3) + (M6 (M3 x0 76) (x3 + y7)))]) (st' := [vI x3, vR (M3 x0 76)]) (z := 179) rfl rfl rfl (Nat.le_of_ble_eq_true rfl) (Nat.le_of_ble_eq_true rfl) rfl (c_I (by decide +kernel) h (fun y9 M8 h => ?_))
      refine g_62 (a := 0) (b := 0) (nx := 99) (by decide +kernel) h.1 ?_
      replace h := h.2
      refine g_11 (a := 4) (b := 1) (nx := 102) (by decide +kernel) rfl rfl (ls' := [some (vR x0), some (vI x1), some (vI x2), some (vI x3), some (vI (x4 + 1))]) rfl ?_
      refine g_44 (a := 0) (b := 42) (nx := 105) (by decide +kernel) ?_
      exact h
-- 274 SyllableMakerModel.syllablesSaid()I
theorem t_274 {x0 : Int} {M : Mem} {Q : AV → Mem → Prop} (h0 : gO 12 x0) (h : WR 274 4 [some (vR x0), some (vI 0), some (vI 0)] [] M Q) : WC 274 [vR x0] M Q := by
  show WR 274 0 [some (vR x0), none, none] [] M Q
  refine g_1 (a := 0) (b := 0) (nx := 1) (by decide +kernel) ?_
  refine g_8 (a := 1) (b := 0) (nx := 2) (by decide +kernel) rfl (ls' := [some (vR x0), some (vI 0), none]) rfl ?_
  refine g_1 (a := 0) (b := 0) (nx := 3) (by decide +kernel) ?_
  refine g_8 (a := 2) (b := 0) (nx := 4) (by decide +kernel) rfl (ls' := [some (vR x0), some (vI 0), some (vI 0)]) rfl ?_
  exact h
theorem t_274_4 {x0 x1 x2 : Int} {M : Mem} {Q : AV → Mem → Prop} (h0 : gO 12 x0) (h : inR x2 ∧ (inR (M x0 56) ∧ (if (M x0 56) ≤ x2 then (Q (vI x1) M) else (WV 227 [vR x0, vI x2] M (fun M3 => WR 274 4 [some (vR x0), some (vI (x1 + (M3 x0 70))), some (vI (x2 + 1))] [] M3 Q))))) : WR 274 4 [some (vR x0), some (vI x1), some (vI x2)] [] M Q := by
  refine g_5 (a := 2) (b := 0) (nx := 5) (by decide +kernel) rfl ?_
  refine g_7 (a := 0) (b := 0) (nx := 6) (by decide +kernel) rfl ?_
  refine g_50 (a := 12) (b := 56) (nx := 9) (by decide +kernel) h0 ?_
  obtain ⟨r1, h⟩ := h
  obtain ⟨r2, h⟩ := h
  by_cases c5 : (M x0 56) ≤ x2
  · rw [if_pos c5] at h
    refine g_41t (a := 3) (b := 30) (nx := 12) (by decide +kernel) (by rw [wr_id r1, wr_id r2]; exact (cb_3 _ _).mpr c5) ?_
    refine g_5 (a := 1) (b := 0) (nx := 31) (by decide +kernel) rfl ?_
    exact g_91 (b := 0) (nx := 32) (by decide +kernel) h
  · rw [if_neg c5] at h
    refine g_41f (a := 3) (b := 30) (nx := 12) (by decide +kernel) (by rw [wr_id r1, wr_id r2]; exact fun hz => c5 ((cb_3 _ _).mp hz)) ?_
    refine g_7 (a := 0) (b := 0) (nx := 13) (by decide +kernel) rfl ?_
    refine g_5 (a := 2) (b := 0) (nx := 14) (by decide +kernel) rfl ?_
    refine g_80 (a := 227) (b := 1) (nx := 17) (by decide +kernel) (r := x0) (As := [vI x2]) (st' := []) (z := 227) rfl rfl rfl (Nat.le_of_ble_eq_true rfl) h0.2 (Nat.le_of_ble_eq_true rfl) rfl (c_V (by decide +kernel) h (fun M3 h => ?_))
    refine g_5 (a := 1) (b := 0) (nx := 18) (by decide +kernel) rfl ?_
    refine g_7 (a := 0) (b := 0) (nx := 19) (by decide +kernel) rfl ?_
    refine g_50 (a := 12) (b := 70) (nx := 22) (by decide +kernel) h0 ?_
    refine g_15 (a := 0) (b := 0) (nx := 23) (by decide +kernel) ?_
    refine g_8 (a := 1) (b := 0) (nx := 24) (by decide +kernel) rfl (ls' := [some (vR x0), some (vI (x1 + (M3 x0 70))), some (vI x2)]) rfl ?_
    refine g_11 (a := 2) (b := 1) (nx := 27) (by decide +kernel) rfl rfl (ls' := [some (vR x0), some (vI (x1 + (M3 x0 70))), some (vI (x2 + 1))]) rfl ?_
    refine g_44 (a := 0) (b := 4) (nx := 30) (by decide +kernel) ?_
    exact h
-- 275 SyllableMakerModel.misfitsBy(II)I
theorem t_275 {x0 x1 x2 : Int} {M : Mem} {Q : AV → Mem → Prop} (h0 : gO 12 x0) (h : WR 275 8 [some (vR x0), some (vI x1), some (vI x2), some (vI 0), some (vI 0), some (vI 0), none, none, none] [] M Q) : WC 275 [vR x0, vI x1, vI x2] M Q := by
  show WR 275 0 [some (vR x0), some (vI x1), some (vI x2), none, none, none, none, none, none] [] M Q
  refine g_1 (a := 0) (b := 0) (nx := 1) (by decide +kernel) ?_
  refine g_8 (a := 3) (b := 0) (nx := 2) (by decide +kernel) rfl (ls' := [some (vR x0), some (vI x1), some (vI x2), some (vI 0), none, none, none, none, none]) rfl ?_
  refine g_1 (a := 0) (b := 0) (nx := 3) (by decide +kernel) ?_
  refine g_8 (a := 4) (b := 0) (nx := 5) (by decide +kernel) rfl (ls' := [some (vR x0), some (vI x1), some (vI x2), some (vI 0), some (vI 0), none, none, none, none]) rfl ?_
  refine g_1 (a := 0) (b := 0) (nx := 6) (by decide +kernel) ?_
  refine g_8 (a := 5) (b := 0) (nx := 8) (by decide +kernel) rfl (ls' := [some (vR x0), some (vI x1), some (vI x2), some (vI 0), some (vI 0), some (vI 0), none, none, none]) rfl ?_
  exact h
theorem t_275_8 {x0 x1 x2 x3 x4 x5 : Int} {l6 l7 l8 : Option AV} {M : Mem} {Q : AV → Mem → Prop} (h0 : gO 12 x0) (h : inR x5 ∧ (inR (M x0 56) ∧ (if (M x0 56) ≤ x5 then (Q (vI x4) M) else (WV 227 [vR x0, vI x5] M (fun M3 => WV 238 [vR x0] M3 (fun M5 => inR (M5 x0 70) ∧ (if (M5 x0 70) = 0 then (WR 275 47 [some (vR x0), some (vI x1), some (vI x2), some (vI x3), some (vI x4), some (vI x5), some (vI (-1)), some (vI 0), l8] [] M5 Q) else (WI 252 [vR x0] M5 (fun y9 M8 => WR 275 47 [some (vR x0), some (vI x1), some (vI x2), some (vI x3), some (vI x4), some (vI x5), some (vI y9), some (vI 0), l8] [] M8 Q))))))))) : WR 275 8 [some (vR x0), some (vI x1), some (vI x2), some (vI x3), some (vI x4), some (vI x5), l6, l7, l8] [] M Q := by
  refine g_5 (a := 5) (b := 0) (nx := 10) (by decide +kernel) rfl ?_
  refine g_7 (a := 0) (b := 0) (nx := 11) (by decide +kernel) rfl ?_
  refine g_50 (a := 12) (b := 56) (nx := 14) (by decide +kernel) h0 ?_
  obtain ⟨r1, h⟩ := h
  obtain ⟨r2, h⟩ := h
  by_cases c11 : (M x0 56) ≤ x5
  · rw [if_pos c11] at h
    refine g_41t (a := 3) (b := 116) (nx := 17) (by decide +kernel) (by rw [wr_id r1, wr_id r2]; exact (cb_3 _ _).mpr c11) ?_
    refine g_5 (a := 4) (b := 0) (nx := 118) (by decide +kernel) rfl ?_
    exact g_91 (b := 0) (nx := 119) (by decide +kernel) h
  · rw [if_neg c11] at h
    refine g_41f (a := 3) (b := 116) (nx := 17) (by decide +kernel) (by rw [wr_id r1, wr_id r2]; exact fun hz => c11 ((cb_3 _ _).mp hz)) ?_
    refine g_7 (a := 0) (b := 0) (nx := 18) (by decide +kernel) rfl ?_
    refine g_5 (a := 5) (b := 0) (nx := 20) (by decide +kernel) rfl ?_
    refine g_80 (a := 227) (b := 1) (nx := 23) (by decide +kernel) (r := x0) (As := [vI x5]) (st' := []) (z := 227) rfl rfl rfl (Nat.le_of_ble_eq_true rfl) h0.2 (Nat.le_of_ble_eq_true rfl) rfl (c_V (by decide +kernel) h (fun M3 h => ?_))
    refine g_7 (a := 0) (b := 0) (nx := 24) (by decide +kernel) rfl ?_
    refine g_80 (a := 238) (b := 0) (nx := 27) (by decide +kernel) (r := x0) (As := []) (st' := []) (z := 238) rfl rfl rfl (Nat.le_of_ble_eq_true rfl) h0.2 (Nat.le_of_ble_eq_true rfl) rfl (c_V (by decide +kernel) h (fun M5 h => ?_))
    refine g_7 (a := 0) (b := 0) (nx := 28) (by decide +kernel) rfl ?_
    refine g_50 (a := 12) (b := 70) (nx := 31) (by decide +kernel) h0 ?_
    obtain ⟨r7, h⟩ := h
    by_cases c10 : (M5 x0 70) = 0
    · rw [if_pos c10] at h
      refine g_40f (a := 1) (b := 38) (nx := 34) (by decide +kernel) r7 (by exact fun hz => ((cb_1 _ _).mp hz) c10) ?_
      refine g_1 (a := (-1)) (b := 0) (nx := 35) (by decide +kernel) ?_
      refine g_44 (a := 0) (b := 42) (nx := 38) (by decide +kernel) ?_
      refine g_8 (a := 6) (b := 0) (nx := 44) (by decide +kernel) rfl (ls' := [some (vR x0), some (vI x1), some (vI x2), some (vI x3), some (vI x4), some (vI x5), some (vI (-1)), l7, l8]) rfl ?_
      refine g_1 (a := 0) (b := 0) (nx := 45) (by decide +kernel) ?_
      refine g_8 (a := 7) (b := 0) (nx := 47) (by decide +kernel) rfl (ls' := [some (vR x0), some (vI x1), some (vI x2), some (vI x3), some (vI x4), some (vI x5), some (vI (-1)), some (vI 0), l8]) rfl ?_
      exact h
    · rw [if_neg c10] at h
      refine g_40t (a := 1) (b := 38) (nx := 34) (by decide +kernel) r7 (by exact (cb_1 _ _).mpr c10) ?_
      refine g_7 (a := 0) (b := 0) (nx := 39) (by decide +kernel) rfl ?_
      refine g_80 (a := 252) (b := 0) (nx := 42) (by decide +kernel) (r := x0) (As := []) (st' := []) (z := 252) rfl rfl rfl (Nat.le_of_ble_eq_true rfl) h0.2 (Nat.le_of_ble_eq_true rfl) rfl (c_I (by decide +kernel) h (fun y9 M8 h => ?_))
      refine g_8 (a := 6) (b := 0) (nx := 44) (by decide +kernel) rfl (ls' := [some (vR x0), some (vI x1), some (vI x2), some (vI x3), some (vI x4), some (vI x5), some (vI y9), l7, l8]) rfl ?_
      refine g_1 (a := 0) (b := 0) (nx := 45) (by decide +kernel) ?_
      refine g_8 (a := 7) (b := 0) (nx := 47) (by decide +kernel) rfl (ls' := [some (vR x0), some (vI x1), some (vI x2), some (vI x3), some (vI x4), some (vI x5), some (vI y9), some (vI 0), l8]) rfl ?_
      exact h
theorem t_275_47 {x0 x1 x2 x3 x4 x5 x6 x7 : Int} {l8 : Option AV} {M : Mem} {Q : AV → Mem → Prop} (h0 : gO 12 x0) (h : inR x7 ∧ (inR (M x0 70) ∧ (if (M x0 70) ≤ x7 then (WR 275 8 [some (vR x0), some (vI x1), some (vI x2), some (vI x3), some (vI x4), some (vI (x5 + 1)), some (vI x6), some (vI x7), l8] [] M Q) else ((0 < x1 ∧ -2147483648 ≤ (x3 - x2) ∧ (x3 - x2) < 2147483648 ∧ x1 < 2147483648) ∧ inR (((x3 - x2)).tmod x1) ∧ (if (((x3 - x2)).tmod x1) = 0 then (inR x6 ∧ (if x7 = x6 then (WI 178 [vI 0] M (fun y14 M13 => WR 275 47 [some (vR x0), some (vI x1), some (vI x2), some (vI (x3 + 1)), some (vI (x4 + y14)), some (vI x5), some (vI x6), some (vI (x7 + 1)), some (vI 1)] [] M13 Q)) else (WI 178 [vI 1] M (fun y12 M11 => WR 275 47 [some (vR x0), some (vI x1), some (vI x2), some (vI (x3 + 1)), some (vI (x4 + y12)), some (vI x5), some (vI x6), some (vI (x7 + 1)), some (vI 1)] [] M11 Q)))) else (inR x6 ∧ (if x7 = x6 then (WI 178 [vI 1] M (fun y8 M7 => WR 275 47 [some (vR x0), some (vI x1), some (vI x2), some (vI (x3 + 1)), some (vI (x4 + y8)), some (vI x5), some (vI x6), some (vI (x7 + 1)), some (vI 0)] [] M7 Q)) else (WI 178 [vI 0] M (fun y6 M5 => WR 275 47 [some (vR x0), some (vI x1), some (vI x2), some (vI (x3 + 1)), some (vI (x4 + y6)), some (vI x5), some (vI x6), some (vI (x7 + 1)), some (vI 0)] [] M5 Q))))))))) : WR 275 47 [some (vR x0), some (vI x1), some (vI x2), some (vI x3), some (vI x4), some (vI x5), some (vI x6), some (vI x7), l8] [] M Q := by
  refine g_5 (a := 7) (b := 0) (nx := 49) (by decide +kernel) rfl ?_
  refine g_7 (a := 0) (b := 0) (nx := 50) (by decide +kernel) rfl ?_
  refine g_50 (a := 12) (b := 70) (nx := 53) (by decide +kernel) h0 ?_
  obtain ⟨r1, h⟩ := h
  obtain ⟨r2, h⟩ := h
  by_cases c17 : (M x0 70) ≤ x7
  · rw [if_pos c17] at h
    refine g_41t (a := 3) (b := 110) (nx := 56) (by decide +kernel) (by rw [wr_id r1, wr_id r2]; exact (cb_3 _ _).mpr c17) ?_
    refine g_11 (a := 5) (b := 1) (nx := 113) (by decide +kernel) rfl rfl (ls' := [some (vR x0), some (vI x1), some (vI x2), some (vI x3), some (vI x4), some (vI (x5 + 1)), some (vI x6), some (vI x7), l8]) rfl ?_
    refine g_44 (a := 0) (b := 8) (nx := 116) (by decide +kernel) ?_
    exact h
  · rw [if_neg c17] at h
    refine g_41f (a := 3) (b := 110) (nx := 56) (by decide +kernel) (by rw [wr_id r1, wr_id r2]; exact fun hz => c17 ((cb_3 _ _).mp hz)) ?_
    refine g_5 (a := 3) (b := 0) (nx := 57) (by decide +kernel) rfl ?_
    refine g_5 (a := 2) (b := 0) (nx := 58) (by decide +kernel) rfl ?_
    refine g_16 (a := 0) (b := 0) (nx := 59) (by decide +kernel) ?_
    refine g_5 (a := 1) (b := 0) (nx := 60) (by decide +kernel) rfl ?_
    refine g_19 (a := 0) (b := 0) (nx := 61) (by decide +kernel) h.1 ?_
    replace h := h.2
    obtain ⟨r3, h⟩ := h
    by_cases c16 : (((x3 - x2)).tmod x1) = 0
    · rw [if_pos c16] at h
      refine g_40f (a := 1) (b := 68) (nx := 64) (by decide +kernel) r3 (by exact fun hz => ((cb_1 _ _).mp hz) c16) ?_
      refine g_1 (a := 1) (b := 0) (nx := 65) (by decide +kernel) ?_
      refine g_44 (a := 0) (b := 69) (nx := 68) (by decide +kernel) ?_
      refine g_8 (a := 8) (b := 0) (nx := 71) (by decide +kernel) rfl (ls' := [some (vR x0), some (vI x1), some (vI x2), some (vI x3), some (vI x4), some (vI x5), some (vI x6), some (vI x7), some (vI 1)]) rfl ?_
      refine g_5 (a := 4) (b := 0) (nx := 73) (by decide +kernel) rfl ?_
      refine g_5 (a := 8) (b := 0) (nx := 75) (by decide +kernel) rfl ?_
      refine g_5 (a := 7) (b := 0) (nx := 77) (by decide +kernel) rfl ?_
      refine g_5 (a := 6) (b := 0) (nx := 79) (by decide +kernel) rfl ?_
      obtain ⟨r10, h⟩ := h
      by_cases c15 : x7 = x6
      · rw [if_pos c15] at h
        refine g_41f (a := 1) (b := 86) (nx := 82) (by decide +kernel) (by rw [wr_id r1, wr_id r10]; exact fun hz => ((cb_1 _ _).mp hz) c15) ?_
        refine g_1 (a := 1) (b := 0) (nx := 83) (by decide +kernel) ?_
        refine g_44 (a := 0) (b := 87) (nx := 86) (by decide +kernel) ?_
        refine g_41t (a := 0) (b := 94) (nx := 90) (by decide +kernel) (by decide +kernel) ?_
        refine g_1 (a := 0) (b := 0) (nx := 95) (by decide +kernel) ?_
        refine g_82 (a := 178) (b := 1) (nx := 98) (by decide +kernel) (As := [vI 0]) (st' := [vI x4]) (z := 178) rfl rfl rfl (Nat.le_of_ble_eq_true rfl) (Nat.le_of_ble_eq_true rfl) rfl (c_I (by decide +kernel) h (fun y14 M13 h => ?_))
        refine g_15 (a := 0) (b := 0) (nx := 99) (by decide +kernel) ?_
        refine g_8 (a := 4) (b := 0) (nx := 101) (by decide +kernel) rfl (ls' := [some (vR x0), some (vI x1), some (vI x2), some (vI x3), some (vI (x4 + y14)), some (vI x5), some (vI x6), some (vI x7), some (vI 1)]) rfl ?_
        refine g_11 (a := 3) (b := 1) (nx := 104) (by decide +kernel) rfl rfl (ls' := [some (vR x0), some (vI x1), some (vI x2), some (vI (x3 + 1)), some (vI (x4 + y14)), some (vI x5), some (vI x6), some (vI x7), some (vI 1)]) rfl ?_
        refine g_11 (a := 7) (b := 1) (nx := 107) (by decide +kernel) rfl rfl (ls' := [some (vR x0), some (vI x1), some (vI x2), some (vI (x3 + 1)), some (vI (x4 + y14)), some (vI x5), some (vI x6), some (vI (x7 + 1)), some (vI 1)]) rfl ?_
        refine g_44 (a := 0) (b := 47) (nx := 110) (by decide +kernel) ?_
        exact h
      · rw [if_neg c15] at h
        refine g_41t (a := 1) (b := 86) (nx := 82) (by decide +kernel) (by rw [wr_id r1, wr_id r10]; exact (cb_1 _ _).mpr c15) ?_
        refine g_1 (a := 0) (b := 0) (nx := 87) (by decide +kernel) ?_
        refine g_41f (a := 0) (b := 94) (nx := 90) (by decide +kernel) (by decide +kernel) ?_
        refine g_1 (a := 1) (b := 0) (nx := 91) (by decide +kernel) ?_
        refine g_44 (a := 0) (b := 95) (nx := 94) (by decide +kernel) ?_
        refine g_82 (a := 178) (b := 1) (nx := 98) (by decide +kernel) (As := [vI 1]) (st' := [vI x4]) (z := 178) rfl rfl rfl (Nat.le_of_ble_eq_true rfl) (Nat.le_of_ble_eq_true rfl) rfl (c_I (by decide +kernel) h (fun y12 M11 h => ?_))
        refine g_15 (a := 0) (b := 0) (nx := 99) (by decide +kernel) ?_
        refine g_8 (a := 4) (b := 0) (nx := 101) (by decide +kernel) rfl (ls' := [some (vR x0), some (vI x1), some (vI x2), some (vI x3), some (vI (x4 + y12)), some (vI x5), some (vI x6), some (vI x7), some (vI 1)]) rfl ?_
        refine g_11 (a := 3) (b := 1) (nx := 104) (by decide +kernel) rfl rfl (ls' := [some (vR x0), some (vI x1), some (vI x2), some (vI (x3 + 1)), some (vI (x4 + y12)), some (vI x5), some (vI x6), some (vI x7), some (vI 1)]) rfl ?_
        refine g_11 (a := 7) (b := 1) (nx := 107) (by decide +kernel) rfl rfl (ls' := [some (vR x0), some (vI x1), some (vI x2), some (vI (x3 + 1)), some (vI (x4 + y12)), some (vI x5), some (vI x6), some (vI (x7 + 1)), some (vI 1)]) rfl ?_
        refine g_44 (a := 0) (b := 47) (nx := 110) (by decide +kernel) ?_
        exact h
    · rw [if_neg c16] at h
      refine g_40t (a := 1) (b := 68) (nx := 64) (by decide +kernel) r3 (by exact (cb_1 _ _).mpr c16) ?_
      refine g_1 (a := 0) (b := 0) (nx := 69) (by decide +kernel) ?_
      refine g_8 (a := 8) (b := 0) (nx := 71) (by decide +kernel) rfl (ls' := [some (vR x0), some (vI x1), some (vI x2), some (vI x3), some (vI x4), some (vI x5), some (vI x6), some (vI x7), some (vI 0)]) rfl ?_
      refine g_5 (a := 4) (b := 0) (nx := 73) (by decide +kernel) rfl ?_
      refine g_5 (a := 8) (b := 0) (nx := 75) (by decide +kernel) rfl ?_
      refine g_5 (a := 7) (b := 0) (nx := 77) (by decide +kernel) rfl ?_
      refine g_5 (a := 6) (b := 0) (nx := 79) (by decide +kernel) rfl ?_
      obtain ⟨r4, h⟩ := h
      by_cases c9 : x7 = x6
      · rw [if_pos c9] at h
        refine g_41f (a := 1) (b := 86) (nx := 82) (by decide +kernel) (by rw [wr_id r1, wr_id r4]; exact fun hz => ((cb_1 _ _).mp hz) c9) ?_
        refine g_1 (a := 1) (b := 0) (nx := 83) (by decide +kernel) ?_
        refine g_44 (a := 0) (b := 87) (nx := 86) (by decide +kernel) ?_
        refine g_41f (a := 0) (b := 94) (nx := 90) (by decide +kernel) (by decide +kernel) ?_
        refine g_1 (a := 1) (b := 0) (nx := 91) (by decide +kernel) ?_
        refine g_44 (a := 0) (b := 95) (nx := 94) (by decide +kernel) ?_
        refine g_82 (a := 178) (b := 1) (nx := 98) (by decide +kernel) (As := [vI 1]) (st' := [vI x4]) (z := 178) rfl rfl rfl (Nat.le_of_ble_eq_true rfl) (Nat.le_of_ble_eq_true rfl) rfl (c_I (by decide +kernel) h (fun y8 M7 h => ?_))
        refine g_15 (a := 0) (b := 0) (nx := 99) (by decide +kernel) ?_
        refine g_8 (a := 4) (b := 0) (nx := 101) (by decide +kernel) rfl (ls' := [some (vR x0), some (vI x1), some (vI x2), some (vI x3), some (vI (x4 + y8)), some (vI x5), some (vI x6), some (vI x7), some (vI 0)]) rfl ?_
        refine g_11 (a := 3) (b := 1) (nx := 104) (by decide +kernel) rfl rfl (ls' := [some (vR x0), some (vI x1), some (vI x2), some (vI (x3 + 1)), some (vI (x4 + y8)), some (vI x5), some (vI x6), some (vI x7), some (vI 0)]) rfl ?_
        refine g_11 (a := 7) (b := 1) (nx := 107) (by decide +kernel) rfl rfl (ls' := [some (vR x0), some (vI x1), some (vI x2), some (vI (x3 + 1)), some (vI (x4 + y8)), some (vI x5), some (vI x6), some (vI (x7 + 1)), some (vI 0)]) rfl ?_
        refine g_44 (a := 0) (b := 47) (nx := 110) (by decide +kernel) ?_
        exact h
      · rw [if_neg c9] at h
        refine g_41t (a := 1) (b := 86) (nx := 82) (by decide +kernel) (by rw [wr_id r1, wr_id r4]; exact (cb_1 _ _).mpr c9) ?_
        refine g_1 (a := 0) (b := 0) (nx := 87) (by decide +kernel) ?_
        refine g_41t (a := 0) (b := 94) (nx := 90) (by decide +kernel) (by decide +kernel) ?_
        refine g_1 (a := 0) (b := 0) (nx := 95) (by decide +kernel) ?_
        refine g_82 (a := 178) (b := 1) (nx := 98) (by decide +kernel) (As := [vI 0]) (st' := [vI x4]) (z := 178) rfl rfl rfl (Nat.le_of_ble_eq_true rfl) (Nat.le_of_ble_eq_true rfl) rfl (c_I (by decide +kernel) h (fun y6 M5 h => ?_))
        refine g_15 (a := 0) (b := 0) (nx := 99) (by decide +kernel) ?_
        refine g_8 (a := 4) (b := 0) (nx := 101) (by decide +kernel) rfl (ls' := [some (vR x0), some (vI x1), some (vI x2), some (vI x3), some (vI (x4 + y6)), some (vI x5), some (vI x6), some (vI x7), some (vI 0)]) rfl ?_
        refine g_11 (a := 3) (b := 1) (nx := 104) (by decide +kernel) rfl rfl (ls' := [some (vR x0), some (vI x1), some (vI x2), some (vI (x3 + 1)), some (vI (x4 + y6)), some (vI x5), some (vI x6), some (vI x7), some (vI 0)]) rfl ?_
        refine g_11 (a := 7) (b := 1) (nx := 107) (by decide +kernel) rfl rfl (ls' := [some (vR x0), some (vI x1), some (vI x2), some (vI (x3 + 1)), some (vI (x4 + y6)), some (vI x5), some (vI x6), some (vI (x7 + 1)), some (vI 0)]) rfl ?_
        refine g_44 (a := 0) (b := 47) (nx := 110) (by decide +kernel) ?_
        exact h
-- 276 SyllableMakerModel.misfits(II)I
theorem t_276 {x0 x1 x2 : Int} {M : Mem} {Q : AV → Mem → Prop} (h0 : gO 12 x0) (h : WI 177 [vL (wr32 x1), vL 2, vL 4] M (fun y2 M1 => inR y2 ∧ (if y2 = 0 then (Q (vI (-1)) M1) else (WI 177 [vL (wr32 x2), vL 0, vL (wr32 (x1 - 1))] M1 (fun y5 M4 => inR y5 ∧ (if y5 = 0 then (Q (vI (-1)) M4) else (WI 274 [vR x0] M4 (fun y8 M7 => inR y8 ∧ (if y8 = 0 then (Q (vI (-1)) M7) else (WI 275 [vR x0, vI x1, vI x2] M7 (fun y11 M10 => Q (vI y11) M10))))))))))) : WC 276 [vR x0, vI x1, vI x2] M Q := by
  show WR 276 0 [some (vR x0), some (vI x1), some (vI x2)] [] M Q
  refine g_5 (a := 1) (b := 0) (nx := 1) (by decide +kernel) rfl ?_
  refine g_35 (a := 0) (b := 0) (nx := 2) (by decide +kernel) ?_
  refine g_2 (a := 2) (b := 0) (nx := 5) (by decide +kernel) ?_
  refine g_2 (a := 4) (b := 0) (nx := 8) (by decide +kernel) ?_
  refine g_82 (a := 177) (b := 3) (nx := 11) (by decide +kernel) (As := [vL (wr32 x1), vL 2, vL 4]) (st' := []) (z := 177) rfl rfl rfl (Nat.le_of_ble_eq_true rfl) (Nat.le_of_ble_eq_true rfl) rfl (c_I (by decide +kernel) h (fun y2 M1 h => ?_))
  obtain ⟨r3, h⟩ := h
  by_cases c14 : y2 = 0
  · rw [if_pos c14] at h
    refine g_40t (a := 0) (b := 34) (nx := 14) (by decide +kernel) r3 (by exact (cb_0 _ _).mpr c14) ?_
    refine g_1 (a := (-1)) (b := 0) (nx := 35) (by decide +kernel) ?_
    refine g_44 (a := 0) (b := 44) (nx := 38) (by decide +kernel) ?_
    exact g_91 (b := 0) (nx := 45) (by decide +kernel) h
  · rw [if_neg c14] at h
    refine g_40f (a := 0) (b := 34) (nx := 14) (by decide +kernel) r3 (by exact fun hz => c14 ((cb_0 _ _).mp hz)) ?_
    refine g_5 (a := 2) (b := 0) (nx := 15) (by decide +kernel) rfl ?_
    refine g_35 (a := 0) (b := 0) (nx := 16) (by decide +kernel) ?_
    refine g_2 (a := 0) (b := 0) (nx := 17) (by decide +kernel) ?_
    refine g_5 (a := 1) (b := 0) (nx := 18) (by decide +kernel) rfl ?_
    refine g_1 (a := 1) (b := 0) (nx := 19) (by decide +kernel) ?_
    refine g_16 (a := 0) (b := 0) (nx := 20) (by decide +kernel) ?_
    refine g_35 (a := 0) (b := 0) (nx := 21) (by decide +kernel) ?_
    refine g_82 (a := 177) (b := 3) (nx := 24) (by decide +kernel) (As := [vL (wr32 x2), vL 0, vL (wr32 (x1 - 1))]) (st' := []) (z := 177) rfl rfl rfl (Nat.le_of_ble_eq_true rfl) (Nat.le_of_ble_eq_true rfl) rfl (c_I (by decide +kernel) h (fun y5 M4 h => ?_))
    obtain ⟨r6, h⟩ := h
    by_cases c13 : y5 = 0
    · rw [if_pos c13] at h
      refine g_40t (a := 0) (b := 34) (nx := 27) (by decide +kernel) r6 (by exact (cb_0 _ _).mpr c13) ?_
      refine g_1 (a := (-1)) (b := 0) (nx := 35) (by decide +kernel) ?_
      refine g_44 (a := 0) (b := 44) (nx := 38) (by decide +kernel) ?_
      exact g_91 (b := 0) (nx := 45) (by decide +kernel) h
    · rw [if_neg c13] at h
      refine g_40f (a := 0) (b := 34) (nx := 27) (by decide +kernel) r6 (by exact fun hz => c13 ((cb_0 _ _).mp hz)) ?_
      refine g_7 (a := 0) (b := 0) (nx := 28) (by decide +kernel) rfl ?_
      refine g_80 (a := 274) (b := 0) (nx := 31) (by decide +kernel) (r := x0) (As := []) (st' := []) (z := 274) rfl rfl rfl (Nat.le_of_ble_eq_true rfl) h0.2 (Nat.le_of_ble_eq_true rfl) rfl (c_I (by decide +kernel) h (fun y8 M7 h => ?_))
      obtain ⟨r9, h⟩ := h
      by_cases c12 : y8 = 0
      · rw [if_pos c12] at h
        refine g_40f (a := 1) (b := 38) (nx := 34) (by decide +kernel) r9 (by exact fun hz => ((cb_1 _ _).mp hz) c12) ?_
        refine g_1 (a := (-1)) (b := 0) (nx := 35) (by decide +kernel) ?_
        refine g_44 (a := 0) (b := 44) (nx := 38) (by decide +kernel) ?_
        exact g_91 (b := 0) (nx := 45) (by decide +kernel) h
      · rw [if_neg c12] at h
        refine g_40t (a := 1) (b := 38) (nx := 34) (by decide +kernel) r9 (by exact (cb_1 _ _).mpr c12) ?_
        refine g_7 (a := 0) (b := 0) (nx := 39) (by decide +kernel) rfl ?_
        refine g_5 (a := 1) (b := 0) (nx := 40) (by decide +kernel) rfl ?_
        refine g_5 (a := 2) (b := 0) (nx := 41) (by decide +kernel) rfl ?_
        refine g_80 (a := 275) (b := 2) (nx := 44) (by decide +kernel) (r := x0) (As := [vI x1, vI x2]) (st' := []) (z := 275) rfl rfl rfl (Nat.le_of_ble_eq_true rfl) h0.2 (Nat.le_of_ble_eq_true rfl) rfl (c_I (by decide +kernel) h (fun y11 M10 h => ?_))
        exact g_91 (b := 0) (nx := 45) (by decide +kernel) h
-- 277 SyllableMakerModel.beat(I)I
theorem t_277 {x0 x1 : Int} {M : Mem} {Q : AV → Mem → Prop} (h0 : gO 12 x0) (h : WI 177 [vL (wr32 x1), vL 0, vL 2] M (fun y2 M1 => inR y2 ∧ (if y2 = 0 then (Q (vI (-1)) M1) else (WI 274 [vR x0] M1 (fun y5 M4 => inR y5 ∧ (if y5 = 0 then (Q (vI (-1)) M4) else (WR 277 31 [some (vR x0), some (vI x1), some (vI 0), some (vI 0), some (vI (-1)), some (vI 2), none, none] [] M4 Q))))))) : WC 277 [vR x0, vI x1] M Q := by
  show WR 277 0 [some (vR x0), some (vI x1), none, none, none, none, none, none] [] M Q
  refine g_5 (a := 1) (b := 0) (nx := 1) (by decide +kernel) rfl ?_
  refine g_35 (a := 0) (b := 0) (nx := 2) (by decide +kernel) ?_
  refine g_2 (a := 0) (b := 0) (nx := 3) (by decide +kernel) ?_
  refine g_2 (a := 2) (b := 0) (nx := 6) (by decide +kernel) ?_
  refine g_82 (a := 177) (b := 3) (nx := 9) (by decide +kernel) (As := [vL (wr32 x1), vL 0, vL 2]) (st' := []) (z := 177) rfl rfl rfl (Nat.le_of_ble_eq_true rfl) (Nat.le_of_ble_eq_true rfl) rfl (c_I (by decide +kernel) h (fun y2 M1 h => ?_))
  obtain ⟨r3, h⟩ := h
  by_cases c8 : y2 = 0
  · rw [if_pos c8] at h
    refine g_40t (a := 0) (b := 19) (nx := 12) (by decide +kernel) r3 (by exact (cb_0 _ _).mpr c8) ?_
    refine g_1 (a := (-1)) (b := 0) (nx := 20) (by decide +kernel) ?_
    exact g_91 (b := 0) (nx := 21) (by decide +kernel) h
  · rw [if_neg c8] at h
    refine g_40f (a := 0) (b := 19) (nx := 12) (by decide +kernel) r3 (by exact fun hz => c8 ((cb_0 _ _).mp hz)) ?_
    refine g_7 (a := 0) (b := 0) (nx := 13) (by decide +kernel) rfl ?_
    refine g_80 (a := 274) (b := 0) (nx := 16) (by decide +kernel) (r := x0) (As := []) (st' := []) (z := 274) rfl rfl rfl (Nat.le_of_ble_eq_true rfl) h0.2 (Nat.le_of_ble_eq_true rfl) rfl (c_I (by decide +kernel) h (fun y5 M4 h => ?_))
    obtain ⟨r6, h⟩ := h
    by_cases c7 : y5 = 0
    · rw [if_pos c7] at h
      refine g_40f (a := 1) (b := 21) (nx := 19) (by decide +kernel) r6 (by exact fun hz => ((cb_1 _ _).mp hz) c7) ?_
      refine g_1 (a := (-1)) (b := 0) (nx := 20) (by decide +kernel) ?_
      exact g_91 (b := 0) (nx := 21) (by decide +kernel) h
    · rw [if_neg c7] at h
      refine g_40t (a := 1) (b := 21) (nx := 19) (by decide +kernel) r6 (by exact (cb_1 _ _).mpr c7) ?_
      refine g_1 (a := 0) (b := 0) (nx := 22) (by decide +kernel) ?_
      refine g_8 (a := 2) (b := 0) (nx := 23) (by decide +kernel) rfl (ls' := [some (vR x0), some (vI x1), some (vI 0), none, none, none, none, none]) rfl ?_
      refine g_1 (a := 0) (b := 0) (nx := 24) (by decide +kernel) ?_
      refine g_8 (a := 3) (b := 0) (nx := 25) (by decide +kernel) rfl (ls' := [some (vR x0), some (vI x1), some (vI 0), some (vI 0), none, none, none, none]) rfl ?_
      refine g_1 (a := (-1)) (b := 0) (nx := 26) (by decide +kernel) ?_
      refine g_8 (a := 4) (b := 0) (nx := 28) (by decide +kernel) rfl (ls' := [some (vR x0), some (vI x1), some (vI 0), some (vI 0), some (vI (-1)), none, none, none]) rfl ?_
      refine g_1 (a := 2) (b := 0) (nx := 29) (by decide +kernel) ?_
      refine g_8 (a := 5) (b := 0) (nx := 31) (by decide +kernel) rfl (ls' := [some (vR x0), some (vI x1), some (vI 0), some (vI 0), some (vI (-1)), some (vI 2), none, none]) rfl ?_
      exact h
theorem t_277_31 {x0 x1 x2 x3 x4 x5 : Int} {l6 l7 : Option AV} {M : Mem} {Q : AV → Mem → Prop} (h0 : gO 12 x0) (h : inR x5 ∧ (if 4 < x5 then (inR x1 ∧ (if x1 = 0 then (Q (vI x2) M) else (if x1 = 1 then (Q (vI x3) M) else (Q (vI x4) M)))) else (WR 277 40 [some (vR x0), some (vI x1), some (vI x2), some (vI x3), some (vI x4), some (vI x5), some (vI 0), l7] [] M Q))) : WR 277 31 [some (vR x0), some (vI x1), some (vI x2), some (vI x3), some (vI x4), some (vI x5), l6, l7] [] M Q := by
  refine g_5 (a := 5) (b := 0) (nx := 33) (by decide +kernel) rfl ?_
  refine g_1 (a := 4) (b := 0) (nx := 34) (by decide +kernel) ?_
  obtain ⟨r1, h⟩ := h
  by_cases c5 : 4 < x5
  · rw [if_pos c5] at h
    refine g_41t (a := 4) (b := 95) (nx := 37) (by decide +kernel) (by rw [wr_id r1, wr_id (show inR 4 by decide)]; exact (cb_4 _ _).mpr c5) ?_
    refine g_5 (a := 1) (b := 0) (nx := 96) (by decide +kernel) rfl ?_
    obtain ⟨r2, h⟩ := h
    by_cases c4 : x1 = 0
    · rw [if_pos c4] at h
      refine g_40f (a := 1) (b := 103) (nx := 99) (by decide +kernel) r2 (by exact fun hz => ((cb_1 _ _).mp hz) c4) ?_
      refine g_5 (a := 2) (b := 0) (nx := 100) (by decide +kernel) rfl ?_
      refine g_44 (a := 0) (b := 114) (nx := 103) (by decide +kernel) ?_
      exact g_91 (b := 0) (nx := 115) (by decide +kernel) h
    · rw [if_neg c4] at h
      refine g_40t (a := 1) (b := 103) (nx := 99) (by decide +kernel) r2 (by exact (cb_1 _ _).mpr c4) ?_
      refine g_5 (a := 1) (b := 0) (nx := 104) (by decide +kernel) rfl ?_
      refine g_1 (a := 1) (b := 0) (nx := 105) (by decide +kernel) ?_
      by_cases c3 : x1 = 1
      · rw [if_pos c3] at h
        refine g_41f (a := 1) (b := 112) (nx := 108) (by decide +kernel) (by rw [wr_id r2, wr_id (show inR 1 by decide)]; exact fun hz => ((cb_1 _ _).mp hz) c3) ?_
        refine g_5 (a := 3) (b := 0) (nx := 109) (by decide +kernel) rfl ?_
        refine g_44 (a := 0) (b := 114) (nx := 112) (by decide +kernel) ?_
        exact g_91 (b := 0) (nx := 115) (by decide +kernel) h
      · rw [if_neg c3] at h
        refine g_41t (a := 1) (b := 112) (nx := 108) (by decide +kernel) (by rw [wr_id r2, wr_id (show inR 1 by decide)]; exact (cb_1 _ _).mpr c3) ?_
        refine g_5 (a := 4) (b := 0) (nx := 114) (by decide +kernel) rfl ?_
        exact g_91 (b := 0) (nx := 115) (by decide +kernel) h
  · rw [if_neg c5] at h
    refine g_41f (a := 4) (b := 95) (nx := 37) (by decide +kernel) (by rw [wr_id r1, wr_id (show inR 4 by decide)]; exact fun hz => c5 ((cb_4 _ _).mp hz)) ?_
    refine g_1 (a := 0) (b := 0) (nx := 38) (by decide +kernel) ?_
    refine g_8 (a := 6) (b := 0) (nx := 40) (by decide +kernel) rfl (ls' := [some (vR x0), some (vI x1), some (vI x2), some (vI x3), some (vI x4), some (vI x5), some (vI 0), l7]) rfl ?_
    exact h
theorem t_277_40 {x0 x1 x2 x3 x4 x5 x6 : Int} {l7 : Option AV} {M : Mem} {Q : AV → Mem → Prop} (h0 : gO 12 x0) (h : inR x6 ∧ (inR x5 ∧ (if x5 ≤ x6 then (WR 277 31 [some (vR x0), some (vI x1), some (vI x2), some (vI x3), some (vI x4), some (vI (x5 + 1)), some (vI x6), l7] [] M Q) else (WI 275 [vR x0, vI x5, vI x6] M (fun y4 M3 => inR x4 ∧ (if x4 = (-1) then (WR 277 40 [some (vR x0), some (vI x1), some (vI x5), some (vI x6), some (vI y4), some (vI x5), some (vI (x6 + 1)), some (vI y4)] [] M3 Q) else (inR y4 ∧ (if y4 < x4 then (WR 277 40 [some (vR x0), some (vI x1), some (vI x5), some (vI x6), some (vI y4), some (vI x5), some (vI (x6 + 1)), some (vI y4)] [] M3 Q) else (WR 277 40 [some (vR x0), some (vI x1), some (vI x2), some (vI x3), some (vI x4), some (vI x5), some (vI (x6 + 1)), some (vI y4)] [] M3 Q))))))))) : WR 277 40 [some (vR x0), some (vI x1), some (vI x2), some (vI x3), some (vI x4), some (vI x5), some (vI x6), l7] [] M Q := by
  refine g_5 (a := 6) (b := 0) (nx := 42) (by decide +kernel) rfl ?_
  refine g_5 (a := 5) (b := 0) (nx := 44) (by decide +kernel) rfl ?_
  obtain ⟨r1, h⟩ := h
  obtain ⟨r2, h⟩ := h
  by_cases c9 : x5 ≤ x6
  · rw [if_pos c9] at h
    refine g_41t (a := 3) (b := 89) (nx := 47) (by decide +kernel) (by rw [wr_id r1, wr_id r2]; exact (cb_3 _ _).mpr c9) ?_
    refine g_11 (a := 5) (b := 1) (nx := 92) (by decide +kernel) rfl rfl (ls' := [some (vR x0), some (vI x1), some (vI x2), some (vI x3), some (vI x4), some (vI (x5 + 1)), some (vI x6), l7]) rfl ?_
    refine g_44 (a := 0) (b := 31) (nx := 95) (by decide +kernel) ?_
    exact h
  · rw [if_neg c9] at h
    refine g_41f (a := 3) (b := 89) (nx := 47) (by decide +kernel) (by rw [wr_id r1, wr_id r2]; exact fun hz => c9 ((cb_3 _ _).mp hz)) ?_
    refine g_7 (a := 0) (b := 0) (nx := 48) (by decide +kernel) rfl ?_
    refine g_5 (a := 5) (b := 0) (nx := 50) (by decide +kernel) rfl ?_
    refine g_5 (a := 6) (b := 0) (nx := 52) (by decide +kernel) rfl ?_
    refine g_80 (a := 275) (b := 2) (nx := 55) (by decide +kernel) (r := x0) (As := [vI x5, vI x6]) (st' := []) (z := 275) rfl rfl rfl (Nat.le_of_ble_eq_true rfl) h0.2 (Nat.le_of_ble_eq_true rfl) rfl (c_I (by decide +kernel) h (fun y4 M3 h => ?_))
    refine g_8 (a := 7) (b := 0) (nx := 57) (by decide +kernel) rfl (ls' := [some (vR x0), some (vI x1), some (vI x2), some (vI x3), some (vI x4), some (vI x5), some (vI x6), some (vI y4)]) rfl ?_
    refine g_5 (a := 4) (b := 0) (nx := 59) (by decide +kernel) rfl ?_
    refine g_1 (a := (-1)) (b := 0) (nx := 60) (by decide +kernel) ?_
    obtain ⟨r5, h⟩ := h
    by_cases c8 : x4 = (-1)
    · rw [if_pos c8] at h
      refine g_41t (a := 0) (b := 73) (nx := 63) (by decide +kernel) (by rw [wr_id r5, wr_id (show inR (-1) by decide)]; exact (cb_0 _ _).mpr c8) ?_
      refine g_5 (a := 7) (b := 0) (nx := 75) (by decide +kernel) rfl ?_
      refine g_8 (a := 4) (b := 0) (nx := 77) (by decide +kernel) rfl (ls' := [some (vR x0), some (vI x1), some (vI x2), some (vI x3), some (vI y4), some (vI x5), some (vI x6), some (vI y4)]) rfl ?_
      refine g_5 (a := 5) (b := 0) (nx := 79) (by decide +kernel) rfl ?_
      refine g_8 (a := 2) (b := 0) (nx := 80) (by decide +kernel) rfl (ls' := [some (vR x0), some (vI x1), some (vI x5), some (vI x3), some (vI y4), some (vI x5), some (vI x6), some (vI y4)]) rfl ?_
      refine g_5 (a := 6) (b := 0) (nx := 82) (by decide +kernel) rfl ?_
      refine g_8 (a := 3) (b := 0) (nx := 83) (by decide +kernel) rfl (ls' := [some (vR x0), some (vI x1), some (vI x5), some (vI x6), some (vI y4), some (vI x5), some (vI x6), some (vI y4)]) rfl ?_
      refine g_11 (a := 6) (b := 1) (nx := 86) (by decide +kernel) rfl rfl (ls' := [some (vR x0), some (vI x1), some (vI x5), some (vI x6), some (vI y4), some (vI x5), some (vI (x6 + 1)), some (vI y4)]) rfl ?_
      refine g_44 (a := 0) (b := 40) (nx := 89) (by decide +kernel) ?_
      exact h
    · rw [if_neg c8] at h
      refine g_41f (a := 0) (b := 73) (nx := 63) (by decide +kernel) (by rw [wr_id r5, wr_id (show inR (-1) by decide)]; exact fun hz => c8 ((cb_0 _ _).mp hz)) ?_
      refine g_5 (a := 7) (b := 0) (nx := 65) (by decide +kernel) rfl ?_
      refine g_5 (a := 4) (b := 0) (nx := 67) (by decide +kernel) rfl ?_
      obtain ⟨r6, h⟩ := h
      by_cases c7 : y4 < x4
      · rw [if_pos c7] at h
        refine g_41t (a := 2) (b := 73) (nx := 70) (by decide +kernel) (by rw [wr_id r6, wr_id r5]; exact (cb_2 _ _).mpr c7) ?_
        refine g_5 (a := 7) (b := 0) (nx := 75) (by decide +kernel) rfl ?_
        refine g_8 (a := 4) (b := 0) (nx := 77) (by decide +kernel) rfl (ls' := [some (vR x0), some (vI x1), some (vI x2), some (vI x3), some (vI y4), some (vI x5), some (vI x6), some (vI y4)]) rfl ?_
        refine g_5 (a := 5) (b := 0) (nx := 79) (by decide +kernel) rfl ?_
        refine g_8 (a := 2) (b := 0) (nx := 80) (by decide +kernel) rfl (ls' := [some (vR x0), some (vI x1), some (vI x5), some (vI x3), some (vI y4), some (vI x5), some (vI x6), some (vI y4)]) rfl ?_
        refine g_5 (a := 6) (b := 0) (nx := 82) (by decide +kernel) rfl ?_
        refine g_8 (a := 3) (b := 0) (nx := 83) (by decide +kernel) rfl (ls' := [some (vR x0), some (vI x1), some (vI x5), some (vI x6), some (vI y4), some (vI x5), some (vI x6), some (vI y4)]) rfl ?_
        refine g_11 (a := 6) (b := 1) (nx := 86) (by decide +kernel) rfl rfl (ls' := [some (vR x0), some (vI x1), some (vI x5), some (vI x6), some (vI y4), some (vI x5), some (vI (x6 + 1)), some (vI y4)]) rfl ?_
        refine g_44 (a := 0) (b := 40) (nx := 89) (by decide +kernel) ?_
        exact h
      · rw [if_neg c7] at h
        refine g_41f (a := 2) (b := 73) (nx := 70) (by decide +kernel) (by rw [wr_id r6, wr_id r5]; exact fun hz => c7 ((cb_2 _ _).mp hz)) ?_
        refine g_44 (a := 0) (b := 83) (nx := 73) (by decide +kernel) ?_
        refine g_11 (a := 6) (b := 1) (nx := 86) (by decide +kernel) rfl rfl (ls' := [some (vR x0), some (vI x1), some (vI x2), some (vI x3), some (vI x4), some (vI x5), some (vI (x6 + 1)), some (vI y4)]) rfl ?_
        refine g_44 (a := 0) (b := 40) (nx := 89) (by decide +kernel) ?_
        exact h
-- 278 SyllableMakerModel.slopes(IZ)J
theorem t_278 {x0 x1 x2 : Int} {M : Mem} {Q : AV → Mem → Prop} (h0 : gO 12 x0) (h : inR x1 ∧ (if x1 = 0 then (Q (vL 1) M) else (WR 278 8 [some (vR x0), some (vI x1), some (vI x2), some (vI 0), none, none] [] M Q))) : WC 278 [vR x0, vI x1, vI x2] M Q := by
  show WR 278 0 [some (vR x0), some (vI x1), some (vI x2), none, none, none] [] M Q
  refine g_5 (a := 1) (b := 0) (nx := 1) (by decide +kernel) rfl ?_
  obtain ⟨r1, h⟩ := h
  by_cases c2 : x1 = 0
  · rw [if_pos c2] at h
    refine g_40f (a := 1) (b := 6) (nx := 4) (by decide +kernel) r1 (by exact fun hz => ((cb_1 _ _).mp hz) c2) ?_
    refine g_2 (a := 1) (b := 0) (nx := 5) (by decide +kernel) ?_
    exact g_92 (a := 0) (b := 0) (nx := 6) (by decide +kernel) h
  · rw [if_neg c2] at h
    refine g_40t (a := 1) (b := 6) (nx := 4) (by decide +kernel) r1 (by exact (cb_1 _ _).mpr c2) ?_
    refine g_1 (a := 0) (b := 0) (nx := 7) (by decide +kernel) ?_
    refine g_8 (a := 3) (b := 0) (nx := 8) (by decide +kernel) rfl (ls' := [some (vR x0), some (vI x1), some (vI x2), some (vI 0), none, none]) rfl ?_
    exact h
theorem t_278_8 {x0 x1 x2 x3 : Int} {M : Mem} {Q : AV → Mem → Prop} (h0 : gO 12 x0) (h : inR x3 ∧ (inR (M x0 38) ∧ (if (M x0 38) ≤ x3 then (WR 278 47 [some (vR x0), some (vI x1), some (vI x2), some (vI 1), none, none] [] M Q) else (WI 225 [vR x0, vI x3] M (fun y4 M3 => inR y4 ∧ (if y4 = 0 then (WI 178 [vI 1] M3 (fun y9 M8 => (gA 23 (M x0 77) x3) ∧ WR 278 8 [some (vR x0), some (vI x1), some (vI x2), some (vI (x3 + 1)), none, none] [] (upM M8 (M x0 77) x3 (wr32 y9)) Q)) else (WI 178 [vI 0] M3 (fun y7 M6 => (gA 23 (M x0 77) x3) ∧ WR 278 8 [some (vR x0), some (vI x1), some (vI x2), some (vI (x3 + 1)), none, none] [] (upM M6 (M x0 77) x3 (wr32 y7)) Q)))))))) : WR 278 8 [some (vR x0), some (vI x1), some (vI x2), some (vI x3), none, none] [] M Q := by
  refine g_5 (a := 3) (b := 0) (nx := 9) (by decide +kernel) rfl ?_
  refine g_7 (a := 0) (b := 0) (nx := 10) (by decide +kernel) rfl ?_
  refine g_50 (a := 12) (b := 38) (nx := 13) (by decide +kernel) h0 ?_
  obtain ⟨r1, h⟩ := h
  obtain ⟨r2, h⟩ := h
  by_cases c11 : (M x0 38) ≤ x3
  · rw [if_pos c11] at h
    refine g_41t (a := 3) (b := 45) (nx := 16) (by decide +kernel) (by rw [wr_id r1, wr_id r2]; exact (cb_3 _ _).mpr c11) ?_
    refine g_1 (a := 1) (b := 0) (nx := 46) (by decide +kernel) ?_
    refine g_8 (a := 3) (b := 0) (nx := 47) (by decide +kernel) rfl (ls' := [some (vR x0), some (vI x1), some (vI x2), some (vI 1), none, none]) rfl ?_
    exact h
  · rw [if_neg c11] at h
    refine g_41f (a := 3) (b := 45) (nx := 16) (by decide +kernel) (by rw [wr_id r1, wr_id r2]; exact fun hz => c11 ((cb_3 _ _).mp hz)) ?_
    refine g_7 (a := 0) (b := 0) (nx := 17) (by decide +kernel) rfl ?_
    refine g_52 (a := 12) (b := 77) (nx := 20) (by decide +kernel) h0 ?_
    refine g_5 (a := 3) (b := 0) (nx := 21) (by decide +kernel) rfl ?_
    refine g_7 (a := 0) (b := 0) (nx := 22) (by decide +kernel) rfl ?_
    refine g_5 (a := 3) (b := 0) (nx := 23) (by decide +kernel) rfl ?_
    refine g_80 (a := 225) (b := 1) (nx := 26) (by decide +kernel) (r := x0) (As := [vI x3]) (st' := [vI x3, vR (M x0 77)]) (z := 225) rfl rfl rfl (Nat.le_of_ble_eq_true rfl) h0.2 (Nat.le_of_ble_eq_true rfl) rfl (c_I (by decide +kernel) h (fun y4 M3 h => ?_))
    obtain ⟨r5, h⟩ := h
    by_cases c10 : y4 = 0
    · rw [if_pos c10] at h
      refine g_40f (a := 1) (b := 33) (nx := 29) (by decide +kernel) r5 (by exact fun hz => ((cb_1 _ _).mp hz) c10) ?_
      refine g_1 (a := 1) (b := 0) (nx := 30) (by decide +kernel) ?_
      refine g_44 (a := 0) (b := 34) (nx := 33) (by decide +kernel) ?_
      refine g_82 (a := 178) (b := 1) (nx := 37) (by decide +kernel) (As := [vI 1]) (st' := [vI x3, vR (M x0 77)]) (z := 178) rfl rfl rfl (Nat.le_of_ble_eq_true rfl) (Nat.le_of_ble_eq_true rfl) rfl (c_I (by decide +kernel) h (fun y9 M8 h => ?_))
      refine g_35 (a := 0) (b := 0) (nx := 38) (by decide +kernel) ?_
      refine g_68 (a := 0) (b := 0) (nx := 39) (by decide +kernel) h.1 ?_
      replace h := h.2
      refine g_11 (a := 3) (b := 1) (nx := 42) (by decide +kernel) rfl rfl (ls' := [some (vR x0), some (vI x1), some (vI x2), some (vI (x3 + 1)), none, none]) rfl ?_
      refine g_44 (a := 0) (b := 8) (nx := 45) (by decide +kernel) ?_
      exact h
    · rw [if_neg c10] at h
      refine g_40t (a := 1) (b := 33) (nx := 29) (by decide +kernel) r5 (by exact (cb_1 _ _).mpr c10) ?_
      refine g_1 (a := 0) (b := 0) (nx := 34) (by decide +kernel) ?_
      refine g_82 (a := 178) (b := 1) (nx := 37) (by decide +kernel) (As := [vI 0]) (st' := [vI x3, vR (M x0 77)]) (z := 178) rfl rfl rfl (Nat.le_of_ble_eq_true rfl) (Nat.le_of_ble_eq_true rfl) rfl (c_I (by decide +kernel) h (fun y7 M6 h => ?_))
      refine g_35 (a := 0) (b := 0) (nx := 38) (by decide +kernel) ?_
      refine g_68 (a := 0) (b := 0) (nx := 39) (by decide +kernel) h.1 ?_
      replace h := h.2
      refine g_11 (a := 3) (b := 1) (nx := 42) (by decide +kernel) rfl rfl (ls' := [some (vR x0), some (vI x1), some (vI x2), some (vI (x3 + 1)), none, none]) rfl ?_
      refine g_44 (a := 0) (b := 8) (nx := 45) (by decide +kernel) ?_
      exact h
theorem t_278_47 {x0 x1 x2 x3 : Int} {l4 l5 : Option AV} {M : Mem} {Q : AV → Mem → Prop} (h0 : gO 12 x0) (h : inR x3 ∧ (inR x1 ∧ (if x1 ≤ x3 then (WR 278 216 [some (vR x0), some (vI x1), some (vI x2), some (vL 0), none, some (vI 0)] [] M Q) else (WR 278 55 [some (vR x0), some (vI x1), some (vI x2), some (vI x3), some (vI 0), l5] [] M Q)))) : WR 278 47 [some (vR x0), some (vI x1), some (vI x2), some (vI x3), l4, l5] [] M Q := by
  refine g_5 (a := 3) (b := 0) (nx := 48) (by decide +kernel) rfl ?_
  refine g_5 (a := 1) (b := 0) (nx := 49) (by decide +kernel) rfl ?_
  obtain ⟨r1, h⟩ := h
  obtain ⟨r2, h⟩ := h
  by_cases c3 : x1 ≤ x3
  · rw [if_pos c3] at h
    refine g_41t (a := 3) (b := 211) (nx := 52) (by decide +kernel) (by rw [wr_id r1, wr_id r2]; exact (cb_3 _ _).mpr c3) ?_
    refine g_2 (a := 0) (b := 0) (nx := 212) (by decide +kernel) ?_
    refine g_9 (a := 3) (b := 0) (nx := 213) (by decide +kernel) ⟨rfl, Nat.le_of_ble_eq_true rfl⟩ (ls' := [some (vR x0), some (vI x1), some (vI x2), some (vL 0), none, l5]) rfl ?_
    refine g_1 (a := 0) (b := 0) (nx := 214) (by decide +kernel) ?_
    refine g_8 (a := 5) (b := 0) (nx := 216) (by decide +kernel) rfl (ls' := [some (vR x0), some (vI x1), some (vI x2), some (vL 0), none, some (vI 0)]) rfl ?_
    exact h
  · rw [if_neg c3] at h
    refine g_41f (a := 3) (b := 211) (nx := 52) (by decide +kernel) (by rw [wr_id r1, wr_id r2]; exact fun hz => c3 ((cb_3 _ _).mp hz)) ?_
    refine g_1 (a := 0) (b := 0) (nx := 53) (by decide +kernel) ?_
    refine g_8 (a := 4) (b := 0) (nx := 55) (by decide +kernel) rfl (ls' := [some (vR x0), some (vI x1), some (vI x2), some (vI x3), some (vI 0), l5]) rfl ?_
    exact h
theorem t_278_55 {x0 x1 x2 x3 x4 : Int} {l5 : Option AV} {M : Mem} {Q : AV → Mem → Prop} (h0 : gO 12 x0) (h : inR x4 ∧ (inR (M x0 38) ∧ (if (M x0 38) ≤ x4 then (WR 278 176 [some (vR x0), some (vI x1), some (vI x2), some (vI x3), some (vI 0), l5] [] M Q) else ((gA 23 (M x0 78) x4) ∧ WR 278 75 [some (vR x0), some (vI x1), some (vI x2), some (vI x3), some (vI x4), some (vI 0)] [] (upM M (M x0 78) x4 0) Q)))) : WR 278 55 [some (vR x0), some (vI x1), some (vI x2), some (vI x3), some (vI x4), l5] [] M Q := by
  refine g_5 (a := 4) (b := 0) (nx := 57) (by decide +kernel) rfl ?_
  refine g_7 (a := 0) (b := 0) (nx := 58) (by decide +kernel) rfl ?_
  refine g_50 (a := 12) (b := 38) (nx := 61) (by decide +kernel) h0 ?_
  obtain ⟨r1, h⟩ := h
  obtain ⟨r2, h⟩ := h
  by_cases c3 : (M x0 38) ≤ x4
  · rw [if_pos c3] at h
    refine g_41t (a := 3) (b := 173) (nx := 64) (by decide +kernel) (by rw [wr_id r1, wr_id r2]; exact (cb_3 _ _).mpr c3) ?_
    refine g_1 (a := 0) (b := 0) (nx := 174) (by decide +kernel) ?_
    refine g_8 (a := 4) (b := 0) (nx := 176) (by decide +kernel) rfl (ls' := [some (vR x0), some (vI x1), some (vI x2), some (vI x3), some (vI 0), l5]) rfl ?_
    exact h
  · rw [if_neg c3] at h
    refine g_41f (a := 3) (b := 173) (nx := 64) (by decide +kernel) (by rw [wr_id r1, wr_id r2]; exact fun hz => c3 ((cb_3 _ _).mp hz)) ?_
    refine g_7 (a := 0) (b := 0) (nx := 65) (by decide +kernel) rfl ?_
    refine g_52 (a := 12) (b := 78) (nx := 68) (by decide +kernel) h0 ?_
    refine g_5 (a := 4) (b := 0) (nx := 70) (by decide +kernel) rfl ?_
    refine g_2 (a := 0) (b := 0) (nx := 71) (by decide +kernel) ?_
    refine g_68 (a := 0) (b := 0) (nx := 72) (by decide +kernel) h.1 ?_
    replace h := h.2
    refine g_1 (a := 0) (b := 0) (nx := 73) (by decide +kernel) ?_
    refine g_8 (a := 5) (b := 0) (nx := 75) (by decide +kernel) rfl (ls' := [some (vR x0), some (vI x1), some (vI x2), some (vI x3), some (vI x4), some (vI 0)]) rfl ?_
    exact h
theorem t_278_75 {x0 x1 x2 x3 x4 x5 : Int} {M : Mem} {Q : AV → Mem → Prop} (h0 : gO 12 x0) (h : inR x5 ∧ (inR (M x0 38) ∧ (if (M x0 38) ≤ x5 then (WR 278 55 [some (vR x0), some (vI x1), some (vI x2), some (vI x3), some (vI (x4 + 1)), some (vI x5)] [] M Q) else (WI 225 [vR x0, vI x4] M (fun y4 M3 => inR y4 ∧ (if y4 = 0 then (inR x2 ∧ (if x2 = 0 then ((gA 20 (M3 x0 50) x5) ∧ (gA 20 (M3 x0 50) x4) ∧ inR ((M3 (M3 x0 50) x5) - (M3 (M3 x0 50) x4)) ∧ (inR (M3 x0 43) ∧ (if ((M3 (M3 x0 50) x5) - (M3 (M3 x0 50) x4)) < (M3 x0 43) then (WR 278 75 [some (vR x0), some (vI x1), some (vI x2), some (vI x3), some (vI x4), some (vI (x5 + 1))] [] M3 Q) else ((gA 23 (M3 x0 78) x4) ∧ (gA 23 (M3 x0 77) x5) ∧ (gA 23 (M3 x0 78) x4) ∧ WR 278 75 [some (vR x0), some (vI x1), some (vI x2), some (vI x3), some (vI x4), some (vI (x5 + 1))] [] (upM M3 (M3 x0 78) x4 ((M3 (M3 x0 78) x4) + (M3 (M3 x0 77) x5))) Q)))) else ((gA 20 (M3 x0 50) x4) ∧ (gA 20 (M3 x0 50) x5) ∧ inR ((M3 (M3 x0 50) x4) - (M3 (M3 x0 50) x5)) ∧ (inR (M3 x0 41) ∧ (if ((M3 (M3 x0 50) x4) - (M3 (M3 x0 50) x5)) < (M3 x0 41) then (WR 278 75 [some (vR x0), some (vI x1), some (vI x2), some (vI x3), some (vI x4), some (vI (x5 + 1))] [] M3 Q) else ((gA 23 (M3 x0 78) x4) ∧ (gA 23 (M3 x0 77) x5) ∧ (gA 23 (M3 x0 78) x4) ∧ WR 278 75 [some (vR x0), some (vI x1), some (vI x2), some (vI x3), some (vI x4), some (vI (x5 + 1))] [] (upM M3 (M3 x0 78) x4 ((M3 (M3 x0 78) x4) + (M3 (M3 x0 77) x5))) Q)))))) else (WR 278 55 [some (vR x0), some (vI x1), some (vI x2), some (vI x3), some (vI (x4 + 1)), some (vI x5)] [] M3 Q))))))) : WR 278 75 [some (vR x0), some (vI x1), some (vI x2), some (vI x3), some (vI x4), some (vI x5)] [] M Q := by
  refine g_5 (a := 5) (b := 0) (nx := 77) (by decide +kernel) rfl ?_
  refine g_7 (a := 0) (b := 0) (nx := 78) (by decide +kernel) rfl ?_
  refine g_50 (a := 12) (b := 38) (nx := 81) (by decide +kernel) h0 ?_
  obtain ⟨r1, h⟩ := h
  obtain ⟨r2, h⟩ := h
  by_cases c15 : (M x0 38) ≤ x5
  · rw [if_pos c15] at h
    refine g_41t (a := 3) (b := 167) (nx := 84) (by decide +kernel) (by rw [wr_id r1, wr_id r2]; exact (cb_3 _ _).mpr c15) ?_
    refine g_11 (a := 4) (b := 1) (nx := 170) (by decide +kernel) rfl rfl (ls' := [some (vR x0), some (vI x1), some (vI x2), some (vI x3), some (vI (x4 + 1)), some (vI x5)]) rfl ?_
    refine g_44 (a := 0) (b := 55) (nx := 173) (by decide +kernel) ?_
    exact h
  · rw [if_neg c15] at h
    refine g_41f (a := 3) (b := 167) (nx := 84) (by decide +kernel) (by rw [wr_id r1, wr_id r2]; exact fun hz => c15 ((cb_3 _ _).mp hz)) ?_
    refine g_7 (a := 0) (b := 0) (nx := 85) (by decide +kernel) rfl ?_
    refine g_5 (a := 4) (b := 0) (nx := 87) (by decide +kernel) rfl ?_
    refine g_80 (a := 225) (b := 1) (nx := 90) (by decide +kernel) (r := x0) (As := [vI x4]) (st' := []) (z := 225) rfl rfl rfl (Nat.le_of_ble_eq_true rfl) h0.2 (Nat.le_of_ble_eq_true rfl) rfl (c_I (by decide +kernel) h (fun y4 M3 h => ?_))
    obtain ⟨r5, h⟩ := h
    by_cases c14 : y4 = 0
    · rw [if_pos c14] at h
      refine g_40f (a := 1) (b := 167) (nx := 93) (by decide +kernel) r5 (by exact fun hz => ((cb_1 _ _).mp hz) c14) ?_
      refine g_5 (a := 2) (b := 0) (nx := 94) (by decide +kernel) rfl ?_
      obtain ⟨r6, h⟩ := h
      by_cases c13 : x2 = 0
      · rw [if_pos c13] at h
        refine g_40t (a := 0) (b := 122) (nx := 97) (by decide +kernel) r6 (by exact (cb_0 _ _).mpr c13) ?_
        refine g_7 (a := 0) (b := 0) (nx := 123) (by decide +kernel) rfl ?_
        refine g_52 (a := 12) (b := 50) (nx := 126) (by decide +kernel) h0 ?_
        refine g_5 (a := 5) (b := 0) (nx := 128) (by decide +kernel) rfl ?_
        refine g_61 (a := 0) (b := 0) (nx := 129) (by decide +kernel) h.1 ?_
        replace h := h.2
        refine g_7 (a := 0) (b := 0) (nx := 130) (by decide +kernel) rfl ?_
        refine g_52 (a := 12) (b := 50) (nx := 133) (by decide +kernel) h0 ?_
        refine g_5 (a := 4) (b := 0) (nx := 135) (by decide +kernel) rfl ?_
        refine g_61 (a := 0) (b := 0) (nx := 136) (by decide +kernel) h.1 ?_
        replace h := h.2
        refine g_16 (a := 0) (b := 0) (nx := 137) (by decide +kernel) ?_
        refine g_7 (a := 0) (b := 0) (nx := 138) (by decide +kernel) rfl ?_
        refine g_50 (a := 12) (b := 43) (nx := 141) (by decide +kernel) h0 ?_
        obtain ⟨r7, h⟩ := h
        obtain ⟨r8, h⟩ := h
        by_cases c9 : ((M3 (M3 x0 50) x5) - (M3 (M3 x0 50) x4)) < (M3 x0 43)
        · rw [if_pos c9] at h
          refine g_41t (a := 2) (b := 161) (nx := 144) (by decide +kernel) (by rw [wr_id r7, wr_id r8]; exact (cb_2 _ _).mpr c9) ?_
          refine g_11 (a := 5) (b := 1) (nx := 164) (by decide +kernel) rfl rfl (ls' := [some (vR x0), some (vI x1), some (vI x2), some (vI x3), some (vI x4), some (vI (x5 + 1))]) rfl ?_
          refine g_44 (a := 0) (b := 75) (nx := 167) (by decide +kernel) ?_
          exact h
        · rw [if_neg c9] at h
          refine g_41f (a := 2) (b := 161) (nx := 144) (by decide +kernel) (by rw [wr_id r7, wr_id r8]; exact fun hz => c9 ((cb_2 _ _).mp hz)) ?_
          refine g_7 (a := 0) (b := 0) (nx := 145) (by decide +kernel) rfl ?_
          refine g_52 (a := 12) (b := 78) (nx := 148) (by decide +kernel) h0 ?_
          refine g_5 (a := 4) (b := 0) (nx := 150) (by decide +kernel) rfl ?_
          refine g_14 (a := 0) (b := 0) (nx := 151) (by decide +kernel) rfl rfl ?_
          refine g_67 (a := 0) (b := 0) (nx := 152) (by decide +kernel) h.1 ?_
          replace h := h.2
          refine g_7 (a := 0) (b := 0) (nx := 153) (by decide +kernel) rfl ?_
          refine g_52 (a := 12) (b := 77) (nx := 156) (by decide +kernel) h0 ?_
          refine g_5 (a := 5) (b := 0) (nx := 158) (by decide +kernel) rfl ?_
          refine g_67 (a := 0) (b := 0) (nx := 159) (by decide +kernel) h.1 ?_
          replace h := h.2
          refine g_25 (a := 0) (b := 0) (nx := 160) (by decide +kernel) ?_
          refine g_68 (a := 0) (b := 0) (nx := 161) (by decide +kernel) h.1 ?_
          replace h := h.2
          refine g_11 (a := 5) (b := 1) (nx := 164) (by decide +kernel) rfl rfl (ls' := [some (vR x0), some (vI x1), some (vI x2), some (vI x3), some (vI x4), some (vI (x5 + 1))]) rfl ?_
          refine g_44 (a := 0) (b := 75) (nx := 167) (by decide +kernel) ?_
          exact h
      · rw [if_neg c13] at h
        refine g_40f (a := 0) (b := 122) (nx := 97) (by decide +kernel) r6 (by exact fun hz => c13 ((cb_0 _ _).mp hz)) ?_
        refine g_7 (a := 0) (b := 0) (nx := 98) (by decide +kernel) rfl ?_
        refine g_52 (a := 12) (b := 50) (nx := 101) (by decide +kernel) h0 ?_
        refine g_5 (a := 4) (b := 0) (nx := 103) (by decide +kernel) rfl ?_
        refine g_61 (a := 0) (b := 0) (nx := 104) (by decide +kernel) h.1 ?_
        replace h := h.2
        refine g_7 (a := 0) (b := 0) (nx := 105) (by decide +kernel) rfl ?_
        refine g_52 (a := 12) (b := 50) (nx := 108) (by decide +kernel) h0 ?_
        refine g_5 (a := 5) (b := 0) (nx := 110) (by decide +kernel) rfl ?_
        refine g_61 (a := 0) (b := 0) (nx := 111) (by decide +kernel) h.1 ?_
        replace h := h.2
        refine g_16 (a := 0) (b := 0) (nx := 112) (by decide +kernel) ?_
        refine g_7 (a := 0) (b := 0) (nx := 113) (by decide +kernel) rfl ?_
        refine g_50 (a := 12) (b := 41) (nx := 116) (by decide +kernel) h0 ?_
        obtain ⟨r10, h⟩ := h
        obtain ⟨r11, h⟩ := h
        by_cases c12 : ((M3 (M3 x0 50) x4) - (M3 (M3 x0 50) x5)) < (M3 x0 41)
        · rw [if_pos c12] at h
          refine g_41t (a := 2) (b := 161) (nx := 119) (by decide +kernel) (by rw [wr_id r10, wr_id r11]; exact (cb_2 _ _).mpr c12) ?_
          refine g_11 (a := 5) (b := 1) (nx := 164) (by decide +kernel) rfl rfl (ls' := [some (vR x0), some (vI x1), some (vI x2), some (vI x3), some (vI x4), some (vI (x5 + 1))]) rfl ?_
          refine g_44 (a := 0) (b := 75) (nx := 167) (by decide +kernel) ?_
          exact h
        · rw [if_neg c12] at h
          refine g_41f (a := 2) (b := 161) (nx := 119) (by decide +kernel) (by rw [wr_id r10, wr_id r11]; exact fun hz => c12 ((cb_2 _ _).mp hz)) ?_
          refine g_44 (a := 0) (b := 144) (nx := 122) (by decide +kernel) ?_
          refine g_7 (a := 0) (b := 0) (nx := 145) (by decide +kernel) rfl ?_
          refine g_52 (a := 12) (b := 78) (nx := 148) (by decide +kernel) h0 ?_
          refine g_5 (a := 4) (b := 0) (nx := 150) (by decide +kernel) rfl ?_
          refine g_14 (a := 0) (b := 0) (nx := 151) (by decide +kernel) rfl rfl ?_
          refine g_67 (a := 0) (b := 0) (nx := 152) (by decide +kernel) h.1 ?_
          replace h := h.2
          refine g_7 (a := 0) (b := 0) (nx := 153) (by decide +kernel) rfl ?_
          refine g_52 (a := 12) (b := 77) (nx := 156) (by decide +kernel) h0 ?_
          refine g_5 (a := 5) (b := 0) (nx := 158) (by decide +kernel) rfl ?_
          refine g_67 (a := 0) (b := 0) (nx := 159) (by decide +kernel) h.1 ?_
          replace h := h.2
          refine g_25 (a := 0) (b := 0) (nx := 160) (by decide +kernel) ?_
          refine g_68 (a := 0) (b := 0) (nx := 161) (by decide +kernel) h.1 ?_
          replace h := h.2
          refine g_11 (a := 5) (b := 1) (nx := 164) (by decide +kernel) rfl rfl (ls' := [some (vR x0), some (vI x1), some (vI x2), some (vI x3), some (vI x4), some (vI (x5 + 1))]) rfl ?_
          refine g_44 (a := 0) (b := 75) (nx := 167) (by decide +kernel) ?_
          exact h
    · rw [if_neg c14] at h
      refine g_40t (a := 1) (b := 167) (nx := 93) (by decide +kernel) r5 (by exact (cb_1 _ _).mpr c14) ?_
      refine g_11 (a := 4) (b := 1) (nx := 170) (by decide +kernel) rfl rfl (ls' := [some (vR x0), some (vI x1), some (vI x2), some (vI x3), some (vI (x4 + 1)), some (vI x5)]) rfl ?_
      refine g_44 (a := 0) (b := 55) (nx := 173) (by decide +kernel) ?_
      exact h
theorem t_278_176 {x0 x1 x2 x3 x4 : Int} {l5 : Option AV} {M : Mem} {Q : AV → Mem → Prop} (h0 : gO 12 x0) (h : inR x4 ∧ (inR (M x0 38) ∧ (if (M x0 38) ≤ x4 then (WR 278 47 [some (vR x0), some (vI x1), some (vI x2), some (vI (x3 + 1)), some (vI x4), l5] [] M Q) else ((gA 23 (M x0 78) x4) ∧ (gA 23 (M x0 77) x4) ∧ WR 278 176 [some (vR x0), some (vI x1), some (vI x2), some (vI x3), some (vI (x4 + 1)), l5] [] (upM M (M x0 77) x4 (M (M x0 78) x4)) Q)))) : WR 278 176 [some (vR x0), some (vI x1), some (vI x2), some (vI x3), some (vI x4), l5] [] M Q := by
  refine g_5 (a := 4) (b := 0) (nx := 178) (by decide +kernel) rfl ?_
  refine g_7 (a := 0) (b := 0) (nx := 179) (by decide +kernel) rfl ?_
  refine g_50 (a := 12) (b := 38) (nx := 182) (by decide +kernel) h0 ?_
  obtain ⟨r1, h⟩ := h
  obtain ⟨r2, h⟩ := h
  by_cases c3 : (M x0 38) ≤ x4
  · rw [if_pos c3] at h
    refine g_41t (a := 3) (b := 205) (nx := 185) (by decide +kernel) (by rw [wr_id r1, wr_id r2]; exact (cb_3 _ _).mpr c3) ?_
    refine g_11 (a := 3) (b := 1) (nx := 208) (by decide +kernel) rfl rfl (ls' := [some (vR x0), some (vI x1), some (vI x2), some (vI (x3 + 1)), some (vI x4), l5]) rfl ?_
    refine g_44 (a := 0) (b := 47) (nx := 211) (by decide +kernel) ?_
    exact h
  · rw [if_neg c3] at h
    refine g_41f (a := 3) (b := 205) (nx := 185) (by decide +kernel) (by rw [wr_id r1, wr_id r2]; exact fun hz => c3 ((cb_3 _ _).mp hz)) ?_
    refine g_7 (a := 0) (b := 0) (nx := 186) (by decide +kernel) rfl ?_
    refine g_52 (a := 12) (b := 77) (nx := 189) (by decide +kernel) h0 ?_
    refine g_5 (a := 4) (b := 0) (nx := 191) (by decide +kernel) rfl ?_
    refine g_7 (a := 0) (b := 0) (nx := 192) (by decide +kernel) rfl ?_
    refine g_52 (a := 12) (b := 78) (nx := 195) (by decide +kernel) h0 ?_
    refine g_5 (a := 4) (b := 0) (nx := 197) (by decide +kernel) rfl ?_
    refine g_67 (a := 0) (b := 0) (nx := 198) (by decide +kernel) h.1 ?_
    replace h := h.2
    refine g_68 (a := 0) (b := 0) (nx := 199) (by decide +kernel) h.1 ?_
    replace h := h.2
    refine g_11 (a := 4) (b := 1) (nx := 202) (by decide +kernel) rfl rfl (ls' := [some (vR x0), some (vI x1), some (vI x2), some (vI x3), some (vI (x4 + 1)), l5]) rfl ?_
    refine g_44 (a := 0) (b := 176) (nx := 205) (by decide +kernel) ?_
    exact h
theorem t_278_216 {x0 x1 x2 x3 x5 : Int} {M : Mem} {Q : AV → Mem → Prop} (h0 : gO 12 x0) (h : inR x5 ∧ (inR (M x0 38) ∧ (if (M x0 38) ≤ x5 then (Q (vL x3) M) else ((gA 23 (M x0 77) x5) ∧ WR 278 216 [some (vR x0), some (vI x1), some (vI x2), some (vL (x3 + (M (M x0 77) x5))), none, some (vI (x5 + 1))] [] M Q)))) : WR 278 216 [some (vR x0), some (vI x1), some (vI x2), some (vL x3), none, some (vI x5)] [] M Q := by
  refine g_5 (a := 5) (b := 0) (nx := 218) (by decide +kernel) rfl ?_
  refine g_7 (a := 0) (b := 0) (nx := 219) (by decide +kernel) rfl ?_
  refine g_50 (a := 12) (b := 38) (nx := 222) (by decide +kernel) h0 ?_
  obtain ⟨r1, h⟩ := h
  obtain ⟨r2, h⟩ := h
  by_cases c3 : (M x0 38) ≤ x5
  · rw [if_pos c3] at h
    refine g_41t (a := 3) (b := 241) (nx := 225) (by decide +kernel) (by rw [wr_id r1, wr_id r2]; exact (cb_3 _ _).mpr c3) ?_
    refine g_6 (a := 3) (b := 0) (nx := 242) (by decide +kernel) rfl ?_
    exact g_92 (a := 0) (b := 0) (nx := 243) (by decide +kernel) h
  · rw [if_neg c3] at h
    refine g_41f (a := 3) (b := 241) (nx := 225) (by decide +kernel) (by rw [wr_id r1, wr_id r2]; exact fun hz => c3 ((cb_3 _ _).mp hz)) ?_
    refine g_6 (a := 3) (b := 0) (nx := 226) (by decide +kernel) rfl ?_
    refine g_7 (a := 0) (b := 0) (nx := 227) (by decide +kernel) rfl ?_
    refine g_52 (a := 12) (b := 77) (nx := 230) (by decide +kernel) h0 ?_
    refine g_5 (a := 5) (b := 0) (nx := 232) (by decide +kernel) rfl ?_
    refine g_67 (a := 0) (b := 0) (nx := 233) (by decide +kernel) h.1 ?_
    replace h := h.2
    refine g_25 (a := 0) (b := 0) (nx := 234) (by decide +kernel) ?_
    refine g_9 (a := 3) (b := 0) (nx := 235) (by decide +kernel) ⟨rfl, Nat.le_of_ble_eq_true rfl⟩ (ls' := [some (vR x0), some (vI x1), some (vI x2), some (vL (x3 + (M (M x0 77) x5))), none, some (vI x5)]) rfl ?_
    refine g_11 (a := 5) (b := 1) (nx := 238) (by decide +kernel) rfl rfl (ls' := [some (vR x0), some (vI x1), some (vI x2), some (vL (x3 + (M (M x0 77) x5))), none, some (vI (x5 + 1))]) rfl ?_
    refine g_44 (a := 0) (b := 216) (nx := 241) (by decide +kernel) ?_
    exact h
-- 279 SyllableMakerModel.isOpeningLearnt(I)Z
theorem t_279 {x0 x1 : Int} {M : Mem} {Q : AV → Mem → Prop} (h0 : gO 12 x0) (h : WI 233 [vR x0, vI x1] M (fun y2 M1 => WI 177 [vL (wr32 y2), vL 2, vL 4] M1 (fun y4 M3 => inR y4 ∧ (if y4 = 0 then (Q (vI 0) M3) else (WR 279 24 [some (vR x0), some (vI x1), some (vI y2), some (vI 0), none, none] [] M3 Q))))) : WC 279 [vR x0, vI x1] M Q := by
  show WR 279 0 [some (vR x0), some (vI x1), none, none, none, none] [] M Q
  refine g_7 (a := 0) (b := 0) (nx := 1) (by decide +kernel) rfl ?_
  refine g_5 (a := 1) (b := 0) (nx := 2) (by decide +kernel) rfl ?_
  refine g_80 (a := 233) (b := 1) (nx := 5) (by decide +kernel) (r := x0) (As := [vI x1]) (st' := []) (z := 233) rfl rfl rfl (Nat.le_of_ble_eq_true rfl) h0.2 (Nat.le_of_ble_eq_true rfl) rfl (c_I (by decide +kernel) h (fun y2 M1 h => ?_))
  refine g_8 (a := 2) (b := 0) (nx := 6) (by decide +kernel) rfl (ls' := [some (vR x0), some (vI x1), some (vI y2), none, none, none]) rfl ?_
  refine g_5 (a := 2) (b := 0) (nx := 7) (by decide +kernel) rfl ?_
  refine g_35 (a := 0) (b := 0) (nx := 8) (by decide +kernel) ?_
  refine g_2 (a := 2) (b := 0) (nx := 11) (by decide +kernel) ?_
  refine g_2 (a := 4) (b := 0) (nx := 14) (by decide +kernel) ?_
  refine g_82 (a := 177) (b := 3) (nx := 17) (by decide +kernel) (As := [vL (wr32 y2), vL 2, vL 4]) (st' := []) (z := 177) rfl rfl rfl (Nat.le_of_ble_eq_true rfl) (Nat.le_of_ble_eq_true rfl) rfl (c_I (by decide +kernel) h (fun y4 M3 h => ?_))
  obtain ⟨r5, h⟩ := h
  by_cases c6 : y4 = 0
  · rw [if_pos c6] at h
    refine g_40f (a := 1) (b := 22) (nx := 20) (by decide +kernel) r5 (by exact fun hz => ((cb_1 _ _).mp hz) c6) ?_
    refine g_1 (a := 0) (b := 0) (nx := 21) (by decide +kernel) ?_
    exact g_91z (b := 0) (nx := 22) (by decide +kernel) (by decide) h
  · rw [if_neg c6] at h
    refine g_40t (a := 1) (b := 22) (nx := 20) (by decide +kernel) r5 (by exact (cb_1 _ _).mpr c6) ?_
    refine g_1 (a := 0) (b := 0) (nx := 23) (by decide +kernel) ?_
    refine g_8 (a := 3) (b := 0) (nx := 24) (by decide +kernel) rfl (ls' := [some (vR x0), some (vI x1), some (vI y2), some (vI 0), none, none]) rfl ?_
    exact h
theorem t_279_24 {x0 x1 x2 x3 : Int} {l4 l5 : Option AV} {M : Mem} {Q : AV → Mem → Prop} (h0 : gO 12 x0) (h : inR x3 ∧ (inR x1 ∧ (if x1 ≤ x3 then (Q (vI 1) M) else (WI 233 [vR x0, vI x3] M (fun y4 M3 => inR y4 ∧ (inR x2 ∧ (if y4 = x2 then (WR 279 48 [some (vR x0), some (vI x1), some (vI x2), some (vI x3), some (vI 1), some (vI 0)] [] M3 Q) else (WR 279 48 [some (vR x0), some (vI x1), some (vI x2), some (vI x3), some (vI 0), some (vI 0)] [] M3 Q)))))))) : WR 279 24 [some (vR x0), some (vI x1), some (vI x2), some (vI x3), l4, l5] [] M Q := by
  refine g_5 (a := 3) (b := 0) (nx := 25) (by decide +kernel) rfl ?_
  refine g_5 (a := 1) (b := 0) (nx := 26) (by decide +kernel) rfl ?_
  obtain ⟨r1, h⟩ := h
  obtain ⟨r2, h⟩ := h
  by_cases c8 : x1 ≤ x3
  · rw [if_pos c8] at h
    refine g_41t (a := 3) (b := 118) (nx := 29) (by decide +kernel) (by rw [wr_id r1, wr_id r2]; exact (cb_3 _ _).mpr c8) ?_
    refine g_1 (a := 1) (b := 0) (nx := 119) (by decide +kernel) ?_
    exact g_91z (b := 0) (nx := 120) (by decide +kernel) (by decide) h
  · rw [if_neg c8] at h
    refine g_41f (a := 3) (b := 118) (nx := 29) (by decide +kernel) (by rw [wr_id r1, wr_id r2]; exact fun hz => c8 ((cb_3 _ _).mp hz)) ?_
    refine g_7 (a := 0) (b := 0) (nx := 30) (by decide +kernel) rfl ?_
    refine g_5 (a := 3) (b := 0) (nx := 31) (by decide +kernel) rfl ?_
    refine g_80 (a := 233) (b := 1) (nx := 34) (by decide +kernel) (r := x0) (As := [vI x3]) (st' := []) (z := 233) rfl rfl rfl (Nat.le_of_ble_eq_true rfl) h0.2 (Nat.le_of_ble_eq_true rfl) rfl (c_I (by decide +kernel) h (fun y4 M3 h => ?_))
    refine g_5 (a := 2) (b := 0) (nx := 35) (by decide +kernel) rfl ?_
    obtain ⟨r5, h⟩ := h
    obtain ⟨r6, h⟩ := h
    by_cases c7 : y4 = x2
    · rw [if_pos c7] at h
      refine g_41f (a := 1) (b := 42) (nx := 38) (by decide +kernel) (by rw [wr_id r5, wr_id r6]; exact fun hz => ((cb_1 _ _).mp hz) c7) ?_
      refine g_1 (a := 1) (b := 0) (nx := 39) (by decide +kernel) ?_
      refine g_44 (a := 0) (b := 43) (nx := 42) (by decide +kernel) ?_
      refine g_8 (a := 4) (b := 0) (nx := 45) (by decide +kernel) rfl (ls' := [some (vR x0), some (vI x1), some (vI x2), some (vI x3), some (vI 1), l5]) rfl ?_
      refine g_1 (a := 0) (b := 0) (nx := 46) (by decide +kernel) ?_
      refine g_8 (a := 5) (b := 0) (nx := 48) (by decide +kernel) rfl (ls' := [some (vR x0), some (vI x1), some (vI x2), some (vI x3), some (vI 1), some (vI 0)]) rfl ?_
      exact h
    · rw [if_neg c7] at h
      refine g_41t (a := 1) (b := 42) (nx := 38) (by decide +kernel) (by rw [wr_id r5, wr_id r6]; exact (cb_1 _ _).mpr c7) ?_
      refine g_1 (a := 0) (b := 0) (nx := 43) (by decide +kernel) ?_
      refine g_8 (a := 4) (b := 0) (nx := 45) (by decide +kernel) rfl (ls' := [some (vR x0), some (vI x1), some (vI x2), some (vI x3), some (vI 0), l5]) rfl ?_
      refine g_1 (a := 0) (b := 0) (nx := 46) (by decide +kernel) ?_
      refine g_8 (a := 5) (b := 0) (nx := 48) (by decide +kernel) rfl (ls' := [some (vR x0), some (vI x1), some (vI x2), some (vI x3), some (vI 0), some (vI 0)]) rfl ?_
      exact h
theorem t_279_48 {x0 x1 x2 x3 x4 x5 : Int} {M : Mem} {Q : AV → Mem → Prop} (h0 : gO 12 x0) (h : inR x5 ∧ (inR x2 ∧ (if x2 ≤ x5 then (inR x4 ∧ (if x4 = 0 then (WR 279 24 [some (vR x0), some (vI x1), some (vI x2), some (vI (x3 + 1)), some (vI x4), some (vI x5)] [] M Q) else (Q (vI 0) M))) else (inR x4 ∧ (if x4 = 0 then (if x4 = 0 then (WR 279 24 [some (vR x0), some (vI x1), some (vI x2), some (vI (x3 + 1)), some (vI x4), some (vI x5)] [] M Q) else (Q (vI 0) M)) else ((gA 20 (M x0 61) ((21 + (12 * x3)) + x5)) ∧ (gA 20 (M x0 61) ((21 + (12 * x1)) + x5)) ∧ inR (M (M x0 61) ((21 + (12 * x3)) + x5)) ∧ (inR (M (M x0 61) ((21 + (12 * x1)) + x5)) ∧ (if (M (M x0 61) ((21 + (12 * x3)) + x5)) = (M (M x0 61) ((21 + (12 * x1)) + x5)) then (WR 279 48 [some (vR x0), some (vI x1), some (vI x2), some (vI x3), some (vI 1), some (vI (x5 + 1))] [] M Q) else (WR 279 48 [some (vR x0), some (vI x1), some (vI x2), some (vI x3), some (vI 0), some (vI (x5 + 1))] [] M Q))))))))) : WR 279 48 [some (vR x0), some (vI x1), some (vI x2), some (vI x3), some (vI x4), some (vI x5)] [] M Q := by
  refine g_5 (a := 5) (b := 0) (nx := 50) (by decide +kernel) rfl ?_
  refine g_5 (a := 2) (b := 0) (nx := 51) (by decide +kernel) rfl ?_
  obtain ⟨r1, h⟩ := h
  obtain ⟨r2, h⟩ := h
  by_cases c11 : x2 ≤ x5
  · rw [if_pos c11] at h
    refine g_41t (a := 3) (b := 105) (nx := 54) (by decide +kernel) (by rw [wr_id r1, wr_id r2]; exact (cb_3 _ _).mpr c11) ?_
    refine g_5 (a := 4) (b := 0) (nx := 107) (by decide +kernel) rfl ?_
    obtain ⟨r3, h⟩ := h
    by_cases c4 : x4 = 0
    · rw [if_pos c4] at h
      refine g_40t (a := 0) (b := 112) (nx := 110) (by decide +kernel) r3 (by exact (cb_0 _ _).mpr c4) ?_
      refine g_11 (a := 3) (b := 1) (nx := 115) (by decide +kernel) rfl rfl (ls' := [some (vR x0), some (vI x1), some (vI x2), some (vI (x3 + 1)), some (vI x4), some (vI x5)]) rfl ?_
      refine g_44 (a := 0) (b := 24) (nx := 118) (by decide +kernel) ?_
      exact h
    · rw [if_neg c4] at h
      refine g_40f (a := 0) (b := 112) (nx := 110) (by decide +kernel) r3 (by exact fun hz => c4 ((cb_0 _ _).mp hz)) ?_
      refine g_1 (a := 0) (b := 0) (nx := 111) (by decide +kernel) ?_
      exact g_91z (b := 0) (nx := 112) (by decide +kernel) (by decide) h
  · rw [if_neg c11] at h
    refine g_41f (a := 3) (b := 105) (nx := 54) (by decide +kernel) (by rw [wr_id r1, wr_id r2]; exact fun hz => c11 ((cb_3 _ _).mp hz)) ?_
    refine g_5 (a := 4) (b := 0) (nx := 56) (by decide +kernel) rfl ?_
    obtain ⟨r5, h⟩ := h
    by_cases c10 : x4 = 0
    · rw [if_pos c10] at h
      refine g_40t (a := 0) (b := 105) (nx := 59) (by decide +kernel) r5 (by exact (cb_0 _ _).mpr c10) ?_
      refine g_5 (a := 4) (b := 0) (nx := 107) (by decide +kernel) rfl ?_
      by_cases c6 : x4 = 0
      · rw [if_pos c6] at h
        refine g_40t (a := 0) (b := 112) (nx := 110) (by decide +kernel) r5 (by exact (cb_0 _ _).mpr c6) ?_
        refine g_11 (a := 3) (b := 1) (nx := 115) (by decide +kernel) rfl rfl (ls' := [some (vR x0), some (vI x1), some (vI x2), some (vI (x3 + 1)), some (vI x4), some (vI x5)]) rfl ?_
        refine g_44 (a := 0) (b := 24) (nx := 118) (by decide +kernel) ?_
        exact h
      · rw [if_neg c6] at h
        refine g_40f (a := 0) (b := 112) (nx := 110) (by decide +kernel) r5 (by exact fun hz => c6 ((cb_0 _ _).mp hz)) ?_
        refine g_1 (a := 0) (b := 0) (nx := 111) (by decide +kernel) ?_
        exact g_91z (b := 0) (nx := 112) (by decide +kernel) (by decide) h
    · rw [if_neg c10] at h
      refine g_40f (a := 0) (b := 105) (nx := 59) (by decide +kernel) r5 (by exact fun hz => c10 ((cb_0 _ _).mp hz)) ?_
      refine g_7 (a := 0) (b := 0) (nx := 60) (by decide +kernel) rfl ?_
      refine g_52 (a := 12) (b := 61) (nx := 63) (by decide +kernel) h0 ?_
      refine g_1 (a := 21) (b := 0) (nx := 65) (by decide +kernel) ?_
      refine g_1 (a := 12) (b := 0) (nx := 67) (by decide +kernel) ?_
      refine g_5 (a := 3) (b := 0) (nx := 68) (by decide +kernel) rfl ?_
      refine g_17 (a := 0) (b := 0) (nx := 69) (by decide +kernel) ?_
      refine g_15 (a := 0) (b := 0) (nx := 70) (by decide +kernel) ?_
      refine g_5 (a := 5) (b := 0) (nx := 72) (by decide +kernel) rfl ?_
      refine g_15 (a := 0) (b := 0) (nx := 73) (by decide +kernel) ?_
      refine g_61 (a := 0) (b := 0) (nx := 74) (by decide +kernel) h.1 ?_
      replace h := h.2
      refine g_7 (a := 0) (b := 0) (nx := 75) (by decide +kernel) rfl ?_
      refine g_52 (a := 12) (b := 61) (nx := 78) (by decide +kernel) h0 ?_
      refine g_1 (a := 21) (b := 0) (nx := 80) (by decide +kernel) ?_
      refine g_1 (a := 12) (b := 0) (nx := 82) (by decide +kernel) ?_
      refine g_5 (a := 1) (b := 0) (nx := 83) (by decide +kernel) rfl ?_
      refine g_17 (a := 0) (b := 0) (nx := 84) (by decide +kernel) ?_
      refine g_15 (a := 0) (b := 0) (nx := 85) (by decide +kernel) ?_
      refine g_5 (a := 5) (b := 0) (nx := 87) (by decide +kernel) rfl ?_
      refine g_15 (a := 0) (b := 0) (nx := 88) (by decide +kernel) ?_
      refine g_61 (a := 0) (b := 0) (nx := 89) (by decide +kernel) h.1 ?_
      replace h := h.2
      obtain ⟨r7, h⟩ := h
      obtain ⟨r8, h⟩ := h
      by_cases c9 : (M (M x0 61) ((21 + (12 * x3)) + x5)) = (M (M x0 61) ((21 + (12 * x1)) + x5))
      · rw [if_pos c9] at h
        refine g_41f (a := 1) (b := 96) (nx := 92) (by decide +kernel) (by rw [wr_id r7, wr_id r8]; exact fun hz => ((cb_1 _ _).mp hz) c9) ?_
        refine g_1 (a := 1) (b := 0) (nx := 93) (by decide +kernel) ?_
        refine g_44 (a := 0) (b := 97) (nx := 96) (by decide +kernel) ?_
        refine g_8 (a := 4) (b := 0) (nx := 99) (by decide +kernel) rfl (ls' := [some (vR x0), some (vI x1), some (vI x2), some (vI x3), some (vI 1), some (vI x5)]) rfl ?_
        refine g_11 (a := 5) (b := 1) (nx := 102) (by decide +kernel) rfl rfl (ls' := [some (vR x0), some (vI x1), some (vI x2), some (vI x3), some (vI 1), some (vI (x5 + 1))]) rfl ?_
        refine g_44 (a := 0) (b := 48) (nx := 105) (by decide +kernel) ?_
        exact h
      · rw [if_neg c9] at h
        refine g_41t (a := 1) (b := 96) (nx := 92) (by decide +kernel) (by rw [wr_id r7, wr_id r8]; exact (cb_1 _ _).mpr c9) ?_
        refine g_1 (a := 0) (b := 0) (nx := 97) (by decide +kernel) ?_
        refine g_8 (a := 4) (b := 0) (nx := 99) (by decide +kernel) rfl (ls' := [some (vR x0), some (vI x1), some (vI x2), some (vI x3), some (vI 0), some (vI x5)]) rfl ?_
        refine g_11 (a := 5) (b := 1) (nx := 102) (by decide +kernel) rfl rfl (ls' := [some (vR x0), some (vI x1), some (vI x2), some (vI x3), some (vI 0), some (vI (x5 + 1))]) rfl ?_
        refine g_44 (a := 0) (b := 48) (nx := 105) (by decide +kernel) ?_
        exact h
-- 280 SyllableMakerModel.openingsOf(I)J
theorem t_280 {x0 x1 : Int} {M : Mem} {Q : AV → Mem → Prop} (h0 : gO 12 x0) (h : inR x1 ∧ (if 2 ≤ x1 then (inR (M x0 41) ∧ (if (M x0 41) = (-1) then (WR 280 34 [some (vR x0), some (vI x1), some (vL 0), none, some (vI 0)] [] M Q) else (WL 278 [vR x0, vI x1, vI 1] M (fun y4 M3 => WR 280 34 [some (vR x0), some (vI x1), some (vL y4), none, some (vI 0)] [] M3 Q)))) else (WL 278 [vR x0, vI x1, vI 1] M (fun y7 M6 => Q (vL y7) M6)))) : WC 280 [vR x0, vI x1] M Q := by
  show WR 280 0 [some (vR x0), some (vI x1), none, none, none] [] M Q
  refine g_5 (a := 1) (b := 0) (nx := 1) (by decide +kernel) rfl ?_
  refine g_1 (a := 2) (b := 0) (nx := 2) (by decide +kernel) ?_
  obtain ⟨r1, h⟩ := h
  by_cases c8 : 2 ≤ x1
  · rw [if_pos c8] at h
    refine g_41t (a := 3) (b := 12) (nx := 5) (by decide +kernel) (by rw [wr_id r1, wr_id (show inR 2 by decide)]; exact (cb_3 _ _).mpr c8) ?_
    refine g_7 (a := 0) (b := 0) (nx := 13) (by decide +kernel) rfl ?_
    refine g_50 (a := 12) (b := 41) (nx := 16) (by decide +kernel) h0 ?_
    refine g_1 (a := (-1)) (b := 0) (nx := 17) (by decide +kernel) ?_
    obtain ⟨r2, h⟩ := h
    by_cases c5 : (M x0 41) = (-1)
    · rw [if_pos c5] at h
      refine g_41f (a := 1) (b := 24) (nx := 20) (by decide +kernel) (by rw [wr_id r2, wr_id (show inR (-1) by decide)]; exact fun hz => ((cb_1 _ _).mp hz) c5) ?_
      refine g_2 (a := 0) (b := 0) (nx := 21) (by decide +kernel) ?_
      refine g_44 (a := 0) (b := 30) (nx := 24) (by decide +kernel) ?_
      refine g_9 (a := 2) (b := 0) (nx := 31) (by decide +kernel) ⟨rfl, Nat.le_of_ble_eq_true rfl⟩ (ls' := [some (vR x0), some (vI x1), some (vL 0), none, none]) rfl ?_
      refine g_1 (a := 0) (b := 0) (nx := 32) (by decide +kernel) ?_
      refine g_8 (a := 4) (b := 0) (nx := 34) (by decide +kernel) rfl (ls' := [some (vR x0), some (vI x1), some (vL 0), none, some (vI 0)]) rfl ?_
      exact h
    · rw [if_neg c5] at h
      refine g_41t (a := 1) (b := 24) (nx := 20) (by decide +kernel) (by rw [wr_id r2, wr_id (show inR (-1) by decide)]; exact (cb_1 _ _).mpr c5) ?_
      refine g_7 (a := 0) (b := 0) (nx := 25) (by decide +kernel) rfl ?_
      refine g_5 (a := 1) (b := 0) (nx := 26) (by decide +kernel) rfl ?_
      refine g_1 (a := 1) (b := 0) (nx := 27) (by decide +kernel) ?_
      refine g_80 (a := 278) (b := 2) (nx := 30) (by decide +kernel) (r := x0) (As := [vI x1, vI 1]) (st' := []) (z := 278) rfl rfl rfl (Nat.le_of_ble_eq_true rfl) h0.2 (Nat.le_of_ble_eq_true rfl) rfl (c_L (by decide +kernel) h (fun y4 M3 h => ?_))
      refine g_9 (a := 2) (b := 0) (nx := 31) (by decide +kernel) ⟨rfl, Nat.le_of_ble_eq_true rfl⟩ (ls' := [some (vR x0), some (vI x1), some (vL y4), none, none]) rfl ?_
      refine g_1 (a := 0) (b := 0) (nx := 32) (by decide +kernel) ?_
      refine g_8 (a := 4) (b := 0) (nx := 34) (by decide +kernel) rfl (ls' := [some (vR x0), some (vI x1), some (vL y4), none, some (vI 0)]) rfl ?_
      exact h
  · rw [if_neg c8] at h
    refine g_41f (a := 3) (b := 12) (nx := 5) (by decide +kernel) (by rw [wr_id r1, wr_id (show inR 2 by decide)]; exact fun hz => c8 ((cb_3 _ _).mp hz)) ?_
    refine g_7 (a := 0) (b := 0) (nx := 6) (by decide +kernel) rfl ?_
    refine g_5 (a := 1) (b := 0) (nx := 7) (by decide +kernel) rfl ?_
    refine g_1 (a := 1) (b := 0) (nx := 8) (by decide +kernel) ?_
    refine g_80 (a := 278) (b := 2) (nx := 11) (by decide +kernel) (r := x0) (As := [vI x1, vI 1]) (st' := []) (z := 278) rfl rfl rfl (Nat.le_of_ble_eq_true rfl) h0.2 (Nat.le_of_ble_eq_true rfl) rfl (c_L (by decide +kernel) h (fun y7 M6 h => ?_))
    exact g_92 (a := 0) (b := 0) (nx := 12) (by decide +kernel) h
theorem t_280_34 {x0 x1 x2 x4 : Int} {M : Mem} {Q : AV → Mem → Prop} (h0 : gO 12 x0) (h : inR x4 ∧ (inR (M x0 39) ∧ (if (M x0 39) ≤ x4 then (WR 280 83 [some (vR x0), some (vI x1), some (vL x2), none, some (vI 0)] [] M Q) else ((gA 20 (M x0 53) x4) ∧ inR (M (M x0 53) x4) ∧ (inR x1 ∧ (if (M (M x0 53) x4) = x1 then (WI 231 [vR x0, vR (M x0 52), vI (4 * x4), vI x1] M (fun y6 M5 => inR y6 ∧ (if y6 = 0 then (WR 280 34 [some (vR x0), some (vI x1), some (vL (x2 + 1)), none, some (vI (x4 + 1))] [] M5 Q) else (WR 280 34 [some (vR x0), some (vI x1), some (vL x2), none, some (vI (x4 + 1))] [] M5 Q)))) else (WR 280 34 [some (vR x0), some (vI x1), some (vL x2), none, some (vI (x4 + 1))] [] M Q))))))) : WR 280 34 [some (vR x0), some (vI x1), some (vL x2), none, some (vI x4)] [] M Q := by
  refine g_5 (a := 4) (b := 0) (nx := 36) (by decide +kernel) rfl ?_
  refine g_7 (a := 0) (b := 0) (nx := 37) (by decide +kernel) rfl ?_
  refine g_50 (a := 12) (b := 39) (nx := 40) (by decide +kernel) h0 ?_
  obtain ⟨r1, h⟩ := h
  obtain ⟨r2, h⟩ := h
  by_cases c10 : (M x0 39) ≤ x4
  · rw [if_pos c10] at h
    refine g_41t (a := 3) (b := 80) (nx := 43) (by decide +kernel) (by rw [wr_id r1, wr_id r2]; exact (cb_3 _ _).mpr c10) ?_
    refine g_1 (a := 0) (b := 0) (nx := 81) (by decide +kernel) ?_
    refine g_8 (a := 4) (b := 0) (nx := 83) (by decide +kernel) rfl (ls' := [some (vR x0), some (vI x1), some (vL x2), none, some (vI 0)]) rfl ?_
    exact h
  · rw [if_neg c10] at h
    refine g_41f (a := 3) (b := 80) (nx := 43) (by decide +kernel) (by rw [wr_id r1, wr_id r2]; exact fun hz => c10 ((cb_3 _ _).mp hz)) ?_
    refine g_7 (a := 0) (b := 0) (nx := 44) (by decide +kernel) rfl ?_
    refine g_52 (a := 12) (b := 53) (nx := 47) (by decide +kernel) h0 ?_
    refine g_5 (a := 4) (b := 0) (nx := 49) (by decide +kernel) rfl ?_
    refine g_61 (a := 0) (b := 0) (nx := 50) (by decide +kernel) h.1 ?_
    replace h := h.2
    refine g_5 (a := 1) (b := 0) (nx := 51) (by decide +kernel) rfl ?_
    obtain ⟨r3, h⟩ := h
    obtain ⟨r4, h⟩ := h
    by_cases c9 : (M (M x0 53) x4) = x1
    · rw [if_pos c9] at h
      refine g_41f (a := 1) (b := 74) (nx := 54) (by decide +kernel) (by rw [wr_id r3, wr_id r4]; exact fun hz => ((cb_1 _ _).mp hz) c9) ?_
      refine g_7 (a := 0) (b := 0) (nx := 55) (by decide +kernel) rfl ?_
      refine g_7 (a := 0) (b := 0) (nx := 56) (by decide +kernel) rfl ?_
      refine g_52 (a := 12) (b := 52) (nx := 59) (by decide +kernel) h0 ?_
      refine g_1 (a := 4) (b := 0) (nx := 60) (by decide +kernel) ?_
      refine g_5 (a := 4) (b := 0) (nx := 62) (by decide +kernel) rfl ?_
      refine g_17 (a := 0) (b := 0) (nx := 63) (by decide +kernel) ?_
      refine g_5 (a := 1) (b := 0) (nx := 64) (by decide +kernel) rfl ?_
      refine g_80 (a := 231) (b := 3) (nx := 67) (by decide +kernel) (r := x0) (As := [vR (M x0 52), vI (4 * x4), vI x1]) (st' := []) (z := 231) rfl rfl rfl (Nat.le_of_ble_eq_true rfl) h0.2 (Nat.le_of_ble_eq_true rfl) rfl (c_I (by decide +kernel) h (fun y6 M5 h => ?_))
      obtain ⟨r7, h⟩ := h
      by_cases c8 : y6 = 0
      · rw [if_pos c8] at h
        refine g_40f (a := 1) (b := 74) (nx := 70) (by decide +kernel) r7 (by exact fun hz => ((cb_1 _ _).mp hz) c8) ?_
        refine g_6 (a := 2) (b := 0) (nx := 71) (by decide +kernel) rfl ?_
        refine g_2 (a := 1) (b := 0) (nx := 72) (by decide +kernel) ?_
        refine g_25 (a := 0) (b := 0) (nx := 73) (by decide +kernel) ?_
        refine g_9 (a := 2) (b := 0) (nx := 74) (by decide +kernel) ⟨rfl, Nat.le_of_ble_eq_true rfl⟩ (ls' := [some (vR x0), some (vI x1), some (vL (x2 + 1)), none, some (vI x4)]) rfl ?_
        refine g_11 (a := 4) (b := 1) (nx := 77) (by decide +kernel) rfl rfl (ls' := [some (vR x0), some (vI x1), some (vL (x2 + 1)), none, some (vI (x4 + 1))]) rfl ?_
        refine g_44 (a := 0) (b := 34) (nx := 80) (by decide +kernel) ?_
        exact h
      · rw [if_neg c8] at h
        refine g_40t (a := 1) (b := 74) (nx := 70) (by decide +kernel) r7 (by exact (cb_1 _ _).mpr c8) ?_
        refine g_11 (a := 4) (b := 1) (nx := 77) (by decide +kernel) rfl rfl (ls' := [some (vR x0), some (vI x1), some (vL x2), none, some (vI (x4 + 1))]) rfl ?_
        refine g_44 (a := 0) (b := 34) (nx := 80) (by decide +kernel) ?_
        exact h
    · rw [if_neg c9] at h
      refine g_41t (a := 1) (b := 74) (nx := 54) (by decide +kernel) (by rw [wr_id r3, wr_id r4]; exact (cb_1 _ _).mpr c9) ?_
      refine g_11 (a := 4) (b := 1) (nx := 77) (by decide +kernel) rfl rfl (ls' := [some (vR x0), some (vI x1), some (vL x2), none, some (vI (x4 + 1))]) rfl ?_
      refine g_44 (a := 0) (b := 34) (nx := 80) (by decide +kernel) ?_
      exact h
theorem t_280_83 {x0 x1 x2 x4 : Int} {M : Mem} {Q : AV → Mem → Prop} (h0 : gO 12 x0) (h : (gA 20 (M x0 61) 0) ∧ inR x4 ∧ (inR (M (M x0 61) 0) ∧ (if (M (M x0 61) 0) ≤ x4 then (Q (vL x2) M) else (WI 279 [vR x0, vI x4] M (fun y4 M3 => inR y4 ∧ (if y4 = 0 then (WR 280 83 [some (vR x0), some (vI x1), some (vL x2), none, some (vI (x4 + 1))] [] M3 Q) else (WI 233 [vR x0, vI x4] M3 (fun y7 M6 => inR y7 ∧ (inR x1 ∧ (if y7 = x1 then (WI 232 [vR x0, vR (M6 x0 61), vI (21 + (12 * x4)), vI x1] M6 (fun y11 M10 => inR y11 ∧ (if y11 = 0 then (WI 231 [vR x0, vR (M10 x0 61), vI (21 + (12 * x4)), vI x1] M10 (fun y14 M13 => inR y14 ∧ (if y14 = 0 then (WR 280 83 [some (vR x0), some (vI x1), some (vL (x2 + 1)), none, some (vI (x4 + 1))] [] M13 Q) else (WR 280 83 [some (vR x0), some (vI x1), some (vL x2), none, some (vI (x4 + 1))] [] M13 Q)))) else (WR 280 83 [some (vR x0), some (vI x1), some (vL x2), none, some (vI (x4 + 1))] [] M10 Q)))) else (WR 280 83 [some (vR x0), some (vI x1), some (vL x2), none, some (vI (x4 + 1))] [] M6 Q))))))))))) : WR 280 83 [some (vR x0), some (vI x1), some (vL x2), none, some (vI x4)] [] M Q := by
  refine g_5 (a := 4) (b := 0) (nx := 85) (by decide +kernel) rfl ?_
  refine g_7 (a := 0) (b := 0) (nx := 86) (by decide +kernel) rfl ?_
  refine g_52 (a := 12) (b := 61) (nx := 89) (by decide +kernel) h0 ?_
  refine g_1 (a := 0) (b := 0) (nx := 90) (by decide +kernel) ?_
  refine g_61 (a := 0) (b := 0) (nx := 91) (by decide +kernel) h.1 ?_
  replace h := h.2
  obtain ⟨r1, h⟩ := h
  obtain ⟨r2, h⟩ := h
  by_cases c20 : (M (M x0 61) 0) ≤ x4
  · rw [if_pos c20] at h
    refine g_41t (a := 3) (b := 163) (nx := 94) (by decide +kernel) (by rw [wr_id r1, wr_id r2]; exact (cb_3 _ _).mpr c20) ?_
    refine g_6 (a := 2) (b := 0) (nx := 164) (by decide +kernel) rfl ?_
    exact g_92 (a := 0) (b := 0) (nx := 165) (by decide +kernel) h
  · rw [if_neg c20] at h
    refine g_41f (a := 3) (b := 163) (nx := 94) (by decide +kernel) (by rw [wr_id r1, wr_id r2]; exact fun hz => c20 ((cb_3 _ _).mp hz)) ?_
    refine g_7 (a := 0) (b := 0) (nx := 95) (by decide +kernel) rfl ?_
    refine g_5 (a := 4) (b := 0) (nx := 97) (by decide +kernel) rfl ?_
    refine g_80 (a := 279) (b := 1) (nx := 100) (by decide +kernel) (r := x0) (As := [vI x4]) (st' := []) (z := 279) rfl rfl rfl (Nat.le_of_ble_eq_true rfl) h0.2 (Nat.le_of_ble_eq_true rfl) rfl (c_I (by decide +kernel) h (fun y4 M3 h => ?_))
    obtain ⟨r5, h⟩ := h
    by_cases c19 : y4 = 0
    · rw [if_pos c19] at h
      refine g_40t (a := 0) (b := 157) (nx := 103) (by decide +kernel) r5 (by exact (cb_0 _ _).mpr c19) ?_
      refine g_11 (a := 4) (b := 1) (nx := 160) (by decide +kernel) rfl rfl (ls' := [some (vR x0), some (vI x1), some (vL x2), none, some (vI (x4 + 1))]) rfl ?_
      refine g_44 (a := 0) (b := 83) (nx := 163) (by decide +kernel) ?_
      exact h
    · rw [if_neg c19] at h
      refine g_40f (a := 0) (b := 157) (nx := 103) (by decide +kernel) r5 (by exact fun hz => c19 ((cb_0 _ _).mp hz)) ?_
      refine g_7 (a := 0) (b := 0) (nx := 104) (by decide +kernel) rfl ?_
      refine g_5 (a := 4) (b := 0) (nx := 106) (by decide +kernel) rfl ?_
      refine g_80 (a := 233) (b := 1) (nx := 109) (by decide +kernel) (r := x0) (As := [vI x4]) (st' := []) (z := 233) rfl rfl rfl (Nat.le_of_ble_eq_true rfl) h0.2 (Nat.le_of_ble_eq_true rfl) rfl (c_I (by decide +kernel) h (fun y7 M6 h => ?_))
      refine g_5 (a := 1) (b := 0) (nx := 110) (by decide +kernel) rfl ?_
      obtain ⟨r8, h⟩ := h
      obtain ⟨r9, h⟩ := h
      by_cases c18 : y7 = x1
      · rw [if_pos c18] at h
        refine g_41f (a := 1) (b := 157) (nx := 113) (by decide +kernel) (by rw [wr_id r8, wr_id r9]; exact fun hz => ((cb_1 _ _).mp hz) c18) ?_
        refine g_7 (a := 0) (b := 0) (nx := 114) (by decide +kernel) rfl ?_
        refine g_7 (a := 0) (b := 0) (nx := 115) (by decide +kernel) rfl ?_
        refine g_52 (a := 12) (b := 61) (nx := 118) (by decide +kernel) h0 ?_
        refine g_1 (a := 21) (b := 0) (nx := 120) (by decide +kernel) ?_
        refine g_1 (a := 12) (b := 0) (nx := 122) (by decide +kernel) ?_
        refine g_5 (a := 4) (b := 0) (nx := 124) (by decide +kernel) rfl ?_
        refine g_17 (a := 0) (b := 0) (nx := 125) (by decide +kernel) ?_
        refine g_15 (a := 0) (b := 0) (nx := 126) (by decide +kernel) ?_
        refine g_5 (a := 1) (b := 0) (nx := 127) (by decide +kernel) rfl ?_
        refine g_80 (a := 232) (b := 3) (nx := 130) (by decide +kernel) (r := x0) (As := [vR (M6 x0 61), vI (21 + (12 * x4)), vI x1]) (st' := []) (z := 232) rfl rfl rfl (Nat.le_of_ble_eq_true rfl) h0.2 (Nat.le_of_ble_eq_true rfl) rfl (c_I (by decide +kernel) h (fun y11 M10 h => ?_))
        obtain ⟨r12, h⟩ := h
        by_cases c17 : y11 = 0
        · rw [if_pos c17] at h
          refine g_40f (a := 1) (b := 157) (nx := 133) (by decide +kernel) r12 (by exact fun hz => ((cb_1 _ _).mp hz) c17) ?_
          refine g_7 (a := 0) (b := 0) (nx := 134) (by decide +kernel) rfl ?_
          refine g_7 (a := 0) (b := 0) (nx := 135) (by decide +kernel) rfl ?_
          refine g_52 (a := 12) (b := 61) (nx := 138) (by decide +kernel) h0 ?_
          refine g_1 (a := 21) (b := 0) (nx := 140) (by decide +kernel) ?_
          refine g_1 (a := 12) (b := 0) (nx := 142) (by decide +kernel) ?_
          refine g_5 (a := 4) (b := 0) (nx := 144) (by decide +kernel) rfl ?_
          refine g_17 (a := 0) (b := 0) (nx := 145) (by decide +kernel) ?_
          refine g_15 (a := 0) (b := 0) (nx := 146) (by decide +kernel) ?_
          refine g_5 (a := 1) (b := 0) (nx := 147) (by decide +kernel) rfl ?_
          refine g_80 (a := 231) (b := 3) (nx := 150) (by decide +kernel) (r := x0) (As := [vR (M10 x0 61), vI (21 + (12 * x4)), vI x1]) (st' := []) (z := 231) rfl rfl rfl (Nat.le_of_ble_eq_true rfl) h0.2 (Nat.le_of_ble_eq_true rfl) rfl (c_I (by decide +kernel) h (fun y14 M13 h => ?_))
          obtain ⟨r15, h⟩ := h
          by_cases c16 : y14 = 0
          · rw [if_pos c16] at h
            refine g_40f (a := 1) (b := 157) (nx := 153) (by decide +kernel) r15 (by exact fun hz => ((cb_1 _ _).mp hz) c16) ?_
            refine g_6 (a := 2) (b := 0) (nx := 154) (by decide +kernel) rfl ?_
            refine g_2 (a := 1) (b := 0) (nx := 155) (by decide +kernel) ?_
            refine g_25 (a := 0) (b := 0) (nx := 156) (by decide +kernel) ?_
            refine g_9 (a := 2) (b := 0) (nx := 157) (by decide +kernel) ⟨rfl, Nat.le_of_ble_eq_true rfl⟩ (ls' := [some (vR x0), some (vI x1), some (vL (x2 + 1)), none, some (vI x4)]) rfl ?_
            refine g_11 (a := 4) (b := 1) (nx := 160) (by decide +kernel) rfl rfl (ls' := [some (vR x0), some (vI x1), some (vL (x2 + 1)), none, some (vI (x4 + 1))]) rfl ?_
            refine g_44 (a := 0) (b := 83) (nx := 163) (by decide +kernel) ?_
            exact h
          · rw [if_neg c16] at h
            refine g_40t (a := 1) (b := 157) (nx := 153) (by decide +kernel) r15 (by exact (cb_1 _ _).mpr c16) ?_
            refine g_11 (a := 4) (b := 1) (nx := 160) (by decide +kernel) rfl rfl (ls' := [some (vR x0), some (vI x1), some (vL x2), none, some (vI (x4 + 1))]) rfl ?_
            refine g_44 (a := 0) (b := 83) (nx := 163) (by decide +kernel) ?_
            exact h
        · rw [if_neg c17] at h
          refine g_40t (a := 1) (b := 157) (nx := 133) (by decide +kernel) r12 (by exact (cb_1 _ _).mpr c17) ?_
          refine g_11 (a := 4) (b := 1) (nx := 160) (by decide +kernel) rfl rfl (ls' := [some (vR x0), some (vI x1), some (vL x2), none, some (vI (x4 + 1))]) rfl ?_
          refine g_44 (a := 0) (b := 83) (nx := 163) (by decide +kernel) ?_
          exact h
      · rw [if_neg c18] at h
        refine g_41t (a := 1) (b := 157) (nx := 113) (by decide +kernel) (by rw [wr_id r8, wr_id r9]; exact (cb_1 _ _).mpr c18) ?_
        refine g_11 (a := 4) (b := 1) (nx := 160) (by decide +kernel) rfl rfl (ls' := [some (vR x0), some (vI x1), some (vL x2), none, some (vI (x4 + 1))]) rfl ?_
        refine g_44 (a := 0) (b := 83) (nx := 163) (by decide +kernel) ?_
        exact h
-- 281 SyllableMakerModel.possible(I)I
theorem t_281 {x0 x1 : Int} {M : Mem} {Q : AV → Mem → Prop} (h0 : gO 12 x0) (h : WI 177 [vL (wr32 x1), vL 1, vL 6] M (fun y2 M1 => inR y2 ∧ (if y2 = 0 then (Q (vI (-1)) M1) else (WR 281 22 [some (vR x0), some (vI x1), some (vL 0), none, some (vI 0), some (vI 0), none, none] [] M1 Q)))) : WC 281 [vR x0, vI x1] M Q := by
  show WR 281 0 [some (vR x0), some (vI x1), none, none, none, none, none, none] [] M Q
  refine g_5 (a := 1) (b := 0) (nx := 1) (by decide +kernel) rfl ?_
  refine g_35 (a := 0) (b := 0) (nx := 2) (by decide +kernel) ?_
  refine g_2 (a := 1) (b := 0) (nx := 3) (by decide +kernel) ?_
  refine g_2 (a := 6) (b := 0) (nx := 6) (by decide +kernel) ?_
  refine g_82 (a := 177) (b := 3) (nx := 9) (by decide +kernel) (As := [vL (wr32 x1), vL 1, vL 6]) (st' := []) (z := 177) rfl rfl rfl (Nat.le_of_ble_eq_true rfl) (Nat.le_of_ble_eq_true rfl) rfl (c_I (by decide +kernel) h (fun y2 M1 h => ?_))
  obtain ⟨r3, h⟩ := h
  by_cases c4 : y2 = 0
  · rw [if_pos c4] at h
    refine g_40f (a := 1) (b := 14) (nx := 12) (by decide +kernel) r3 (by exact fun hz => ((cb_1 _ _).mp hz) c4) ?_
    refine g_1 (a := (-1)) (b := 0) (nx := 13) (by decide +kernel) ?_
    exact g_91 (b := 0) (nx := 14) (by decide +kernel) h
  · rw [if_neg c4] at h
    refine g_40t (a := 1) (b := 14) (nx := 12) (by decide +kernel) r3 (by exact (cb_1 _ _).mpr c4) ?_
    refine g_2 (a := 0) (b := 0) (nx := 15) (by decide +kernel) ?_
    refine g_9 (a := 2) (b := 0) (nx := 16) (by decide +kernel) ⟨rfl, Nat.le_of_ble_eq_true rfl⟩ (ls' := [some (vR x0), some (vI x1), some (vL 0), none, none, none, none, none]) rfl ?_
    refine g_1 (a := 0) (b := 0) (nx := 17) (by decide +kernel) ?_
    refine g_8 (a := 4) (b := 0) (nx := 19) (by decide +kernel) rfl (ls' := [some (vR x0), some (vI x1), some (vL 0), none, some (vI 0), none, none, none]) rfl ?_
    refine g_1 (a := 0) (b := 0) (nx := 20) (by decide +kernel) ?_
    refine g_8 (a := 5) (b := 0) (nx := 22) (by decide +kernel) rfl (ls' := [some (vR x0), some (vI x1), some (vL 0), none, some (vI 0), some (vI 0), none, none]) rfl ?_
    exact h
theorem t_281_22 {x0 x1 x2 x4 x5 : Int} {M : Mem} {Q : AV → Mem → Prop} (h0 : gO 12 x0) (h : inR x5 ∧ (inR (M x0 38) ∧ (if (M x0 38) ≤ x5 then (WR 281 52 [some (vR x0), some (vI x1), some (vL x2), none, some (vI x4), some (vI 0), none, none] [] M Q) else ((gA 20 (M x0 51) x5) ∧ WR 281 22 [some (vR x0), some (vI x1), some (vL x2), none, some (vI (x4 + (M (M x0 51) x5))), some (vI (x5 + 1)), none, none] [] M Q)))) : WR 281 22 [some (vR x0), some (vI x1), some (vL x2), none, some (vI x4), some (vI x5), none, none] [] M Q := by
  refine g_5 (a := 5) (b := 0) (nx := 24) (by decide +kernel) rfl ?_
  refine g_7 (a := 0) (b := 0) (nx := 25) (by decide +kernel) rfl ?_
  refine g_50 (a := 12) (b := 38) (nx := 28) (by decide +kernel) h0 ?_
  obtain ⟨r1, h⟩ := h
  obtain ⟨r2, h⟩ := h
  by_cases c3 : (M x0 38) ≤ x5
  · rw [if_pos c3] at h
    refine g_41t (a := 3) (b := 49) (nx := 31) (by decide +kernel) (by rw [wr_id r1, wr_id r2]; exact (cb_3 _ _).mpr c3) ?_
    refine g_1 (a := 0) (b := 0) (nx := 50) (by decide +kernel) ?_
    refine g_8 (a := 5) (b := 0) (nx := 52) (by decide +kernel) rfl (ls' := [some (vR x0), some (vI x1), some (vL x2), none, some (vI x4), some (vI 0), none, none]) rfl ?_
    exact h
  · rw [if_neg c3] at h
    refine g_41f (a := 3) (b := 49) (nx := 31) (by decide +kernel) (by rw [wr_id r1, wr_id r2]; exact fun hz => c3 ((cb_3 _ _).mp hz)) ?_
    refine g_5 (a := 4) (b := 0) (nx := 33) (by decide +kernel) rfl ?_
    refine g_7 (a := 0) (b := 0) (nx := 34) (by decide +kernel) rfl ?_
    refine g_52 (a := 12) (b := 51) (nx := 37) (by decide +kernel) h0 ?_
    refine g_5 (a := 5) (b := 0) (nx := 39) (by decide +kernel) rfl ?_
    refine g_61 (a := 0) (b := 0) (nx := 40) (by decide +kernel) h.1 ?_
    replace h := h.2
    refine g_15 (a := 0) (b := 0) (nx := 41) (by decide +kernel) ?_
    refine g_8 (a := 4) (b := 0) (nx := 43) (by decide +kernel) rfl (ls' := [some (vR x0), some (vI x1), some (vL x2), none, some (vI (x4 + (M (M x0 51) x5))), some (vI x5), none, none]) rfl ?_
    refine g_11 (a := 5) (b := 1) (nx := 46) (by decide +kernel) rfl rfl (ls' := [some (vR x0), some (vI x1), some (vL x2), none, some (vI (x4 + (M (M x0 51) x5))), some (vI (x5 + 1)), none, none]) rfl ?_
    refine g_44 (a := 0) (b := 22) (nx := 49) (by decide +kernel) ?_
    exact h
theorem t_281_52 {x0 x1 x2 x4 x5 : Int} {l6 l7 : Option AV} {M : Mem} {Q : AV → Mem → Prop} (h0 : gO 12 x0) (h : WI 179 [vI 4, vI (x1 - 1)] M (fun y2 M1 => inR x5 ∧ (inR y2 ∧ (if y2 < x5 then (Q (vI x2) M1) else (WR 281 67 [some (vR x0), some (vI x1), some (vL x2), none, some (vI x4), some (vI x5), some (vI 1), l7] [] M1 Q))))) : WR 281 52 [some (vR x0), some (vI x1), some (vL x2), none, some (vI x4), some (vI x5), l6, l7] [] M Q := by
  refine g_5 (a := 5) (b := 0) (nx := 54) (by decide +kernel) rfl ?_
  refine g_1 (a := 4) (b := 0) (nx := 55) (by decide +kernel) ?_
  refine g_5 (a := 1) (b := 0) (nx := 56) (by decide +kernel) rfl ?_
  refine g_1 (a := 1) (b := 0) (nx := 57) (by decide +kernel) ?_
  refine g_16 (a := 0) (b := 0) (nx := 58) (by decide +kernel) ?_
  refine g_82 (a := 179) (b := 2) (nx := 61) (by decide +kernel) (As := [vI 4, vI (x1 - 1)]) (st' := [vI x5]) (z := 179) rfl rfl rfl (Nat.le_of_ble_eq_true rfl) (Nat.le_of_ble_eq_true rfl) rfl (c_I (by decide +kernel) h (fun y2 M1 h => ?_))
  obtain ⟨r3, h⟩ := h
  obtain ⟨r4, h⟩ := h
  by_cases c5 : y2 < x5
  · rw [if_pos c5] at h
    refine g_41t (a := 4) (b := 148) (nx := 64) (by decide +kernel) (by rw [wr_id r3, wr_id r4]; exact (cb_4 _ _).mpr c5) ?_
    refine g_6 (a := 2) (b := 0) (nx := 149) (by decide +kernel) rfl ?_
    refine g_36 (a := 0) (b := 0) (nx := 150) (by decide +kernel) ?_
    exact g_91 (b := 0) (nx := 151) (by decide +kernel) h
  · rw [if_neg c5] at h
    refine g_41f (a := 4) (b := 148) (nx := 64) (by decide +kernel) (by rw [wr_id r3, wr_id r4]; exact fun hz => c5 ((cb_4 _ _).mp hz)) ?_
    refine g_1 (a := 1) (b := 0) (nx := 65) (by decide +kernel) ?_
    refine g_8 (a := 6) (b := 0) (nx := 67) (by decide +kernel) rfl (ls' := [some (vR x0), some (vI x1), some (vL x2), none, some (vI x4), some (vI x5), some (vI 1), l7]) rfl ?_
    exact h
theorem t_281_67 {x0 x1 x2 x4 x5 x6 : Int} {l7 : Option AV} {M : Mem} {Q : AV → Mem → Prop} (h0 : gO 12 x0) (h : inR x6 ∧ (if 2 < x6 then (WR 281 52 [some (vR x0), some (vI x1), some (vL x2), none, some (vI x4), some (vI (x5 + 1)), some (vI x6), l7] [] M Q) else (inR ((x1 - x5) - x6) ∧ (if ((x1 - x5) - x6) < 0 then (WR 281 67 [some (vR x0), some (vI x1), some (vL x2), none, some (vI x4), some (vI x5), some (vI (x6 + 1)), some (vI ((x1 - x5) - x6))] [] M Q) else (inR (M x0 42) ∧ (if ((x1 - x5) - x6) ≤ (M x0 42) then (WL 280 [vR x0, vI x5] M (fun y5 M4 => if x6 = 1 then (WL 278 [vR x0, vI ((x1 - x5) - x6), vI 0] M4 (fun y9 M8 => WR 281 67 [some (vR x0), some (vI x1), some (vL (x2 + ((y5 * (wr32 x4)) * y9))), none, some (vI x4), some (vI x5), some (vI (x6 + 1)), some (vI ((x1 - x5) - x6))] [] M8 Q)) else (WL 278 [vR x0, vI ((x1 - x5) - x6), vI 0] M4 (fun y7 M6 => WR 281 67 [some (vR x0), some (vI x1), some (vL (x2 + ((y5 * (wr32 (x4 + (M4 x0 40)))) * y7))), none, some (vI x4), some (vI x5), some (vI (x6 + 1)), some (vI ((x1 - x5) - x6))] [] M6 Q)))) else (WR 281 67 [some (vR x0), some (vI x1), some (vL x2), none, some (vI x4), some (vI x5), some (vI (x6 + 1)), some (vI ((x1 - x5) - x6))] [] M Q))))))) : WR 281 67 [some (vR x0), some (vI x1), some (vL x2), none, some (vI x4), some (vI x5), some (vI x6), l7] [] M Q := by
  refine g_5 (a := 6) (b := 0) (nx := 69) (by decide +kernel) rfl ?_
  refine g_1 (a := 2) (b := 0) (nx := 70) (by decide +kernel) ?_
  obtain ⟨r1, h⟩ := h
  by_cases c13 : 2 < x6
  · rw [if_pos c13] at h
    refine g_41t (a := 4) (b := 142) (nx := 73) (by decide +kernel) (by rw [wr_id r1, wr_id (show inR 2 by decide)]; exact (cb_4 _ _).mpr c13) ?_
    refine g_11 (a := 5) (b := 1) (nx := 145) (by decide +kernel) rfl rfl (ls' := [some (vR x0), some (vI x1), some (vL x2), none, some (vI x4), some (vI (x5 + 1)), some (vI x6), l7]) rfl ?_
    refine g_44 (a := 0) (b := 52) (nx := 148) (by decide +kernel) ?_
    exact h
  · rw [if_neg c13] at h
    refine g_41f (a := 4) (b := 142) (nx := 73) (by decide +kernel) (by rw [wr_id r1, wr_id (show inR 2 by decide)]; exact fun hz => c13 ((cb_4 _ _).mp hz)) ?_
    refine g_5 (a := 1) (b := 0) (nx := 74) (by decide +kernel) rfl ?_
    refine g_5 (a := 5) (b := 0) (nx := 76) (by decide +kernel) rfl ?_
    refine g_16 (a := 0) (b := 0) (nx := 77) (by decide +kernel) ?_
    refine g_5 (a := 6) (b := 0) (nx := 79) (by decide +kernel) rfl ?_
    refine g_16 (a := 0) (b := 0) (nx := 80) (by decide +kernel) ?_
    refine g_8 (a := 7) (b := 0) (nx := 82) (by decide +kernel) rfl (ls' := [some (vR x0), some (vI x1), some (vL x2), none, some (vI x4), some (vI x5), some (vI x6), some (vI ((x1 - x5) - x6))]) rfl ?_
    refine g_5 (a := 7) (b := 0) (nx := 84) (by decide +kernel) rfl ?_
    obtain ⟨r2, h⟩ := h
    by_cases c12 : ((x1 - x5) - x6) < 0
    · rw [if_pos c12] at h
      refine g_40t (a := 2) (b := 136) (nx := 87) (by decide +kernel) r2 (by exact (cb_2 _ _).mpr c12) ?_
      refine g_11 (a := 6) (b := 1) (nx := 139) (by decide +kernel) rfl rfl (ls' := [some (vR x0), some (vI x1), some (vL x2), none, some (vI x4), some (vI x5), some (vI (x6 + 1)), some (vI ((x1 - x5) - x6))]) rfl ?_
      refine g_44 (a := 0) (b := 67) (nx := 142) (by decide +kernel) ?_
      exact h
    · rw [if_neg c12] at h
      refine g_40f (a := 2) (b := 136) (nx := 87) (by decide +kernel) r2 (by exact fun hz => c12 ((cb_2 _ _).mp hz)) ?_
      refine g_5 (a := 7) (b := 0) (nx := 89) (by decide +kernel) rfl ?_
      refine g_7 (a := 0) (b := 0) (nx := 90) (by decide +kernel) rfl ?_
      refine g_50 (a := 12) (b := 42) (nx := 93) (by decide +kernel) h0 ?_
      obtain ⟨r3, h⟩ := h
      by_cases c11 : ((x1 - x5) - x6) ≤ (M x0 42)
      · rw [if_pos c11] at h
        refine g_41t (a := 5) (b := 99) (nx := 96) (by decide +kernel) (by rw [wr_id r2, wr_id r3]; exact (cb_5 _ _).mpr c11) ?_
        refine g_6 (a := 2) (b := 0) (nx := 100) (by decide +kernel) rfl ?_
        refine g_7 (a := 0) (b := 0) (nx := 101) (by decide +kernel) rfl ?_
        refine g_5 (a := 5) (b := 0) (nx := 103) (by decide +kernel) rfl ?_
        refine g_80 (a := 280) (b := 1) (nx := 106) (by decide +kernel) (r := x0) (As := [vI x5]) (st' := [vL x2]) (z := 280) rfl rfl rfl (Nat.le_of_ble_eq_true rfl) h0.2 (Nat.le_of_ble_eq_true rfl) rfl (c_L (by decide +kernel) h (fun y5 M4 h => ?_))
        refine g_5 (a := 6) (b := 0) (nx := 108) (by decide +kernel) rfl ?_
        refine g_1 (a := 1) (b := 0) (nx := 109) (by decide +kernel) ?_
        by_cases c10 : x6 = 1
        · rw [if_pos c10] at h
          refine g_41f (a := 1) (b := 117) (nx := 112) (by decide +kernel) (by rw [wr_id r1, wr_id (show inR 1 by decide)]; exact fun hz => ((cb_1 _ _).mp hz) c10) ?_
          refine g_5 (a := 4) (b := 0) (nx := 114) (by decide +kernel) rfl ?_
          refine g_44 (a := 0) (b := 124) (nx := 117) (by decide +kernel) ?_
          refine g_35 (a := 0) (b := 0) (nx := 125) (by decide +kernel) ?_
          refine g_27 (a := 0) (b := 0) (nx := 126) (by decide +kernel) ?_
          refine g_7 (a := 0) (b := 0) (nx := 127) (by decide +kernel) rfl ?_
          refine g_5 (a := 7) (b := 0) (nx := 129) (by decide +kernel) rfl ?_
          refine g_1 (a := 0) (b := 0) (nx := 130) (by decide +kernel) ?_
          refine g_80 (a := 278) (b := 2) (nx := 133) (by decide +kernel) (r := x0) (As := [vI ((x1 - x5) - x6), vI 0]) (st' := [vL (y5 * (wr32 x4)), vL x2]) (z := 278) rfl rfl rfl (Nat.le_of_ble_eq_true rfl) h0.2 (Nat.le_of_ble_eq_true rfl) rfl (c_L (by decide +kernel) h (fun y9 M8 h => ?_))
          refine g_27 (a := 0) (b := 0) (nx := 134) (by decide +kernel) ?_
          refine g_25 (a := 0) (b := 0) (nx := 135) (by decide +kernel) ?_
          refine g_9 (a := 2) (b := 0) (nx := 136) (by decide +kernel) ⟨rfl, Nat.le_of_ble_eq_true rfl⟩ (ls' := [some (vR x0), some (vI x1), some (vL (x2 + ((y5 * (wr32 x4)) * y9))), none, some (vI x4), some (vI x5), some (vI x6), some (vI ((x1 - x5) - x6))]) rfl ?_
          refine g_11 (a := 6) (b := 1) (nx := 139) (by decide +kernel) rfl rfl (ls' := [some (vR x0), some (vI x1), some (vL (x2 + ((y5 * (wr32 x4)) * y9))), none, some (vI x4), some (vI x5), some (vI (x6 + 1)), some (vI ((x1 - x5) - x6))]) rfl ?_
          refine g_44 (a := 0) (b := 67) (nx := 142) (by decide +kernel) ?_
          exact h
        · rw [if_neg c10] at h
          refine g_41t (a := 1) (b := 117) (nx := 112) (by decide +kernel) (by rw [wr_id r1, wr_id (show inR 1 by decide)]; exact (cb_1 _ _).mpr c10) ?_
          refine g_5 (a := 4) (b := 0) (nx := 119) (by decide +kernel) rfl ?_
          refine g_7 (a := 0) (b := 0) (nx := 120) (by decide +kernel) rfl ?_
          refine g_50 (a := 12) (b := 40) (nx := 123) (by decide +kernel) h0 ?_
          refine g_15 (a := 0) (b := 0) (nx := 124) (by decide +kernel) ?_
          refine g_35 (a := 0) (b := 0) (nx := 125) (by decide +kernel) ?_
          refine g_27 (a := 0) (b := 0) (nx := 126) (by decide +kernel) ?_
          refine g_7 (a := 0) (b := 0) (nx := 127) (by decide +kernel) rfl ?_
          refine g_5 (a := 7) (b := 0) (nx := 129) (by decide +kernel) rfl ?_
          refine g_1 (a := 0) (b := 0) (nx := 130) (by decide +kernel) ?_
          refine g_80 (a := 278) (b := 2) (nx := 133) (by decide +kernel) (r := x0) (As := [vI ((x1 - x5) - x6), vI 0]) (st' := [vL (y5 * (wr32 (x4 + (M4 x0 40)))), vL x2]) (z := 278) rfl rfl rfl (Nat.le_of_ble_eq_true rfl) h0.2 (Nat.le_of_ble_eq_true rfl) rfl (c_L (by decide +kernel) h (fun y7 M6 h => ?_))
          refine g_27 (a := 0) (b := 0) (nx := 134) (by decide +kernel) ?_
          refine g_25 (a := 0) (b := 0) (nx := 135) (by decide +kernel) ?_
          refine g_9 (a := 2) (b := 0) (nx := 136) (by decide +kernel) ⟨rfl, Nat.le_of_ble_eq_true rfl⟩ (ls' := [some (vR x0), some (vI x1), some (vL (x2 + ((y5 * (wr32 (x4 + (M4 x0 40)))) * y7))), none, some (vI x4), some (vI x5), some (vI x6), some (vI ((x1 - x5) - x6))]) rfl ?_
          refine g_11 (a := 6) (b := 1) (nx := 139) (by decide +kernel) rfl rfl (ls' := [some (vR x0), some (vI x1), some (vL (x2 + ((y5 * (wr32 (x4 + (M4 x0 40)))) * y7))), none, some (vI x4), some (vI x5), some (vI (x6 + 1)), some (vI ((x1 - x5) - x6))]) rfl ?_
          refine g_44 (a := 0) (b := 67) (nx := 142) (by decide +kernel) ?_
          exact h
      · rw [if_neg c11] at h
        refine g_41f (a := 5) (b := 99) (nx := 96) (by decide +kernel) (by rw [wr_id r2, wr_id r3]; exact fun hz => c11 ((cb_5 _ _).mp hz)) ?_
        refine g_44 (a := 0) (b := 136) (nx := 99) (by decide +kernel) ?_
        refine g_11 (a := 6) (b := 1) (nx := 139) (by decide +kernel) rfl rfl (ls' := [some (vR x0), some (vI x1), some (vL x2), none, some (vI x4), some (vI x5), some (vI (x6 + 1)), some (vI ((x1 - x5) - x6))]) rfl ?_
        refine g_44 (a := 0) (b := 67) (nx := 142) (by decide +kernel) ?_
        exact h
-- 282 SyllableMakerModel.forgets()V
theorem t_282 {x0 : Int} {M : Mem} {Q : AV → Mem → Prop} (h0 : gO 12 x0) (h : Q (vI 0) (upM M x0 84 0)) : WC 282 [vR x0] M Q := by
  show WR 282 0 [some (vR x0)] [] M Q
  refine g_7 (a := 0) (b := 0) (nx := 1) (by decide +kernel) rfl ?_
  refine g_1 (a := 0) (b := 0) (nx := 2) (by decide +kernel) ?_
  refine g_56 (a := 12) (b := 84) (nx := 5) (by decide +kernel) h0 (by decide) ?_
  exact g_90 (a := 0) (b := 0) (nx := 6) (by decide +kernel) h
-- 283 SyllableMakerModel.counts(IIII)V
theorem t_283 {x0 x1 x2 x3 x4 : Int} {M : Mem} {Q : AV → Mem → Prop} (h0 : gO 12 x0) (h : (gA 20 (M x0 79) x1) ∧ WR 283 21 [some (vR x0), some (vI x1), some (vI x2), some (vI x3), some (vI x4), some (vI (240 * x1)), some (vI ((240 * x1) + (M (M x0 79) x1)))] [] M Q) : WC 283 [vR x0, vI x1, vI x2, vI x3, vI x4] M Q := by
  show WR 283 0 [some (vR x0), some (vI x1), some (vI x2), some (vI x3), some (vI x4), none, none] [] M Q
  refine g_1 (a := 240) (b := 0) (nx := 3) (by decide +kernel) ?_
  refine g_5 (a := 1) (b := 0) (nx := 4) (by decide +kernel) rfl ?_
  refine g_17 (a := 0) (b := 0) (nx := 5) (by decide +kernel) ?_
  refine g_8 (a := 5) (b := 0) (nx := 7) (by decide +kernel) rfl (ls' := [some (vR x0), some (vI x1), some (vI x2), some (vI x3), some (vI x4), some (vI (240 * x1)), none]) rfl ?_
  refine g_1 (a := 240) (b := 0) (nx := 10) (by decide +kernel) ?_
  refine g_5 (a := 1) (b := 0) (nx := 11) (by decide +kernel) rfl ?_
  refine g_17 (a := 0) (b := 0) (nx := 12) (by decide +kernel) ?_
  refine g_7 (a := 0) (b := 0) (nx := 13) (by decide +kernel) rfl ?_
  refine g_52 (a := 12) (b := 79) (nx := 16) (by decide +kernel) h0 ?_
  refine g_5 (a := 1) (b := 0) (nx := 17) (by decide +kernel) rfl ?_
  refine g_61 (a := 0) (b := 0) (nx := 18) (by decide +kernel) h.1 ?_
  replace h := h.2
  refine g_15 (a := 0) (b := 0) (nx := 19) (by decide +kernel) ?_
  refine g_8 (a := 6) (b := 0) (nx := 21) (by decide +kernel) rfl (ls' := [some (vR x0), some (vI x1), some (vI x2), some (vI x3), some (vI x4), some (vI (240 * x1)), some (vI ((240 * x1) + (M (M x0 79) x1)))]) rfl ?_
  exact h
theorem t_283_21 {x0 x1 x2 x3 x4 x5 x6 : Int} {M : Mem} {Q : AV → Mem → Prop} (h0 : gO 12 x0) (h : inR x5 ∧ (inR x6 ∧ (if x6 ≤ x5 then (if x5 = x6 then ((gA 20 (M x0 80) x5) ∧ (gA 20 ((upM M (M x0 80) x5 x2) x0 81) x5) ∧ (gA 20 ((upM (upM M (M x0 80) x5 x2) ((upM M (M x0 80) x5 x2) x0 81) x5 x3) x0 82) x5) ∧ (gA 20 ((upM (upM (upM M (M x0 80) x5 x2) ((upM M (M x0 80) x5 x2) x0 81) x5 x3) ((upM (upM M (M x0 80) x5 x2) ((upM M (M x0 80) x5 x2) x0 81) x5 x3) x0 82) x5 x4) x0 83) x5) ∧ (gA 20 ((upM (upM (upM (upM M (M x0 80) x5 x2) ((upM M (M x0 80) x5 x2) x0 81) x5 x3) ((upM (upM M (M x0 80) x5 x2) ((upM M (M x0 80) x5 x2) x0 81) x5 x3) x0 82) x5 x4) ((upM (upM (upM M (M x0 80) x5 x2) ((upM M (M x0 80) x5 x2) x0 81) x5 x3) ((upM (upM M (M x0 80) x5 x2) ((upM M (M x0 80) x5 x2) x0 81) x5 x3) x0 82) x5 x4) x0 83) x5 0) x0 79) x1) ∧ (gA 20 ((upM (upM (upM (upM M (M x0 80) x5 x2) ((upM M (M x0 80) x5 x2) x0 81) x5 x3) ((upM (upM M (M x0 80) x5 x2) ((upM M (M x0 80) x5 x2) x0 81) x5 x3) x0 82) x5 x4) ((upM (upM (upM M (M x0 80) x5 x2) ((upM M (M x0 80) x5 x2) x0 81) x5 x3) ((upM (upM M (M x0 80) x5 x2) ((upM M (M x0 80) x5 x2) x0 81) x5 x3) x0 82) x5 x4) x0 83) x5 0) x0 79) x1) ∧ (gA 20 ((upM (upM (upM (upM (upM M (M x0 80) x5 x2) ((upM M (M x0 80) x5 x2) x0 81) x5 x3) ((upM (upM M (M x0 80) x5 x2) ((upM M (M x0 80) x5 x2) x0 81) x5 x3) x0 82) x5 x4) ((upM (upM (upM M (M x0 80) x5 x2) ((upM M (M x0 80) x5 x2) x0 81) x5 x3) ((upM (upM M (M x0 80) x5 x2) ((upM M (M x0 80) x5 x2) x0 81) x5 x3) x0 82) x5 x4) x0 83) x5 0) ((upM (upM (upM (upM M (M x0 80) x5 x2) ((upM M (M x0 80) x5 x2) x0 81) x5 x3) ((upM (upM M (M x0 80) x5 x2) ((upM M (M x0 80) x5 x2) x0 81) x5 x3) x0 82) x5 x4) ((upM (upM (upM M (M x0 80) x5 x2) ((upM M (M x0 80) x5 x2) x0 81) x5 x3) ((upM (upM M (M x0 80) x5 x2) ((upM M (M x0 80) x5 x2) x0 81) x5 x3) x0 82) x5 x4) x0 83) x5 0) x0 79) x1 (((upM (upM (upM (upM M (M x0 80) x5 x2) ((upM M (M x0 80) x5 x2) x0 81) x5 x3) ((upM (upM M (M x0 80) x5 x2) ((upM M (M x0 80) x5 x2) x0 81) x5 x3) x0 82) x5 x4) ((upM (upM (upM M (M x0 80) x5 x2) ((upM M (M x0 80) x5 x2) x0 81) x5 x3) ((upM (upM M (M x0 80) x5 x2) ((upM M (M x0 80) x5 x2) x0 81) x5 x3) x0 82) x5 x4) x0 83) x5 0) ((upM (upM (upM (upM M (M x0 80) x5 x2) ((upM M (M x0 80) x5 x2) x0 81) x5 x3) ((upM (upM M (M x0 80) x5 x2) ((upM M (M x0 80) x5 x2) x0 81) x5 x3) x0 82) x5 x4) ((upM (upM (upM M (M x0 80) x5 x2) ((upM M (M x0 80) x5 x2) x0 81) x5 x3) ((upM (upM M (M x0 80) x5 x2) ((upM M (M x0 80) x5 x2) x0 81) x5 x3) x0 82) x5 x4) x0 83) x5 0) x0 79) x1) + 1)) x0 83) x5) ∧ (gA 20 ((upM (upM (upM (upM (upM M (M x0 80) x5 x2) ((upM M (M x0 80) x5 x2) x0 81) x5 x3) ((upM (upM M (M x0 80) x5 x2) ((upM M (M x0 80) x5 x2) x0 81) x5 x3) x0 82) x5 x4) ((upM (upM (upM M (M x0 80) x5 x2) ((upM M (M x0 80) x5 x2) x0 81) x5 x3) ((upM (upM M (M x0 80) x5 x2) ((upM M (M x0 80) x5 x2) x0 81) x5 x3) x0 82) x5 x4) x0 83) x5 0) ((upM (upM (upM (upM M (M x0 80) x5 x2) ((upM M (M x0 80) x5 x2) x0 81) x5 x3) ((upM (upM M (M x0 80) x5 x2) ((upM M (M x0 80) x5 x2) x0 81) x5 x3) x0 82) x5 x4) ((upM (upM (upM M (M x0 80) x5 x2) ((upM M (M x0 80) x5 x2) x0 81) x5 x3) ((upM (upM M (M x0 80) x5 x2) ((upM M (M x0 80) x5 x2) x0 81) x5 x3) x0 82) x5 x4) x0 83) x5 0) x0 79) x1 (((upM (upM (upM (upM M (M x0 80) x5 x2) ((upM M (M x0 80) x5 x2) x0 81) x5 x3) ((upM (upM M (M x0 80) x5 x2) ((upM M (M x0 80) x5 x2) x0 81) x5 x3) x0 82) x5 x4) ((upM (upM (upM M (M x0 80) x5 x2) ((upM M (M x0 80) x5 x2) x0 81) x5 x3) ((upM (upM M (M x0 80) x5 x2) ((upM M (M x0 80) x5 x2) x0 81) x5 x3) x0 82) x5 x4) x0 83) x5 0) ((upM (upM (upM (upM M (M x0 80) x5 x2) ((upM M (M x0 80) x5 x2) x0 81) x5 x3) ((upM (upM M (M x0 80) x5 x2) ((upM M (M x0 80) x5 x2) x0 81) x5 x3) x0 82) x5 x4) ((upM (upM (upM M (M x0 80) x5 x2) ((upM M (M x0 80) x5 x2) x0 81) x5 x3) ((upM (upM M (M x0 80) x5 x2) ((upM M (M x0 80) x5 x2) x0 81) x5 x3) x0 82) x5 x4) x0 83) x5 0) x0 79) x1) + 1)) x0 83) x5) ∧ Q (vI 0) (upM (upM (upM (upM (upM (upM M (M x0 80) x5 x2) ((upM M (M x0 80) x5 x2) x0 81) x5 x3) ((upM (upM M (M x0 80) x5 x2) ((upM M (M x0 80) x5 x2) x0 81) x5 x3) x0 82) x5 x4) ((upM (upM (upM M (M x0 80) x5 x2) ((upM M (M x0 80) x5 x2) x0 81) x5 x3) ((upM (upM M (M x0 80) x5 x2) ((upM M (M x0 80) x5 x2) x0 81) x5 x3) x0 82) x5 x4) x0 83) x5 0) ((upM (upM (upM (upM M (M x0 80) x5 x2) ((upM M (M x0 80) x5 x2) x0 81) x5 x3) ((upM (upM M (M x0 80) x5 x2) ((upM M (M x0 80) x5 x2) x0 81) x5 x3) x0 82) x5 x4) ((upM (upM (upM M (M x0 80) x5 x2) ((upM M (M x0 80) x5 x2) x0 81) x5 x3) ((upM (upM M (M x0 80) x5 x2) ((upM M (M x0 80) x5 x2) x0 81) x5 x3) x0 82) x5 x4) x0 83) x5 0) x0 79) x1 (((upM (upM (upM (upM M (M x0 80) x5 x2) ((upM M (M x0 80) x5 x2) x0 81) x5 x3) ((upM (upM M (M x0 80) x5 x2) ((upM M (M x0 80) x5 x2) x0 81) x5 x3) x0 82) x5 x4) ((upM (upM (upM M (M x0 80) x5 x2) ((upM M (M x0 80) x5 x2) x0 81) x5 x3) ((upM (upM M (M x0 80) x5 x2) ((upM M (M x0 80) x5 x2) x0 81) x5 x3) x0 82) x5 x4) x0 83) x5 0) ((upM (upM (upM (upM M (M x0 80) x5 x2) ((upM M (M x0 80) x5 x2) x0 81) x5 x3) ((upM (upM M (M x0 80) x5 x2) ((upM M (M x0 80) x5 x2) x0 81) x5 x3) x0 82) x5 x4) ((upM (upM (upM M (M x0 80) x5 x2) ((upM M (M x0 80) x5 x2) x0 81) x5 x3) ((upM (upM M (M x0 80) x5 x2) ((upM M (M x0 80) x5 x2) x0 81) x5 x3) x0 82) x5 x4) x0 83) x5 0) x0 79) x1) + 1)) ((upM (upM (upM (upM (upM M (M x0 80) x5 x2) ((upM M (M x0 80) x5 x2) x0 81) x5 x3) ((upM (upM M (M x0 80) x5 x2) ((upM M (M x0 80) x5 x2) x0 81) x5 x3) x0 82) x5 x4) ((upM (upM (upM M (M x0 80) x5 x2) ((upM M (M x0 80) x5 x2) x0 81) x5 x3) ((upM (upM M (M x0 80) x5 x2) ((upM M (M x0 80) x5 x2) x0 81) x5 x3) x0 82) x5 x4) x0 83) x5 0) ((upM (upM (upM (upM M (M x0 80) x5 x2) ((upM M (M x0 80) x5 x2) x0 81) x5 x3) ((upM (upM M (M x0 80) x5 x2) ((upM M (M x0 80) x5 x2) x0 81) x5 x3) x0 82) x5 x4) ((upM (upM (upM M (M x0 80) x5 x2) ((upM M (M x0 80) x5 x2) x0 81) x5 x3) ((upM (upM M (M x0 80) x5 x2) ((upM M (M x0 80) x5 x2) x0 81) x5 x3) x0 82) x5 x4) x0 83) x5 0) x0 79) x1 (((upM (upM (upM (upM M (M x0 80) x5 x2) ((upM M (M x0 80) x5 x2) x0 81) x5 x3) ((upM (upM M (M x0 80) x5 x2) ((upM M (M x0 80) x5 x2) x0 81) x5 x3) x0 82) x5 x4) ((upM (upM (upM M (M x0 80) x5 x2) ((upM M (M x0 80) x5 x2) x0 81) x5 x3) ((upM (upM M (M x0 80) x5 x2) ((upM M (M x0 80) x5 x2) x0 81) x5 x3) x0 82) x5 x4) x0 83) x5 0) ((upM (upM (upM (upM M (M x0 80) x5 x2) ((upM M (M x0 80) x5 x2) x0 81) x5 x3) ((upM (upM M (M x0 80) x5 x2) ((upM M (M x0 80) x5 x2) x0 81) x5 x3) x0 82) x5 x4) ((upM (upM (upM M (M x0 80) x5 x2) ((upM M (M x0 80) x5 x2) x0 81) x5 x3) ((upM (upM M (M x0 80) x5 x2) ((upM M (M x0 80) x5 x2) x0 81) x5 x3) x0 82) x5 x4) x0 83) x5 0) x0 79) x1) + 1)) x0 83) x5 (((upM (upM (upM (upM (upM M (M x0 80) x5 x2) ((upM M (M x0 80) x5 x2) x0 81) x5 x3) ((upM (upM M (M x0 80) x5 x2) ((upM M (M x0 80) x5 x2) x0 81) x5 x3) x0 82) x5 x4) ((upM (upM (upM M (M x0 80) x5 x2) ((upM M (M x0 80) x5 x2) x0 81) x5 x3) ((upM (upM M (M x0 80) x5 x2) ((upM M (M x0 80) x5 x2) x0 81) x5 x3) x0 82) x5 x4) x0 83) x5 0) ((upM (upM (upM (upM M (M x0 80) x5 x2) ((upM M (M x0 80) x5 x2) x0 81) x5 x3) ((upM (upM M (M x0 80) x5 x2) ((upM M (M x0 80) x5 x2) x0 81) x5 x3) x0 82) x5 x4) ((upM (upM (upM M (M x0 80) x5 x2) ((upM M (M x0 80) x5 x2) x0 81) x5 x3) ((upM (upM M (M x0 80) x5 x2) ((upM M (M x0 80) x5 x2) x0 81) x5 x3) x0 82) x5 x4) x0 83) x5 0) x0 79) x1 (((upM (upM (upM (upM M (M x0 80) x5 x2) ((upM M (M x0 80) x5 x2) x0 81) x5 x3) ((upM (upM M (M x0 80) x5 x2) ((upM M (M x0 80) x5 x2) x0 81) x5 x3) x0 82) x5 x4) ((upM (upM (upM M (M x0 80) x5 x2) ((upM M (M x0 80) x5 x2) x0 81) x5 x3) ((upM (upM M (M x0 80) x5 x2) ((upM M (M x0 80) x5 x2) x0 81) x5 x3) x0 82) x5 x4) x0 83) x5 0) ((upM (upM (upM (upM M (M x0 80) x5 x2) ((upM M (M x0 80) x5 x2) x0 81) x5 x3) ((upM (upM M (M x0 80) x5 x2) ((upM M (M x0 80) x5 x2) x0 81) x5 x3) x0 82) x5 x4) ((upM (upM (upM M (M x0 80) x5 x2) ((upM M (M x0 80) x5 x2) x0 81) x5 x3) ((upM (upM M (M x0 80) x5 x2) ((upM M (M x0 80) x5 x2) x0 81) x5 x3) x0 82) x5 x4) x0 83) x5 0) x0 79) x1) + 1)) ((upM (upM (upM (upM (upM M (M x0 80) x5 x2) ((upM M (M x0 80) x5 x2) x0 81) x5 x3) ((upM (upM M (M x0 80) x5 x2) ((upM M (M x0 80) x5 x2) x0 81) x5 x3) x0 82) x5 x4) ((upM (upM (upM M (M x0 80) x5 x2) ((upM M (M x0 80) x5 x2) x0 81) x5 x3) ((upM (upM M (M x0 80) x5 x2) ((upM M (M x0 80) x5 x2) x0 81) x5 x3) x0 82) x5 x4) x0 83) x5 0) ((upM (upM (upM (upM M (M x0 80) x5 x2) ((upM M (M x0 80) x5 x2) x0 81) x5 x3) ((upM (upM M (M x0 80) x5 x2) ((upM M (M x0 80) x5 x2) x0 81) x5 x3) x0 82) x5 x4) ((upM (upM (upM M (M x0 80) x5 x2) ((upM M (M x0 80) x5 x2) x0 81) x5 x3) ((upM (upM M (M x0 80) x5 x2) ((upM M (M x0 80) x5 x2) x0 81) x5 x3) x0 82) x5 x4) x0 83) x5 0) x0 79) x1 (((upM (upM (upM (upM M (M x0 80) x5 x2) ((upM M (M x0 80) x5 x2) x0 81) x5 x3) ((upM (upM M (M x0 80) x5 x2) ((upM M (M x0 80) x5 x2) x0 81) x5 x3) x0 82) x5 x4) ((upM (upM (upM M (M x0 80) x5 x2) ((upM M (M x0 80) x5 x2) x0 81) x5 x3) ((upM (upM M (M x0 80) x5 x2) ((upM M (M x0 80) x5 x2) x0 81) x5 x3) x0 82) x5 x4) x0 83) x5 0) ((upM (upM (upM (upM M (M x0 80) x5 x2) ((upM M (M x0 80) x5 x2) x0 81) x5 x3) ((upM (upM M (M x0 80) x5 x2) ((upM M (M x0 80) x5 x2) x0 81) x5 x3) x0 82) x5 x4) ((upM (upM (upM M (M x0 80) x5 x2) ((upM M (M x0 80) x5 x2) x0 81) x5 x3) ((upM (upM M (M x0 80) x5 x2) ((upM M (M x0 80) x5 x2) x0 81) x5 x3) x0 82) x5 x4) x0 83) x5 0) x0 79) x1) + 1)) x0 83) x5) + 1))) else ((gA 20 (M x0 83) x5) ∧ (gA 20 (M x0 83) x5) ∧ Q (vI 0) (upM M (M x0 83) x5 ((M (M x0 83) x5) + 1)))) else (WI 284 [vR x0, vI x5, vI x2, vI x3, vI x4] M (fun y5 M4 => inR y5 ∧ (if y5 = 0 then (WR 283 21 [some (vR x0), some (vI x1), some (vI x2), some (vI x3), some (vI x4), some (vI (x5 + 1)), some (vI x6)] [] M4 Q) else (if x5 = x6 then ((gA 20 (M4 x0 80) x5) ∧ (gA 20 ((upM M4 (M4 x0 80) x5 x2) x0 81) x5) ∧ (gA 20 ((upM (upM M4 (M4 x0 80) x5 x2) ((upM M4 (M4 x0 80) x5 x2) x0 81) x5 x3) x0 82) x5) ∧ (gA 20 ((upM (upM (upM M4 (M4 x0 80) x5 x2) ((upM M4 (M4 x0 80) x5 x2) x0 81) x5 x3) ((upM (upM M4 (M4 x0 80) x5 x2) ((upM M4 (M4 x0 80) x5 x2) x0 81) x5 x3) x0 82) x5 x4) x0 83) x5) ∧ (gA 20 ((upM (upM (upM (upM M4 (M4 x0 80) x5 x2) ((upM M4 (M4 x0 80) x5 x2) x0 81) x5 x3) ((upM (upM M4 (M4 x0 80) x5 x2) ((upM M4 (M4 x0 80) x5 x2) x0 81) x5 x3) x0 82) x5 x4) ((upM (upM (upM M4 (M4 x0 80) x5 x2) ((upM M4 (M4 x0 80) x5 x2) x0 81) x5 x3) ((upM (upM M4 (M4 x0 80) x5 x2) ((upM M4 (M4 x0 80) x5 x2) x0 81) x5 x3) x0 82) x5 x4) x0 83) x5 0) x0 79) x1) ∧ (gA 20 ((upM (upM (upM (upM M4 (M4 x0 80) x5 x2) ((upM M4 (M4 x0 80) x5 x2) x0 81) x5 x3) ((upM (upM M4 (M4 x0 80) x5 x2) ((upM M4 (M4 x0 80) x5 x2) x0 81) x5 x3) x0 82) x5 x4) ((upM (upM (upM M4 (M4 x0 80) x5 x2) ((upM M4 (M4 x0 80) x5 x2) x0 81) x5 x3) ((upM (upM M4 (M4 x0 80) x5 x2) ((upM M4 (M4 x0 80) x5 x2) x0 81) x5 x3) x0 82) x5 x4) x0 83) x5 0) x0 79) x1) ∧ (gA 20 ((upM (upM (upM (upM (upM M4 (M4 x0 80) x5 x2) ((upM M4 (M4 x0 80) x5 x2) x0 81) x5 x3) ((upM (upM M4 (M4 x0 80) x5 x2) ((upM M4 (M4 x0 80) x5 x2) x0 81) x5 x3) x0 82) x5 x4) ((upM (upM (upM M4 (M4 x0 80) x5 x2) ((upM M4 (M4 x0 80) x5 x2) x0 81) x5 x3) ((upM (upM M4 (M4 x0 80) x5 x2) ((upM M4 (M4 x0 80) x5 x2) x0 81) x5 x3) x0 82) x5 x4) x0 83) x5 0) ((upM (upM (upM (upM M4 (M4 x0 80) x5 x2) ((upM M4 (M4 x0 80) x5 x2) x0 81) x5 x3) ((upM (upM M4 (M4 x0 80) x5 x2) ((upM M4 (M4 x0 80) x5 x2) x0 81) x5 x3) x0 82) x5 x4) ((upM (upM (upM M4 (M4 x0 80) x5 x2) ((upM M4 (M4 x0 80) x5 x2) x0 81) x5 x3) ((upM (upM M4 (M4 x0 80) x5 x2) ((upM M4 (M4 x0 80) x5 x2) x0 81) x5 x3) x0 82) x5 x4) x0 83) x5 0) x0 79) x1 (((upM (upM (upM (upM M4 (M4 x0 80) x5 x2) ((upM M4 (M4 x0 80) x5 x2) x0 81) x5 x3) ((upM (upM M4 (M4 x0 80) x5 x2) ((upM M4 (M4 x0 80) x5 x2) x0 81) x5 x3) x0 82) x5 x4) ((upM (upM (upM M4 (M4 x0 80) x5 x2) ((upM M4 (M4 x0 80) x5 x2) x0 81) x5 x3) ((upM (upM M4 (M4 x0 80) x5 x2) ((upM M4 (M4 x0 80) x5 x2) x0 81) x5 x3) x0 82) x5 x4) x0 83) x5 0) ((upM (upM (upM (upM M4 (M4 x0 80) x5 x2) ((upM M4 (M4 x0 80) x5 x2) x0 81) x5 x3) ((upM (upM M4 (M4 x0 80) x5 x2) ((upM M4 (M4 x0 80) x5 x2) x0 81) x5 x3) x0 82) x5 x4) ((upM (upM (upM M4 (M4 x0 80) x5 x2) ((upM M4 (M4 x0 80) x5 x2) x0 81) x5 x3) ((upM (upM M4 (M4 x0 80) x5 x2) ((upM M4 (M4 x0 80) x5 x2) x0 81) x5 x3) x0 82) x5 x4) x0 83) x5 0) x0 79) x1) + 1)) x0 83) x5) ∧ (gA 20 ((upM (upM (upM (upM (upM M4 (M4 x0 80) x5 x2) ((upM M4 (M4 x0 80) x5 x2) x0 81) x5 x3) ((upM (upM M4 (M4 x0 80) x5 x2) ((upM M4 (M4 x0 80) x5 x2) x0 81) x5 x3) x0 82) x5 x4) ((upM (upM (upM M4 (M4 x0 80) x5 x2) ((upM M4 (M4 x0 80) x5 x2) x0 81) x5 x3) ((upM (upM M4 (M4 x0 80) x5 x2) ((upM M4 (M4 x0 80) x5 x2) x0 81) x5 x3) x0 82) x5 x4) x0 83) x5 0) ((upM (upM (upM (upM M4 (M4 x0 80) x5 x2) ((upM M4 (M4 x0 80) x5 x2) x0 81) x5 x3) ((upM (upM M4 (M4 x0 80) x5 x2) ((upM M4 (M4 x0 80) x5 x2) x0 81) x5 x3) x0 82) x5 x4) ((upM (upM (upM M4 (M4 x0 80) x5 x2) ((upM M4 (M4 x0 80) x5 x2) x0 81) x5 x3) ((upM (upM M4 (M4 x0 80) x5 x2) ((upM M4 (M4 x0 80) x5 x2) x0 81) x5 x3) x0 82) x5 x4) x0 83) x5 0) x0 79) x1 (((upM (upM (upM (upM M4 (M4 x0 80) x5 x2) ((upM M4 (M4 x0 80) x5 x2) x0 81) x5 x3) ((upM (upM M4 (M4 x0 80) x5 x2) ((upM M4 (M4 x0 80) x5 x2) x0 81) x5 x3) x0 82) x5 x4) ((upM (upM (upM M4 (M4 x0 80) x5 x2) ((upM M4 (M4 x0 80) x5 x2) x0 81) x5 x3) ((upM (upM M4 (M4 x0 80) x5 x2) ((upM M4 (M4 x0 80) x5 x2) x0 81) x5 x3) x0 82) x5 x4) x0 83) x5 0) ((upM (upM (upM (upM M4 (M4 x0 80) x5 x2) ((upM M4 (M4 x0 80) x5 x2) x0 81) x5 x3) ((upM (upM M4 (M4 x0 80) x5 x2) ((upM M4 (M4 x0 80) x5 x2) x0 81) x5 x3) x0 82) x5 x4) ((upM (upM (upM M4 (M4 x0 80) x5 x2) ((upM M4 (M4 x0 80) x5 x2) x0 81) x5 x3) ((upM (upM M4 (M4 x0 80) x5 x2) ((upM M4 (M4 x0 80) x5 x2) x0 81) x5 x3) x0 82) x5 x4) x0 83) x5 0) x0 79) x1) + 1)) x0 83) x5) ∧ Q (vI 0) (upM (upM (upM (upM (upM (upM M4 (M4 x0 80) x5 x2) ((upM M4 (M4 x0 80) x5 x2) x0 81) x5 x3) ((upM (upM M4 (M4 x0 80) x5 x2) ((upM M4 (M4 x0 80) x5 x2) x0 81) x5 x3) x0 82) x5 x4) ((upM (upM (upM M4 (M4 x0 80) x5 x2) ((upM M4 (M4 x0 80) x5 x2) x0 81) x5 x3) ((upM (upM M4 (M4 x0 80) x5 x2) ((upM M4 (M4 x0 80) x5 x2) x0 81) x5 x3) x0 82) x5 x4) x0 83) x5 0) ((upM (upM (upM (upM M4 (M4 x0 80) x5 x2) ((upM M4 (M4 x0 80) x5 x2) x0 81) x5 x3) ((upM (upM M4 (M4 x0 80) x5 x2) ((upM M4 (M4 x0 80) x5 x2) x0 81) x5 x3) x0 82) x5 x4) ((upM (upM (upM M4 (M4 x0 80) x5 x2) ((upM M4 (M4 x0 80) x5 x2) x0 81) x5 x3) ((upM (upM M4 (M4 x0 80) x5 x2) ((upM M4 (M4 x0 80) x5 x2) x0 81) x5 x3) x0 82) x5 x4) x0 83) x5 0) x0 79) x1 (((upM (upM (upM (upM M4 (M4 x0 80) x5 x2) ((upM M4 (M4 x0 80) x5 x2) x0 81) x5 x3) ((upM (upM M4 (M4 x0 80) x5 x2) ((upM M4 (M4 x0 80) x5 x2) x0 81) x5 x3) x0 82) x5 x4) ((upM (upM (upM M4 (M4 x0 80) x5 x2) ((upM M4 (M4 x0 80) x5 x2) x0 81) x5 x3) ((upM (upM M4 (M4 x0 80) x5 x2) ((upM M4 (M4 x0 80) x5 x2) x0 81) x5 x3) x0 82) x5 x4) x0 83) x5 0) ((upM (upM (upM (upM M4 (M4 x0 80) x5 x2) ((upM M4 (M4 x0 80) x5 x2) x0 81) x5 x3) ((upM (upM M4 (M4 x0 80) x5 x2) ((upM M4 (M4 x0 80) x5 x2) x0 81) x5 x3) x0 82) x5 x4) ((upM (upM (upM M4 (M4 x0 80) x5 x2) ((upM M4 (M4 x0 80) x5 x2) x0 81) x5 x3) ((upM (upM M4 (M4 x0 80) x5 x2) ((upM M4 (M4 x0 80) x5 x2) x0 81) x5 x3) x0 82) x5 x4) x0 83) x5 0) x0 79) x1) + 1)) ((upM (upM (upM (upM (upM M4 (M4 x0 80) x5 x2) ((upM M4 (M4 x0 80) x5 x2) x0 81) x5 x3) ((upM (upM M4 (M4 x0 80) x5 x2) ((upM M4 (M4 x0 80) x5 x2) x0 81) x5 x3) x0 82) x5 x4) ((upM (upM (upM M4 (M4 x0 80) x5 x2) ((upM M4 (M4 x0 80) x5 x2) x0 81) x5 x3) ((upM (upM M4 (M4 x0 80) x5 x2) ((upM M4 (M4 x0 80) x5 x2) x0 81) x5 x3) x0 82) x5 x4) x0 83) x5 0) ((upM (upM (upM (upM M4 (M4 x0 80) x5 x2) ((upM M4 (M4 x0 80) x5 x2) x0 81) x5 x3) ((upM (upM M4 (M4 x0 80) x5 x2) ((upM M4 (M4 x0 80) x5 x2) x0 81) x5 x3) x0 82) x5 x4) ((upM (upM (upM M4 (M4 x0 80) x5 x2) ((upM M4 (M4 x0 80) x5 x2) x0 81) x5 x3) ((upM (upM M4 (M4 x0 80) x5 x2) ((upM M4 (M4 x0 80) x5 x2) x0 81) x5 x3) x0 82) x5 x4) x0 83) x5 0) x0 79) x1 (((upM (upM (upM (upM M4 (M4 x0 80) x5 x2) ((upM M4 (M4 x0 80) x5 x2) x0 81) x5 x3) ((upM (upM M4 (M4 x0 80) x5 x2) ((upM M4 (M4 x0 80) x5 x2) x0 81) x5 x3) x0 82) x5 x4) ((upM (upM (upM M4 (M4 x0 80) x5 x2) ((upM M4 (M4 x0 80) x5 x2) x0 81) x5 x3) ((upM (upM M4 (M4 x0 80) x5 x2) ((upM M4 (M4 x0 80) x5 x2) x0 81) x5 x3) x0 82) x5 x4) x0 83) x5 0) ((upM (upM (upM (upM M4 (M4 x0 80) x5 x2) ((upM M4 (M4 x0 80) x5 x2) x0 81) x5 x3) ((upM (upM M4 (M4 x0 80) x5 x2) ((upM M4 (M4 x0 80) x5 x2) x0 81) x5 x3) x0 82) x5 x4) ((upM (upM (upM M4 (M4 x0 80) x5 x2) ((upM M4 (M4 x0 80) x5 x2) x0 81) x5 x3) ((upM (upM M4 (M4 x0 80) x5 x2) ((upM M4 (M4 x0 80) x5 x2) x0 81) x5 x3) x0 82) x5 x4) x0 83) x5 0) x0 79) x1) + 1)) x0 83) x5 (((upM (upM (upM (upM (upM M4 (M4 x0 80) x5 x2) ((upM M4 (M4 x0 80) x5 x2) x0 81) x5 x3) ((upM (upM M4 (M4 x0 80) x5 x2) ((upM M4 (M4 x0 80) x5 x2) x0 81) x5 x3) x0 82) x5 x4) ((upM (upM (upM M4 (M4 x0 80) x5 x2) ((upM M4 (M4 x0 80) x5 x2) x0 81) x5 x3) ((upM (upM M4 (M4 x0 80) x5 x2) ((upM M4 (M4 x0 80) x5 x2) x0 81) x5 x3) x0 82) x5 x4) x0 83) x5 0) ((upM (upM (upM (upM M4 (M4 x0 80) x5 x2) ((upM M4 (M4 x0 80) x5 x2) x0 81) x5 x3) ((upM (upM M4 (M4 x0 80) x5 x2) ((upM M4 (M4 x0 80) x5 x2) x0 81) x5 x3) x0 82) x5 x4) ((upM (upM (upM M4 (M4 x0 80) x5 x2) ((upM M4 (M4 x0 80) x5 x2) x0 81) x5 x3) ((upM (upM M4 (M4 x0 80) x5 x2) ((upM M4 (M4 x0 80) x5 x2) x0 81) x5 x3) x0 82) x5 x4) x0 83) x5 0) x0 79) x1 (((upM (upM (upM (upM M4 (M4 x0 80) x5 x2) ((upM M4 (M4 x0 80) x5 x2) x0 81) x5 x3) ((upM (upM M4 (M4 x0 80) x5 x2) ((upM M4 (M4 x0 80) x5 x2) x0 81) x5 x3) x0 82) x5 x4) ((upM (upM (upM M4 (M4 x0 80) x5 x2) ((upM M4 (M4 x0 80) x5 x2) x0 81) x5 x3) ((upM (upM M4 (M4 x0 80) x5 x2) ((upM M4 (M4 x0 80) x5 x2) x0 81) x5 x3) x0 82) x5 x4) x0 83) x5 0) ((upM (upM (upM (upM M4 (M4 x0 80) x5 x2) ((upM M4 (M4 x0 80) x5 x2) x0 81) x5 x3) ((upM (upM M4 (M4 x0 80) x5 x2) ((upM M4 (M4 x0 80) x5 x2) x0 81) x5 x3) x0 82) x5 x4) ((upM (upM (upM M4 (M4 x0 80) x5 x2) ((upM M4 (M4 x0 80) x5 x2) x0 81) x5 x3) ((upM (upM M4 (M4 x0 80) x5 x2) ((upM M4 (M4 x0 80) x5 x2) x0 81) x5 x3) x0 82) x5 x4) x0 83) x5 0) x0 79) x1) + 1)) ((upM (upM (upM (upM (upM M4 (M4 x0 80) x5 x2) ((upM M4 (M4 x0 80) x5 x2) x0 81) x5 x3) ((upM (upM M4 (M4 x0 80) x5 x2) ((upM M4 (M4 x0 80) x5 x2) x0 81) x5 x3) x0 82) x5 x4) ((upM (upM (upM M4 (M4 x0 80) x5 x2) ((upM M4 (M4 x0 80) x5 x2) x0 81) x5 x3) ((upM (upM M4 (M4 x0 80) x5 x2) ((upM M4 (M4 x0 80) x5 x2) x0 81) x5 x3) x0 82) x5 x4) x0 83) x5 0) ((upM (upM (upM (upM M4 (M4 x0 80) x5 x2) ((upM M4 (M4 x0 80) x5 x2) x0 81) x5 x3) ((upM (upM M4 (M4 x0 80) x5 x2) ((upM M4 (M4 x0 80) x5 x2) x0 81) x5 x3) x0 82) x5 x4) ((upM (upM (upM M4 (M4 x0 80) x5 x2) ((upM M4 (M4 x0 80) x5 x2) x0 81) x5 x3) ((upM (upM M4 (M4 x0 80) x5 x2) ((upM M4 (M4 x0 80) x5 x2) x0 81) x5 x3) x0 82) x5 x4) x0 83) x5 0) x0 79) x1 (((upM (upM (upM (upM M4 (M4 x0 80) x5 x2) ((upM M4 (M4 x0 80) x5 x2) x0 81) x5 x3) ((upM (upM M4 (M4 x0 80) x5 x2) ((upM M4 (M4 x0 80) x5 x2) x0 81) x5 x3) x0 82) x5 x4) ((upM (upM (upM M4 (M4 x0 80) x5 x2) ((upM M4 (M4 x0 80) x5 x2) x0 81) x5 x3) ((upM (upM M4 (M4 x0 80) x5 x2) ((upM M4 (M4 x0 80) x5 x2) x0 81) x5 x3) x0 82) x5 x4) x0 83) x5 0) ((upM (upM (upM (upM M4 (M4 x0 80) x5 x2) ((upM M4 (M4 x0 80) x5 x2) x0 81) x5 x3) ((upM (upM M4 (M4 x0 80) x5 x2) ((upM M4 (M4 x0 80) x5 x2) x0 81) x5 x3) x0 82) x5 x4) ((upM (upM (upM M4 (M4 x0 80) x5 x2) ((upM M4 (M4 x0 80) x5 x2) x0 81) x5 x3) ((upM (upM M4 (M4 x0 80) x5 x2) ((upM M4 (M4 x0 80) x5 x2) x0 81) x5 x3) x0 82) x5 x4) x0 83) x5 0) x0 79) x1) + 1)) x0 83) x5) + 1))) else ((gA 20 (M4 x0 83) x5) ∧ (gA 20 (M4 x0 83) x5) ∧ Q (vI 0) (upM M4 (M4 x0 83) x5 ((M4 (M4 x0 83) x5) + 1)))))))))) : WR 283 21 [some (vR x0), some (vI x1), some (vI x2), some (vI x3), some (vI x4), some (vI x5), some (vI x6)] [] M Q := by
  refine g_5 (a := 5) (b := 0) (nx := 23) (by decide +kernel) rfl ?_
  refine g_5 (a := 6) (b := 0) (nx := 25) (by decide +kernel) rfl ?_
  obtain ⟨r1, h⟩ := h
  obtain ⟨r2, h⟩ := h
  by_cases c9 : x6 ≤ x5
  · rw [if_pos c9] at h
    refine g_41t (a := 3) (b := 47) (nx := 28) (by decide +kernel) (by rw [wr_id r1, wr_id r2]; exact (cb_3 _ _).mpr c9) ?_
    refine g_5 (a := 5) (b := 0) (nx := 49) (by decide +kernel) rfl ?_
    refine g_5 (a := 6) (b := 0) (nx := 51) (by decide +kernel) rfl ?_
    by_cases c3 : x5 = x6
    · rw [if_pos c3] at h
      refine g_41f (a := 1) (b := 97) (nx := 54) (by decide +kernel) (by rw [wr_id r1, wr_id r2]; exact fun hz => ((cb_1 _ _).mp hz) c3) ?_
      refine g_7 (a := 0) (b := 0) (nx := 55) (by decide +kernel) rfl ?_
      refine g_52 (a := 12) (b := 80) (nx := 58) (by decide +kernel) h0 ?_
      refine g_5 (a := 5) (b := 0) (nx := 60) (by decide +kernel) rfl ?_
      refine g_5 (a := 2) (b := 0) (nx := 61) (by decide +kernel) rfl ?_
      refine g_62 (a := 0) (b := 0) (nx := 62) (by decide +kernel) h.1 ?_
      replace h := h.2
      refine g_7 (a := 0) (b := 0) (nx := 63) (by decide +kernel) rfl ?_
      refine g_52 (a := 12) (b := 81) (nx := 66) (by decide +kernel) h0 ?_
      refine g_5 (a := 5) (b := 0) (nx := 68) (by decide +kernel) rfl ?_
      refine g_5 (a := 3) (b := 0) (nx := 69) (by decide +kernel) rfl ?_
      refine g_62 (a := 0) (b := 0) (nx := 70) (by decide +kernel) h.1 ?_
      replace h := h.2
      refine g_7 (a := 0) (b := 0) (nx := 71) (by decide +kernel) rfl ?_
      refine g_52 (a := 12) (b := 82) (nx := 74) (by decide +kernel) h0 ?_
      refine g_5 (a := 5) (b := 0) (nx := 76) (by decide +kernel) rfl ?_
      refine g_5 (a := 4) (b := 0) (nx := 78) (by decide +kernel) rfl ?_
      refine g_62 (a := 0) (b := 0) (nx := 79) (by decide +kernel) h.1 ?_
      replace h := h.2
      refine g_7 (a := 0) (b := 0) (nx := 80) (by decide +kernel) rfl ?_
      refine g_52 (a := 12) (b := 83) (nx := 83) (by decide +kernel) h0 ?_
      refine g_5 (a := 5) (b := 0) (nx := 85) (by decide +kernel) rfl ?_
      refine g_1 (a := 0) (b := 0) (nx := 86) (by decide +kernel) ?_
      refine g_62 (a := 0) (b := 0) (nx := 87) (by decide +kernel) h.1 ?_
      replace h := h.2
      refine g_7 (a := 0) (b := 0) (nx := 88) (by decide +kernel) rfl ?_
      refine g_52 (a := 12) (b := 79) (nx := 91) (by decide +kernel) h0 ?_
      refine g_5 (a := 1) (b := 0) (nx := 92) (by decide +kernel) rfl ?_
      refine g_14 (a := 0) (b := 0) (nx := 93) (by decide +kernel) rfl rfl ?_
      refine g_61 (a := 0) (b := 0) (nx := 94) (by decide +kernel) h.1 ?_
      replace h := h.2
      refine g_1 (a := 1) (b := 0) (nx := 95) (by decide +kernel) ?_
      refine g_15 (a := 0) (b := 0) (nx := 96) (by decide +kernel) ?_
      refine g_62 (a := 0) (b := 0) (nx := 97) (by decide +kernel) h.1 ?_
      replace h := h.2
      refine g_7 (a := 0) (b := 0) (nx := 98) (by decide +kernel) rfl ?_
      refine g_52 (a := 12) (b := 83) (nx := 101) (by decide +kernel) h0 ?_
      refine g_5 (a := 5) (b := 0) (nx := 103) (by decide +kernel) rfl ?_
      refine g_14 (a := 0) (b := 0) (nx := 104) (by decide +kernel) rfl rfl ?_
      refine g_61 (a := 0) (b := 0) (nx := 105) (by decide +kernel) h.1 ?_
      replace h := h.2
      refine g_1 (a := 1) (b := 0) (nx := 106) (by decide +kernel) ?_
      refine g_15 (a := 0) (b := 0) (nx := 107) (by decide +kernel) ?_
      refine g_62 (a := 0) (b := 0) (nx := 108) (by decide +kernel) h.1 ?_
      replace h := h.2
      exact g_90 (a := 0) (b := 0) (nx := 109) (by decide +kernel) h
    · rw [if_neg c3] at h
      refine g_41t (a := 1) (b := 97) (nx := 54) (by decide +kernel) (by rw [wr_id r1, wr_id r2]; exact (cb_1 _ _).mpr c3) ?_
      refine g_7 (a := 0) (b := 0) (nx := 98) (by decide +kernel) rfl ?_
      refine g_52 (a := 12) (b := 83) (nx := 101) (by decide +kernel) h0 ?_
      refine g_5 (a := 5) (b := 0) (nx := 103) (by decide +kernel) rfl ?_
      refine g_14 (a := 0) (b := 0) (nx := 104) (by decide +kernel) rfl rfl ?_
      refine g_61 (a := 0) (b := 0) (nx := 105) (by decide +kernel) h.1 ?_
      replace h := h.2
      refine g_1 (a := 1) (b := 0) (nx := 106) (by decide +kernel) ?_
      refine g_15 (a := 0) (b := 0) (nx := 107) (by decide +kernel) ?_
      refine g_62 (a := 0) (b := 0) (nx := 108) (by decide +kernel) h.1 ?_
      replace h := h.2
      exact g_90 (a := 0) (b := 0) (nx := 109) (by decide +kernel) h
  · rw [if_neg c9] at h
    refine g_41f (a := 3) (b := 47) (nx := 28) (by decide +kernel) (by rw [wr_id r1, wr_id r2]; exact fun hz => c9 ((cb_3 _ _).mp hz)) ?_
    refine g_7 (a := 0) (b := 0) (nx := 29) (by decide +kernel) rfl ?_
    refine g_5 (a := 5) (b := 0) (nx := 31) (by decide +kernel) rfl ?_
    refine g_5 (a := 2) (b := 0) (nx := 32) (by decide +kernel) rfl ?_
    refine g_5 (a := 3) (b := 0) (nx := 33) (by decide +kernel) rfl ?_
    refine g_5 (a := 4) (b := 0) (nx := 35) (by decide +kernel) rfl ?_
    refine g_80 (a := 284) (b := 4) (nx := 38) (by decide +kernel) (r := x0) (As := [vI x5, vI x2, vI x3, vI x4]) (st' := []) (z := 284) rfl rfl rfl (Nat.le_of_ble_eq_true rfl) h0.2 (Nat.le_of_ble_eq_true rfl) rfl (c_I (by decide +kernel) h (fun y5 M4 h => ?_))
    obtain ⟨r6, h⟩ := h
    by_cases c8 : y5 = 0
    · rw [if_pos c8] at h
      refine g_40f (a := 1) (b := 47) (nx := 41) (by decide +kernel) r6 (by exact fun hz => ((cb_1 _ _).mp hz) c8) ?_
      refine g_11 (a := 5) (b := 1) (nx := 44) (by decide +kernel) rfl rfl (ls' := [some (vR x0), some (vI x1), some (vI x2), some (vI x3), some (vI x4), some (vI (x5 + 1)), some (vI x6)]) rfl ?_
      refine g_44 (a := 0) (b := 21) (nx := 47) (by decide +kernel) ?_
      exact h
    · rw [if_neg c8] at h
      refine g_40t (a := 1) (b := 47) (nx := 41) (by decide +kernel) r6 (by exact (cb_1 _ _).mpr c8) ?_
      refine g_5 (a := 5) (b := 0) (nx := 49) (by decide +kernel) rfl ?_
      refine g_5 (a := 6) (b := 0) (nx := 51) (by decide +kernel) rfl ?_
      by_cases c7 : x5 = x6
      · rw [if_pos c7] at h
        refine g_41f (a := 1) (b := 97) (nx := 54) (by decide +kernel) (by rw [wr_id r1, wr_id r2]; exact fun hz => ((cb_1 _ _).mp hz) c7) ?_
        refine g_7 (a := 0) (b := 0) (nx := 55) (by decide +kernel) rfl ?_
        refine g_52 (a := 12) (b := 80) (nx := 58) (by decide +kernel) h0 ?_
        refine g_5 (a := 5) (b := 0) (nx := 60) (by decide +kernel) rfl ?_
        refine g_5 (a := 2) (b := 0) (nx := 61) (by decide +kernel) rfl ?_
        refine g_62 (a := 0) (b := 0) (nx := 62) (by decide +kernel) h.1 ?_
        replace h := h.2
        refine g_7 (a := 0) (b := 0) (nx := 63) (by decide +kernel) rfl ?_
        refine g_52 (a := 12) (b := 81) (nx := 66) (by decide +kernel) h0 ?_
        refine g_5 (a := 5) (b := 0) (nx := 68) (by decide +kernel) rfl ?_
        refine g_5 (a := 3) (b := 0) (nx := 69) (by decide +kernel) rfl ?_
        refine g_62 (a := 0) (b := 0) (nx := 70) (by decide +kernel) h.1 ?_
        replace h := h.2
        refine g_7 (a := 0) (b := 0) (nx := 71) (by decide +kernel) rfl ?_
        refine g_52 (a := 12) (b := 82) (nx := 74) (by decide +kernel) h0 ?_
        refine g_5 (a := 5) (b := 0) (nx := 76) (by decide +kernel) rfl ?_
        refine g_5 (a := 4) (b := 0) (nx := 78) (by decide +kernel) rfl ?_
        refine g_62 (a := 0) (b := 0) (nx := 79) (by decide +kernel) h.1 ?_
        replace h := h.2
        refine g_7 (a := 0) (b := 0) (nx := 80) (by decide +kernel) rfl ?_
        refine g_52 (a := 12) (b := 83) (nx := 83) (by decide +kernel) h0 ?_
        refine g_5 (a := 5) (b := 0) (nx := 85) (by decide +kernel) rfl ?_
        refine g_1 (a := 0) (b := 0) (nx := 86) (by decide +kernel) ?_
        refine g_62 (a := 0) (b := 0) (nx := 87) (by decide +kernel) h.1 ?_
        replace h := h.2
        refine g_7 (a := 0) (b := 0) (nx := 88) (by decide +kernel) rfl ?_
        refine g_52 (a := 12) (b := 79) (nx := 91) (by decide +kernel) h0 ?_
        refine g_5 (a := 1) (b := 0) (nx := 92) (by decide +kernel) rfl ?_
        refine g_14 (a := 0) (b := 0) (nx := 93) (by decide +kernel) rfl rfl ?_
        refine g_61 (a := 0) (b := 0) (nx := 94) (by decide +kernel) h.1 ?_
        replace h := h.2
        refine g_1 (a := 1) (b := 0) (nx := 95) (by decide +kernel) ?_
        refine g_15 (a := 0) (b := 0) (nx := 96) (by decide +kernel) ?_
        refine g_62 (a := 0) (b := 0) (nx := 97) (by decide +kernel) h.1 ?_
        replace h := h.2
        refine g_7 (a := 0) (b := 0) (nx := 98) (by decide +kernel) rfl ?_
        refine g_52 (a := 12) (b := 83) (nx := 101) (by decide +kernel) h0 ?_
        refine g_5 (a := 5) (b := 0) (nx := 103) (by decide +kernel) rfl ?_
        refine g_14 (a := 0) (b := 0) (nx := 104) (by decide +kernel) rfl rfl ?_
        refine g_61 (a := 0) (b := 0) (nx := 105) (by decide +kernel) h.1 ?_
        replace h := h.2
        refine g_1 (a := 1) (b := 0) (nx := 106) (by decide +kernel) ?_
        refine g_15 (a := 0) (b := 0) (nx := 107) (by decide +kernel) ?_
        refine g_62 (a := 0) (b := 0) (nx := 108) (by decide +kernel) h.1 ?_
        replace h := h.2
        exact g_90 (a := 0) (b := 0) (nx := 109) (by decide +kernel) h
      · rw [if_neg c7] at h
        refine g_41t (a := 1) (b := 97) (nx := 54) (by decide +kernel) (by rw [wr_id r1, wr_id r2]; exact (cb_1 _ _).mpr c7) ?_
        refine g_7 (a := 0) (b := 0) (nx := 98) (by decide +kernel) rfl ?_
        refine g_52 (a := 12) (b := 83) (nx := 101) (by decide +kernel) h0 ?_
        refine g_5 (a := 5) (b := 0) (nx := 103) (by decide +kernel) rfl ?_
        refine g_14 (a := 0) (b := 0) (nx := 104) (by decide +kernel) rfl rfl ?_
        refine g_61 (a := 0) (b := 0) (nx := 105) (by decide +kernel) h.1 ?_
        replace h := h.2
        refine g_1 (a := 1) (b := 0) (nx := 106) (by decide +kernel) ?_
        refine g_15 (a := 0) (b := 0) (nx := 107) (by decide +kernel) ?_
        refine g_62 (a := 0) (b := 0) (nx := 108) (by decide +kernel) h.1 ?_
        replace h := h.2
        exact g_90 (a := 0) (b := 0) (nx := 109) (by decide +kernel) h
-- 284 SyllableMakerModel.isRow(IIII)Z
theorem t_284 {x0 x1 x2 x3 x4 : Int} {M : Mem} {Q : AV → Mem → Prop} (h0 : gO 12 x0) (h : (gA 20 (M x0 82) x1) ∧ inR (M (M x0 82) x1) ∧ (inR x4 ∧ (if (M (M x0 82) x1) = x4 then (WR 284 16 [some (vR x0), some (vI x1), some (vI x2), some (vI x3), some (vI x4), some (vI 0)] [] M Q) else (Q (vI 0) M)))) : WC 284 [vR x0, vI x1, vI x2, vI x3, vI x4] M Q := by
  show WR 284 0 [some (vR x0), some (vI x1), some (vI x2), some (vI x3), some (vI x4), none] [] M Q
  refine g_7 (a := 0) (b := 0) (nx := 1) (by decide +kernel) rfl ?_
  refine g_52 (a := 12) (b := 82) (nx := 4) (by decide +kernel) h0 ?_
  refine g_5 (a := 1) (b := 0) (nx := 5) (by decide +kernel) rfl ?_
  refine g_61 (a := 0) (b := 0) (nx := 6) (by decide +kernel) h.1 ?_
  replace h := h.2
  refine g_5 (a := 4) (b := 0) (nx := 8) (by decide +kernel) rfl ?_
  obtain ⟨r1, h⟩ := h
  obtain ⟨r2, h⟩ := h
  by_cases c3 : (M (M x0 82) x1) = x4
  · rw [if_pos c3] at h
    refine g_41t (a := 0) (b := 13) (nx := 11) (by decide +kernel) (by rw [wr_id r1, wr_id r2]; exact (cb_0 _ _).mpr c3) ?_
    refine g_1 (a := 0) (b := 0) (nx := 14) (by decide +kernel) ?_
    refine g_8 (a := 5) (b := 0) (nx := 16) (by decide +kernel) rfl (ls' := [some (vR x0), some (vI x1), some (vI x2), some (vI x3), some (vI x4), some (vI 0)]) rfl ?_
    exact h
  · rw [if_neg c3] at h
    refine g_41f (a := 0) (b := 13) (nx := 11) (by decide +kernel) (by rw [wr_id r1, wr_id r2]; exact fun hz => c3 ((cb_0 _ _).mp hz)) ?_
    refine g_1 (a := 0) (b := 0) (nx := 12) (by decide +kernel) ?_
    exact g_91z (b := 0) (nx := 13) (by decide +kernel) (by decide) h
theorem t_284_16 {x0 x1 x2 x3 x4 x5 : Int} {M : Mem} {Q : AV → Mem → Prop} (h0 : gO 12 x0) (h : inR x5 ∧ (inR x4 ∧ (if x4 ≤ x5 then (Q (vI 1) M) else ((gA 20 (M x0 80) x1) ∧ (gA 20 (M x0 81) x1) ∧ WI 222 [vR x0, vI (M (M x0 80) x1), vI ((M (M x0 81) x1) + x5)] M (fun y4 M3 => WI 222 [vR x0, vI x2, vI (x3 + x5)] M3 (fun y6 M5 => inR y4 ∧ (inR y6 ∧ (if y4 = y6 then (WR 284 16 [some (vR x0), some (vI x1), some (vI x2), some (vI x3), some (vI x4), some (vI (x5 + 1))] [] M5 Q) else (Q (vI 0) M5))))))))) : WR 284 16 [some (vR x0), some (vI x1), some (vI x2), some (vI x3), some (vI x4), some (vI x5)] [] M Q := by
  refine g_5 (a := 5) (b := 0) (nx := 18) (by decide +kernel) rfl ?_
  refine g_5 (a := 4) (b := 0) (nx := 20) (by decide +kernel) rfl ?_
  obtain ⟨r1, h⟩ := h
  obtain ⟨r2, h⟩ := h
  by_cases c10 : x4 ≤ x5
  · rw [if_pos c10] at h
    refine g_41t (a := 3) (b := 62) (nx := 23) (by decide +kernel) (by rw [wr_id r1, wr_id r2]; exact (cb_3 _ _).mpr c10) ?_
    refine g_1 (a := 1) (b := 0) (nx := 63) (by decide +kernel) ?_
    exact g_91z (b := 0) (nx := 64) (by decide +kernel) (by decide) h
  · rw [if_neg c10] at h
    refine g_41f (a := 3) (b := 62) (nx := 23) (by decide +kernel) (by rw [wr_id r1, wr_id r2]; exact fun hz => c10 ((cb_3 _ _).mp hz)) ?_
    refine g_7 (a := 0) (b := 0) (nx := 24) (by decide +kernel) rfl ?_
    refine g_7 (a := 0) (b := 0) (nx := 25) (by decide +kernel) rfl ?_
    refine g_52 (a := 12) (b := 80) (nx := 28) (by decide +kernel) h0 ?_
    refine g_5 (a := 1) (b := 0) (nx := 29) (by decide +kernel) rfl ?_
    refine g_61 (a := 0) (b := 0) (nx := 30) (by decide +kernel) h.1 ?_
    replace h := h.2
    refine g_7 (a := 0) (b := 0) (nx := 31) (by decide +kernel) rfl ?_
    refine g_52 (a := 12) (b := 81) (nx := 34) (by decide +kernel) h0 ?_
    refine g_5 (a := 1) (b := 0) (nx := 35) (by decide +kernel) rfl ?_
    refine g_61 (a := 0) (b := 0) (nx := 36) (by decide +kernel) h.1 ?_
    replace h := h.2
    refine g_5 (a := 5) (b := 0) (nx := 38) (by decide +kernel) rfl ?_
    refine g_15 (a := 0) (b := 0) (nx := 39) (by decide +kernel) ?_
    refine g_80 (a := 222) (b := 2) (nx := 42) (by decide +kernel) (r := x0) (As := [vI (M (M x0 80) x1), vI ((M (M x0 81) x1) + x5)]) (st' := []) (z := 222) rfl rfl rfl (Nat.le_of_ble_eq_true rfl) h0.2 (Nat.le_of_ble_eq_true rfl) rfl (c_I (by decide +kernel) h (fun y4 M3 h => ?_))
    refine g_7 (a := 0) (b := 0) (nx := 43) (by decide +kernel) rfl ?_
    refine g_5 (a := 2) (b := 0) (nx := 44) (by decide +kernel) rfl ?_
    refine g_5 (a := 3) (b := 0) (nx := 45) (by decide +kernel) rfl ?_
    refine g_5 (a := 5) (b := 0) (nx := 47) (by decide +kernel) rfl ?_
    refine g_15 (a := 0) (b := 0) (nx := 48) (by decide +kernel) ?_
    refine g_80 (a := 222) (b := 2) (nx := 51) (by decide +kernel) (r := x0) (As := [vI x2, vI (x3 + x5)]) (st' := [vI y4]) (z := 222) rfl rfl rfl (Nat.le_of_ble_eq_true rfl) h0.2 (Nat.le_of_ble_eq_true rfl) rfl (c_I (by decide +kernel) h (fun y6 M5 h => ?_))
    obtain ⟨r7, h⟩ := h
    obtain ⟨r8, h⟩ := h
    by_cases c9 : y4 = y6
    · rw [if_pos c9] at h
      refine g_41t (a := 0) (b := 56) (nx := 54) (by decide +kernel) (by rw [wr_id r7, wr_id r8]; exact (cb_0 _ _).mpr c9) ?_
      refine g_11 (a := 5) (b := 1) (nx := 59) (by decide +kernel) rfl rfl (ls' := [some (vR x0), some (vI x1), some (vI x2), some (vI x3), some (vI x4), some (vI (x5 + 1))]) rfl ?_
      refine g_44 (a := 0) (b := 16) (nx := 62) (by decide +kernel) ?_
      exact h
    · rw [if_neg c9] at h
      refine g_41f (a := 0) (b := 56) (nx := 54) (by decide +kernel) (by rw [wr_id r7, wr_id r8]; exact fun hz => c9 ((cb_0 _ _).mp hz)) ?_
      refine g_1 (a := 0) (b := 0) (nx := 55) (by decide +kernel) ?_
      exact g_91z (b := 0) (nx := 56) (by decide +kernel) (by decide) h
-- 285 SyllableMakerModel.tallies()V
theorem t_285 {x0 : Int} {M : Mem} {Q : AV → Mem → Prop} (h0 : gO 12 x0) (h : inR (M x0 84) ∧ (if (M x0 84) = 0 then (WR 285 15 [some (vR x0), some (vI 0), none] [] (upM M x0 84 1) Q) else (Q (vI 0) M))) : WC 285 [vR x0] M Q := by
  show WR 285 0 [some (vR x0), none, none] [] M Q
  refine g_7 (a := 0) (b := 0) (nx := 1) (by decide +kernel) rfl ?_
  refine g_50 (a := 12) (b := 84) (nx := 4) (by decide +kernel) h0 ?_
  obtain ⟨r1, h⟩ := h
  by_cases c2 : (M x0 84) = 0
  · rw [if_pos c2] at h
    refine g_40t (a := 0) (b := 8) (nx := 7) (by decide +kernel) r1 (by exact (cb_0 _ _).mpr c2) ?_
    refine g_7 (a := 0) (b := 0) (nx := 9) (by decide +kernel) rfl ?_
    refine g_1 (a := 1) (b := 0) (nx := 10) (by decide +kernel) ?_
    refine g_56 (a := 12) (b := 84) (nx := 13) (by decide +kernel) h0 (by decide) ?_
    refine g_1 (a := 0) (b := 0) (nx := 14) (by decide +kernel) ?_
    refine g_8 (a := 1) (b := 0) (nx := 15) (by decide +kernel) rfl (ls' := [some (vR x0), some (vI 0), none]) rfl ?_
    exact h
  · rw [if_neg c2] at h
    refine g_40f (a := 0) (b := 8) (nx := 7) (by decide +kernel) r1 (by exact fun hz => c2 ((cb_0 _ _).mp hz)) ?_
    exact g_90 (a := 0) (b := 0) (nx := 8) (by decide +kernel) h
theorem t_285_15 {x0 x1 : Int} {M : Mem} {Q : AV → Mem → Prop} (h0 : gO 12 x0) (h : inR x1 ∧ (if 3 ≤ x1 then (WR 285 36 [some (vR x0), some (vI 100), none] [] M Q) else ((gA 20 (M x0 79) x1) ∧ WR 285 15 [some (vR x0), some (vI (x1 + 1)), none] [] (upM M (M x0 79) x1 0) Q))) : WR 285 15 [some (vR x0), some (vI x1), none] [] M Q := by
  refine g_5 (a := 1) (b := 0) (nx := 16) (by decide +kernel) rfl ?_
  refine g_1 (a := 3) (b := 0) (nx := 17) (by decide +kernel) ?_
  obtain ⟨r1, h⟩ := h
  by_cases c2 : 3 ≤ x1
  · rw [if_pos c2] at h
    refine g_41t (a := 3) (b := 33) (nx := 20) (by decide +kernel) (by rw [wr_id r1, wr_id (show inR 3 by decide)]; exact (cb_3 _ _).mpr c2) ?_
    refine g_1 (a := 100) (b := 0) (nx := 35) (by decide +kernel) ?_
    refine g_8 (a := 1) (b := 0) (nx := 36) (by decide +kernel) rfl (ls' := [some (vR x0), some (vI 100), none]) rfl ?_
    exact h
  · rw [if_neg c2] at h
    refine g_41f (a := 3) (b := 33) (nx := 20) (by decide +kernel) (by rw [wr_id r1, wr_id (show inR 3 by decide)]; exact fun hz => c2 ((cb_3 _ _).mp hz)) ?_
    refine g_7 (a := 0) (b := 0) (nx := 21) (by decide +kernel) rfl ?_
    refine g_52 (a := 12) (b := 79) (nx := 24) (by decide +kernel) h0 ?_
    refine g_5 (a := 1) (b := 0) (nx := 25) (by decide +kernel) rfl ?_
    refine g_1 (a := 0) (b := 0) (nx := 26) (by decide +kernel) ?_
    refine g_62 (a := 0) (b := 0) (nx := 27) (by decide +kernel) h.1 ?_
    replace h := h.2
    refine g_11 (a := 1) (b := 1) (nx := 30) (by decide +kernel) rfl rfl (ls' := [some (vR x0), some (vI (x1 + 1)), none]) rfl ?_
    refine g_44 (a := 0) (b := 15) (nx := 33) (by decide +kernel) ?_
    exact h
theorem t_285_36 {x0 x1 : Int} {l2 : Option AV} {M : Mem} {Q : AV → Mem → Prop} (h0 : gO 12 x0) (h : (gA 20 (M x0 61) 0) ∧ inR x1 ∧ (inR (100 + (M (M x0 61) 0)) ∧ (if (100 + (M (M x0 61) 0)) ≤ x1 then (Q (vI 0) M) else (WV 227 [vR x0, vI x1] M (fun M3 => WV 238 [vR x0] M3 (fun M5 => WR 285 60 [some (vR x0), some (vI x1), some (vI 0)] [] M5 Q)))))) : WR 285 36 [some (vR x0), some (vI x1), l2] [] M Q := by
  refine g_5 (a := 1) (b := 0) (nx := 37) (by decide +kernel) rfl ?_
  refine g_1 (a := 100) (b := 0) (nx := 39) (by decide +kernel) ?_
  refine g_7 (a := 0) (b := 0) (nx := 40) (by decide +kernel) rfl ?_
  refine g_52 (a := 12) (b := 61) (nx := 43) (by decide +kernel) h0 ?_
  refine g_1 (a := 0) (b := 0) (nx := 44) (by decide +kernel) ?_
  refine g_61 (a := 0) (b := 0) (nx := 45) (by decide +kernel) h.1 ?_
  replace h := h.2
  refine g_15 (a := 0) (b := 0) (nx := 46) (by decide +kernel) ?_
  obtain ⟨r1, h⟩ := h
  obtain ⟨r2, h⟩ := h
  by_cases c7 : (100 + (M (M x0 61) 0)) ≤ x1
  · rw [if_pos c7] at h
    refine g_41t (a := 3) (b := 130) (nx := 49) (by decide +kernel) (by rw [wr_id r1, wr_id r2]; exact (cb_3 _ _).mpr c7) ?_
    exact g_90 (a := 0) (b := 0) (nx := 131) (by decide +kernel) h
  · rw [if_neg c7] at h
    refine g_41f (a := 3) (b := 130) (nx := 49) (by decide +kernel) (by rw [wr_id r1, wr_id r2]; exact fun hz => c7 ((cb_3 _ _).mp hz)) ?_
    refine g_7 (a := 0) (b := 0) (nx := 50) (by decide +kernel) rfl ?_
    refine g_5 (a := 1) (b := 0) (nx := 51) (by decide +kernel) rfl ?_
    refine g_80 (a := 227) (b := 1) (nx := 54) (by decide +kernel) (r := x0) (As := [vI x1]) (st' := []) (z := 227) rfl rfl rfl (Nat.le_of_ble_eq_true rfl) h0.2 (Nat.le_of_ble_eq_true rfl) rfl (c_V (by decide +kernel) h (fun M3 h => ?_))
    refine g_7 (a := 0) (b := 0) (nx := 55) (by decide +kernel) rfl ?_
    refine g_80 (a := 238) (b := 0) (nx := 58) (by decide +kernel) (r := x0) (As := []) (st' := []) (z := 238) rfl rfl rfl (Nat.le_of_ble_eq_true rfl) h0.2 (Nat.le_of_ble_eq_true rfl) rfl (c_V (by decide +kernel) h (fun M5 h => ?_))
    refine g_1 (a := 0) (b := 0) (nx := 59) (by decide +kernel) ?_
    refine g_8 (a := 2) (b := 0) (nx := 60) (by decide +kernel) rfl (ls' := [some (vR x0), some (vI x1), some (vI 0)]) rfl ?_
    exact h
theorem t_285_60 {x0 x1 x2 : Int} {M : Mem} {Q : AV → Mem → Prop} (h0 : gO 12 x0) (h : inR x2 ∧ (inR (M x0 70) ∧ (if (M x0 70) ≤ x2 then (WR 285 36 [some (vR x0), some (vI (x1 + 1)), some (vI x2)] [] M Q) else (WI 239 [vR x0, vI x2] M (fun y4 M3 => WI 240 [vR x0, vI x2] M3 (fun y6 M5 => WV 283 [vR x0, vI 0, vI x1, vI y4, vI y6] M5 (fun M7 => (gA 20 (M7 x0 65) x2) ∧ (gA 20 (M7 x0 66) x2) ∧ WV 283 [vR x0, vI 1, vI x1, vI (M7 (M7 x0 65) x2), vI (M7 (M7 x0 66) x2)] M7 (fun M9 => WI 229 [vR x0, vI x2] M9 (fun y12 M11 => WI 241 [vR x0, vI x2] M11 (fun y14 M13 => WV 283 [vR x0, vI 2, vI x1, vI y12, vI y14] M13 (fun M15 => WR 285 60 [some (vR x0), some (vI x1), some (vI (x2 + 1))] [] M15 Q))))))))))) : WR 285 60 [some (vR x0), some (vI x1), some (vI x2)] [] M Q := by
  refine g_5 (a := 2) (b := 0) (nx := 61) (by decide +kernel) rfl ?_
  refine g_7 (a := 0) (b := 0) (nx := 62) (by decide +kernel) rfl ?_
  refine g_50 (a := 12) (b := 70) (nx := 65) (by decide +kernel) h0 ?_
  obtain ⟨r1, h⟩ := h
  obtain ⟨r2, h⟩ := h
  by_cases c17 : (M x0 70) ≤ x2
  · rw [if_pos c17] at h
    refine g_41t (a := 3) (b := 124) (nx := 68) (by decide +kernel) (by rw [wr_id r1, wr_id r2]; exact (cb_3 _ _).mpr c17) ?_
    refine g_11 (a := 1) (b := 1) (nx := 127) (by decide +kernel) rfl rfl (ls' := [some (vR x0), some (vI (x1 + 1)), some (vI x2)]) rfl ?_
    refine g_44 (a := 0) (b := 36) (nx := 130) (by decide +kernel) ?_
    exact h
  · rw [if_neg c17] at h
    refine g_41f (a := 3) (b := 124) (nx := 68) (by decide +kernel) (by rw [wr_id r1, wr_id r2]; exact fun hz => c17 ((cb_3 _ _).mp hz)) ?_
    refine g_7 (a := 0) (b := 0) (nx := 69) (by decide +kernel) rfl ?_
    refine g_1 (a := 0) (b := 0) (nx := 70) (by decide +kernel) ?_
    refine g_5 (a := 1) (b := 0) (nx := 71) (by decide +kernel) rfl ?_
    refine g_7 (a := 0) (b := 0) (nx := 72) (by decide +kernel) rfl ?_
    refine g_5 (a := 2) (b := 0) (nx := 73) (by decide +kernel) rfl ?_
    refine g_80 (a := 239) (b := 1) (nx := 76) (by decide +kernel) (r := x0) (As := [vI x2]) (st' := [vI x1, vI 0, vR x0]) (z := 239) rfl rfl rfl (Nat.le_of_ble_eq_true rfl) h0.2 (Nat.le_of_ble_eq_true rfl) rfl (c_I (by decide +kernel) h (fun y4 M3 h => ?_))
    refine g_7 (a := 0) (b := 0) (nx := 77) (by decide +kernel) rfl ?_
    refine g_5 (a := 2) (b := 0) (nx := 78) (by decide +kernel) rfl ?_
    refine g_80 (a := 240) (b := 1) (nx := 81) (by decide +kernel) (r := x0) (As := [vI x2]) (st' := [vI y4, vI x1, vI 0, vR x0]) (z := 240) rfl rfl rfl (Nat.le_of_ble_eq_true rfl) h0.2 (Nat.le_of_ble_eq_true rfl) rfl (c_I (by decide +kernel) h (fun y6 M5 h => ?_))
    refine g_80 (a := 283) (b := 4) (nx := 84) (by decide +kernel) (r := x0) (As := [vI 0, vI x1, vI y4, vI y6]) (st' := []) (z := 283) rfl rfl rfl (Nat.le_of_ble_eq_true rfl) h0.2 (Nat.le_of_ble_eq_true rfl) rfl (c_V (by decide +kernel) h (fun M7 h => ?_))
    refine g_7 (a := 0) (b := 0) (nx := 85) (by decide +kernel) rfl ?_
    refine g_1 (a := 1) (b := 0) (nx := 86) (by decide +kernel) ?_
    refine g_5 (a := 1) (b := 0) (nx := 87) (by decide +kernel) rfl ?_
    refine g_7 (a := 0) (b := 0) (nx := 88) (by decide +kernel) rfl ?_
    refine g_52 (a := 12) (b := 65) (nx := 91) (by decide +kernel) h0 ?_
    refine g_5 (a := 2) (b := 0) (nx := 92) (by decide +kernel) rfl ?_
    refine g_61 (a := 0) (b := 0) (nx := 93) (by decide +kernel) h.1 ?_
    replace h := h.2
    refine g_7 (a := 0) (b := 0) (nx := 94) (by decide +kernel) rfl ?_
    refine g_52 (a := 12) (b := 66) (nx := 97) (by decide +kernel) h0 ?_
    refine g_5 (a := 2) (b := 0) (nx := 98) (by decide +kernel) rfl ?_
    refine g_61 (a := 0) (b := 0) (nx := 99) (by decide +kernel) h.1 ?_
    replace h := h.2
    refine g_80 (a := 283) (b := 4) (nx := 102) (by decide +kernel) (r := x0) (As := [vI 1, vI x1, vI (M7 (M7 x0 65) x2), vI (M7 (M7 x0 66) x2)]) (st' := []) (z := 283) rfl rfl rfl (Nat.le_of_ble_eq_true rfl) h0.2 (Nat.le_of_ble_eq_true rfl) rfl (c_V (by decide +kernel) h (fun M9 h => ?_))
    refine g_7 (a := 0) (b := 0) (nx := 103) (by decide +kernel) rfl ?_
    refine g_1 (a := 2) (b := 0) (nx := 104) (by decide +kernel) ?_
    refine g_5 (a := 1) (b := 0) (nx := 105) (by decide +kernel) rfl ?_
    refine g_7 (a := 0) (b := 0) (nx := 106) (by decide +kernel) rfl ?_
    refine g_5 (a := 2) (b := 0) (nx := 107) (by decide +kernel) rfl ?_
    refine g_80 (a := 229) (b := 1) (nx := 110) (by decide +kernel) (r := x0) (As := [vI x2]) (st' := [vI x1, vI 2, vR x0]) (z := 229) rfl rfl rfl (Nat.le_of_ble_eq_true rfl) h0.2 (Nat.le_of_ble_eq_true rfl) rfl (c_I (by decide +kernel) h (fun y12 M11 h => ?_))
    refine g_7 (a := 0) (b := 0) (nx := 111) (by decide +kernel) rfl ?_
    refine g_5 (a := 2) (b := 0) (nx := 112) (by decide +kernel) rfl ?_
    refine g_80 (a := 241) (b := 1) (nx := 115) (by decide +kernel) (r := x0) (As := [vI x2]) (st' := [vI y12, vI x1, vI 2, vR x0]) (z := 241) rfl rfl rfl (Nat.le_of_ble_eq_true rfl) h0.2 (Nat.le_of_ble_eq_true rfl) rfl (c_I (by decide +kernel) h (fun y14 M13 h => ?_))
    refine g_80 (a := 283) (b := 4) (nx := 118) (by decide +kernel) (r := x0) (As := [vI 2, vI x1, vI y12, vI y14]) (st' := []) (z := 283) rfl rfl rfl (Nat.le_of_ble_eq_true rfl) h0.2 (Nat.le_of_ble_eq_true rfl) rfl (c_V (by decide +kernel) h (fun M15 h => ?_))
    refine g_11 (a := 2) (b := 1) (nx := 121) (by decide +kernel) rfl rfl (ls' := [some (vR x0), some (vI x1), some (vI (x2 + 1))]) rfl ?_
    refine g_44 (a := 0) (b := 60) (nx := 124) (by decide +kernel) ?_
    exact h
-- 286 SyllableMakerModel.tally(III)I
theorem t_286 {x0 x1 x2 x3 : Int} {M : Mem} {Q : AV → Mem → Prop} (h0 : gO 12 x0) (h : WI 177 [vL (wr32 x1), vL 0, vL 2] M (fun y2 M1 => inR y2 ∧ (if y2 = 0 then (Q (vI (-1)) M1) else (WV 285 [vR x0] M1 (fun M4 => inR x2 ∧ (if x2 = (-1) then ((gA 20 (M4 x0 79) x1) ∧ Q (vI (M4 (M4 x0 79) x1)) M4) else ((gA 20 (M4 x0 79) x1) ∧ WI 177 [vL (wr32 x2), vL 0, vL (wr32 ((M4 (M4 x0 79) x1) - 1))] M4 (fun y8 M7 => inR y8 ∧ (if y8 = 0 then (Q (vI (-1)) M7) else (inR x3 ∧ (if 0 ≤ x3 then (if 2 ≤ x3 then ((gA 20 (M7 x0 82) ((240 * x1) + x2)) ∧ inR (x3 - 2) ∧ (inR (M7 (M7 x0 82) ((240 * x1) + x2)) ∧ (if (M7 (M7 x0 82) ((240 * x1) + x2)) ≤ (x3 - 2) then (Q (vI (-1)) M7) else ((gA 20 (M7 x0 80) ((240 * x1) + x2)) ∧ (gA 20 (M7 x0 81) ((240 * x1) + x2)) ∧ WI 222 [vR x0, vI (M7 (M7 x0 80) ((240 * x1) + x2)), vI (((M7 (M7 x0 81) ((240 * x1) + x2)) + x3) - 2)] M7 (fun y14 M13 => Q (vI y14) M13))))) else (if x3 = 0 then ((gA 20 (M7 x0 83) ((240 * x1) + x2)) ∧ Q (vI (M7 (M7 x0 83) ((240 * x1) + x2))) M7) else ((gA 20 (M7 x0 82) ((240 * x1) + x2)) ∧ Q (vI (M7 (M7 x0 82) ((240 * x1) + x2))) M7))) else (Q (vI (-1)) M7)))))))))))) : WC 286 [vR x0, vI x1, vI x2, vI x3] M Q := by
  show WR 286 0 [some (vR x0), some (vI x1), some (vI x2), some (vI x3), none] [] M Q
  refine g_5 (a := 1) (b := 0) (nx := 1) (by decide +kernel) rfl ?_
  refine g_35 (a := 0) (b := 0) (nx := 2) (by decide +kernel) ?_
  refine g_2 (a := 0) (b := 0) (nx := 3) (by decide +kernel) ?_
  refine g_2 (a := 2) (b := 0) (nx := 6) (by decide +kernel) ?_
  refine g_82 (a := 177) (b := 3) (nx := 9) (by decide +kernel) (As := [vL (wr32 x1), vL 0, vL 2]) (st' := []) (z := 177) rfl rfl rfl (Nat.le_of_ble_eq_true rfl) (Nat.le_of_ble_eq_true rfl) rfl (c_I (by decide +kernel) h (fun y2 M1 h => ?_))
  obtain ⟨r3, h⟩ := h
  by_cases c21 : y2 = 0
  · rw [if_pos c21] at h
    refine g_40f (a := 1) (b := 14) (nx := 12) (by decide +kernel) r3 (by exact fun hz => ((cb_1 _ _).mp hz) c21) ?_
    refine g_1 (a := (-1)) (b := 0) (nx := 13) (by decide +kernel) ?_
    exact g_91 (b := 0) (nx := 14) (by decide +kernel) h
  · rw [if_neg c21] at h
    refine g_40t (a := 1) (b := 14) (nx := 12) (by decide +kernel) r3 (by exact (cb_1 _ _).mpr c21) ?_
    refine g_7 (a := 0) (b := 0) (nx := 15) (by decide +kernel) rfl ?_
    refine g_80 (a := 285) (b := 0) (nx := 18) (by decide +kernel) (r := x0) (As := []) (st' := []) (z := 285) rfl rfl rfl (Nat.le_of_ble_eq_true rfl) h0.2 (Nat.le_of_ble_eq_true rfl) rfl (c_V (by decide +kernel) h (fun M4 h => ?_))
    refine g_5 (a := 2) (b := 0) (nx := 19) (by decide +kernel) rfl ?_
    refine g_1 (a := (-1)) (b := 0) (nx := 20) (by decide +kernel) ?_
    obtain ⟨r6, h⟩ := h
    by_cases c20 : x2 = (-1)
    · rw [if_pos c20] at h
      refine g_41f (a := 1) (b := 30) (nx := 23) (by decide +kernel) (by rw [wr_id r6, wr_id (show inR (-1) by decide)]; exact fun hz => ((cb_1 _ _).mp hz) c20) ?_
      refine g_7 (a := 0) (b := 0) (nx := 24) (by decide +kernel) rfl ?_
      refine g_52 (a := 12) (b := 79) (nx := 27) (by decide +kernel) h0 ?_
      refine g_5 (a := 1) (b := 0) (nx := 28) (by decide +kernel) rfl ?_
      refine g_61 (a := 0) (b := 0) (nx := 29) (by decide +kernel) h.1 ?_
      replace h := h.2
      exact g_91 (b := 0) (nx := 30) (by decide +kernel) h
    · rw [if_neg c20] at h
      refine g_41t (a := 1) (b := 30) (nx := 23) (by decide +kernel) (by rw [wr_id r6, wr_id (show inR (-1) by decide)]; exact (cb_1 _ _).mpr c20) ?_
      refine g_5 (a := 2) (b := 0) (nx := 31) (by decide +kernel) rfl ?_
      refine g_35 (a := 0) (b := 0) (nx := 32) (by decide +kernel) ?_
      refine g_2 (a := 0) (b := 0) (nx := 33) (by decide +kernel) ?_
      refine g_7 (a := 0) (b := 0) (nx := 34) (by decide +kernel) rfl ?_
      refine g_52 (a := 12) (b := 79) (nx := 37) (by decide +kernel) h0 ?_
      refine g_5 (a := 1) (b := 0) (nx := 38) (by decide +kernel) rfl ?_
      refine g_61 (a := 0) (b := 0) (nx := 39) (by decide +kernel) h.1 ?_
      replace h := h.2
      refine g_1 (a := 1) (b := 0) (nx := 40) (by decide +kernel) ?_
      refine g_16 (a := 0) (b := 0) (nx := 41) (by decide +kernel) ?_
      refine g_35 (a := 0) (b := 0) (nx := 42) (by decide +kernel) ?_
      refine g_82 (a := 177) (b := 3) (nx := 45) (by decide +kernel) (As := [vL (wr32 x2), vL 0, vL (wr32 ((M4 (M4 x0 79) x1) - 1))]) (st' := []) (z := 177) rfl rfl rfl (Nat.le_of_ble_eq_true rfl) (Nat.le_of_ble_eq_true rfl) rfl (c_I (by decide +kernel) h (fun y8 M7 h => ?_))
      obtain ⟨r9, h⟩ := h
      by_cases c19 : y8 = 0
      · rw [if_pos c19] at h
        refine g_40t (a := 0) (b := 52) (nx := 48) (by decide +kernel) r9 (by exact (cb_0 _ _).mpr c19) ?_
        refine g_1 (a := (-1)) (b := 0) (nx := 53) (by decide +kernel) ?_
        exact g_91 (b := 0) (nx := 54) (by decide +kernel) h
      · rw [if_neg c19] at h
        refine g_40f (a := 0) (b := 52) (nx := 48) (by decide +kernel) r9 (by exact fun hz => c19 ((cb_0 _ _).mp hz)) ?_
        refine g_5 (a := 3) (b := 0) (nx := 49) (by decide +kernel) rfl ?_
        obtain ⟨r10, h⟩ := h
        by_cases c18 : 0 ≤ x3
        · rw [if_pos c18] at h
          refine g_40t (a := 3) (b := 54) (nx := 52) (by decide +kernel) r10 (by exact (cb_3 _ _).mpr c18) ?_
          refine g_1 (a := 240) (b := 0) (nx := 57) (by decide +kernel) ?_
          refine g_5 (a := 1) (b := 0) (nx := 58) (by decide +kernel) rfl ?_
          refine g_17 (a := 0) (b := 0) (nx := 59) (by decide +kernel) ?_
          refine g_5 (a := 2) (b := 0) (nx := 60) (by decide +kernel) rfl ?_
          refine g_15 (a := 0) (b := 0) (nx := 61) (by decide +kernel) ?_
          refine g_8 (a := 4) (b := 0) (nx := 63) (by decide +kernel) rfl (ls' := [some (vR x0), some (vI x1), some (vI x2), some (vI x3), some (vI ((240 * x1) + x2))]) rfl ?_
          refine g_5 (a := 3) (b := 0) (nx := 64) (by decide +kernel) rfl ?_
          refine g_1 (a := 2) (b := 0) (nx := 65) (by decide +kernel) ?_
          by_cases c17 : 2 ≤ x3
          · rw [if_pos c17] at h
            refine g_41t (a := 3) (b := 90) (nx := 68) (by decide +kernel) (by rw [wr_id r10, wr_id (show inR 2 by decide)]; exact (cb_3 _ _).mpr c17) ?_
            refine g_5 (a := 3) (b := 0) (nx := 91) (by decide +kernel) rfl ?_
            refine g_1 (a := 2) (b := 0) (nx := 92) (by decide +kernel) ?_
            refine g_16 (a := 0) (b := 0) (nx := 93) (by decide +kernel) ?_
            refine g_7 (a := 0) (b := 0) (nx := 94) (by decide +kernel) rfl ?_
            refine g_52 (a := 12) (b := 82) (nx := 97) (by decide +kernel) h0 ?_
            refine g_5 (a := 4) (b := 0) (nx := 99) (by decide +kernel) rfl ?_
            refine g_61 (a := 0) (b := 0) (nx := 100) (by decide +kernel) h.1 ?_
            replace h := h.2
            obtain ⟨r11, h⟩ := h
            obtain ⟨r12, h⟩ := h
            by_cases c15 : (M7 (M7 x0 82) ((240 * x1) + x2)) ≤ (x3 - 2)
            · rw [if_pos c15] at h
              refine g_41t (a := 3) (b := 128) (nx := 103) (by decide +kernel) (by rw [wr_id r11, wr_id r12]; exact (cb_3 _ _).mpr c15) ?_
              refine g_1 (a := (-1)) (b := 0) (nx := 129) (by decide +kernel) ?_
              exact g_91 (b := 0) (nx := 130) (by decide +kernel) h
            · rw [if_neg c15] at h
              refine g_41f (a := 3) (b := 128) (nx := 103) (by decide +kernel) (by rw [wr_id r11, wr_id r12]; exact fun hz => c15 ((cb_3 _ _).mp hz)) ?_
              refine g_7 (a := 0) (b := 0) (nx := 104) (by decide +kernel) rfl ?_
              refine g_7 (a := 0) (b := 0) (nx := 105) (by decide +kernel) rfl ?_
              refine g_52 (a := 12) (b := 80) (nx := 108) (by decide +kernel) h0 ?_
              refine g_5 (a := 4) (b := 0) (nx := 110) (by decide +kernel) rfl ?_
              refine g_61 (a := 0) (b := 0) (nx := 111) (by decide +kernel) h.1 ?_
              replace h := h.2
              refine g_7 (a := 0) (b := 0) (nx := 112) (by decide +kernel) rfl ?_
              refine g_52 (a := 12) (b := 81) (nx := 115) (by decide +kernel) h0 ?_
              refine g_5 (a := 4) (b := 0) (nx := 117) (by decide +kernel) rfl ?_
              refine g_61 (a := 0) (b := 0) (nx := 118) (by decide +kernel) h.1 ?_
              replace h := h.2
              refine g_5 (a := 3) (b := 0) (nx := 119) (by decide +kernel) rfl ?_
              refine g_15 (a := 0) (b := 0) (nx := 120) (by decide +kernel) ?_
              refine g_1 (a := 2) (b := 0) (nx := 121) (by decide +kernel) ?_
              refine g_16 (a := 0) (b := 0) (nx := 122) (by decide +kernel) ?_
              refine g_80 (a := 222) (b := 2) (nx := 125) (by decide +kernel) (r := x0) (As := [vI (M7 (M7 x0 80) ((240 * x1) + x2)), vI (((M7 (M7 x0 81) ((240 * x1) + x2)) + x3) - 2)]) (st' := []) (z := 222) rfl rfl rfl (Nat.le_of_ble_eq_true rfl) h0.2 (Nat.le_of_ble_eq_true rfl) rfl (c_I (by decide +kernel) h (fun y14 M13 h => ?_))
              refine g_44 (a := 0) (b := 129) (nx := 128) (by decide +kernel) ?_
              exact g_91 (b := 0) (nx := 130) (by decide +kernel) h
          · rw [if_neg c17] at h
            refine g_41f (a := 3) (b := 90) (nx := 68) (by decide +kernel) (by rw [wr_id r10, wr_id (show inR 2 by decide)]; exact fun hz => c17 ((cb_3 _ _).mp hz)) ?_
            refine g_5 (a := 3) (b := 0) (nx := 69) (by decide +kernel) rfl ?_
            by_cases c16 : x3 = 0
            · rw [if_pos c16] at h
              refine g_40f (a := 1) (b := 82) (nx := 72) (by decide +kernel) r10 (by exact fun hz => ((cb_1 _ _).mp hz) c16) ?_
              refine g_7 (a := 0) (b := 0) (nx := 73) (by decide +kernel) rfl ?_
              refine g_52 (a := 12) (b := 83) (nx := 76) (by decide +kernel) h0 ?_
              refine g_5 (a := 4) (b := 0) (nx := 78) (by decide +kernel) rfl ?_
              refine g_61 (a := 0) (b := 0) (nx := 79) (by decide +kernel) h.1 ?_
              replace h := h.2
              refine g_44 (a := 0) (b := 89) (nx := 82) (by decide +kernel) ?_
              exact g_91 (b := 0) (nx := 90) (by decide +kernel) h
            · rw [if_neg c16] at h
              refine g_40t (a := 1) (b := 82) (nx := 72) (by decide +kernel) r10 (by exact (cb_1 _ _).mpr c16) ?_
              refine g_7 (a := 0) (b := 0) (nx := 83) (by decide +kernel) rfl ?_
              refine g_52 (a := 12) (b := 82) (nx := 86) (by decide +kernel) h0 ?_
              refine g_5 (a := 4) (b := 0) (nx := 88) (by decide +kernel) rfl ?_
              refine g_61 (a := 0) (b := 0) (nx := 89) (by decide +kernel) h.1 ?_
              replace h := h.2
              exact g_91 (b := 0) (nx := 90) (by decide +kernel) h
        · rw [if_neg c18] at h
          refine g_40f (a := 3) (b := 54) (nx := 52) (by decide +kernel) r10 (by exact fun hz => c18 ((cb_3 _ _).mp hz)) ?_
          refine g_1 (a := (-1)) (b := 0) (nx := 53) (by decide +kernel) ?_
          exact g_91 (b := 0) (nx := 54) (by decide +kernel) h
-- 287 SyllableMakerModel.tallied()I
theorem t_287 {x0 : Int} {M : Mem} {Q : AV → Mem → Prop} (h0 : gO 12 x0) (h : WR 287 4 [some (vR x0), some (vI 0), some (vI 0)] [] M Q) : WC 287 [vR x0] M Q := by
  show WR 287 0 [some (vR x0), none, none] [] M Q
  refine g_1 (a := 0) (b := 0) (nx := 1) (by decide +kernel) ?_
  refine g_8 (a := 1) (b := 0) (nx := 2) (by decide +kernel) rfl (ls' := [some (vR x0), some (vI 0), none]) rfl ?_
  refine g_1 (a := 0) (b := 0) (nx := 3) (by decide +kernel) ?_
  refine g_8 (a := 2) (b := 0) (nx := 4) (by decide +kernel) rfl (ls' := [some (vR x0), some (vI 0), some (vI 0)]) rfl ?_
  exact h
theorem t_287_4 {x0 x1 x2 : Int} {M : Mem} {Q : AV → Mem → Prop} (h0 : gO 12 x0) (h : (gA 20 (M x0 79) 1) ∧ inR x2 ∧ (inR (M (M x0 79) 1) ∧ (if (M (M x0 79) 1) ≤ x2 then (Q (vI x1) M) else ((gA 20 (M x0 83) (240 + x2)) ∧ WR 287 4 [some (vR x0), some (vI (x1 + (M (M x0 83) (240 + x2)))), some (vI (x2 + 1))] [] M Q)))) : WR 287 4 [some (vR x0), some (vI x1), some (vI x2)] [] M Q := by
  refine g_5 (a := 2) (b := 0) (nx := 5) (by decide +kernel) rfl ?_
  refine g_7 (a := 0) (b := 0) (nx := 6) (by decide +kernel) rfl ?_
  refine g_52 (a := 12) (b := 79) (nx := 9) (by decide +kernel) h0 ?_
  refine g_1 (a := 1) (b := 0) (nx := 10) (by decide +kernel) ?_
  refine g_61 (a := 0) (b := 0) (nx := 11) (by decide +kernel) h.1 ?_
  replace h := h.2
  obtain ⟨r1, h⟩ := h
  obtain ⟨r2, h⟩ := h
  by_cases c3 : (M (M x0 79) 1) ≤ x2
  · rw [if_pos c3] at h
    refine g_41t (a := 3) (b := 33) (nx := 14) (by decide +kernel) (by rw [wr_id r1, wr_id r2]; exact (cb_3 _ _).mpr c3) ?_
    refine g_5 (a := 1) (b := 0) (nx := 34) (by decide +kernel) rfl ?_
    exact g_91 (b := 0) (nx := 35) (by decide +kernel) h
  · rw [if_neg c3] at h
    refine g_41f (a := 3) (b := 33) (nx := 14) (by decide +kernel) (by rw [wr_id r1, wr_id r2]; exact fun hz => c3 ((cb_3 _ _).mp hz)) ?_
    refine g_5 (a := 1) (b := 0) (nx := 15) (by decide +kernel) rfl ?_
    refine g_7 (a := 0) (b := 0) (nx := 16) (by decide +kernel) rfl ?_
    refine g_52 (a := 12) (b := 83) (nx := 19) (by decide +kernel) h0 ?_
    refine g_1 (a := 240) (b := 0) (nx := 22) (by decide +kernel) ?_
    refine g_5 (a := 2) (b := 0) (nx := 23) (by decide +kernel) rfl ?_
    refine g_15 (a := 0) (b := 0) (nx := 24) (by decide +kernel) ?_
    refine g_61 (a := 0) (b := 0) (nx := 25) (by decide +kernel) h.1 ?_
    replace h := h.2
    refine g_15 (a := 0) (b := 0) (nx := 26) (by decide +kernel) ?_
    refine g_8 (a := 1) (b := 0) (nx := 27) (by decide +kernel) rfl (ls' := [some (vR x0), some (vI (x1 + (M (M x0 83) (240 + x2)))), some (vI x2)]) rfl ?_
    refine g_11 (a := 2) (b := 1) (nx := 30) (by decide +kernel) rfl rfl (ls' := [some (vR x0), some (vI (x1 + (M (M x0 83) (240 + x2)))), some (vI (x2 + 1))]) rfl ?_
    refine g_44 (a := 0) (b := 4) (nx := 33) (by decide +kernel) ?_
    exact h
