/-! TREES, printed by a program: what each method's run comes to. -/
-- 131 SyllableMaker$Tape.valueHere()I
theorem t_131 {x0 : Int} {M : Mem} {Q : AV → Mem → Prop} (h0 : gO 9 x0) (h : WR 131 4 [some (vR x0), some (vI 0), some (vI 0)] [] M Q) : WC 131 [vR x0] M Q := by
  show WR 131 0 [some (vR x0), none, none] [] M Q
  refine g_1 (a := 0) (b := 0) (nx := 1) (by decide +kernel) ?_
  refine g_8 (a := 1) (b := 0) (nx := 2) (by decide +kernel) rfl (ls' := [some (vR x0), some (vI 0), none]) rfl ?_
  refine g_1 (a := 0) (b := 0) (nx := 3) (by decide +kernel) ?_
  refine g_8 (a := 2) (b := 0) (nx := 4) (by decide +kernel) rfl (ls' := [some (vR x0), some (vI 0), some (vI 0)]) rfl ?_
  exact h
theorem t_131_4 {x0 x1 x2 : Int} {M : Mem} {Q : AV → Mem → Prop} (h0 : gO 9 x0) (h : inR x2 ∧ (inR (M x0 4) ∧ (if (M x0 4) ≤ x2 then (Q (vI x1) M) else (WI 132 [vR x0, vI x2] M (fun y4 M3 => WR 131 4 [some (vR x0), some (vI (((x1 * 10) + y4) - 48)), some (vI (x2 + 1))] [] M3 Q))))) : WR 131 4 [some (vR x0), some (vI x1), some (vI x2)] [] M Q := by
  refine g_5 (a := 2) (b := 0) (nx := 5) (by decide +kernel) rfl ?_
  refine g_7 (a := 0) (b := 0) (nx := 6) (by decide +kernel) rfl ?_
  refine g_50 (a := 9) (b := 4) (nx := 9) (by decide +kernel) h0 ?_
  obtain ⟨r1, h⟩ := h
  obtain ⟨r2, h⟩ := h
  by_cases c5 : (M x0 4) ≤ x2
  · rw [if_pos c5] at h
    refine g_41t (a := 3) (b := 32) (nx := 12) (by decide +kernel) (by rw [wr_id r1, wr_id r2]; exact (cb_3 _ _).mpr c5) ?_
    refine g_5 (a := 1) (b := 0) (nx := 33) (by decide +kernel) rfl ?_
    exact g_91 (b := 0) (nx := 34) (by decide +kernel) h
  · rw [if_neg c5] at h
    refine g_41f (a := 3) (b := 32) (nx := 12) (by decide +kernel) (by rw [wr_id r1, wr_id r2]; exact fun hz => c5 ((cb_3 _ _).mp hz)) ?_
    refine g_5 (a := 1) (b := 0) (nx := 13) (by decide +kernel) rfl ?_
    refine g_1 (a := 10) (b := 0) (nx := 15) (by decide +kernel) ?_
    refine g_17 (a := 0) (b := 0) (nx := 16) (by decide +kernel) ?_
    refine g_7 (a := 0) (b := 0) (nx := 17) (by decide +kernel) rfl ?_
    refine g_5 (a := 2) (b := 0) (nx := 18) (by decide +kernel) rfl ?_
    refine g_80 (a := 132) (b := 1) (nx := 21) (by decide +kernel) (r := x0) (As := [vI x2]) (st' := [vI (x1 * 10)]) (z := 132) rfl rfl rfl (Nat.le_of_ble_eq_true rfl) h0.2 (Nat.le_of_ble_eq_true rfl) rfl (c_I (by decide +kernel) h (fun y4 M3 h => ?_))
    refine g_15 (a := 0) (b := 0) (nx := 22) (by decide +kernel) ?_
    refine g_1 (a := 48) (b := 0) (nx := 24) (by decide +kernel) ?_
    refine g_16 (a := 0) (b := 0) (nx := 25) (by decide +kernel) ?_
    refine g_8 (a := 1) (b := 0) (nx := 26) (by decide +kernel) rfl (ls' := [some (vR x0), some (vI (((x1 * 10) + y4) - 48)), some (vI x2)]) rfl ?_
    refine g_11 (a := 2) (b := 1) (nx := 29) (by decide +kernel) rfl rfl (ls' := [some (vR x0), some (vI (((x1 * 10) + y4) - 48)), some (vI (x2 + 1))]) rfl ?_
    refine g_44 (a := 0) (b := 4) (nx := 32) (by decide +kernel) ?_
    exact h
-- 132 SyllableMaker$Tape.letterAt(I)I
theorem t_132 {x0 x1 : Int} {M : Mem} {Q : AV → Mem → Prop} (h0 : gO 9 x0) (h : inR x1 ∧ (if x1 < 0 then (Q (vI 0) M) else (inR (M x0 4) ∧ (if (M x0 4) ≤ x1 then (Q (vI 0) M) else (inR ((M x0 3) + x1) ∧ (inR (M x0 1) ∧ (if (M x0 1) ≤ ((M x0 3) + x1) then (Q (vI 0) M) else (((M x0 0) ≠ -2000 ∧ 20 ≤ (shA SH (M x0 0)).1 ∧ (shA SH (M x0 0)).1 ≤ 41 ∧ (shA SH (M x0 0)).1 ≠ 40) ∧ inR ((shA SH (M x0 0)).2 : Int) ∧ (if ((shA SH (M x0 0)).2 : Int) ≤ ((M x0 3) + x1) then (Q (vI 0) M) else ((gA 21 (M x0 0) ((M x0 3) + x1) ∨ gA 22 (M x0 0) ((M x0 3) + x1)) ∧ Q (vI (M (M x0 0) ((M x0 3) + x1))) M)))))))))) : WC 132 [vR x0, vI x1] M Q := by
  show WR 132 0 [some (vR x0), some (vI x1), none] [] M Q
  refine g_7 (a := 0) (b := 0) (nx := 1) (by decide +kernel) rfl ?_
  refine g_50 (a := 9) (b := 3) (nx := 4) (by decide +kernel) h0 ?_
  refine g_5 (a := 1) (b := 0) (nx := 5) (by decide +kernel) rfl ?_
  refine g_15 (a := 0) (b := 0) (nx := 6) (by decide +kernel) ?_
  refine g_8 (a := 2) (b := 0) (nx := 7) (by decide +kernel) rfl (ls' := [some (vR x0), some (vI x1), some (vI ((M x0 3) + x1))]) rfl ?_
  refine g_5 (a := 1) (b := 0) (nx := 8) (by decide +kernel) rfl ?_
  obtain ⟨r1, h⟩ := h
  by_cases c9 : x1 < 0
  · rw [if_pos c9] at h
    refine g_40t (a := 2) (b := 45) (nx := 11) (by decide +kernel) r1 (by exact (cb_2 _ _).mpr c9) ?_
    refine g_1 (a := 0) (b := 0) (nx := 46) (by decide +kernel) ?_
    exact g_91 (b := 0) (nx := 47) (by decide +kernel) h
  · rw [if_neg c9] at h
    refine g_40f (a := 2) (b := 45) (nx := 11) (by decide +kernel) r1 (by exact fun hz => c9 ((cb_2 _ _).mp hz)) ?_
    refine g_5 (a := 1) (b := 0) (nx := 12) (by decide +kernel) rfl ?_
    refine g_7 (a := 0) (b := 0) (nx := 13) (by decide +kernel) rfl ?_
    refine g_50 (a := 9) (b := 4) (nx := 16) (by decide +kernel) h0 ?_
    obtain ⟨r2, h⟩ := h
    by_cases c8 : (M x0 4) ≤ x1
    · rw [if_pos c8] at h
      refine g_41t (a := 3) (b := 45) (nx := 19) (by decide +kernel) (by rw [wr_id r1, wr_id r2]; exact (cb_3 _ _).mpr c8) ?_
      refine g_1 (a := 0) (b := 0) (nx := 46) (by decide +kernel) ?_
      exact g_91 (b := 0) (nx := 47) (by decide +kernel) h
    · rw [if_neg c8] at h
      refine g_41f (a := 3) (b := 45) (nx := 19) (by decide +kernel) (by rw [wr_id r1, wr_id r2]; exact fun hz => c8 ((cb_3 _ _).mp hz)) ?_
      refine g_5 (a := 2) (b := 0) (nx := 20) (by decide +kernel) rfl ?_
      refine g_7 (a := 0) (b := 0) (nx := 21) (by decide +kernel) rfl ?_
      refine g_50 (a := 9) (b := 1) (nx := 24) (by decide +kernel) h0 ?_
      obtain ⟨r3, h⟩ := h
      obtain ⟨r4, h⟩ := h
      by_cases c7 : (M x0 1) ≤ ((M x0 3) + x1)
      · rw [if_pos c7] at h
        refine g_41t (a := 3) (b := 45) (nx := 27) (by decide +kernel) (by rw [wr_id r3, wr_id r4]; exact (cb_3 _ _).mpr c7) ?_
        refine g_1 (a := 0) (b := 0) (nx := 46) (by decide +kernel) ?_
        exact g_91 (b := 0) (nx := 47) (by decide +kernel) h
      · rw [if_neg c7] at h
        refine g_41f (a := 3) (b := 45) (nx := 27) (by decide +kernel) (by rw [wr_id r3, wr_id r4]; exact fun hz => c7 ((cb_3 _ _).mp hz)) ?_
        refine g_5 (a := 2) (b := 0) (nx := 28) (by decide +kernel) rfl ?_
        refine g_7 (a := 0) (b := 0) (nx := 29) (by decide +kernel) rfl ?_
        refine g_52 (a := 9) (b := 0) (nx := 32) (by decide +kernel) h0 ?_
        refine g_60 (a := 0) (b := 0) (nx := 33) (by decide +kernel) h.1.1 h.1.2 ?_
        replace h := h.2
        obtain ⟨r5, h⟩ := h
        by_cases c6 : ((shA SH (M x0 0)).2 : Int) ≤ ((M x0 3) + x1)
        · rw [if_pos c6] at h
          refine g_41t (a := 3) (b := 45) (nx := 36) (by decide +kernel) (by rw [wr_id r3, wr_id r5]; exact (cb_3 _ _).mpr c6) ?_
          refine g_1 (a := 0) (b := 0) (nx := 46) (by decide +kernel) ?_
          exact g_91 (b := 0) (nx := 47) (by decide +kernel) h
        · rw [if_neg c6] at h
          refine g_41f (a := 3) (b := 45) (nx := 36) (by decide +kernel) (by rw [wr_id r3, wr_id r5]; exact fun hz => c6 ((cb_3 _ _).mp hz)) ?_
          refine g_7 (a := 0) (b := 0) (nx := 37) (by decide +kernel) rfl ?_
          refine g_52 (a := 9) (b := 0) (nx := 40) (by decide +kernel) h0 ?_
          refine g_5 (a := 2) (b := 0) (nx := 41) (by decide +kernel) rfl ?_
          refine g_63 (a := 0) (b := 0) (nx := 42) (by decide +kernel) h.1 ?_
          replace h := h.2
          refine g_44 (a := 0) (b := 46) (nx := 45) (by decide +kernel) ?_
          exact g_91 (b := 0) (nx := 47) (by decide +kernel) h
-- 133 SyllableMaker$Tape.spells(Ljava/lang/String;)Z
theorem t_133 {x0 x1 : Int} {M : Mem} {Q : AV → Mem → Prop} (h0 : gO 9 x0) (h : inR (M x0 2) ∧ (if (M x0 2) = 1 then (((shA SH x1).1 = 40) ∧ WI 291 [vR x1] M (fun y3 M2 => inR (M x0 4) ∧ (inR y3 ∧ (if (M x0 4) = y3 then (WR 133 23 [some (vR x0), some (vR x1), some (vI 0)] [] M2 Q) else (Q (vI 0) M2))))) else (Q (vI 0) M))) : WC 133 [vR x0, vR x1] M Q := by
  show WR 133 0 [some (vR x0), some (vR x1), none] [] M Q
  refine g_7 (a := 0) (b := 0) (nx := 1) (by decide +kernel) rfl ?_
  refine g_50 (a := 9) (b := 2) (nx := 4) (by decide +kernel) h0 ?_
  refine g_1 (a := 1) (b := 0) (nx := 5) (by decide +kernel) ?_
  obtain ⟨r1, h⟩ := h
  by_cases c7 : (M x0 2) = 1
  · rw [if_pos c7] at h
    refine g_41f (a := 1) (b := 19) (nx := 8) (by decide +kernel) (by rw [wr_id r1, wr_id (show inR 1 by decide)]; exact fun hz => ((cb_1 _ _).mp hz) c7) ?_
    refine g_7 (a := 0) (b := 0) (nx := 9) (by decide +kernel) rfl ?_
    refine g_50 (a := 9) (b := 4) (nx := 12) (by decide +kernel) h0 ?_
    refine g_7 (a := 1) (b := 0) (nx := 13) (by decide +kernel) rfl ?_
    refine g_80 (a := 291) (b := 0) (nx := 16) (by decide +kernel) (r := x1) (As := []) (st' := [vI (M x0 4)]) (z := 291) rfl rfl rfl (Nat.le_of_ble_eq_true rfl) h.1 (Nat.le_of_ble_eq_true rfl) rfl (c_I (by decide +kernel) h.2 (fun y3 M2 h => ?_))
    obtain ⟨r4, h⟩ := h
    obtain ⟨r5, h⟩ := h
    by_cases c6 : (M x0 4) = y3
    · rw [if_pos c6] at h
      refine g_41t (a := 0) (b := 21) (nx := 19) (by decide +kernel) (by rw [wr_id r4, wr_id r5]; exact (cb_0 _ _).mpr c6) ?_
      refine g_1 (a := 0) (b := 0) (nx := 22) (by decide +kernel) ?_
      refine g_8 (a := 2) (b := 0) (nx := 23) (by decide +kernel) rfl (ls' := [some (vR x0), some (vR x1), some (vI 0)]) rfl ?_
      exact h
    · rw [if_neg c6] at h
      refine g_41f (a := 0) (b := 21) (nx := 19) (by decide +kernel) (by rw [wr_id r4, wr_id r5]; exact fun hz => c6 ((cb_0 _ _).mp hz)) ?_
      refine g_1 (a := 0) (b := 0) (nx := 20) (by decide +kernel) ?_
      exact g_91z (b := 0) (nx := 21) (by decide +kernel) (by decide) h
  · rw [if_neg c7] at h
    refine g_41t (a := 1) (b := 19) (nx := 8) (by decide +kernel) (by rw [wr_id r1, wr_id (show inR 1 by decide)]; exact (cb_1 _ _).mpr c7) ?_
    refine g_1 (a := 0) (b := 0) (nx := 20) (by decide +kernel) ?_
    exact g_91z (b := 0) (nx := 21) (by decide +kernel) (by decide) h
theorem t_133_23 {x0 x1 x2 : Int} {M : Mem} {Q : AV → Mem → Prop} (h0 : gO 9 x0) (h : ((shA SH x1).1 = 40) ∧ WI 291 [vR x1] M (fun y2 M1 => inR x2 ∧ (inR y2 ∧ (if y2 ≤ x2 then (Q (vI 1) M1) else (WI 132 [vR x0, vI x2] M1 (fun y6 M5 => ((shA SH x1).1 = 40) ∧ WI 292 [vR x1, vI x2] M5 (fun y8 M7 => inR y6 ∧ (inR y8 ∧ (if y6 = y8 then (WR 133 23 [some (vR x0), some (vR x1), some (vI (x2 + 1))] [] M7 Q) else (Q (vI 0) M7)))))))))) : WR 133 23 [some (vR x0), some (vR x1), some (vI x2)] [] M Q := by
  refine g_5 (a := 2) (b := 0) (nx := 24) (by decide +kernel) rfl ?_
  refine g_7 (a := 1) (b := 0) (nx := 25) (by decide +kernel) rfl ?_
  refine g_80 (a := 291) (b := 0) (nx := 28) (by decide +kernel) (r := x1) (As := []) (st' := [vI x2]) (z := 291) rfl rfl rfl (Nat.le_of_ble_eq_true rfl) h.1 (Nat.le_of_ble_eq_true rfl) rfl (c_I (by decide +kernel) h.2 (fun y2 M1 h => ?_))
  obtain ⟨r3, h⟩ := h
  obtain ⟨r4, h⟩ := h
  by_cases c12 : y2 ≤ x2
  · rw [if_pos c12] at h
    refine g_41t (a := 3) (b := 52) (nx := 31) (by decide +kernel) (by rw [wr_id r3, wr_id r4]; exact (cb_3 _ _).mpr c12) ?_
    refine g_1 (a := 1) (b := 0) (nx := 53) (by decide +kernel) ?_
    exact g_91z (b := 0) (nx := 54) (by decide +kernel) (by decide) h
  · rw [if_neg c12] at h
    refine g_41f (a := 3) (b := 52) (nx := 31) (by decide +kernel) (by rw [wr_id r3, wr_id r4]; exact fun hz => c12 ((cb_3 _ _).mp hz)) ?_
    refine g_7 (a := 0) (b := 0) (nx := 32) (by decide +kernel) rfl ?_
    refine g_5 (a := 2) (b := 0) (nx := 33) (by decide +kernel) rfl ?_
    refine g_80 (a := 132) (b := 1) (nx := 36) (by decide +kernel) (r := x0) (As := [vI x2]) (st' := []) (z := 132) rfl rfl rfl (Nat.le_of_ble_eq_true rfl) h0.2 (Nat.le_of_ble_eq_true rfl) rfl (c_I (by decide +kernel) h (fun y6 M5 h => ?_))
    refine g_7 (a := 1) (b := 0) (nx := 37) (by decide +kernel) rfl ?_
    refine g_5 (a := 2) (b := 0) (nx := 38) (by decide +kernel) rfl ?_
    refine g_80 (a := 292) (b := 1) (nx := 41) (by decide +kernel) (r := x1) (As := [vI x2]) (st' := [vI y6]) (z := 292) rfl rfl rfl (Nat.le_of_ble_eq_true rfl) h.1 (Nat.le_of_ble_eq_true rfl) rfl (c_I (by decide +kernel) h.2 (fun y8 M7 h => ?_))
    obtain ⟨r9, h⟩ := h
    obtain ⟨r10, h⟩ := h
    by_cases c11 : y6 = y8
    · rw [if_pos c11] at h
      refine g_41t (a := 0) (b := 46) (nx := 44) (by decide +kernel) (by rw [wr_id r9, wr_id r10]; exact (cb_0 _ _).mpr c11) ?_
      refine g_11 (a := 2) (b := 1) (nx := 49) (by decide +kernel) rfl rfl (ls' := [some (vR x0), some (vR x1), some (vI (x2 + 1))]) rfl ?_
      refine g_44 (a := 0) (b := 23) (nx := 52) (by decide +kernel) ?_
      exact h
    · rw [if_neg c11] at h
      refine g_41f (a := 0) (b := 46) (nx := 44) (by decide +kernel) (by rw [wr_id r9, wr_id r10]; exact fun hz => c11 ((cb_0 _ _).mp hz)) ?_
      refine g_1 (a := 0) (b := 0) (nx := 45) (by decide +kernel) ?_
      exact g_91z (b := 0) (nx := 46) (by decide +kernel) (by decide) h
-- 135 SyllableMaker$Words.clear()V
theorem t_135 {x0 : Int} {M : Mem} {Q : AV → Mem → Prop} (h0 : gO 10 x0) (h : Q (vI 0) (upM M x0 2 0)) : WC 135 [vR x0] M Q := by
  show WR 135 0 [some (vR x0)] [] M Q
  refine g_7 (a := 0) (b := 0) (nx := 1) (by decide +kernel) rfl ?_
  refine g_1 (a := 0) (b := 0) (nx := 2) (by decide +kernel) ?_
  refine g_53 (a := 10) (b := 2) (nx := 5) (by decide +kernel) h0 ?_
  exact g_90 (a := 0) (b := 0) (nx := 6) (by decide +kernel) h
-- 136 SyllableMaker$Words.rowAt(I)LSyllableMaker$Row;
theorem t_136 {x0 x1 : Int} {M : Mem} {Q : AV → Mem → Prop} (h0 : gO 10 x0) (h : inR x1 ∧ (if x1 < 0 then (Q (vR 0) M) else (inR (M x0 2) ∧ (if (M x0 2) ≤ x1 then (Q (vR 0) M) else (((M x0 0) ≠ -2000 ∧ 20 ≤ (shA SH (M x0 0)).1 ∧ (shA SH (M x0 0)).1 ≤ 41 ∧ (shA SH (M x0 0)).1 ≠ 40) ∧ inR ((shA SH (M x0 0)).2 : Int) ∧ (if ((shA SH (M x0 0)).2 : Int) ≤ x1 then (Q (vR 0) M) else ((gA 24 (M x0 0) x1 ∨ gA 25 (M x0 0) x1 ∨ gA 26 (M x0 0) x1) ∧ (0 ≤ (M (M x0 0) x1)) ∧ Q (vR (M (M x0 0) x1)) M))))))) : WC 136 [vR x0, vI x1] M Q := by
  show WR 136 0 [some (vR x0), some (vI x1)] [] M Q
  refine g_5 (a := 1) (b := 0) (nx := 1) (by decide +kernel) rfl ?_
  obtain ⟨r1, h⟩ := h
  by_cases c6 : x1 < 0
  · rw [if_pos c6] at h
    refine g_40t (a := 2) (b := 30) (nx := 4) (by decide +kernel) r1 (by exact (cb_2 _ _).mpr c6) ?_
    refine g_3 (a := 0) (b := 0) (nx := 31) (by decide +kernel) ?_
    exact g_93 (a := 0) (b := 0) (nx := 32) (by decide +kernel) (by decide) h
  · rw [if_neg c6] at h
    refine g_40f (a := 2) (b := 30) (nx := 4) (by decide +kernel) r1 (by exact fun hz => c6 ((cb_2 _ _).mp hz)) ?_
    refine g_5 (a := 1) (b := 0) (nx := 5) (by decide +kernel) rfl ?_
    refine g_7 (a := 0) (b := 0) (nx := 6) (by decide +kernel) rfl ?_
    refine g_50 (a := 10) (b := 2) (nx := 9) (by decide +kernel) h0 ?_
    obtain ⟨r2, h⟩ := h
    by_cases c5 : (M x0 2) ≤ x1
    · rw [if_pos c5] at h
      refine g_41t (a := 3) (b := 30) (nx := 12) (by decide +kernel) (by rw [wr_id r1, wr_id r2]; exact (cb_3 _ _).mpr c5) ?_
      refine g_3 (a := 0) (b := 0) (nx := 31) (by decide +kernel) ?_
      exact g_93 (a := 0) (b := 0) (nx := 32) (by decide +kernel) (by decide) h
    · rw [if_neg c5] at h
      refine g_41f (a := 3) (b := 30) (nx := 12) (by decide +kernel) (by rw [wr_id r1, wr_id r2]; exact fun hz => c5 ((cb_3 _ _).mp hz)) ?_
      refine g_5 (a := 1) (b := 0) (nx := 13) (by decide +kernel) rfl ?_
      refine g_7 (a := 0) (b := 0) (nx := 14) (by decide +kernel) rfl ?_
      refine g_52 (a := 10) (b := 0) (nx := 17) (by decide +kernel) h0 ?_
      refine g_60 (a := 0) (b := 0) (nx := 18) (by decide +kernel) h.1.1 h.1.2 ?_
      replace h := h.2
      obtain ⟨r3, h⟩ := h
      by_cases c4 : ((shA SH (M x0 0)).2 : Int) ≤ x1
      · rw [if_pos c4] at h
        refine g_41t (a := 3) (b := 30) (nx := 21) (by decide +kernel) (by rw [wr_id r1, wr_id r3]; exact (cb_3 _ _).mpr c4) ?_
        refine g_3 (a := 0) (b := 0) (nx := 31) (by decide +kernel) ?_
        exact g_93 (a := 0) (b := 0) (nx := 32) (by decide +kernel) (by decide) h
      · rw [if_neg c4] at h
        refine g_41f (a := 3) (b := 30) (nx := 21) (by decide +kernel) (by rw [wr_id r1, wr_id r3]; exact fun hz => c4 ((cb_3 _ _).mp hz)) ?_
        refine g_7 (a := 0) (b := 0) (nx := 22) (by decide +kernel) rfl ?_
        refine g_52 (a := 10) (b := 0) (nx := 25) (by decide +kernel) h0 ?_
        refine g_5 (a := 1) (b := 0) (nx := 26) (by decide +kernel) rfl ?_
        refine g_69 (a := 0) (b := 0) (nx := 27) (by decide +kernel) h.1 ?_
        replace h := h.2
        refine g_44 (a := 0) (b := 31) (nx := 30) (by decide +kernel) ?_
        exact g_93 (a := 0) (b := 0) (nx := 32) (by decide +kernel) h.1 h.2
-- 137 SyllableMaker$Words.add(LSyllableMaker$Row;)Z
theorem t_137 {x0 x1 : Int} {M : Mem} {Q : AV → Mem → Prop} (h0 : gO 10 x0) (h : WI 138 [vR x0, vI (M x0 2), vR x1] M (fun y2 M1 => (0 ≤ y2 ∧ y2 ≤ 1) ∧ Q (vI y2) M1)) : WC 137 [vR x0, vR x1] M Q := by
  show WR 137 0 [some (vR x0), some (vR x1)] [] M Q
  refine g_7 (a := 0) (b := 0) (nx := 1) (by decide +kernel) rfl ?_
  refine g_7 (a := 0) (b := 0) (nx := 2) (by decide +kernel) rfl ?_
  refine g_50 (a := 10) (b := 2) (nx := 5) (by decide +kernel) h0 ?_
  refine g_7 (a := 1) (b := 0) (nx := 6) (by decide +kernel) rfl ?_
  refine g_80 (a := 138) (b := 2) (nx := 9) (by decide +kernel) (r := x0) (As := [vI (M x0 2), vR x1]) (st' := []) (z := 138) rfl rfl rfl (Nat.le_of_ble_eq_true rfl) h0.2 (Nat.le_of_ble_eq_true rfl) rfl (c_I (by decide +kernel) h (fun y2 M1 h => ?_))
  exact g_91z (b := 0) (nx := 10) (by decide +kernel) h.1 h.2
-- 138 SyllableMaker$Words.putIn(ILSyllableMaker$Row;)Z
theorem t_138 {x0 x1 x2 : Int} {M : Mem} {Q : AV → Mem → Prop} (h0 : gO 10 x0) (h : x2 ≠ -1000 ∧ (if x2 = 0 then (Q (vI 0) M) else (((M x0 0) ≠ -2000 ∧ 20 ≤ (shA SH (M x0 0)).1 ∧ (shA SH (M x0 0)).1 ≤ 41 ∧ (shA SH (M x0 0)).1 ≠ 40) ∧ inR (M x0 2) ∧ (inR ((shA SH (M x0 0)).2 : Int) ∧ (if ((shA SH (M x0 0)).2 : Int) ≤ (M x0 2) then (Q (vI 0) M) else (inR x1 ∧ (if x1 < 0 then (Q (vI 0) M) else (if x1 ≤ (M x0 2) then ((gA 24 (M x0 0) (M x0 2) ∨ gA 25 (M x0 0) (M x0 2) ∨ gA 26 (M x0 0) (M x0 2)) ∧ WR 138 46 [some (vR x0), some (vI x1), some (vR x2), some (vR (M (M x0 0) (M x0 2))), some (vI (M x0 2))] [] M Q) else (Q (vI 0) M))))))))) : WC 138 [vR x0, vI x1, vR x2] M Q := by
  show WR 138 0 [some (vR x0), some (vI x1), some (vR x2), none, none] [] M Q
  refine g_7 (a := 2) (b := 0) (nx := 1) (by decide +kernel) rfl ?_
  obtain ⟨q0, h⟩ := h
  by_cases c7 : x2 = 0
  · rw [if_pos c7] at h
    refine g_42t (a := 0) (b := 28) (nx := 4) (by decide +kernel) c7 ?_
    refine g_1 (a := 0) (b := 0) (nx := 29) (by decide +kernel) ?_
    exact g_91z (b := 0) (nx := 30) (by decide +kernel) (by decide) h
  · rw [if_neg c7] at h
    refine g_42f (a := 0) (b := 28) (nx := 4) (by decide +kernel) q0 c7 ?_
    refine g_7 (a := 0) (b := 0) (nx := 5) (by decide +kernel) rfl ?_
    refine g_50 (a := 10) (b := 2) (nx := 8) (by decide +kernel) h0 ?_
    refine g_7 (a := 0) (b := 0) (nx := 9) (by decide +kernel) rfl ?_
    refine g_52 (a := 10) (b := 0) (nx := 12) (by decide +kernel) h0 ?_
    refine g_60 (a := 0) (b := 0) (nx := 13) (by decide +kernel) h.1.1 h.1.2 ?_
    replace h := h.2
    obtain ⟨r1, h⟩ := h
    obtain ⟨r2, h⟩ := h
    by_cases c6 : ((shA SH (M x0 0)).2 : Int) ≤ (M x0 2)
    · rw [if_pos c6] at h
      refine g_41t (a := 3) (b := 28) (nx := 16) (by decide +kernel) (by rw [wr_id r1, wr_id r2]; exact (cb_3 _ _).mpr c6) ?_
      refine g_1 (a := 0) (b := 0) (nx := 29) (by decide +kernel) ?_
      exact g_91z (b := 0) (nx := 30) (by decide +kernel) (by decide) h
    · rw [if_neg c6] at h
      refine g_41f (a := 3) (b := 28) (nx := 16) (by decide +kernel) (by rw [wr_id r1, wr_id r2]; exact fun hz => c6 ((cb_3 _ _).mp hz)) ?_
      refine g_5 (a := 1) (b := 0) (nx := 17) (by decide +kernel) rfl ?_
      obtain ⟨r3, h⟩ := h
      by_cases c5 : x1 < 0
      · rw [if_pos c5] at h
        refine g_40t (a := 2) (b := 28) (nx := 20) (by decide +kernel) r3 (by exact (cb_2 _ _).mpr c5) ?_
        refine g_1 (a := 0) (b := 0) (nx := 29) (by decide +kernel) ?_
        exact g_91z (b := 0) (nx := 30) (by decide +kernel) (by decide) h
      · rw [if_neg c5] at h
        refine g_40f (a := 2) (b := 28) (nx := 20) (by decide +kernel) r3 (by exact fun hz => c5 ((cb_2 _ _).mp hz)) ?_
        refine g_5 (a := 1) (b := 0) (nx := 21) (by decide +kernel) rfl ?_
        refine g_7 (a := 0) (b := 0) (nx := 22) (by decide +kernel) rfl ?_
        refine g_50 (a := 10) (b := 2) (nx := 25) (by decide +kernel) h0 ?_
        by_cases c4 : x1 ≤ (M x0 2)
        · rw [if_pos c4] at h
          refine g_41t (a := 5) (b := 30) (nx := 28) (by decide +kernel) (by rw [wr_id r3, wr_id r1]; exact (cb_5 _ _).mpr c4) ?_
          refine g_7 (a := 0) (b := 0) (nx := 31) (by decide +kernel) rfl ?_
          refine g_52 (a := 10) (b := 0) (nx := 34) (by decide +kernel) h0 ?_
          refine g_7 (a := 0) (b := 0) (nx := 35) (by decide +kernel) rfl ?_
          refine g_50 (a := 10) (b := 2) (nx := 38) (by decide +kernel) h0 ?_
          refine g_69 (a := 0) (b := 0) (nx := 39) (by decide +kernel) h.1 ?_
          replace h := h.2
          refine g_10 (a := 3) (b := 0) (nx := 40) (by decide +kernel) rfl (ls' := [some (vR x0), some (vI x1), some (vR x2), some (vR (M (M x0 0) (M x0 2))), none]) rfl ?_
          refine g_7 (a := 0) (b := 0) (nx := 41) (by decide +kernel) rfl ?_
          refine g_50 (a := 10) (b := 2) (nx := 44) (by decide +kernel) h0 ?_
          refine g_8 (a := 4) (b := 0) (nx := 46) (by decide +kernel) rfl (ls' := [some (vR x0), some (vI x1), some (vR x2), some (vR (M (M x0 0) (M x0 2))), some (vI (M x0 2))]) rfl ?_
          exact h
        · rw [if_neg c4] at h
          refine g_41f (a := 5) (b := 30) (nx := 28) (by decide +kernel) (by rw [wr_id r3, wr_id r1]; exact fun hz => c4 ((cb_5 _ _).mp hz)) ?_
          refine g_1 (a := 0) (b := 0) (nx := 29) (by decide +kernel) ?_
          exact g_91z (b := 0) (nx := 30) (by decide +kernel) (by decide) h
theorem t_138_46 {x0 x1 x2 x3 x4 : Int} {M : Mem} {Q : AV → Mem → Prop} (h0 : gO 10 x0) (h : inR x4 ∧ (inR x1 ∧ (if x4 ≤ x1 then (((shA SH x3).1 = 5) ∧ WV 81 [vR x3, vR x2] M (fun M3 => (gA 24 (M3 x0 0) x1 ∧ gO 5 x3) ∧ Q (vI 1) (upM (upM M3 (M3 x0 0) x1 x3) x0 2 (((upM M3 (M3 x0 0) x1 x3) x0 2) + 1)))) else ((gA 24 (M x0 0) (x4 - 1) ∨ gA 25 (M x0 0) (x4 - 1) ∨ gA 26 (M x0 0) (x4 - 1)) ∧ (gA 24 (M x0 0) x4 ∧ gO 5 (M (M x0 0) (x4 - 1))) ∧ WR 138 46 [some (vR x0), some (vI x1), some (vR x2), some (vR x3), some (vI (x4 + (-1)))] [] (upM M (M x0 0) x4 (M (M x0 0) (x4 - 1))) Q)))) : WR 138 46 [some (vR x0), some (vI x1), some (vR x2), some (vR x3), some (vI x4)] [] M Q := by
  refine g_5 (a := 4) (b := 0) (nx := 48) (by decide +kernel) rfl ?_
  refine g_5 (a := 1) (b := 0) (nx := 49) (by decide +kernel) rfl ?_
  obtain ⟨r1, h⟩ := h
  obtain ⟨r2, h⟩ := h
  by_cases c5 : x4 ≤ x1
  · rw [if_pos c5] at h
    refine g_41t (a := 5) (b := 74) (nx := 52) (by decide +kernel) (by rw [wr_id r1, wr_id r2]; exact (cb_5 _ _).mpr c5) ?_
    refine g_7 (a := 3) (b := 0) (nx := 75) (by decide +kernel) rfl ?_
    refine g_7 (a := 2) (b := 0) (nx := 76) (by decide +kernel) rfl ?_
    refine g_80 (a := 81) (b := 1) (nx := 79) (by decide +kernel) (r := x3) (As := [vR x2]) (st' := []) (z := 81) rfl rfl rfl (Nat.le_of_ble_eq_true rfl) h.1 (Nat.le_of_ble_eq_true rfl) rfl (c_V (by decide +kernel) h.2 (fun M3 h => ?_))
    refine g_7 (a := 0) (b := 0) (nx := 80) (by decide +kernel) rfl ?_
    refine g_52 (a := 10) (b := 0) (nx := 83) (by decide +kernel) h0 ?_
    refine g_5 (a := 1) (b := 0) (nx := 84) (by decide +kernel) rfl ?_
    refine g_7 (a := 3) (b := 0) (nx := 85) (by decide +kernel) rfl ?_
    refine g_70 (a := 0) (b := 0) (nx := 86) (by decide +kernel) h.1.1 h.1.2 ?_
    replace h := h.2
    refine g_7 (a := 0) (b := 0) (nx := 87) (by decide +kernel) rfl ?_
    refine g_13 (a := 0) (b := 0) (nx := 88) (by decide +kernel) rfl ?_
    refine g_50 (a := 10) (b := 2) (nx := 91) (by decide +kernel) h0 ?_
    refine g_1 (a := 1) (b := 0) (nx := 92) (by decide +kernel) ?_
    refine g_15 (a := 0) (b := 0) (nx := 93) (by decide +kernel) ?_
    refine g_53 (a := 10) (b := 2) (nx := 96) (by decide +kernel) h0 ?_
    refine g_1 (a := 1) (b := 0) (nx := 97) (by decide +kernel) ?_
    exact g_91z (b := 0) (nx := 98) (by decide +kernel) (by decide) h
  · rw [if_neg c5] at h
    refine g_41f (a := 5) (b := 74) (nx := 52) (by decide +kernel) (by rw [wr_id r1, wr_id r2]; exact fun hz => c5 ((cb_5 _ _).mp hz)) ?_
    refine g_7 (a := 0) (b := 0) (nx := 53) (by decide +kernel) rfl ?_
    refine g_52 (a := 10) (b := 0) (nx := 56) (by decide +kernel) h0 ?_
    refine g_5 (a := 4) (b := 0) (nx := 58) (by decide +kernel) rfl ?_
    refine g_7 (a := 0) (b := 0) (nx := 59) (by decide +kernel) rfl ?_
    refine g_52 (a := 10) (b := 0) (nx := 62) (by decide +kernel) h0 ?_
    refine g_5 (a := 4) (b := 0) (nx := 64) (by decide +kernel) rfl ?_
    refine g_1 (a := 1) (b := 0) (nx := 65) (by decide +kernel) ?_
    refine g_16 (a := 0) (b := 0) (nx := 66) (by decide +kernel) ?_
    refine g_69 (a := 0) (b := 0) (nx := 67) (by decide +kernel) h.1 ?_
    replace h := h.2
    refine g_70 (a := 0) (b := 0) (nx := 68) (by decide +kernel) h.1.1 h.1.2 ?_
    replace h := h.2
    refine g_11 (a := 4) (b := (-1)) (nx := 71) (by decide +kernel) rfl rfl (ls' := [some (vR x0), some (vI x1), some (vR x2), some (vR x3), some (vI (x4 + (-1)))]) rfl ?_
    refine g_44 (a := 0) (b := 46) (nx := 74) (by decide +kernel) ?_
    exact h
-- 139 SyllableMaker$Words.takeOut(I)V
theorem t_139 {x0 x1 : Int} {M : Mem} {Q : AV → Mem → Prop} (h0 : gO 10 x0) (h : inR x1 ∧ (if x1 < 0 then (Q (vI 0) M) else (inR (M x0 2) ∧ (if (M x0 2) ≤ x1 then (Q (vI 0) M) else (((M x0 0) ≠ -2000 ∧ 20 ≤ (shA SH (M x0 0)).1 ∧ (shA SH (M x0 0)).1 ≤ 41 ∧ (shA SH (M x0 0)).1 ≠ 40) ∧ inR ((shA SH (M x0 0)).2 : Int) ∧ (if (M x0 2) ≤ ((shA SH (M x0 0)).2 : Int) then ((gA 24 (M x0 0) x1 ∨ gA 25 (M x0 0) x1 ∨ gA 26 (M x0 0) x1) ∧ WR 139 34 [some (vR x0), some (vI x1), some (vR (M (M x0 0) x1)), some (vI x1)] [] M Q) else (Q (vI 0) M))))))) : WC 139 [vR x0, vI x1] M Q := by
  show WR 139 0 [some (vR x0), some (vI x1), none, none] [] M Q
  refine g_5 (a := 1) (b := 0) (nx := 1) (by decide +kernel) rfl ?_
  obtain ⟨r1, h⟩ := h
  by_cases c6 : x1 < 0
  · rw [if_pos c6] at h
    refine g_40t (a := 2) (b := 24) (nx := 4) (by decide +kernel) r1 (by exact (cb_2 _ _).mpr c6) ?_
    exact g_90 (a := 0) (b := 0) (nx := 25) (by decide +kernel) h
  · rw [if_neg c6] at h
    refine g_40f (a := 2) (b := 24) (nx := 4) (by decide +kernel) r1 (by exact fun hz => c6 ((cb_2 _ _).mp hz)) ?_
    refine g_5 (a := 1) (b := 0) (nx := 5) (by decide +kernel) rfl ?_
    refine g_7 (a := 0) (b := 0) (nx := 6) (by decide +kernel) rfl ?_
    refine g_50 (a := 10) (b := 2) (nx := 9) (by decide +kernel) h0 ?_
    obtain ⟨r2, h⟩ := h
    by_cases c5 : (M x0 2) ≤ x1
    · rw [if_pos c5] at h
      refine g_41t (a := 3) (b := 24) (nx := 12) (by decide +kernel) (by rw [wr_id r1, wr_id r2]; exact (cb_3 _ _).mpr c5) ?_
      exact g_90 (a := 0) (b := 0) (nx := 25) (by decide +kernel) h
    · rw [if_neg c5] at h
      refine g_41f (a := 3) (b := 24) (nx := 12) (by decide +kernel) (by rw [wr_id r1, wr_id r2]; exact fun hz => c5 ((cb_3 _ _).mp hz)) ?_
      refine g_7 (a := 0) (b := 0) (nx := 13) (by decide +kernel) rfl ?_
      refine g_50 (a := 10) (b := 2) (nx := 16) (by decide +kernel) h0 ?_
      refine g_7 (a := 0) (b := 0) (nx := 17) (by decide +kernel) rfl ?_
      refine g_52 (a := 10) (b := 0) (nx := 20) (by decide +kernel) h0 ?_
      refine g_60 (a := 0) (b := 0) (nx := 21) (by decide +kernel) h.1.1 h.1.2 ?_
      replace h := h.2
      obtain ⟨r3, h⟩ := h
      by_cases c4 : (M x0 2) ≤ ((shA SH (M x0 0)).2 : Int)
      · rw [if_pos c4] at h
        refine g_41t (a := 5) (b := 25) (nx := 24) (by decide +kernel) (by rw [wr_id r2, wr_id r3]; exact (cb_5 _ _).mpr c4) ?_
        refine g_7 (a := 0) (b := 0) (nx := 26) (by decide +kernel) rfl ?_
        refine g_52 (a := 10) (b := 0) (nx := 29) (by decide +kernel) h0 ?_
        refine g_5 (a := 1) (b := 0) (nx := 30) (by decide +kernel) rfl ?_
        refine g_69 (a := 0) (b := 0) (nx := 31) (by decide +kernel) h.1 ?_
        replace h := h.2
        refine g_10 (a := 2) (b := 0) (nx := 32) (by decide +kernel) rfl (ls' := [some (vR x0), some (vI x1), some (vR (M (M x0 0) x1)), none]) rfl ?_
        refine g_5 (a := 1) (b := 0) (nx := 33) (by decide +kernel) rfl ?_
        refine g_8 (a := 3) (b := 0) (nx := 34) (by decide +kernel) rfl (ls' := [some (vR x0), some (vI x1), some (vR (M (M x0 0) x1)), some (vI x1)]) rfl ?_
        exact h
      · rw [if_neg c4] at h
        refine g_41f (a := 5) (b := 25) (nx := 24) (by decide +kernel) (by rw [wr_id r2, wr_id r3]; exact fun hz => c4 ((cb_5 _ _).mp hz)) ?_
        exact g_90 (a := 0) (b := 0) (nx := 25) (by decide +kernel) h
theorem t_139_34 {x0 x1 x2 x3 : Int} {M : Mem} {Q : AV → Mem → Prop} (h0 : gO 10 x0) (h : inR x3 ∧ (inR ((M x0 2) - 1) ∧ (if ((M x0 2) - 1) ≤ x3 then ((gA 24 ((upM M x0 2 ((M x0 2) - 1)) x0 0) ((upM M x0 2 ((M x0 2) - 1)) x0 2) ∧ gO 5 x2) ∧ Q (vI 0) (upM (upM M x0 2 ((M x0 2) - 1)) ((upM M x0 2 ((M x0 2) - 1)) x0 0) ((upM M x0 2 ((M x0 2) - 1)) x0 2) x2)) else ((gA 24 (M x0 0) (x3 + 1) ∨ gA 25 (M x0 0) (x3 + 1) ∨ gA 26 (M x0 0) (x3 + 1)) ∧ (gA 24 (M x0 0) x3 ∧ gO 5 (M (M x0 0) (x3 + 1))) ∧ WR 139 34 [some (vR x0), some (vI x1), some (vR x2), some (vI (x3 + 1))] [] (upM M (M x0 0) x3 (M (M x0 0) (x3 + 1))) Q)))) : WR 139 34 [some (vR x0), some (vI x1), some (vR x2), some (vI x3)] [] M Q := by
  refine g_5 (a := 3) (b := 0) (nx := 35) (by decide +kernel) rfl ?_
  refine g_7 (a := 0) (b := 0) (nx := 36) (by decide +kernel) rfl ?_
  refine g_50 (a := 10) (b := 2) (nx := 39) (by decide +kernel) h0 ?_
  refine g_1 (a := 1) (b := 0) (nx := 40) (by decide +kernel) ?_
  refine g_16 (a := 0) (b := 0) (nx := 41) (by decide +kernel) ?_
  obtain ⟨r1, h⟩ := h
  obtain ⟨r2, h⟩ := h
  by_cases c3 : ((M x0 2) - 1) ≤ x3
  · rw [if_pos c3] at h
    refine g_41t (a := 3) (b := 64) (nx := 44) (by decide +kernel) (by rw [wr_id r1, wr_id r2]; exact (cb_3 _ _).mpr c3) ?_
    refine g_7 (a := 0) (b := 0) (nx := 65) (by decide +kernel) rfl ?_
    refine g_13 (a := 0) (b := 0) (nx := 66) (by decide +kernel) rfl ?_
    refine g_50 (a := 10) (b := 2) (nx := 69) (by decide +kernel) h0 ?_
    refine g_1 (a := 1) (b := 0) (nx := 70) (by decide +kernel) ?_
    refine g_16 (a := 0) (b := 0) (nx := 71) (by decide +kernel) ?_
    refine g_53 (a := 10) (b := 2) (nx := 74) (by decide +kernel) h0 ?_
    refine g_7 (a := 0) (b := 0) (nx := 75) (by decide +kernel) rfl ?_
    refine g_52 (a := 10) (b := 0) (nx := 78) (by decide +kernel) h0 ?_
    refine g_7 (a := 0) (b := 0) (nx := 79) (by decide +kernel) rfl ?_
    refine g_50 (a := 10) (b := 2) (nx := 82) (by decide +kernel) h0 ?_
    refine g_7 (a := 2) (b := 0) (nx := 83) (by decide +kernel) rfl ?_
    refine g_70 (a := 0) (b := 0) (nx := 84) (by decide +kernel) h.1.1 h.1.2 ?_
    replace h := h.2
    exact g_90 (a := 0) (b := 0) (nx := 85) (by decide +kernel) h
  · rw [if_neg c3] at h
    refine g_41f (a := 3) (b := 64) (nx := 44) (by decide +kernel) (by rw [wr_id r1, wr_id r2]; exact fun hz => c3 ((cb_3 _ _).mp hz)) ?_
    refine g_7 (a := 0) (b := 0) (nx := 45) (by decide +kernel) rfl ?_
    refine g_52 (a := 10) (b := 0) (nx := 48) (by decide +kernel) h0 ?_
    refine g_5 (a := 3) (b := 0) (nx := 49) (by decide +kernel) rfl ?_
    refine g_7 (a := 0) (b := 0) (nx := 50) (by decide +kernel) rfl ?_
    refine g_52 (a := 10) (b := 0) (nx := 53) (by decide +kernel) h0 ?_
    refine g_5 (a := 3) (b := 0) (nx := 54) (by decide +kernel) rfl ?_
    refine g_1 (a := 1) (b := 0) (nx := 55) (by decide +kernel) ?_
    refine g_15 (a := 0) (b := 0) (nx := 56) (by decide +kernel) ?_
    refine g_69 (a := 0) (b := 0) (nx := 57) (by decide +kernel) h.1 ?_
    replace h := h.2
    refine g_70 (a := 0) (b := 0) (nx := 58) (by decide +kernel) h.1.1 h.1.2 ?_
    replace h := h.2
    refine g_11 (a := 3) (b := 1) (nx := 61) (by decide +kernel) rfl rfl (ls' := [some (vR x0), some (vI x1), some (vR x2), some (vI (x3 + 1))]) rfl ?_
    refine g_44 (a := 0) (b := 34) (nx := 64) (by decide +kernel) ?_
    exact h
-- 140 SyllableMaker$Words.hasLead(J)Z
theorem t_140 {x0 x1 : Int} {M : Mem} {Q : AV → Mem → Prop} (h0 : gO 10 x0) (h : WR 140 2 [some (vR x0), some (vL x1), none, some (vI 0)] [] M Q) : WC 140 [vR x0, vL x1] M Q := by
  show WR 140 0 [some (vR x0), some (vL x1), none, none] [] M Q
  refine g_1 (a := 0) (b := 0) (nx := 1) (by decide +kernel) ?_
  refine g_8 (a := 3) (b := 0) (nx := 2) (by decide +kernel) rfl (ls' := [some (vR x0), some (vL x1), none, some (vI 0)]) rfl ?_
  exact h
theorem t_140_2 {x0 x1 x3 : Int} {M : Mem} {Q : AV → Mem → Prop} (h0 : gO 10 x0) (h : inR x3 ∧ (inR (M x0 2) ∧ (if (M x0 2) ≤ x3 then (Q (vI 0) M) else (((M x0 0) ≠ -2000 ∧ 20 ≤ (shA SH (M x0 0)).1 ∧ (shA SH (M x0 0)).1 ≤ 41 ∧ (shA SH (M x0 0)).1 ≠ 40) ∧ inR ((shA SH (M x0 0)).2 : Int) ∧ (if ((shA SH (M x0 0)).2 : Int) ≤ x3 then (Q (vI 0) M) else ((gA 24 (M x0 0) x3 ∨ gA 25 (M x0 0) x3 ∨ gA 26 (M x0 0) x3) ∧ (gO 5 (M (M x0 0) x3)) ∧ (in64 (M (M (M x0 0) x3) 2) ∧ in64 x1) ∧ inR (if (M (M (M x0 0) x3) 2) < x1 then -1 else if (M (M (M x0 0) x3) 2) = x1 then 0 else 1) ∧ (if (if (M (M (M x0 0) x3) 2) < x1 then -1 else if (M (M (M x0 0) x3) 2) = x1 then 0 else 1) = 0 then (Q (vI 1) M) else (WR 140 2 [some (vR x0), some (vL x1), none, some (vI (x3 + 1))] [] M Q)))))))) : WR 140 2 [some (vR x0), some (vL x1), none, some (vI x3)] [] M Q := by
  refine g_5 (a := 3) (b := 0) (nx := 3) (by decide +kernel) rfl ?_
  refine g_7 (a := 0) (b := 0) (nx := 4) (by decide +kernel) rfl ?_
  refine g_50 (a := 10) (b := 2) (nx := 7) (by decide +kernel) h0 ?_
  obtain ⟨r1, h⟩ := h
  obtain ⟨r2, h⟩ := h
  by_cases c7 : (M x0 2) ≤ x3
  · rw [if_pos c7] at h
    refine g_41t (a := 3) (b := 41) (nx := 10) (by decide +kernel) (by rw [wr_id r1, wr_id r2]; exact (cb_3 _ _).mpr c7) ?_
    refine g_1 (a := 0) (b := 0) (nx := 42) (by decide +kernel) ?_
    exact g_91z (b := 0) (nx := 43) (by decide +kernel) (by decide) h
  · rw [if_neg c7] at h
    refine g_41f (a := 3) (b := 41) (nx := 10) (by decide +kernel) (by rw [wr_id r1, wr_id r2]; exact fun hz => c7 ((cb_3 _ _).mp hz)) ?_
    refine g_5 (a := 3) (b := 0) (nx := 11) (by decide +kernel) rfl ?_
    refine g_7 (a := 0) (b := 0) (nx := 12) (by decide +kernel) rfl ?_
    refine g_52 (a := 10) (b := 0) (nx := 15) (by decide +kernel) h0 ?_
    refine g_60 (a := 0) (b := 0) (nx := 16) (by decide +kernel) h.1.1 h.1.2 ?_
    replace h := h.2
    obtain ⟨r3, h⟩ := h
    by_cases c6 : ((shA SH (M x0 0)).2 : Int) ≤ x3
    · rw [if_pos c6] at h
      refine g_41t (a := 3) (b := 41) (nx := 19) (by decide +kernel) (by rw [wr_id r1, wr_id r3]; exact (cb_3 _ _).mpr c6) ?_
      refine g_1 (a := 0) (b := 0) (nx := 42) (by decide +kernel) ?_
      exact g_91z (b := 0) (nx := 43) (by decide +kernel) (by decide) h
    · rw [if_neg c6] at h
      refine g_41f (a := 3) (b := 41) (nx := 19) (by decide +kernel) (by rw [wr_id r1, wr_id r3]; exact fun hz => c6 ((cb_3 _ _).mp hz)) ?_
      refine g_7 (a := 0) (b := 0) (nx := 20) (by decide +kernel) rfl ?_
      refine g_52 (a := 10) (b := 0) (nx := 23) (by decide +kernel) h0 ?_
      refine g_5 (a := 3) (b := 0) (nx := 24) (by decide +kernel) rfl ?_
      refine g_69 (a := 0) (b := 0) (nx := 25) (by decide +kernel) h.1 ?_
      replace h := h.2
      refine g_51 (a := 5) (b := 2) (nx := 28) (by decide +kernel) h.1 ?_
      replace h := h.2
      refine g_6 (a := 1) (b := 0) (nx := 29) (by decide +kernel) rfl ?_
      refine g_34 (a := 0) (b := 0) (nx := 30) (by decide +kernel) h.1 ?_
      replace h := h.2
      obtain ⟨r4, h⟩ := h
      by_cases c5 : (if (M (M (M x0 0) x3) 2) < x1 then -1 else if (M (M (M x0 0) x3) 2) = x1 then 0 else 1) = 0
      · rw [if_pos c5] at h
        refine g_40f (a := 1) (b := 35) (nx := 33) (by decide +kernel) r4 (by exact fun hz => ((cb_1 _ _).mp hz) c5) ?_
        refine g_1 (a := 1) (b := 0) (nx := 34) (by decide +kernel) ?_
        exact g_91z (b := 0) (nx := 35) (by decide +kernel) (by decide) h
      · rw [if_neg c5] at h
        refine g_40t (a := 1) (b := 35) (nx := 33) (by decide +kernel) r4 (by exact (cb_1 _ _).mpr c5) ?_
        refine g_11 (a := 3) (b := 1) (nx := 38) (by decide +kernel) rfl rfl (ls' := [some (vR x0), some (vL x1), none, some (vI (x3 + 1))]) rfl ?_
        refine g_44 (a := 0) (b := 2) (nx := 41) (by decide +kernel) ?_
        exact h
-- 141 SyllableMaker$Words.rowsThatMake(LSyllableMaker$Row;)I
theorem t_141 {x0 x1 : Int} {M : Mem} {Q : AV → Mem → Prop} (h0 : gO 10 x0) (h : (gA 20 (M x0 1) 0) ∧ WR 141 9 [some (vR x0), some (vR x1), some (vI 1), none] [] (upM M (M x0 1) 0 1) Q) : WC 141 [vR x0, vR x1] M Q := by
  show WR 141 0 [some (vR x0), some (vR x1), none, none] [] M Q
  refine g_7 (a := 0) (b := 0) (nx := 1) (by decide +kernel) rfl ?_
  refine g_52 (a := 10) (b := 1) (nx := 4) (by decide +kernel) h0 ?_
  refine g_1 (a := 0) (b := 0) (nx := 5) (by decide +kernel) ?_
  refine g_1 (a := 1) (b := 0) (nx := 6) (by decide +kernel) ?_
  refine g_62 (a := 0) (b := 0) (nx := 7) (by decide +kernel) h.1 ?_
  replace h := h.2
  refine g_1 (a := 1) (b := 0) (nx := 8) (by decide +kernel) ?_
  refine g_8 (a := 2) (b := 0) (nx := 9) (by decide +kernel) rfl (ls' := [some (vR x0), some (vR x1), some (vI 1), none]) rfl ?_
  exact h
theorem t_141_9 {x0 x1 x2 : Int} {l3 : Option AV} {M : Mem} {Q : AV → Mem → Prop} (h0 : gO 10 x0) (h : (gO 5 x1) ∧ inR x2 ∧ (inR (M x1 1) ∧ (if (M x1 1) < x2 then ((gO 5 x1) ∧ ((M x0 1) ≠ -2000 ∧ 20 ≤ (shA SH (M x0 1)).1 ∧ (shA SH (M x0 1)).1 ≤ 41 ∧ (shA SH (M x0 1)).1 ≠ 40) ∧ inR ((shA SH (M x0 1)).2 : Int) ∧ (if ((shA SH (M x0 1)).2 : Int) ≤ (M x1 1) then (Q (vI 0) M) else ((gO 5 x1) ∧ (gA 20 (M x0 1) (M x1 1)) ∧ Q (vI (M (M x0 1) (M x1 1))) M))) else (((M x0 1) ≠ -2000 ∧ 20 ≤ (shA SH (M x0 1)).1 ∧ (shA SH (M x0 1)).1 ≤ 41 ∧ (shA SH (M x0 1)).1 ≠ 40) ∧ inR ((shA SH (M x0 1)).2 : Int) ∧ (if ((shA SH (M x0 1)).2 : Int) ≤ x2 then ((gO 5 x1) ∧ ((M x0 1) ≠ -2000 ∧ 20 ≤ (shA SH (M x0 1)).1 ∧ (shA SH (M x0 1)).1 ≤ 41 ∧ (shA SH (M x0 1)).1 ≠ 40) ∧ if ((shA SH (M x0 1)).2 : Int) ≤ (M x1 1) then (Q (vI 0) M) else ((gO 5 x1) ∧ (gA 20 (M x0 1) (M x1 1)) ∧ Q (vI (M (M x0 1) (M x1 1))) M)) else ((gA 20 (M x0 1) x2) ∧ WR 141 35 [some (vR x0), some (vR x1), some (vI x2), some (vI 0)] [] (upM M (M x0 1) x2 0) Q)))))) : WR 141 9 [some (vR x0), some (vR x1), some (vI x2), l3] [] M Q := by
  refine g_5 (a := 2) (b := 0) (nx := 10) (by decide +kernel) rfl ?_
  refine g_7 (a := 1) (b := 0) (nx := 11) (by decide +kernel) rfl ?_
  refine g_50 (a := 5) (b := 1) (nx := 14) (by decide +kernel) h.1 ?_
  replace h := h.2
  obtain ⟨r1, h⟩ := h
  obtain ⟨r2, h⟩ := h
  by_cases c8 : (M x1 1) < x2
  · rw [if_pos c8] at h
    refine g_41t (a := 4) (b := 91) (nx := 17) (by decide +kernel) (by rw [wr_id r1, wr_id r2]; exact (cb_4 _ _).mpr c8) ?_
    refine g_7 (a := 1) (b := 0) (nx := 92) (by decide +kernel) rfl ?_
    refine g_50 (a := 5) (b := 1) (nx := 95) (by decide +kernel) h.1 ?_
    replace h := h.2
    refine g_7 (a := 0) (b := 0) (nx := 96) (by decide +kernel) rfl ?_
    refine g_52 (a := 10) (b := 1) (nx := 99) (by decide +kernel) h0 ?_
    refine g_60 (a := 0) (b := 0) (nx := 100) (by decide +kernel) h.1.1 h.1.2 ?_
    replace h := h.2
    obtain ⟨r3, h⟩ := h
    by_cases c4 : ((shA SH (M x0 1)).2 : Int) ≤ (M x1 1)
    · rw [if_pos c4] at h
      refine g_41t (a := 3) (b := 115) (nx := 103) (by decide +kernel) (by rw [wr_id r2, wr_id r3]; exact (cb_3 _ _).mpr c4) ?_
      refine g_1 (a := 0) (b := 0) (nx := 116) (by decide +kernel) ?_
      exact g_91 (b := 0) (nx := 117) (by decide +kernel) h
    · rw [if_neg c4] at h
      refine g_41f (a := 3) (b := 115) (nx := 103) (by decide +kernel) (by rw [wr_id r2, wr_id r3]; exact fun hz => c4 ((cb_3 _ _).mp hz)) ?_
      refine g_7 (a := 0) (b := 0) (nx := 104) (by decide +kernel) rfl ?_
      refine g_52 (a := 10) (b := 1) (nx := 107) (by decide +kernel) h0 ?_
      refine g_7 (a := 1) (b := 0) (nx := 108) (by decide +kernel) rfl ?_
      refine g_50 (a := 5) (b := 1) (nx := 111) (by decide +kernel) h.1 ?_
      replace h := h.2
      refine g_61 (a := 0) (b := 0) (nx := 112) (by decide +kernel) h.1 ?_
      replace h := h.2
      refine g_44 (a := 0) (b := 116) (nx := 115) (by decide +kernel) ?_
      exact g_91 (b := 0) (nx := 117) (by decide +kernel) h
  · rw [if_neg c8] at h
    refine g_41f (a := 4) (b := 91) (nx := 17) (by decide +kernel) (by rw [wr_id r1, wr_id r2]; exact fun hz => c8 ((cb_4 _ _).mp hz)) ?_
    refine g_5 (a := 2) (b := 0) (nx := 18) (by decide +kernel) rfl ?_
    refine g_7 (a := 0) (b := 0) (nx := 19) (by decide +kernel) rfl ?_
    refine g_52 (a := 10) (b := 1) (nx := 22) (by decide +kernel) h0 ?_
    refine g_60 (a := 0) (b := 0) (nx := 23) (by decide +kernel) h.1.1 h.1.2 ?_
    replace h := h.2
    obtain ⟨r5, h⟩ := h
    by_cases c7 : ((shA SH (M x0 1)).2 : Int) ≤ x2
    · rw [if_pos c7] at h
      refine g_41t (a := 3) (b := 91) (nx := 26) (by decide +kernel) (by rw [wr_id r1, wr_id r5]; exact (cb_3 _ _).mpr c7) ?_
      refine g_7 (a := 1) (b := 0) (nx := 92) (by decide +kernel) rfl ?_
      refine g_50 (a := 5) (b := 1) (nx := 95) (by decide +kernel) h.1 ?_
      replace h := h.2
      refine g_7 (a := 0) (b := 0) (nx := 96) (by decide +kernel) rfl ?_
      refine g_52 (a := 10) (b := 1) (nx := 99) (by decide +kernel) h0 ?_
      refine g_60 (a := 0) (b := 0) (nx := 100) (by decide +kernel) h.1.1 h.1.2 ?_
      replace h := h.2
      by_cases c6 : ((shA SH (M x0 1)).2 : Int) ≤ (M x1 1)
      · rw [if_pos c6] at h
        refine g_41t (a := 3) (b := 115) (nx := 103) (by decide +kernel) (by rw [wr_id r2, wr_id r5]; exact (cb_3 _ _).mpr c6) ?_
        refine g_1 (a := 0) (b := 0) (nx := 116) (by decide +kernel) ?_
        exact g_91 (b := 0) (nx := 117) (by decide +kernel) h
      · rw [if_neg c6] at h
        refine g_41f (a := 3) (b := 115) (nx := 103) (by decide +kernel) (by rw [wr_id r2, wr_id r5]; exact fun hz => c6 ((cb_3 _ _).mp hz)) ?_
        refine g_7 (a := 0) (b := 0) (nx := 104) (by decide +kernel) rfl ?_
        refine g_52 (a := 10) (b := 1) (nx := 107) (by decide +kernel) h0 ?_
        refine g_7 (a := 1) (b := 0) (nx := 108) (by decide +kernel) rfl ?_
        refine g_50 (a := 5) (b := 1) (nx := 111) (by decide +kernel) h.1 ?_
        replace h := h.2
        refine g_61 (a := 0) (b := 0) (nx := 112) (by decide +kernel) h.1 ?_
        replace h := h.2
        refine g_44 (a := 0) (b := 116) (nx := 115) (by decide +kernel) ?_
        exact g_91 (b := 0) (nx := 117) (by decide +kernel) h
    · rw [if_neg c7] at h
      refine g_41f (a := 3) (b := 91) (nx := 26) (by decide +kernel) (by rw [wr_id r1, wr_id r5]; exact fun hz => c7 ((cb_3 _ _).mp hz)) ?_
      refine g_7 (a := 0) (b := 0) (nx := 27) (by decide +kernel) rfl ?_
      refine g_52 (a := 10) (b := 1) (nx := 30) (by decide +kernel) h0 ?_
      refine g_5 (a := 2) (b := 0) (nx := 31) (by decide +kernel) rfl ?_
      refine g_1 (a := 0) (b := 0) (nx := 32) (by decide +kernel) ?_
      refine g_62 (a := 0) (b := 0) (nx := 33) (by decide +kernel) h.1 ?_
      replace h := h.2
      refine g_1 (a := 0) (b := 0) (nx := 34) (by decide +kernel) ?_
      refine g_8 (a := 3) (b := 0) (nx := 35) (by decide +kernel) rfl (ls' := [some (vR x0), some (vR x1), some (vI x2), some (vI 0)]) rfl ?_
      exact h
theorem t_141_35 {x0 x1 x2 x3 : Int} {M : Mem} {Q : AV → Mem → Prop} (h0 : gO 10 x0) (h : inR x3 ∧ (inR x2 ∧ (if x2 ≤ x3 then (WR 141 9 [some (vR x0), some (vR x1), some (vI (x2 + 1)), some (vI x3)] [] M Q) else ((gA 20 (M x0 1) x3) ∧ inR (M (M x0 1) x3) ∧ (if (M (M x0 1) x3) ≤ 0 then (WR 141 35 [some (vR x0), some (vR x1), some (vI x2), some (vI (x3 + 1))] [] M Q) else (((shA SH x1).1 = 5) ∧ WL 83 [vR x1, vI x3, vI (x2 - x3)] M (fun y5 M4 => WI 142 [vR x0, vL y5] M4 (fun y7 M6 => inR y7 ∧ (if y7 = 0 then (WR 141 35 [some (vR x0), some (vR x1), some (vI x2), some (vI (x3 + 1))] [] M6 Q) else ((gA 20 (M6 x0 1) x2) ∧ (gA 20 (M6 x0 1) x3) ∧ (gA 20 (M6 x0 1) x2) ∧ WR 141 35 [some (vR x0), some (vR x1), some (vI x2), some (vI (x3 + 1))] [] (upM M6 (M6 x0 1) x2 ((M6 (M6 x0 1) x2) + (M6 (M6 x0 1) x3))) Q)))))))))) : WR 141 35 [some (vR x0), some (vR x1), some (vI x2), some (vI x3)] [] M Q := by
  refine g_5 (a := 3) (b := 0) (nx := 36) (by decide +kernel) rfl ?_
  refine g_5 (a := 2) (b := 0) (nx := 37) (by decide +kernel) rfl ?_
  obtain ⟨r1, h⟩ := h
  obtain ⟨r2, h⟩ := h
  by_cases c11 : x2 ≤ x3
  · rw [if_pos c11] at h
    refine g_41t (a := 3) (b := 85) (nx := 40) (by decide +kernel) (by rw [wr_id r1, wr_id r2]; exact (cb_3 _ _).mpr c11) ?_
    refine g_11 (a := 2) (b := 1) (nx := 88) (by decide +kernel) rfl rfl (ls' := [some (vR x0), some (vR x1), some (vI (x2 + 1)), some (vI x3)]) rfl ?_
    refine g_44 (a := 0) (b := 9) (nx := 91) (by decide +kernel) ?_
    exact h
  · rw [if_neg c11] at h
    refine g_41f (a := 3) (b := 85) (nx := 40) (by decide +kernel) (by rw [wr_id r1, wr_id r2]; exact fun hz => c11 ((cb_3 _ _).mp hz)) ?_
    refine g_7 (a := 0) (b := 0) (nx := 41) (by decide +kernel) rfl ?_
    refine g_52 (a := 10) (b := 1) (nx := 44) (by decide +kernel) h0 ?_
    refine g_5 (a := 3) (b := 0) (nx := 45) (by decide +kernel) rfl ?_
    refine g_61 (a := 0) (b := 0) (nx := 46) (by decide +kernel) h.1 ?_
    replace h := h.2
    obtain ⟨r3, h⟩ := h
    by_cases c10 : (M (M x0 1) x3) ≤ 0
    · rw [if_pos c10] at h
      refine g_40t (a := 5) (b := 79) (nx := 49) (by decide +kernel) r3 (by exact (cb_5 _ _).mpr c10) ?_
      refine g_11 (a := 3) (b := 1) (nx := 82) (by decide +kernel) rfl rfl (ls' := [some (vR x0), some (vR x1), some (vI x2), some (vI (x3 + 1))]) rfl ?_
      refine g_44 (a := 0) (b := 35) (nx := 85) (by decide +kernel) ?_
      exact h
    · rw [if_neg c10] at h
      refine g_40f (a := 5) (b := 79) (nx := 49) (by decide +kernel) r3 (by exact fun hz => c10 ((cb_5 _ _).mp hz)) ?_
      refine g_7 (a := 0) (b := 0) (nx := 50) (by decide +kernel) rfl ?_
      refine g_7 (a := 1) (b := 0) (nx := 51) (by decide +kernel) rfl ?_
      refine g_5 (a := 3) (b := 0) (nx := 52) (by decide +kernel) rfl ?_
      refine g_5 (a := 2) (b := 0) (nx := 53) (by decide +kernel) rfl ?_
      refine g_5 (a := 3) (b := 0) (nx := 54) (by decide +kernel) rfl ?_
      refine g_16 (a := 0) (b := 0) (nx := 55) (by decide +kernel) ?_
      refine g_80 (a := 83) (b := 2) (nx := 58) (by decide +kernel) (r := x1) (As := [vI x3, vI (x2 - x3)]) (st' := [vR x0]) (z := 83) rfl rfl rfl (Nat.le_of_ble_eq_true rfl) h.1 (Nat.le_of_ble_eq_true rfl) rfl (c_L (by decide +kernel) h.2 (fun y5 M4 h => ?_))
      refine g_80 (a := 142) (b := 1) (nx := 61) (by decide +kernel) (r := x0) (As := [vL y5]) (st' := []) (z := 142) rfl rfl rfl (Nat.le_of_ble_eq_true rfl) h0.2 (Nat.le_of_ble_eq_true rfl) rfl (c_I (by decide +kernel) h (fun y7 M6 h => ?_))
      obtain ⟨r8, h⟩ := h
      by_cases c9 : y7 = 0
      · rw [if_pos c9] at h
        refine g_40t (a := 0) (b := 79) (nx := 64) (by decide +kernel) r8 (by exact (cb_0 _ _).mpr c9) ?_
        refine g_11 (a := 3) (b := 1) (nx := 82) (by decide +kernel) rfl rfl (ls' := [some (vR x0), some (vR x1), some (vI x2), some (vI (x3 + 1))]) rfl ?_
        refine g_44 (a := 0) (b := 35) (nx := 85) (by decide +kernel) ?_
        exact h
      · rw [if_neg c9] at h
        refine g_40f (a := 0) (b := 79) (nx := 64) (by decide +kernel) r8 (by exact fun hz => c9 ((cb_0 _ _).mp hz)) ?_
        refine g_7 (a := 0) (b := 0) (nx := 65) (by decide +kernel) rfl ?_
        refine g_52 (a := 10) (b := 1) (nx := 68) (by decide +kernel) h0 ?_
        refine g_5 (a := 2) (b := 0) (nx := 69) (by decide +kernel) rfl ?_
        refine g_14 (a := 0) (b := 0) (nx := 70) (by decide +kernel) rfl rfl ?_
        refine g_61 (a := 0) (b := 0) (nx := 71) (by decide +kernel) h.1 ?_
        replace h := h.2
        refine g_7 (a := 0) (b := 0) (nx := 72) (by decide +kernel) rfl ?_
        refine g_52 (a := 10) (b := 1) (nx := 75) (by decide +kernel) h0 ?_
        refine g_5 (a := 3) (b := 0) (nx := 76) (by decide +kernel) rfl ?_
        refine g_61 (a := 0) (b := 0) (nx := 77) (by decide +kernel) h.1 ?_
        replace h := h.2
        refine g_15 (a := 0) (b := 0) (nx := 78) (by decide +kernel) ?_
        refine g_62 (a := 0) (b := 0) (nx := 79) (by decide +kernel) h.1 ?_
        replace h := h.2
        refine g_11 (a := 3) (b := 1) (nx := 82) (by decide +kernel) rfl rfl (ls' := [some (vR x0), some (vR x1), some (vI x2), some (vI (x3 + 1))]) rfl ?_
        refine g_44 (a := 0) (b := 35) (nx := 85) (by decide +kernel) ?_
        exact h
-- 142 SyllableMaker$Words.hasWord(J)Z
theorem t_142 {x0 x1 : Int} {M : Mem} {Q : AV → Mem → Prop} (h0 : gO 10 x0) (h : WI 85 [vL x1] M (fun y2 M1 => WR 142 8 [some (vR x0), some (vL x1), none, some (vI y2), some (vI 0)] [] M1 Q)) : WC 142 [vR x0, vL x1] M Q := by
  show WR 142 0 [some (vR x0), some (vL x1), none, none, none] [] M Q
  refine g_6 (a := 1) (b := 0) (nx := 1) (by decide +kernel) rfl ?_
  refine g_82 (a := 85) (b := 1) (nx := 4) (by decide +kernel) (As := [vL x1]) (st' := []) (z := 85) rfl rfl rfl (Nat.le_of_ble_eq_true rfl) (Nat.le_of_ble_eq_true rfl) rfl (c_I (by decide +kernel) h (fun y2 M1 h => ?_))
  refine g_8 (a := 3) (b := 0) (nx := 5) (by decide +kernel) rfl (ls' := [some (vR x0), some (vL x1), none, some (vI y2), none]) rfl ?_
  refine g_1 (a := 0) (b := 0) (nx := 6) (by decide +kernel) ?_
  refine g_8 (a := 4) (b := 0) (nx := 8) (by decide +kernel) rfl (ls' := [some (vR x0), some (vL x1), none, some (vI y2), some (vI 0)]) rfl ?_
  exact h
theorem t_142_8 {x0 x1 x3 x4 : Int} {M : Mem} {Q : AV → Mem → Prop} (h0 : gO 10 x0) (h : inR x4 ∧ (inR (M x0 2) ∧ (if (M x0 2) ≤ x4 then (Q (vI 0) M) else (((M x0 0) ≠ -2000 ∧ 20 ≤ (shA SH (M x0 0)).1 ∧ (shA SH (M x0 0)).1 ≤ 41 ∧ (shA SH (M x0 0)).1 ≠ 40) ∧ inR ((shA SH (M x0 0)).2 : Int) ∧ (if ((shA SH (M x0 0)).2 : Int) ≤ x4 then (Q (vI 0) M) else ((gA 24 (M x0 0) x4 ∨ gA 25 (M x0 0) x4 ∨ gA 26 (M x0 0) x4) ∧ (gO 5 (M (M x0 0) x4)) ∧ inR (M (M (M x0 0) x4) 1) ∧ (inR x3 ∧ (if (M (M (M x0 0) x4) 1) = x3 then ((gA 24 (M x0 0) x4 ∨ gA 25 (M x0 0) x4 ∨ gA 26 (M x0 0) x4) ∧ ((shA SH (M (M x0 0) x4)).1 = 5) ∧ WL 83 [vR (M (M x0 0) x4), vI 0, vI x3] M (fun y7 M6 => (in64 y7 ∧ in64 x1) ∧ inR (if y7 < x1 then -1 else if y7 = x1 then 0 else 1) ∧ (if (if y7 < x1 then -1 else if y7 = x1 then 0 else 1) = 0 then (Q (vI 1) M6) else (WR 142 8 [some (vR x0), some (vL x1), none, some (vI x3), some (vI (x4 + 1))] [] M6 Q)))) else (WR 142 8 [some (vR x0), some (vL x1), none, some (vI x3), some (vI (x4 + 1))] [] M Q))))))))) : WR 142 8 [some (vR x0), some (vL x1), none, some (vI x3), some (vI x4)] [] M Q := by
  refine g_5 (a := 4) (b := 0) (nx := 10) (by decide +kernel) rfl ?_
  refine g_7 (a := 0) (b := 0) (nx := 11) (by decide +kernel) rfl ?_
  refine g_50 (a := 10) (b := 2) (nx := 14) (by decide +kernel) h0 ?_
  obtain ⟨r1, h⟩ := h
  obtain ⟨r2, h⟩ := h
  by_cases c12 : (M x0 2) ≤ x4
  · rw [if_pos c12] at h
    refine g_41t (a := 3) (b := 66) (nx := 17) (by decide +kernel) (by rw [wr_id r1, wr_id r2]; exact (cb_3 _ _).mpr c12) ?_
    refine g_1 (a := 0) (b := 0) (nx := 67) (by decide +kernel) ?_
    exact g_91z (b := 0) (nx := 68) (by decide +kernel) (by decide) h
  · rw [if_neg c12] at h
    refine g_41f (a := 3) (b := 66) (nx := 17) (by decide +kernel) (by rw [wr_id r1, wr_id r2]; exact fun hz => c12 ((cb_3 _ _).mp hz)) ?_
    refine g_5 (a := 4) (b := 0) (nx := 19) (by decide +kernel) rfl ?_
    refine g_7 (a := 0) (b := 0) (nx := 20) (by decide +kernel) rfl ?_
    refine g_52 (a := 10) (b := 0) (nx := 23) (by decide +kernel) h0 ?_
    refine g_60 (a := 0) (b := 0) (nx := 24) (by decide +kernel) h.1.1 h.1.2 ?_
    replace h := h.2
    obtain ⟨r3, h⟩ := h
    by_cases c11 : ((shA SH (M x0 0)).2 : Int) ≤ x4
    · rw [if_pos c11] at h
      refine g_41t (a := 3) (b := 66) (nx := 27) (by decide +kernel) (by rw [wr_id r1, wr_id r3]; exact (cb_3 _ _).mpr c11) ?_
      refine g_1 (a := 0) (b := 0) (nx := 67) (by decide +kernel) ?_
      exact g_91z (b := 0) (nx := 68) (by decide +kernel) (by decide) h
    · rw [if_neg c11] at h
      refine g_41f (a := 3) (b := 66) (nx := 27) (by decide +kernel) (by rw [wr_id r1, wr_id r3]; exact fun hz => c11 ((cb_3 _ _).mp hz)) ?_
      refine g_7 (a := 0) (b := 0) (nx := 28) (by decide +kernel) rfl ?_
      refine g_52 (a := 10) (b := 0) (nx := 31) (by decide +kernel) h0 ?_
      refine g_5 (a := 4) (b := 0) (nx := 33) (by decide +kernel) rfl ?_
      refine g_69 (a := 0) (b := 0) (nx := 34) (by decide +kernel) h.1 ?_
      replace h := h.2
      refine g_50 (a := 5) (b := 1) (nx := 37) (by decide +kernel) h.1 ?_
      replace h := h.2
      refine g_5 (a := 3) (b := 0) (nx := 38) (by decide +kernel) rfl ?_
      obtain ⟨r4, h⟩ := h
      obtain ⟨r5, h⟩ := h
      by_cases c10 : (M (M (M x0 0) x4) 1) = x3
      · rw [if_pos c10] at h
        refine g_41f (a := 1) (b := 60) (nx := 41) (by decide +kernel) (by rw [wr_id r4, wr_id r5]; exact fun hz => ((cb_1 _ _).mp hz) c10) ?_
        refine g_7 (a := 0) (b := 0) (nx := 42) (by decide +kernel) rfl ?_
        refine g_52 (a := 10) (b := 0) (nx := 45) (by decide +kernel) h0 ?_
        refine g_5 (a := 4) (b := 0) (nx := 47) (by decide +kernel) rfl ?_
        refine g_69 (a := 0) (b := 0) (nx := 48) (by decide +kernel) h.1 ?_
        replace h := h.2
        refine g_1 (a := 0) (b := 0) (nx := 49) (by decide +kernel) ?_
        refine g_5 (a := 3) (b := 0) (nx := 50) (by decide +kernel) rfl ?_
        refine g_80 (a := 83) (b := 2) (nx := 53) (by decide +kernel) (r := (M (M x0 0) x4)) (As := [vI 0, vI x3]) (st' := []) (z := 83) rfl rfl rfl (Nat.le_of_ble_eq_true rfl) h.1 (Nat.le_of_ble_eq_true rfl) rfl (c_L (by decide +kernel) h.2 (fun y7 M6 h => ?_))
        refine g_6 (a := 1) (b := 0) (nx := 54) (by decide +kernel) rfl ?_
        refine g_34 (a := 0) (b := 0) (nx := 55) (by decide +kernel) h.1 ?_
        replace h := h.2
        obtain ⟨r8, h⟩ := h
        by_cases c9 : (if y7 < x1 then -1 else if y7 = x1 then 0 else 1) = 0
        · rw [if_pos c9] at h
          refine g_40f (a := 1) (b := 60) (nx := 58) (by decide +kernel) r8 (by exact fun hz => ((cb_1 _ _).mp hz) c9) ?_
          refine g_1 (a := 1) (b := 0) (nx := 59) (by decide +kernel) ?_
          exact g_91z (b := 0) (nx := 60) (by decide +kernel) (by decide) h
        · rw [if_neg c9] at h
          refine g_40t (a := 1) (b := 60) (nx := 58) (by decide +kernel) r8 (by exact (cb_1 _ _).mpr c9) ?_
          refine g_11 (a := 4) (b := 1) (nx := 63) (by decide +kernel) rfl rfl (ls' := [some (vR x0), some (vL x1), none, some (vI x3), some (vI (x4 + 1))]) rfl ?_
          refine g_44 (a := 0) (b := 8) (nx := 66) (by decide +kernel) ?_
          exact h
      · rw [if_neg c10] at h
        refine g_41t (a := 1) (b := 60) (nx := 41) (by decide +kernel) (by rw [wr_id r4, wr_id r5]; exact (cb_1 _ _).mpr c10) ?_
        refine g_11 (a := 4) (b := 1) (nx := 63) (by decide +kernel) rfl rfl (ls' := [some (vR x0), some (vL x1), none, some (vI x3), some (vI (x4 + 1))]) rfl ?_
        refine g_44 (a := 0) (b := 8) (nx := 66) (by decide +kernel) ?_
        exact h
-- 144 SyllableMaker.feed(IIIII)I
theorem t_144 {x0 x1 x2 x3 x4 x5 : Int} {M : Mem} {Q : AV → Mem → Prop} (h0 : gO 11 x0) (h : ((shA SH (M x0 0)).1 = 9) ∧ WI 122 [vR (M x0 0), vI 20] M (fun y2 M1 => inR y2 ∧ (if y2 = 0 then (Q (vI (-1)) M1) else (((shA SH (M1 x0 0)).1 = 9) ∧ WV 123 [vR (M1 x0 0), vI x1] M1 (fun M4 => ((shA SH (M4 x0 0)).1 = 9) ∧ WV 123 [vR (M4 x0 0), vI x2] M4 (fun M6 => ((shA SH (M6 x0 0)).1 = 9) ∧ WV 123 [vR (M6 x0 0), vI x3] M6 (fun M8 => ((shA SH (M8 x0 0)).1 = 9) ∧ WV 123 [vR (M8 x0 0), vI x4] M8 (fun M10 => ((shA SH (M10 x0 0)).1 = 9) ∧ WV 123 [vR (M10 x0 0), vI x5] M10 (fun M12 => (gO 9 (M12 x0 0)) ∧ Q (vI (M12 (M12 x0 0) 1)) M12))))))))) : WC 144 [vR x0, vI x1, vI x2, vI x3, vI x4, vI x5] M Q := by
  show WR 144 0 [some (vR x0), some (vI x1), some (vI x2), some (vI x3), some (vI x4), some (vI x5)] [] M Q
  refine g_7 (a := 0) (b := 0) (nx := 1) (by decide +kernel) rfl ?_
  refine g_52 (a := 11) (b := 0) (nx := 4) (by decide +kernel) h0 ?_
  refine g_1 (a := 20) (b := 0) (nx := 6) (by decide +kernel) ?_
  refine g_80 (a := 122) (b := 1) (nx := 9) (by decide +kernel) (r := (M x0 0)) (As := [vI 20]) (st' := []) (z := 122) rfl rfl rfl (Nat.le_of_ble_eq_true rfl) h.1 (Nat.le_of_ble_eq_true rfl) rfl (c_I (by decide +kernel) h.2 (fun y2 M1 h => ?_))
  obtain ⟨r3, h⟩ := h
  by_cases c14 : y2 = 0
  · rw [if_pos c14] at h
    refine g_40f (a := 1) (b := 14) (nx := 12) (by decide +kernel) r3 (by exact fun hz => ((cb_1 _ _).mp hz) c14) ?_
    refine g_1 (a := (-1)) (b := 0) (nx := 13) (by decide +kernel) ?_
    exact g_91 (b := 0) (nx := 14) (by decide +kernel) h
  · rw [if_neg c14] at h
    refine g_40t (a := 1) (b := 14) (nx := 12) (by decide +kernel) r3 (by exact (cb_1 _ _).mpr c14) ?_
    refine g_7 (a := 0) (b := 0) (nx := 15) (by decide +kernel) rfl ?_
    refine g_52 (a := 11) (b := 0) (nx := 18) (by decide +kernel) h0 ?_
    refine g_5 (a := 1) (b := 0) (nx := 19) (by decide +kernel) rfl ?_
    refine g_80 (a := 123) (b := 1) (nx := 22) (by decide +kernel) (r := (M1 x0 0)) (As := [vI x1]) (st' := []) (z := 123) rfl rfl rfl (Nat.le_of_ble_eq_true rfl) h.1 (Nat.le_of_ble_eq_true rfl) rfl (c_V (by decide +kernel) h.2 (fun M4 h => ?_))
    refine g_7 (a := 0) (b := 0) (nx := 23) (by decide +kernel) rfl ?_
    refine g_52 (a := 11) (b := 0) (nx := 26) (by decide +kernel) h0 ?_
    refine g_5 (a := 2) (b := 0) (nx := 27) (by decide +kernel) rfl ?_
    refine g_80 (a := 123) (b := 1) (nx := 30) (by decide +kernel) (r := (M4 x0 0)) (As := [vI x2]) (st' := []) (z := 123) rfl rfl rfl (Nat.le_of_ble_eq_true rfl) h.1 (Nat.le_of_ble_eq_true rfl) rfl (c_V (by decide +kernel) h.2 (fun M6 h => ?_))
    refine g_7 (a := 0) (b := 0) (nx := 31) (by decide +kernel) rfl ?_
    refine g_52 (a := 11) (b := 0) (nx := 34) (by decide +kernel) h0 ?_
    refine g_5 (a := 3) (b := 0) (nx := 35) (by decide +kernel) rfl ?_
    refine g_80 (a := 123) (b := 1) (nx := 38) (by decide +kernel) (r := (M6 x0 0)) (As := [vI x3]) (st' := []) (z := 123) rfl rfl rfl (Nat.le_of_ble_eq_true rfl) h.1 (Nat.le_of_ble_eq_true rfl) rfl (c_V (by decide +kernel) h.2 (fun M8 h => ?_))
    refine g_7 (a := 0) (b := 0) (nx := 39) (by decide +kernel) rfl ?_
    refine g_52 (a := 11) (b := 0) (nx := 42) (by decide +kernel) h0 ?_
    refine g_5 (a := 4) (b := 0) (nx := 44) (by decide +kernel) rfl ?_
    refine g_80 (a := 123) (b := 1) (nx := 47) (by decide +kernel) (r := (M8 x0 0)) (As := [vI x4]) (st' := []) (z := 123) rfl rfl rfl (Nat.le_of_ble_eq_true rfl) h.1 (Nat.le_of_ble_eq_true rfl) rfl (c_V (by decide +kernel) h.2 (fun M10 h => ?_))
    refine g_7 (a := 0) (b := 0) (nx := 48) (by decide +kernel) rfl ?_
    refine g_52 (a := 11) (b := 0) (nx := 51) (by decide +kernel) h0 ?_
    refine g_5 (a := 5) (b := 0) (nx := 53) (by decide +kernel) rfl ?_
    refine g_80 (a := 123) (b := 1) (nx := 56) (by decide +kernel) (r := (M10 x0 0)) (As := [vI x5]) (st' := []) (z := 123) rfl rfl rfl (Nat.le_of_ble_eq_true rfl) h.1 (Nat.le_of_ble_eq_true rfl) rfl (c_V (by decide +kernel) h.2 (fun M12 h => ?_))
    refine g_7 (a := 0) (b := 0) (nx := 57) (by decide +kernel) rfl ?_
    refine g_52 (a := 11) (b := 0) (nx := 60) (by decide +kernel) h0 ?_
    refine g_50 (a := 9) (b := 1) (nx := 63) (by decide +kernel) h.1 ?_
    replace h := h.2
    exact g_91 (b := 0) (nx := 64) (by decide +kernel) h
-- 145 SyllableMaker.end(I)I
theorem t_145 {x0 x1 : Int} {M : Mem} {Q : AV → Mem → Prop} (h0 : gO 11 x0) (h : inR x1 ∧ (if x1 < 0 then (Q (vI (-1)) M) else ((gO 9 (M x0 0)) ∧ inR (M (M x0 0) 1) ∧ (if x1 ≤ (M (M x0 0) 1) then ((gO 9 (M x0 0)) ∧ Q (vI x1) (upM M (M x0 0) 1 x1)) else (Q (vI (-1)) M))))) : WC 145 [vR x0, vI x1] M Q := by
  show WR 145 0 [some (vR x0), some (vI x1)] [] M Q
  refine g_5 (a := 1) (b := 0) (nx := 1) (by decide +kernel) rfl ?_
  obtain ⟨r1, h⟩ := h
  by_cases c4 : x1 < 0
  · rw [if_pos c4] at h
    refine g_40t (a := 2) (b := 15) (nx := 4) (by decide +kernel) r1 (by exact (cb_2 _ _).mpr c4) ?_
    refine g_1 (a := (-1)) (b := 0) (nx := 16) (by decide +kernel) ?_
    exact g_91 (b := 0) (nx := 17) (by decide +kernel) h
  · rw [if_neg c4] at h
    refine g_40f (a := 2) (b := 15) (nx := 4) (by decide +kernel) r1 (by exact fun hz => c4 ((cb_2 _ _).mp hz)) ?_
    refine g_5 (a := 1) (b := 0) (nx := 5) (by decide +kernel) rfl ?_
    refine g_7 (a := 0) (b := 0) (nx := 6) (by decide +kernel) rfl ?_
    refine g_52 (a := 11) (b := 0) (nx := 9) (by decide +kernel) h0 ?_
    refine g_50 (a := 9) (b := 1) (nx := 12) (by decide +kernel) h.1 ?_
    replace h := h.2
    obtain ⟨r2, h⟩ := h
    by_cases c3 : x1 ≤ (M (M x0 0) 1)
    · rw [if_pos c3] at h
      refine g_41t (a := 5) (b := 17) (nx := 15) (by decide +kernel) (by rw [wr_id r1, wr_id r2]; exact (cb_5 _ _).mpr c3) ?_
      refine g_7 (a := 0) (b := 0) (nx := 18) (by decide +kernel) rfl ?_
      refine g_52 (a := 11) (b := 0) (nx := 21) (by decide +kernel) h0 ?_
      refine g_5 (a := 1) (b := 0) (nx := 22) (by decide +kernel) rfl ?_
      refine g_53 (a := 9) (b := 1) (nx := 25) (by decide +kernel) h.1 ?_
      replace h := h.2
      refine g_5 (a := 1) (b := 0) (nx := 26) (by decide +kernel) rfl ?_
      exact g_91 (b := 0) (nx := 27) (by decide +kernel) h
    · rw [if_neg c3] at h
      refine g_41f (a := 5) (b := 17) (nx := 15) (by decide +kernel) (by rw [wr_id r1, wr_id r2]; exact fun hz => c3 ((cb_5 _ _).mp hz)) ?_
      refine g_1 (a := (-1)) (b := 0) (nx := 16) (by decide +kernel) ?_
      exact g_91 (b := 0) (nx := 17) (by decide +kernel) h
-- 146 SyllableMaker.law()I
theorem t_146 {x0 : Int} {M : Mem} {Q : AV → Mem → Prop} (h0 : gO 11 x0) (h : ((shA SH (M x0 1)).1 = 4) ∧ WI 63 [vR (M x0 1), vR (M x0 8)] M (fun y2 M1 => (gO 9 (M1 x0 0)) ∧ inR y2 ∧ (if y2 = 0 then (Q (vI (-1)) (upM M1 (M1 x0 0) 1 0)) else ((0 ≤ ((upM M1 (M1 x0 0) 1 0) x0 7)) ∧ (0 ≤ ((upM M1 (M1 x0 0) 1 0) x0 8)) ∧ (gO 7 ((upM (upM (upM M1 (M1 x0 0) 1 0) x0 8 ((upM M1 (M1 x0 0) 1 0) x0 7)) x0 7 ((upM M1 (M1 x0 0) 1 0) x0 8)) x0 3)) ∧ ((shA SH ((upM (upM (upM M1 (M1 x0 0) 1 0) x0 8 ((upM M1 (M1 x0 0) 1 0) x0 7)) x0 7 ((upM M1 (M1 x0 0) 1 0) x0 8)) ((upM (upM (upM M1 (M1 x0 0) 1 0) x0 8 ((upM M1 (M1 x0 0) 1 0) x0 7)) x0 7 ((upM M1 (M1 x0 0) 1 0) x0 8)) x0 3) 1)).1 = 10) ∧ WV 135 [vR ((upM (upM (upM M1 (M1 x0 0) 1 0) x0 8 ((upM M1 (M1 x0 0) 1 0) x0 7)) x0 7 ((upM M1 (M1 x0 0) 1 0) x0 8)) ((upM (upM (upM M1 (M1 x0 0) 1 0) x0 8 ((upM M1 (M1 x0 0) 1 0) x0 7)) x0 7 ((upM M1 (M1 x0 0) 1 0) x0 8)) x0 3) 1)] (upM (upM (upM M1 (M1 x0 0) 1 0) x0 8 ((upM M1 (M1 x0 0) 1 0) x0 7)) x0 7 ((upM M1 (M1 x0 0) 1 0) x0 8)) (fun M4 => ((shA SH (M4 x0 6)).1 = 0) ∧ WV 1 [vR (M4 x0 6)] M4 (fun M6 => (gO 2 (M6 x0 7)) ∧ (gO 6 (M6 (M6 x0 7) 0)) ∧ Q (vI (M6 (M6 (M6 x0 7) 0) 6)) M6)))))) : WC 146 [vR x0] M Q := by
  show WR 146 0 [some (vR x0), none, none] [] M Q
  refine g_7 (a := 0) (b := 0) (nx := 1) (by decide +kernel) rfl ?_
  refine g_52 (a := 11) (b := 1) (nx := 4) (by decide +kernel) h0 ?_
  refine g_7 (a := 0) (b := 0) (nx := 5) (by decide +kernel) rfl ?_
  refine g_52 (a := 11) (b := 8) (nx := 8) (by decide +kernel) h0 ?_
  refine g_80 (a := 63) (b := 1) (nx := 11) (by decide +kernel) (r := (M x0 1)) (As := [vR (M x0 8)]) (st' := []) (z := 63) rfl rfl rfl (Nat.le_of_ble_eq_true rfl) h.1 (Nat.le_of_ble_eq_true rfl) rfl (c_I (by decide +kernel) h.2 (fun y2 M1 h => ?_))
  refine g_8 (a := 1) (b := 0) (nx := 12) (by decide +kernel) rfl (ls' := [some (vR x0), some (vI y2), none]) rfl ?_
  refine g_7 (a := 0) (b := 0) (nx := 13) (by decide +kernel) rfl ?_
  refine g_52 (a := 11) (b := 0) (nx := 16) (by decide +kernel) h0 ?_
  refine g_1 (a := 0) (b := 0) (nx := 17) (by decide +kernel) ?_
  refine g_53 (a := 9) (b := 1) (nx := 20) (by decide +kernel) h.1 ?_
  replace h := h.2
  refine g_5 (a := 1) (b := 0) (nx := 21) (by decide +kernel) rfl ?_
  obtain ⟨r3, h⟩ := h
  by_cases c8 : y2 = 0
  · rw [if_pos c8] at h
    refine g_40f (a := 1) (b := 26) (nx := 24) (by decide +kernel) r3 (by exact fun hz => ((cb_1 _ _).mp hz) c8) ?_
    refine g_1 (a := (-1)) (b := 0) (nx := 25) (by decide +kernel) ?_
    exact g_91 (b := 0) (nx := 26) (by decide +kernel) h
  · rw [if_neg c8] at h
    refine g_40t (a := 1) (b := 26) (nx := 24) (by decide +kernel) r3 (by exact (cb_1 _ _).mpr c8) ?_
    refine g_7 (a := 0) (b := 0) (nx := 27) (by decide +kernel) rfl ?_
    refine g_52 (a := 11) (b := 8) (nx := 30) (by decide +kernel) h0 ?_
    refine g_10 (a := 2) (b := 0) (nx := 31) (by decide +kernel) rfl (ls' := [some (vR x0), some (vI y2), some (vR ((upM M1 (M1 x0 0) 1 0) x0 8))]) rfl ?_
    refine g_7 (a := 0) (b := 0) (nx := 32) (by decide +kernel) rfl ?_
    refine g_7 (a := 0) (b := 0) (nx := 33) (by decide +kernel) rfl ?_
    refine g_52 (a := 11) (b := 7) (nx := 36) (by decide +kernel) h0 ?_
    refine g_55 (a := 11) (b := 8) (nx := 39) (by decide +kernel) h0 h.1 ?_
    replace h := h.2
    refine g_7 (a := 0) (b := 0) (nx := 40) (by decide +kernel) rfl ?_
    refine g_7 (a := 2) (b := 0) (nx := 41) (by decide +kernel) rfl ?_
    refine g_55 (a := 11) (b := 7) (nx := 44) (by decide +kernel) h0 h.1 ?_
    replace h := h.2
    refine g_7 (a := 0) (b := 0) (nx := 45) (by decide +kernel) rfl ?_
    refine g_52 (a := 11) (b := 3) (nx := 48) (by decide +kernel) h0 ?_
    refine g_52 (a := 7) (b := 1) (nx := 51) (by decide +kernel) h.1 ?_
    replace h := h.2
    refine g_80 (a := 135) (b := 0) (nx := 54) (by decide +kernel) (r := ((upM (upM (upM M1 (M1 x0 0) 1 0) x0 8 ((upM M1 (M1 x0 0) 1 0) x0 7)) x0 7 ((upM M1 (M1 x0 0) 1 0) x0 8)) ((upM (upM (upM M1 (M1 x0 0) 1 0) x0 8 ((upM M1 (M1 x0 0) 1 0) x0 7)) x0 7 ((upM M1 (M1 x0 0) 1 0) x0 8)) x0 3) 1)) (As := []) (st' := []) (z := 135) rfl rfl rfl (Nat.le_of_ble_eq_true rfl) h.1 (Nat.le_of_ble_eq_true rfl) rfl (c_V (by decide +kernel) h.2 (fun M4 h => ?_))
    refine g_7 (a := 0) (b := 0) (nx := 55) (by decide +kernel) rfl ?_
    refine g_52 (a := 11) (b := 6) (nx := 58) (by decide +kernel) h0 ?_
    refine g_80 (a := 1) (b := 0) (nx := 61) (by decide +kernel) (r := (M4 x0 6)) (As := []) (st' := []) (z := 1) rfl rfl rfl (Nat.le_of_ble_eq_true rfl) h.1 (Nat.le_of_ble_eq_true rfl) rfl (c_V (by decide +kernel) h.2 (fun M6 h => ?_))
    refine g_7 (a := 0) (b := 0) (nx := 62) (by decide +kernel) rfl ?_
    refine g_52 (a := 11) (b := 7) (nx := 65) (by decide +kernel) h0 ?_
    refine g_52 (a := 2) (b := 0) (nx := 68) (by decide +kernel) h.1 ?_
    replace h := h.2
    refine g_50 (a := 6) (b := 6) (nx := 71) (by decide +kernel) h.1 ?_
    replace h := h.2
    exact g_91 (b := 0) (nx := 72) (by decide +kernel) h
-- 147 SyllableMaker.say()I
theorem t_147 {x0 : Int} {M : Mem} {Q : AV → Mem → Prop} (h0 : gO 11 x0) (h : (gO 9 (M x0 0)) ∧ inR (M (M x0 0) 1) ∧ (if (M (M x0 0) 1) ≤ 200 then ((gO 7 (M x0 3)) ∧ ((shA SH (M x0 1)).1 = 4) ∧ WI 64 [vR (M x0 1), vR (M (M x0 3) 2), vR (M x0 7)] M (fun y3 M2 => (gO 9 (M2 x0 0)) ∧ inR y3 ∧ (if y3 = 0 then (Q (vI (-1)) (upM M2 (M2 x0 0) 1 0)) else (((shA SH ((upM M2 (M2 x0 0) 1 0) x0 3)).1 = 7) ∧ WV 103 [vR ((upM M2 (M2 x0 0) 1 0) x0 3)] (upM M2 (M2 x0 0) 1 0) (fun M5 => (gO 7 (M5 x0 3)) ∧ (gO 10 (M5 (M5 x0 3) 1)) ∧ Q (vI (M5 (M5 (M5 x0 3) 1) 2)) M5))))) else (Q (vI (-2)) M))) : WC 147 [vR x0] M Q := by
  show WR 147 0 [some (vR x0), none] [] M Q
  refine g_7 (a := 0) (b := 0) (nx := 1) (by decide +kernel) rfl ?_
  refine g_52 (a := 11) (b := 0) (nx := 4) (by decide +kernel) h0 ?_
  refine g_50 (a := 9) (b := 1) (nx := 7) (by decide +kernel) h.1 ?_
  replace h := h.2
  refine g_1 (a := 200) (b := 0) (nx := 10) (by decide +kernel) ?_
  obtain ⟨r1, h⟩ := h
  by_cases c8 : (M (M x0 0) 1) ≤ 200
  · rw [if_pos c8] at h
    refine g_41t (a := 5) (b := 16) (nx := 13) (by decide +kernel) (by rw [wr_id r1, wr_id (show inR 200 by decide)]; exact (cb_5 _ _).mpr c8) ?_
    refine g_7 (a := 0) (b := 0) (nx := 17) (by decide +kernel) rfl ?_
    refine g_52 (a := 11) (b := 1) (nx := 20) (by decide +kernel) h0 ?_
    refine g_7 (a := 0) (b := 0) (nx := 21) (by decide +kernel) rfl ?_
    refine g_52 (a := 11) (b := 3) (nx := 24) (by decide +kernel) h0 ?_
    refine g_52 (a := 7) (b := 2) (nx := 27) (by decide +kernel) h.1 ?_
    replace h := h.2
    refine g_7 (a := 0) (b := 0) (nx := 28) (by decide +kernel) rfl ?_
    refine g_52 (a := 11) (b := 7) (nx := 31) (by decide +kernel) h0 ?_
    refine g_80 (a := 64) (b := 2) (nx := 34) (by decide +kernel) (r := (M x0 1)) (As := [vR (M (M x0 3) 2), vR (M x0 7)]) (st' := []) (z := 64) rfl rfl rfl (Nat.le_of_ble_eq_true rfl) h.1 (Nat.le_of_ble_eq_true rfl) rfl (c_I (by decide +kernel) h.2 (fun y3 M2 h => ?_))
    refine g_8 (a := 1) (b := 0) (nx := 35) (by decide +kernel) rfl (ls' := [some (vR x0), some (vI y3)]) rfl ?_
    refine g_7 (a := 0) (b := 0) (nx := 36) (by decide +kernel) rfl ?_
    refine g_52 (a := 11) (b := 0) (nx := 39) (by decide +kernel) h0 ?_
    refine g_1 (a := 0) (b := 0) (nx := 40) (by decide +kernel) ?_
    refine g_53 (a := 9) (b := 1) (nx := 43) (by decide +kernel) h.1 ?_
    replace h := h.2
    refine g_5 (a := 1) (b := 0) (nx := 44) (by decide +kernel) rfl ?_
    obtain ⟨r4, h⟩ := h
    by_cases c7 : y3 = 0
    · rw [if_pos c7] at h
      refine g_40f (a := 1) (b := 49) (nx := 47) (by decide +kernel) r4 (by exact fun hz => ((cb_1 _ _).mp hz) c7) ?_
      refine g_1 (a := (-1)) (b := 0) (nx := 48) (by decide +kernel) ?_
      exact g_91 (b := 0) (nx := 49) (by decide +kernel) h
    · rw [if_neg c7] at h
      refine g_40t (a := 1) (b := 49) (nx := 47) (by decide +kernel) r4 (by exact (cb_1 _ _).mpr c7) ?_
      refine g_7 (a := 0) (b := 0) (nx := 50) (by decide +kernel) rfl ?_
      refine g_52 (a := 11) (b := 3) (nx := 53) (by decide +kernel) h0 ?_
      refine g_80 (a := 103) (b := 0) (nx := 56) (by decide +kernel) (r := ((upM M2 (M2 x0 0) 1 0) x0 3)) (As := []) (st' := []) (z := 103) rfl rfl rfl (Nat.le_of_ble_eq_true rfl) h.1 (Nat.le_of_ble_eq_true rfl) rfl (c_V (by decide +kernel) h.2 (fun M5 h => ?_))
      refine g_7 (a := 0) (b := 0) (nx := 57) (by decide +kernel) rfl ?_
      refine g_52 (a := 11) (b := 3) (nx := 60) (by decide +kernel) h0 ?_
      refine g_52 (a := 7) (b := 1) (nx := 63) (by decide +kernel) h.1 ?_
      replace h := h.2
      refine g_50 (a := 10) (b := 2) (nx := 66) (by decide +kernel) h.1 ?_
      replace h := h.2
      exact g_91 (b := 0) (nx := 67) (by decide +kernel) h
  · rw [if_neg c8] at h
    refine g_41f (a := 5) (b := 16) (nx := 13) (by decide +kernel) (by rw [wr_id r1, wr_id (show inR 200 by decide)]; exact fun hz => c8 ((cb_5 _ _).mp hz)) ?_
    refine g_1 (a := (-2)) (b := 0) (nx := 15) (by decide +kernel) ?_
    exact g_91 (b := 0) (nx := 16) (by decide +kernel) h
-- 148 SyllableMaker.fault(I)I
theorem t_148 {x0 x1 : Int} {M : Mem} {Q : AV → Mem → Prop} (h0 : gO 11 x0) (h : inR x1 ∧ (if x1 = 0 then ((gO 9 (M x0 0)) ∧ Q (vI (M (M x0 0) 5)) M) else (if x1 = 1 then ((gO 9 (M x0 0)) ∧ Q (vI (M (M x0 0) 6)) M) else (Q (vI (-1)) M)))) : WC 148 [vR x0, vI x1] M Q := by
  show WR 148 0 [some (vR x0), some (vI x1)] [] M Q
  refine g_5 (a := 1) (b := 0) (nx := 1) (by decide +kernel) rfl ?_
  obtain ⟨r1, h⟩ := h
  by_cases c2 : x1 = 0
  · rw [if_pos c2] at h
    refine g_45 (a := 0) (b := 44) (nx := 28) (by decide +kernel) r1 (t := 28) (by rw [(show sws 148 1 = [(0, 28), (1, 36)] from by decide +kernel)]; simp only [swL]; simp [c2]) ?_
    refine g_7 (a := 0) (b := 0) (nx := 29) (by decide +kernel) rfl ?_
    refine g_52 (a := 11) (b := 0) (nx := 32) (by decide +kernel) h0 ?_
    refine g_50 (a := 9) (b := 5) (nx := 35) (by decide +kernel) h.1 ?_
    replace h := h.2
    exact g_91 (b := 0) (nx := 36) (by decide +kernel) h
  · rw [if_neg c2] at h
    by_cases c3 : x1 = 1
    · rw [if_pos c3] at h
      refine g_45 (a := 0) (b := 44) (nx := 28) (by decide +kernel) r1 (t := 36) (by rw [(show sws 148 1 = [(0, 28), (1, 36)] from by decide +kernel)]; simp only [swL]; simp [c3]) ?_
      refine g_7 (a := 0) (b := 0) (nx := 37) (by decide +kernel) rfl ?_
      refine g_52 (a := 11) (b := 0) (nx := 40) (by decide +kernel) h0 ?_
      refine g_50 (a := 9) (b := 6) (nx := 43) (by decide +kernel) h.1 ?_
      replace h := h.2
      exact g_91 (b := 0) (nx := 44) (by decide +kernel) h
    · rw [if_neg c3] at h
      refine g_45 (a := 0) (b := 44) (nx := 28) (by decide +kernel) r1 (t := 44) (by rw [(show sws 148 1 = [(0, 28), (1, 36)] from by decide +kernel)]; simp only [swL]; first | rfl | (simp [c2, c3])) ?_
      refine g_1 (a := (-1)) (b := 0) (nx := 45) (by decide +kernel) ?_
      exact g_91 (b := 0) (nx := 46) (by decide +kernel) h
-- 149 SyllableMaker.sound(II)I
theorem t_149 {x0 x1 x2 : Int} {M : Mem} {Q : AV → Mem → Prop} (h0 : gO 11 x0) (h : (gO 2 (M x0 7)) ∧ ((shA SH (M (M x0 7) 0)).1 = 6) ∧ WI 90 [vR (M (M x0 7) 0), vI x1] M (fun y2 M1 => inR y2 ∧ (if y2 = 0 then (Q (vI (-1)) M1) else (inR x2 ∧ (if x2 = 0 then (((shA SH (M (M x0 7) 0)).1 = 6) ∧ WI 92 [vR (M (M x0 7) 0), vI x1] M1 (fun y7 M6 => Q (vI y7) M6)) else (if x2 = 1 then (((shA SH (M (M x0 7) 0)).1 = 6) ∧ WI 93 [vR (M (M x0 7) 0), vI x1] M1 (fun y10 M9 => Q (vI y10) M9)) else (if x2 = 2 then (((shA SH (M (M x0 7) 0)).1 = 6) ∧ WI 94 [vR (M (M x0 7) 0), vI x1] M1 (fun y13 M12 => inR y13 ∧ (if y13 = 0 then (Q (vI 0) M12) else (Q (vI 1) M12)))) else (Q (vI (-1)) M1)))))))) : WC 149 [vR x0, vI x1, vI x2] M Q := by
  show WR 149 0 [some (vR x0), some (vI x1), some (vI x2), none] [] M Q
  refine g_7 (a := 0) (b := 0) (nx := 1) (by decide +kernel) rfl ?_
  refine g_52 (a := 11) (b := 7) (nx := 4) (by decide +kernel) h0 ?_
  refine g_52 (a := 2) (b := 0) (nx := 7) (by decide +kernel) h.1 ?_
  replace h := h.2
  refine g_10 (a := 3) (b := 0) (nx := 8) (by decide +kernel) rfl (ls' := [some (vR x0), some (vI x1), some (vI x2), some (vR (M (M x0 7) 0))]) rfl ?_
  refine g_7 (a := 3) (b := 0) (nx := 9) (by decide +kernel) rfl ?_
  refine g_5 (a := 1) (b := 0) (nx := 10) (by decide +kernel) rfl ?_
  refine g_80 (a := 90) (b := 1) (nx := 13) (by decide +kernel) (r := (M (M x0 7) 0)) (As := [vI x1]) (st' := []) (z := 90) rfl rfl rfl (Nat.le_of_ble_eq_true rfl) h.1 (Nat.le_of_ble_eq_true rfl) rfl (c_I (by decide +kernel) h.2 (fun y2 M1 h => ?_))
  obtain ⟨r3, h⟩ := h
  by_cases c16 : y2 = 0
  · rw [if_pos c16] at h
    refine g_40f (a := 1) (b := 18) (nx := 16) (by decide +kernel) r3 (by exact fun hz => ((cb_1 _ _).mp hz) c16) ?_
    refine g_1 (a := (-1)) (b := 0) (nx := 17) (by decide +kernel) ?_
    exact g_91 (b := 0) (nx := 18) (by decide +kernel) h
  · rw [if_neg c16] at h
    refine g_40t (a := 1) (b := 18) (nx := 16) (by decide +kernel) r3 (by exact (cb_1 _ _).mpr c16) ?_
    refine g_5 (a := 2) (b := 0) (nx := 19) (by decide +kernel) rfl ?_
    obtain ⟨r4, h⟩ := h
    by_cases c5 : x2 = 0
    · rw [if_pos c5] at h
      refine g_45 (a := 0) (b := 70) (nx := 44) (by decide +kernel) r4 (t := 44) (by rw [(show sws 149 19 = [(0, 44), (1, 50), (2, 56)] from by decide +kernel)]; simp only [swL]; simp [c5]) ?_
      refine g_7 (a := 3) (b := 0) (nx := 45) (by decide +kernel) rfl ?_
      refine g_5 (a := 1) (b := 0) (nx := 46) (by decide +kernel) rfl ?_
      refine g_80 (a := 92) (b := 1) (nx := 49) (by decide +kernel) (r := (M (M x0 7) 0)) (As := [vI x1]) (st' := []) (z := 92) rfl rfl rfl (Nat.le_of_ble_eq_true rfl) h.1 (Nat.le_of_ble_eq_true rfl) rfl (c_I (by decide +kernel) h.2 (fun y7 M6 h => ?_))
      exact g_91 (b := 0) (nx := 50) (by decide +kernel) h
    · rw [if_neg c5] at h
      by_cases c8 : x2 = 1
      · rw [if_pos c8] at h
        refine g_45 (a := 0) (b := 70) (nx := 44) (by decide +kernel) r4 (t := 50) (by rw [(show sws 149 19 = [(0, 44), (1, 50), (2, 56)] from by decide +kernel)]; simp only [swL]; simp [c8]) ?_
        refine g_7 (a := 3) (b := 0) (nx := 51) (by decide +kernel) rfl ?_
        refine g_5 (a := 1) (b := 0) (nx := 52) (by decide +kernel) rfl ?_
        refine g_80 (a := 93) (b := 1) (nx := 55) (by decide +kernel) (r := (M (M x0 7) 0)) (As := [vI x1]) (st' := []) (z := 93) rfl rfl rfl (Nat.le_of_ble_eq_true rfl) h.1 (Nat.le_of_ble_eq_true rfl) rfl (c_I (by decide +kernel) h.2 (fun y10 M9 h => ?_))
        exact g_91 (b := 0) (nx := 56) (by decide +kernel) h
      · rw [if_neg c8] at h
        by_cases c11 : x2 = 2
        · rw [if_pos c11] at h
          refine g_45 (a := 0) (b := 70) (nx := 44) (by decide +kernel) r4 (t := 56) (by rw [(show sws 149 19 = [(0, 44), (1, 50), (2, 56)] from by decide +kernel)]; simp only [swL]; simp [c11]) ?_
          refine g_7 (a := 3) (b := 0) (nx := 57) (by decide +kernel) rfl ?_
          refine g_5 (a := 1) (b := 0) (nx := 58) (by decide +kernel) rfl ?_
          refine g_80 (a := 94) (b := 1) (nx := 61) (by decide +kernel) (r := (M (M x0 7) 0)) (As := [vI x1]) (st' := []) (z := 94) rfl rfl rfl (Nat.le_of_ble_eq_true rfl) h.1 (Nat.le_of_ble_eq_true rfl) rfl (c_I (by decide +kernel) h.2 (fun y13 M12 h => ?_))
          obtain ⟨r14, h⟩ := h
          by_cases c15 : y13 = 0
          · rw [if_pos c15] at h
            refine g_40t (a := 0) (b := 68) (nx := 64) (by decide +kernel) r14 (by exact (cb_0 _ _).mpr c15) ?_
            refine g_1 (a := 0) (b := 0) (nx := 69) (by decide +kernel) ?_
            exact g_91 (b := 0) (nx := 70) (by decide +kernel) h
          · rw [if_neg c15] at h
            refine g_40f (a := 0) (b := 68) (nx := 64) (by decide +kernel) r14 (by exact fun hz => c15 ((cb_0 _ _).mp hz)) ?_
            refine g_1 (a := 1) (b := 0) (nx := 65) (by decide +kernel) ?_
            refine g_44 (a := 0) (b := 69) (nx := 68) (by decide +kernel) ?_
            exact g_91 (b := 0) (nx := 70) (by decide +kernel) h
        · rw [if_neg c11] at h
          refine g_45 (a := 0) (b := 70) (nx := 44) (by decide +kernel) r4 (t := 70) (by rw [(show sws 149 19 = [(0, 44), (1, 50), (2, 56)] from by decide +kernel)]; simp only [swL]; first | rfl | (simp [c5, c8, c11])) ?_
          refine g_1 (a := (-1)) (b := 0) (nx := 71) (by decide +kernel) ?_
          exact g_91 (b := 0) (nx := 72) (by decide +kernel) h
-- 150 SyllableMaker.opening(IIII)I
theorem t_150 {x0 x1 x2 x3 x4 : Int} {M : Mem} {Q : AV → Mem → Prop} (h0 : gO 11 x0) (h : WR 150 6 [some (vR x0), some (vI x1), some (vI x2), some (vI x3), some (vI x4), some (vL 1), none, some (vI 0), none] [] M Q) : WC 150 [vR x0, vI x1, vI x2, vI x3, vI x4] M Q := by
  show WR 150 0 [some (vR x0), some (vI x1), some (vI x2), some (vI x3), some (vI x4), none, none, none, none] [] M Q
  refine g_2 (a := 1) (b := 0) (nx := 1) (by decide +kernel) ?_
  refine g_9 (a := 5) (b := 0) (nx := 3) (by decide +kernel) ⟨rfl, Nat.le_of_ble_eq_true rfl⟩ (ls' := [some (vR x0), some (vI x1), some (vI x2), some (vI x3), some (vI x4), some (vL 1), none, none, none]) rfl ?_
  refine g_1 (a := 0) (b := 0) (nx := 4) (by decide +kernel) ?_
  refine g_8 (a := 7) (b := 0) (nx := 6) (by decide +kernel) rfl (ls' := [some (vR x0), some (vI x1), some (vI x2), some (vI x3), some (vI x4), some (vL 1), none, some (vI 0), none]) rfl ?_
  exact h
theorem t_150_6 {x0 x1 x2 x3 x4 x5 x7 : Int} {l8 : Option AV} {M : Mem} {Q : AV → Mem → Prop} (h0 : gO 11 x0) (h : inR x7 ∧ (if 4 ≤ x7 then (((shA SH (M x0 7)).1 = 2) ∧ WI 48 [vR (M x0 7), vL x5] M (fun y3 M2 => Q (vI y3) M2)) else (if x7 = 0 then (inR x1 ∧ (if x1 = (-1) then (((shA SH (M x0 7)).1 = 2) ∧ WI 48 [vR (M x0 7), vL x5] M (fun y60 M59 => Q (vI y60) M59)) else ((gO 2 (M x0 7)) ∧ ((shA SH (M (M x0 7) 0)).1 = 6) ∧ WI 90 [vR (M (M x0 7) 0), vI x1] M (fun y50 M49 => inR y50 ∧ (if y50 = 0 then (Q (vI (-1)) M49) else ((gO 2 (M49 x0 7)) ∧ ((shA SH (M49 (M49 x0 7) 0)).1 = 6) ∧ WI 94 [vR (M49 (M49 x0 7) 0), vI x1] M49 (fun y53 M52 => inR y53 ∧ (if y53 = 0 then (WL 84 [vL x5, vI x1] M52 (fun y56 M55 => WR 150 6 [some (vR x0), some (vI x1), some (vI x2), some (vI x3), some (vI x4), some (vL y56), none, some (vI (x7 + 1)), some (vI x1)] [] M55 Q)) else (Q (vI (-1)) M52))))))))) else (if x7 = 1 then (inR x2 ∧ (if x2 = (-1) then (((shA SH (M x0 7)).1 = 2) ∧ WI 48 [vR (M x0 7), vL x5] M (fun y45 M44 => Q (vI y45) M44)) else ((gO 2 (M x0 7)) ∧ ((shA SH (M (M x0 7) 0)).1 = 6) ∧ WI 90 [vR (M (M x0 7) 0), vI x2] M (fun y35 M34 => inR y35 ∧ (if y35 = 0 then (Q (vI (-1)) M34) else ((gO 2 (M34 x0 7)) ∧ ((shA SH (M34 (M34 x0 7) 0)).1 = 6) ∧ WI 94 [vR (M34 (M34 x0 7) 0), vI x2] M34 (fun y38 M37 => inR y38 ∧ (if y38 = 0 then (WL 84 [vL x5, vI x2] M37 (fun y41 M40 => WR 150 6 [some (vR x0), some (vI x1), some (vI x2), some (vI x3), some (vI x4), some (vL y41), none, some (vI (x7 + 1)), some (vI x2)] [] M40 Q)) else (Q (vI (-1)) M37))))))))) else (if x7 = 2 then (inR x3 ∧ (if x3 = (-1) then (((shA SH (M x0 7)).1 = 2) ∧ WI 48 [vR (M x0 7), vL x5] M (fun y30 M29 => Q (vI y30) M29)) else ((gO 2 (M x0 7)) ∧ ((shA SH (M (M x0 7) 0)).1 = 6) ∧ WI 90 [vR (M (M x0 7) 0), vI x3] M (fun y20 M19 => inR y20 ∧ (if y20 = 0 then (Q (vI (-1)) M19) else ((gO 2 (M19 x0 7)) ∧ ((shA SH (M19 (M19 x0 7) 0)).1 = 6) ∧ WI 94 [vR (M19 (M19 x0 7) 0), vI x3] M19 (fun y23 M22 => inR y23 ∧ (if y23 = 0 then (WL 84 [vL x5, vI x3] M22 (fun y26 M25 => WR 150 6 [some (vR x0), some (vI x1), some (vI x2), some (vI x3), some (vI x4), some (vL y26), none, some (vI (x7 + 1)), some (vI x3)] [] M25 Q)) else (Q (vI (-1)) M22))))))))) else (inR x4 ∧ (if x4 = (-1) then (((shA SH (M x0 7)).1 = 2) ∧ WI 48 [vR (M x0 7), vL x5] M (fun y16 M15 => Q (vI y16) M15)) else ((gO 2 (M x0 7)) ∧ ((shA SH (M (M x0 7) 0)).1 = 6) ∧ WI 90 [vR (M (M x0 7) 0), vI x4] M (fun y6 M5 => inR y6 ∧ (if y6 = 0 then (Q (vI (-1)) M5) else ((gO 2 (M5 x0 7)) ∧ ((shA SH (M5 (M5 x0 7) 0)).1 = 6) ∧ WI 94 [vR (M5 (M5 x0 7) 0), vI x4] M5 (fun y9 M8 => inR y9 ∧ (if y9 = 0 then (WL 84 [vL x5, vI x4] M8 (fun y12 M11 => WR 150 6 [some (vR x0), some (vI x1), some (vI x2), some (vI x3), some (vI x4), some (vL y12), none, some (vI (x7 + 1)), some (vI x4)] [] M11 Q)) else (Q (vI (-1)) M8)))))))))))))) : WR 150 6 [some (vR x0), some (vI x1), some (vI x2), some (vI x3), some (vI x4), some (vL x5), none, some (vI x7), l8] [] M Q := by
  refine g_5 (a := 7) (b := 0) (nx := 8) (by decide +kernel) rfl ?_
  refine g_1 (a := 4) (b := 0) (nx := 9) (by decide +kernel) ?_
  obtain ⟨r1, h⟩ := h
  by_cases c63 : 4 ≤ x7
  · rw [if_pos c63] at h
    refine g_41t (a := 3) (b := 101) (nx := 12) (by decide +kernel) (by rw [wr_id r1, wr_id (show inR 4 by decide)]; exact (cb_3 _ _).mpr c63) ?_
    refine g_7 (a := 0) (b := 0) (nx := 102) (by decide +kernel) rfl ?_
    refine g_52 (a := 11) (b := 7) (nx := 105) (by decide +kernel) h0 ?_
    refine g_6 (a := 5) (b := 0) (nx := 107) (by decide +kernel) rfl ?_
    refine g_80 (a := 48) (b := 1) (nx := 110) (by decide +kernel) (r := (M x0 7)) (As := [vL x5]) (st' := []) (z := 48) rfl rfl rfl (Nat.le_of_ble_eq_true rfl) h.1 (Nat.le_of_ble_eq_true rfl) rfl (c_I (by decide +kernel) h.2 (fun y3 M2 h => ?_))
    exact g_91 (b := 0) (nx := 111) (by decide +kernel) h
  · rw [if_neg c63] at h
    refine g_41f (a := 3) (b := 101) (nx := 12) (by decide +kernel) (by rw [wr_id r1, wr_id (show inR 4 by decide)]; exact fun hz => c63 ((cb_3 _ _).mp hz)) ?_
    refine g_5 (a := 7) (b := 0) (nx := 14) (by decide +kernel) rfl ?_
    by_cases c62 : x7 = 0
    · rw [if_pos c62] at h
      refine g_40f (a := 1) (b := 21) (nx := 17) (by decide +kernel) r1 (by exact fun hz => ((cb_1 _ _).mp hz) c62) ?_
      refine g_5 (a := 1) (b := 0) (nx := 18) (by decide +kernel) rfl ?_
      refine g_44 (a := 0) (b := 43) (nx := 21) (by decide +kernel) ?_
      refine g_8 (a := 8) (b := 0) (nx := 45) (by decide +kernel) rfl (ls' := [some (vR x0), some (vI x1), some (vI x2), some (vI x3), some (vI x4), some (vL x5), none, some (vI x7), some (vI x1)]) rfl ?_
      refine g_5 (a := 8) (b := 0) (nx := 47) (by decide +kernel) rfl ?_
      refine g_1 (a := (-1)) (b := 0) (nx := 48) (by decide +kernel) ?_
      obtain ⟨r48, h⟩ := h
      by_cases c61 : x1 = (-1)
      · rw [if_pos c61] at h
        refine g_41f (a := 1) (b := 54) (nx := 51) (by decide +kernel) (by rw [wr_id r48, wr_id (show inR (-1) by decide)]; exact fun hz => ((cb_1 _ _).mp hz) c61) ?_
        refine g_44 (a := 0) (b := 101) (nx := 54) (by decide +kernel) ?_
        refine g_7 (a := 0) (b := 0) (nx := 102) (by decide +kernel) rfl ?_
        refine g_52 (a := 11) (b := 7) (nx := 105) (by decide +kernel) h0 ?_
        refine g_6 (a := 5) (b := 0) (nx := 107) (by decide +kernel) rfl ?_
        refine g_80 (a := 48) (b := 1) (nx := 110) (by decide +kernel) (r := (M x0 7)) (As := [vL x5]) (st' := []) (z := 48) rfl rfl rfl (Nat.le_of_ble_eq_true rfl) h.1 (Nat.le_of_ble_eq_true rfl) rfl (c_I (by decide +kernel) h.2 (fun y60 M59 h => ?_))
        exact g_91 (b := 0) (nx := 111) (by decide +kernel) h
      · rw [if_neg c61] at h
        refine g_41t (a := 1) (b := 54) (nx := 51) (by decide +kernel) (by rw [wr_id r48, wr_id (show inR (-1) by decide)]; exact (cb_1 _ _).mpr c61) ?_
        refine g_7 (a := 0) (b := 0) (nx := 55) (by decide +kernel) rfl ?_
        refine g_52 (a := 11) (b := 7) (nx := 58) (by decide +kernel) h0 ?_
        refine g_52 (a := 2) (b := 0) (nx := 61) (by decide +kernel) h.1 ?_
        replace h := h.2
        refine g_5 (a := 8) (b := 0) (nx := 63) (by decide +kernel) rfl ?_
        refine g_80 (a := 90) (b := 1) (nx := 66) (by decide +kernel) (r := (M (M x0 7) 0)) (As := [vI x1]) (st' := []) (z := 90) rfl rfl rfl (Nat.le_of_ble_eq_true rfl) h.1 (Nat.le_of_ble_eq_true rfl) rfl (c_I (by decide +kernel) h.2 (fun y50 M49 h => ?_))
        obtain ⟨r51, h⟩ := h
        by_cases c58 : y50 = 0
        · rw [if_pos c58] at h
          refine g_40t (a := 0) (b := 84) (nx := 69) (by decide +kernel) r51 (by exact (cb_0 _ _).mpr c58) ?_
          refine g_1 (a := (-1)) (b := 0) (nx := 85) (by decide +kernel) ?_
          exact g_91 (b := 0) (nx := 86) (by decide +kernel) h
        · rw [if_neg c58] at h
          refine g_40f (a := 0) (b := 84) (nx := 69) (by decide +kernel) r51 (by exact fun hz => c58 ((cb_0 _ _).mp hz)) ?_
          refine g_7 (a := 0) (b := 0) (nx := 70) (by decide +kernel) rfl ?_
          refine g_52 (a := 11) (b := 7) (nx := 73) (by decide +kernel) h0 ?_
          refine g_52 (a := 2) (b := 0) (nx := 76) (by decide +kernel) h.1 ?_
          replace h := h.2
          refine g_5 (a := 8) (b := 0) (nx := 78) (by decide +kernel) rfl ?_
          refine g_80 (a := 94) (b := 1) (nx := 81) (by decide +kernel) (r := (M49 (M49 x0 7) 0)) (As := [vI x1]) (st' := []) (z := 94) rfl rfl rfl (Nat.le_of_ble_eq_true rfl) h.1 (Nat.le_of_ble_eq_true rfl) rfl (c_I (by decide +kernel) h.2 (fun y53 M52 h => ?_))
          obtain ⟨r54, h⟩ := h
          by_cases c57 : y53 = 0
          · rw [if_pos c57] at h
            refine g_40t (a := 0) (b := 86) (nx := 84) (by decide +kernel) r54 (by exact (cb_0 _ _).mpr c57) ?_
            refine g_6 (a := 5) (b := 0) (nx := 88) (by decide +kernel) rfl ?_
            refine g_5 (a := 8) (b := 0) (nx := 90) (by decide +kernel) rfl ?_
            refine g_82 (a := 84) (b := 2) (nx := 93) (by decide +kernel) (As := [vL x5, vI x1]) (st' := []) (z := 84) rfl rfl rfl (Nat.le_of_ble_eq_true rfl) (Nat.le_of_ble_eq_true rfl) rfl (c_L (by decide +kernel) h (fun y56 M55 h => ?_))
            refine g_9 (a := 5) (b := 0) (nx := 95) (by decide +kernel) ⟨rfl, Nat.le_of_ble_eq_true rfl⟩ (ls' := [some (vR x0), some (vI x1), some (vI x2), some (vI x3), some (vI x4), some (vL y56), none, some (vI x7), some (vI x1)]) rfl ?_
            refine g_11 (a := 7) (b := 1) (nx := 98) (by decide +kernel) rfl rfl (ls' := [some (vR x0), some (vI x1), some (vI x2), some (vI x3), some (vI x4), some (vL y56), none, some (vI (x7 + 1)), some (vI x1)]) rfl ?_
            refine g_44 (a := 0) (b := 6) (nx := 101) (by decide +kernel) ?_
            exact h
          · rw [if_neg c57] at h
            refine g_40f (a := 0) (b := 86) (nx := 84) (by decide +kernel) r54 (by exact fun hz => c57 ((cb_0 _ _).mp hz)) ?_
            refine g_1 (a := (-1)) (b := 0) (nx := 85) (by decide +kernel) ?_
            exact g_91 (b := 0) (nx := 86) (by decide +kernel) h
    · rw [if_neg c62] at h
      refine g_40t (a := 1) (b := 21) (nx := 17) (by decide +kernel) r1 (by exact (cb_1 _ _).mpr c62) ?_
      refine g_5 (a := 7) (b := 0) (nx := 23) (by decide +kernel) rfl ?_
      refine g_1 (a := 1) (b := 0) (nx := 24) (by decide +kernel) ?_
      by_cases c47 : x7 = 1
      · rw [if_pos c47] at h
        refine g_41f (a := 1) (b := 31) (nx := 27) (by decide +kernel) (by rw [wr_id r1, wr_id (show inR 1 by decide)]; exact fun hz => ((cb_1 _ _).mp hz) c47) ?_
        refine g_5 (a := 2) (b := 0) (nx := 28) (by decide +kernel) rfl ?_
        refine g_44 (a := 0) (b := 43) (nx := 31) (by decide +kernel) ?_
        refine g_8 (a := 8) (b := 0) (nx := 45) (by decide +kernel) rfl (ls' := [some (vR x0), some (vI x1), some (vI x2), some (vI x3), some (vI x4), some (vL x5), none, some (vI x7), some (vI x2)]) rfl ?_
        refine g_5 (a := 8) (b := 0) (nx := 47) (by decide +kernel) rfl ?_
        refine g_1 (a := (-1)) (b := 0) (nx := 48) (by decide +kernel) ?_
        obtain ⟨r33, h⟩ := h
        by_cases c46 : x2 = (-1)
        · rw [if_pos c46] at h
          refine g_41f (a := 1) (b := 54) (nx := 51) (by decide +kernel) (by rw [wr_id r33, wr_id (show inR (-1) by decide)]; exact fun hz => ((cb_1 _ _).mp hz) c46) ?_
          refine g_44 (a := 0) (b := 101) (nx := 54) (by decide +kernel) ?_
          refine g_7 (a := 0) (b := 0) (nx := 102) (by decide +kernel) rfl ?_
          refine g_52 (a := 11) (b := 7) (nx := 105) (by decide +kernel) h0 ?_
          refine g_6 (a := 5) (b := 0) (nx := 107) (by decide +kernel) rfl ?_
          refine g_80 (a := 48) (b := 1) (nx := 110) (by decide +kernel) (r := (M x0 7)) (As := [vL x5]) (st' := []) (z := 48) rfl rfl rfl (Nat.le_of_ble_eq_true rfl) h.1 (Nat.le_of_ble_eq_true rfl) rfl (c_I (by decide +kernel) h.2 (fun y45 M44 h => ?_))
          exact g_91 (b := 0) (nx := 111) (by decide +kernel) h
        · rw [if_neg c46] at h
          refine g_41t (a := 1) (b := 54) (nx := 51) (by decide +kernel) (by rw [wr_id r33, wr_id (show inR (-1) by decide)]; exact (cb_1 _ _).mpr c46) ?_
          refine g_7 (a := 0) (b := 0) (nx := 55) (by decide +kernel) rfl ?_
          refine g_52 (a := 11) (b := 7) (nx := 58) (by decide +kernel) h0 ?_
          refine g_52 (a := 2) (b := 0) (nx := 61) (by decide +kernel) h.1 ?_
          replace h := h.2
          refine g_5 (a := 8) (b := 0) (nx := 63) (by decide +kernel) rfl ?_
          refine g_80 (a := 90) (b := 1) (nx := 66) (by decide +kernel) (r := (M (M x0 7) 0)) (As := [vI x2]) (st' := []) (z := 90) rfl rfl rfl (Nat.le_of_ble_eq_true rfl) h.1 (Nat.le_of_ble_eq_true rfl) rfl (c_I (by decide +kernel) h.2 (fun y35 M34 h => ?_))
          obtain ⟨r36, h⟩ := h
          by_cases c43 : y35 = 0
          · rw [if_pos c43] at h
            refine g_40t (a := 0) (b := 84) (nx := 69) (by decide +kernel) r36 (by exact (cb_0 _ _).mpr c43) ?_
            refine g_1 (a := (-1)) (b := 0) (nx := 85) (by decide +kernel) ?_
            exact g_91 (b := 0) (nx := 86) (by decide +kernel) h
          · rw [if_neg c43] at h
            refine g_40f (a := 0) (b := 84) (nx := 69) (by decide +kernel) r36 (by exact fun hz => c43 ((cb_0 _ _).mp hz)) ?_
            refine g_7 (a := 0) (b := 0) (nx := 70) (by decide +kernel) rfl ?_
            refine g_52 (a := 11) (b := 7) (nx := 73) (by decide +kernel) h0 ?_
            refine g_52 (a := 2) (b := 0) (nx := 76) (by decide +kernel) h.1 ?_
            replace h := h.2
            refine g_5 (a := 8) (b := 0) (nx := 78) (by decide +kernel) rfl ?_
            refine g_80 (a := 94) (b := 1) (nx := 81) (by decide +kernel) (r := (M34 (M34 x0 7) 0)) (As := [vI x2]) (st' := []) (z := 94) rfl rfl rfl (Nat.le_of_ble_eq_true rfl) h.1 (Nat.le_of_ble_eq_true rfl) rfl (c_I (by decide +kernel) h.2 (fun y38 M37 h => ?_))
            obtain ⟨r39, h⟩ := h
            by_cases c42 : y38 = 0
            · rw [if_pos c42] at h
              refine g_40t (a := 0) (b := 86) (nx := 84) (by decide +kernel) r39 (by exact (cb_0 _ _).mpr c42) ?_
              refine g_6 (a := 5) (b := 0) (nx := 88) (by decide +kernel) rfl ?_
              refine g_5 (a := 8) (b := 0) (nx := 90) (by decide +kernel) rfl ?_
              refine g_82 (a := 84) (b := 2) (nx := 93) (by decide +kernel) (As := [vL x5, vI x2]) (st' := []) (z := 84) rfl rfl rfl (Nat.le_of_ble_eq_true rfl) (Nat.le_of_ble_eq_true rfl) rfl (c_L (by decide +kernel) h (fun y41 M40 h => ?_))
              refine g_9 (a := 5) (b := 0) (nx := 95) (by decide +kernel) ⟨rfl, Nat.le_of_ble_eq_true rfl⟩ (ls' := [some (vR x0), some (vI x1), some (vI x2), some (vI x3), some (vI x4), some (vL y41), none, some (vI x7), some (vI x2)]) rfl ?_
              refine g_11 (a := 7) (b := 1) (nx := 98) (by decide +kernel) rfl rfl (ls' := [some (vR x0), some (vI x1), some (vI x2), some (vI x3), some (vI x4), some (vL y41), none, some (vI (x7 + 1)), some (vI x2)]) rfl ?_
              refine g_44 (a := 0) (b := 6) (nx := 101) (by decide +kernel) ?_
              exact h
            · rw [if_neg c42] at h
              refine g_40f (a := 0) (b := 86) (nx := 84) (by decide +kernel) r39 (by exact fun hz => c42 ((cb_0 _ _).mp hz)) ?_
              refine g_1 (a := (-1)) (b := 0) (nx := 85) (by decide +kernel) ?_
              exact g_91 (b := 0) (nx := 86) (by decide +kernel) h
      · rw [if_neg c47] at h
        refine g_41t (a := 1) (b := 31) (nx := 27) (by decide +kernel) (by rw [wr_id r1, wr_id (show inR 1 by decide)]; exact (cb_1 _ _).mpr c47) ?_
        refine g_5 (a := 7) (b := 0) (nx := 33) (by decide +kernel) rfl ?_
        refine g_1 (a := 2) (b := 0) (nx := 34) (by decide +kernel) ?_
        by_cases c32 : x7 = 2
        · rw [if_pos c32] at h
          refine g_41f (a := 1) (b := 41) (nx := 37) (by decide +kernel) (by rw [wr_id r1, wr_id (show inR 2 by decide)]; exact fun hz => ((cb_1 _ _).mp hz) c32) ?_
          refine g_5 (a := 3) (b := 0) (nx := 38) (by decide +kernel) rfl ?_
          refine g_44 (a := 0) (b := 43) (nx := 41) (by decide +kernel) ?_
          refine g_8 (a := 8) (b := 0) (nx := 45) (by decide +kernel) rfl (ls' := [some (vR x0), some (vI x1), some (vI x2), some (vI x3), some (vI x4), some (vL x5), none, some (vI x7), some (vI x3)]) rfl ?_
          refine g_5 (a := 8) (b := 0) (nx := 47) (by decide +kernel) rfl ?_
          refine g_1 (a := (-1)) (b := 0) (nx := 48) (by decide +kernel) ?_
          obtain ⟨r18, h⟩ := h
          by_cases c31 : x3 = (-1)
          · rw [if_pos c31] at h
            refine g_41f (a := 1) (b := 54) (nx := 51) (by decide +kernel) (by rw [wr_id r18, wr_id (show inR (-1) by decide)]; exact fun hz => ((cb_1 _ _).mp hz) c31) ?_
            refine g_44 (a := 0) (b := 101) (nx := 54) (by decide +kernel) ?_
            refine g_7 (a := 0) (b := 0) (nx := 102) (by decide +kernel) rfl ?_
            refine g_52 (a := 11) (b := 7) (nx := 105) (by decide +kernel) h0 ?_
            refine g_6 (a := 5) (b := 0) (nx := 107) (by decide +kernel) rfl ?_
            refine g_80 (a := 48) (b := 1) (nx := 110) (by decide +kernel) (r := (M x0 7)) (As := [vL x5]) (st' := []) (z := 48) rfl rfl rfl (Nat.le_of_ble_eq_true rfl) h.1 (Nat.le_of_ble_eq_true rfl) rfl (c_I (by decide +kernel) h.2 (fun y30 M29 h => ?_))
            exact g_91 (b := 0) (nx := 111) (by decide +kernel) h
          · rw [if_neg c31] at h
            refine g_41t (a := 1) (b := 54) (nx := 51) (by decide +kernel) (by rw [wr_id r18, wr_id (show inR (-1) by decide)]; exact (cb_1 _ _).mpr c31) ?_
            refine g_7 (a := 0) (b := 0) (nx := 55) (by decide +kernel) rfl ?_
            refine g_52 (a := 11) (b := 7) (nx := 58) (by decide +kernel) h0 ?_
            refine g_52 (a := 2) (b := 0) (nx := 61) (by decide +kernel) h.1 ?_
            replace h := h.2
            refine g_5 (a := 8) (b := 0) (nx := 63) (by decide +kernel) rfl ?_
            refine g_80 (a := 90) (b := 1) (nx := 66) (by decide +kernel) (r := (M (M x0 7) 0)) (As := [vI x3]) (st' := []) (z := 90) rfl rfl rfl (Nat.le_of_ble_eq_true rfl) h.1 (Nat.le_of_ble_eq_true rfl) rfl (c_I (by decide +kernel) h.2 (fun y20 M19 h => ?_))
            obtain ⟨r21, h⟩ := h
            by_cases c28 : y20 = 0
            · rw [if_pos c28] at h
              refine g_40t (a := 0) (b := 84) (nx := 69) (by decide +kernel) r21 (by exact (cb_0 _ _).mpr c28) ?_
              refine g_1 (a := (-1)) (b := 0) (nx := 85) (by decide +kernel) ?_
              exact g_91 (b := 0) (nx := 86) (by decide +kernel) h
            · rw [if_neg c28] at h
              refine g_40f (a := 0) (b := 84) (nx := 69) (by decide +kernel) r21 (by exact fun hz => c28 ((cb_0 _ _).mp hz)) ?_
              refine g_7 (a := 0) (b := 0) (nx := 70) (by decide +kernel) rfl ?_
              refine g_52 (a := 11) (b := 7) (nx := 73) (by decide +kernel) h0 ?_
              refine g_52 (a := 2) (b := 0) (nx := 76) (by decide +kernel) h.1 ?_
              replace h := h.2
              refine g_5 (a := 8) (b := 0) (nx := 78) (by decide +kernel) rfl ?_
              refine g_80 (a := 94) (b := 1) (nx := 81) (by decide +kernel) (r := (M19 (M19 x0 7) 0)) (As := [vI x3]) (st' := []) (z := 94) rfl rfl rfl (Nat.le_of_ble_eq_true rfl) h.1 (Nat.le_of_ble_eq_true rfl) rfl (c_I (by decide +kernel) h.2 (fun y23 M22 h => ?_))
              obtain ⟨r24, h⟩ := h
              by_cases c27 : y23 = 0
              · rw [if_pos c27] at h
                refine g_40t (a := 0) (b := 86) (nx := 84) (by decide +kernel) r24 (by exact (cb_0 _ _).mpr c27) ?_
                refine g_6 (a := 5) (b := 0) (nx := 88) (by decide +kernel) rfl ?_
                refine g_5 (a := 8) (b := 0) (nx := 90) (by decide +kernel) rfl ?_
                refine g_82 (a := 84) (b := 2) (nx := 93) (by decide +kernel) (As := [vL x5, vI x3]) (st' := []) (z := 84) rfl rfl rfl (Nat.le_of_ble_eq_true rfl) (Nat.le_of_ble_eq_true rfl) rfl (c_L (by decide +kernel) h (fun y26 M25 h => ?_))
                refine g_9 (a := 5) (b := 0) (nx := 95) (by decide +kernel) ⟨rfl, Nat.le_of_ble_eq_true rfl⟩ (ls' := [some (vR x0), some (vI x1), some (vI x2), some (vI x3), some (vI x4), some (vL y26), none, some (vI x7), some (vI x3)]) rfl ?_
                refine g_11 (a := 7) (b := 1) (nx := 98) (by decide +kernel) rfl rfl (ls' := [some (vR x0), some (vI x1), some (vI x2), some (vI x3), some (vI x4), some (vL y26), none, some (vI (x7 + 1)), some (vI x3)]) rfl ?_
                refine g_44 (a := 0) (b := 6) (nx := 101) (by decide +kernel) ?_
                exact h
              · rw [if_neg c27] at h
                refine g_40f (a := 0) (b := 86) (nx := 84) (by decide +kernel) r24 (by exact fun hz => c27 ((cb_0 _ _).mp hz)) ?_
                refine g_1 (a := (-1)) (b := 0) (nx := 85) (by decide +kernel) ?_
                exact g_91 (b := 0) (nx := 86) (by decide +kernel) h
        · rw [if_neg c32] at h
          refine g_41t (a := 1) (b := 41) (nx := 37) (by decide +kernel) (by rw [wr_id r1, wr_id (show inR 2 by decide)]; exact (cb_1 _ _).mpr c32) ?_
          refine g_5 (a := 4) (b := 0) (nx := 43) (by decide +kernel) rfl ?_
          refine g_8 (a := 8) (b := 0) (nx := 45) (by decide +kernel) rfl (ls' := [some (vR x0), some (vI x1), some (vI x2), some (vI x3), some (vI x4), some (vL x5), none, some (vI x7), some (vI x4)]) rfl ?_
          refine g_5 (a := 8) (b := 0) (nx := 47) (by decide +kernel) rfl ?_
          refine g_1 (a := (-1)) (b := 0) (nx := 48) (by decide +kernel) ?_
          obtain ⟨r4, h⟩ := h
          by_cases c17 : x4 = (-1)
          · rw [if_pos c17] at h
            refine g_41f (a := 1) (b := 54) (nx := 51) (by decide +kernel) (by rw [wr_id r4, wr_id (show inR (-1) by decide)]; exact fun hz => ((cb_1 _ _).mp hz) c17) ?_
            refine g_44 (a := 0) (b := 101) (nx := 54) (by decide +kernel) ?_
            refine g_7 (a := 0) (b := 0) (nx := 102) (by decide +kernel) rfl ?_
            refine g_52 (a := 11) (b := 7) (nx := 105) (by decide +kernel) h0 ?_
            refine g_6 (a := 5) (b := 0) (nx := 107) (by decide +kernel) rfl ?_
            refine g_80 (a := 48) (b := 1) (nx := 110) (by decide +kernel) (r := (M x0 7)) (As := [vL x5]) (st' := []) (z := 48) rfl rfl rfl (Nat.le_of_ble_eq_true rfl) h.1 (Nat.le_of_ble_eq_true rfl) rfl (c_I (by decide +kernel) h.2 (fun y16 M15 h => ?_))
            exact g_91 (b := 0) (nx := 111) (by decide +kernel) h
          · rw [if_neg c17] at h
            refine g_41t (a := 1) (b := 54) (nx := 51) (by decide +kernel) (by rw [wr_id r4, wr_id (show inR (-1) by decide)]; exact (cb_1 _ _).mpr c17) ?_
            refine g_7 (a := 0) (b := 0) (nx := 55) (by decide +kernel) rfl ?_
            refine g_52 (a := 11) (b := 7) (nx := 58) (by decide +kernel) h0 ?_
            refine g_52 (a := 2) (b := 0) (nx := 61) (by decide +kernel) h.1 ?_
            replace h := h.2
            refine g_5 (a := 8) (b := 0) (nx := 63) (by decide +kernel) rfl ?_
            refine g_80 (a := 90) (b := 1) (nx := 66) (by decide +kernel) (r := (M (M x0 7) 0)) (As := [vI x4]) (st' := []) (z := 90) rfl rfl rfl (Nat.le_of_ble_eq_true rfl) h.1 (Nat.le_of_ble_eq_true rfl) rfl (c_I (by decide +kernel) h.2 (fun y6 M5 h => ?_))
            obtain ⟨r7, h⟩ := h
            by_cases c14 : y6 = 0
            · rw [if_pos c14] at h
              refine g_40t (a := 0) (b := 84) (nx := 69) (by decide +kernel) r7 (by exact (cb_0 _ _).mpr c14) ?_
              refine g_1 (a := (-1)) (b := 0) (nx := 85) (by decide +kernel) ?_
              exact g_91 (b := 0) (nx := 86) (by decide +kernel) h
            · rw [if_neg c14] at h
              refine g_40f (a := 0) (b := 84) (nx := 69) (by decide +kernel) r7 (by exact fun hz => c14 ((cb_0 _ _).mp hz)) ?_
              refine g_7 (a := 0) (b := 0) (nx := 70) (by decide +kernel) rfl ?_
              refine g_52 (a := 11) (b := 7) (nx := 73) (by decide +kernel) h0 ?_
              refine g_52 (a := 2) (b := 0) (nx := 76) (by decide +kernel) h.1 ?_
              replace h := h.2
              refine g_5 (a := 8) (b := 0) (nx := 78) (by decide +kernel) rfl ?_
              refine g_80 (a := 94) (b := 1) (nx := 81) (by decide +kernel) (r := (M5 (M5 x0 7) 0)) (As := [vI x4]) (st' := []) (z := 94) rfl rfl rfl (Nat.le_of_ble_eq_true rfl) h.1 (Nat.le_of_ble_eq_true rfl) rfl (c_I (by decide +kernel) h.2 (fun y9 M8 h => ?_))
              obtain ⟨r10, h⟩ := h
              by_cases c13 : y9 = 0
              · rw [if_pos c13] at h
                refine g_40t (a := 0) (b := 86) (nx := 84) (by decide +kernel) r10 (by exact (cb_0 _ _).mpr c13) ?_
                refine g_6 (a := 5) (b := 0) (nx := 88) (by decide +kernel) rfl ?_
                refine g_5 (a := 8) (b := 0) (nx := 90) (by decide +kernel) rfl ?_
                refine g_82 (a := 84) (b := 2) (nx := 93) (by decide +kernel) (As := [vL x5, vI x4]) (st' := []) (z := 84) rfl rfl rfl (Nat.le_of_ble_eq_true rfl) (Nat.le_of_ble_eq_true rfl) rfl (c_L (by decide +kernel) h (fun y12 M11 h => ?_))
                refine g_9 (a := 5) (b := 0) (nx := 95) (by decide +kernel) ⟨rfl, Nat.le_of_ble_eq_true rfl⟩ (ls' := [some (vR x0), some (vI x1), some (vI x2), some (vI x3), some (vI x4), some (vL y12), none, some (vI x7), some (vI x4)]) rfl ?_
                refine g_11 (a := 7) (b := 1) (nx := 98) (by decide +kernel) rfl rfl (ls' := [some (vR x0), some (vI x1), some (vI x2), some (vI x3), some (vI x4), some (vL y12), none, some (vI (x7 + 1)), some (vI x4)]) rfl ?_
                refine g_44 (a := 0) (b := 6) (nx := 101) (by decide +kernel) ?_
                exact h
              · rw [if_neg c13] at h
                refine g_40f (a := 0) (b := 86) (nx := 84) (by decide +kernel) r10 (by exact fun hz => c13 ((cb_0 _ _).mp hz)) ?_
                refine g_1 (a := (-1)) (b := 0) (nx := 85) (by decide +kernel) ?_
                exact g_91 (b := 0) (nx := 86) (by decide +kernel) h
-- 151 SyllableMaker.word(II)I
theorem t_151 {x0 x1 x2 : Int} {M : Mem} {Q : AV → Mem → Prop} (h0 : gO 11 x0) (h : WF 175 [vR x0, vI x1] M (fun y2 M1 => y2 ≠ -1000 ∧ (if y2 = 0 then (Q (vI (-1)) M1) else (inR x2 ∧ (if x2 < 0 then (Q (vI (-1)) M1) else (if x2 ≤ 5 then (if x2 = 0 then ((gO 5 y2) ∧ Q (vI (M1 y2 1)) M1) else (((shA SH (M1 x0 2)).1 = 1) ∧ WV 11 [vR (M1 x0 2), vR (M1 x0 7), vR y2] M1 (fun M4 => if x2 = 1 then ((gO 1 (M4 x0 2)) ∧ Q (vI (M4 (M4 x0 2) 9)) M4) else (if x2 = 5 then (((shA SH (M4 x0 2)).1 = 1) ∧ WI 16 [vR (M4 x0 2)] M4 (fun y19 M18 => Q (vI y19) M18)) else ((gO 1 (M4 x0 2)) ∧ inR (M4 (M4 x0 2) 9) ∧ (if (M4 (M4 x0 2) 9) = 0 then (Q (vI (-1)) M4) else (if x2 = 4 then (((shA SH (M4 x0 2)).1 = 1) ∧ WI 18 [vR (M4 x0 2)] M4 (fun y15 M14 => Q (vI y15) M14)) else (((shA SH (M4 x0 2)).1 = 1) ∧ WV 17 [vR (M4 x0 2)] M4 (fun M7 => if x2 = 2 then (((shA SH (M7 x0 2)).1 = 1) ∧ WI 38 [vR (M7 x0 2)] M7 (fun y12 M11 => Q (vI y12) M11)) else (((shA SH (M7 x0 2)).1 = 1) ∧ WI 36 [vR (M7 x0 2)] M7 (fun y10 M9 => Q (vI y10) M9))))))))))) else (Q (vI (-1)) M1))))))) : WC 151 [vR x0, vI x1, vI x2] M Q := by
  show WR 151 0 [some (vR x0), some (vI x1), some (vI x2), none] [] M Q
  refine g_7 (a := 0) (b := 0) (nx := 1) (by decide +kernel) rfl ?_
  refine g_5 (a := 1) (b := 0) (nx := 2) (by decide +kernel) rfl ?_
  refine g_80 (a := 175) (b := 1) (nx := 5) (by decide +kernel) (r := x0) (As := [vI x1]) (st' := []) (z := 175) rfl rfl rfl (Nat.le_of_ble_eq_true rfl) h0.2 (Nat.le_of_ble_eq_true rfl) rfl (c_R (by decide +kernel) h (fun y2 M1 h => ?_))
  refine g_10 (a := 3) (b := 0) (nx := 6) (by decide +kernel) rfl (ls' := [some (vR x0), some (vI x1), some (vI x2), some (vR y2)]) rfl ?_
  refine g_7 (a := 3) (b := 0) (nx := 7) (by decide +kernel) rfl ?_
  obtain ⟨q0, h⟩ := h
  by_cases c25 : y2 = 0
  · rw [if_pos c25] at h
    refine g_42t (a := 0) (b := 19) (nx := 10) (by decide +kernel) c25 ?_
    refine g_1 (a := (-1)) (b := 0) (nx := 20) (by decide +kernel) ?_
    exact g_91 (b := 0) (nx := 21) (by decide +kernel) h
  · rw [if_neg c25] at h
    refine g_42f (a := 0) (b := 19) (nx := 10) (by decide +kernel) q0 c25 ?_
    refine g_5 (a := 2) (b := 0) (nx := 11) (by decide +kernel) rfl ?_
    obtain ⟨r3, h⟩ := h
    by_cases c24 : x2 < 0
    · rw [if_pos c24] at h
      refine g_40t (a := 2) (b := 19) (nx := 14) (by decide +kernel) r3 (by exact (cb_2 _ _).mpr c24) ?_
      refine g_1 (a := (-1)) (b := 0) (nx := 20) (by decide +kernel) ?_
      exact g_91 (b := 0) (nx := 21) (by decide +kernel) h
    · rw [if_neg c24] at h
      refine g_40f (a := 2) (b := 19) (nx := 14) (by decide +kernel) r3 (by exact fun hz => c24 ((cb_2 _ _).mp hz)) ?_
      refine g_5 (a := 2) (b := 0) (nx := 15) (by decide +kernel) rfl ?_
      refine g_1 (a := 5) (b := 0) (nx := 16) (by decide +kernel) ?_
      by_cases c23 : x2 ≤ 5
      · rw [if_pos c23] at h
        refine g_41t (a := 5) (b := 21) (nx := 19) (by decide +kernel) (by rw [wr_id r3, wr_id (show inR 5 by decide)]; exact (cb_5 _ _).mpr c23) ?_
        refine g_5 (a := 2) (b := 0) (nx := 22) (by decide +kernel) rfl ?_
        by_cases c22 : x2 = 0
        · rw [if_pos c22] at h
          refine g_40f (a := 1) (b := 30) (nx := 25) (by decide +kernel) r3 (by exact fun hz => ((cb_1 _ _).mp hz) c22) ?_
          refine g_7 (a := 3) (b := 0) (nx := 26) (by decide +kernel) rfl ?_
          refine g_50 (a := 5) (b := 1) (nx := 29) (by decide +kernel) h.1 ?_
          replace h := h.2
          exact g_91 (b := 0) (nx := 30) (by decide +kernel) h
        · rw [if_neg c22] at h
          refine g_40t (a := 1) (b := 30) (nx := 25) (by decide +kernel) r3 (by exact (cb_1 _ _).mpr c22) ?_
          refine g_7 (a := 0) (b := 0) (nx := 31) (by decide +kernel) rfl ?_
          refine g_52 (a := 11) (b := 2) (nx := 34) (by decide +kernel) h0 ?_
          refine g_7 (a := 0) (b := 0) (nx := 35) (by decide +kernel) rfl ?_
          refine g_52 (a := 11) (b := 7) (nx := 38) (by decide +kernel) h0 ?_
          refine g_7 (a := 3) (b := 0) (nx := 39) (by decide +kernel) rfl ?_
          refine g_80 (a := 11) (b := 2) (nx := 42) (by decide +kernel) (r := (M1 x0 2)) (As := [vR (M1 x0 7), vR y2]) (st' := []) (z := 11) rfl rfl rfl (Nat.le_of_ble_eq_true rfl) h.1 (Nat.le_of_ble_eq_true rfl) rfl (c_V (by decide +kernel) h.2 (fun M4 h => ?_))
          refine g_5 (a := 2) (b := 0) (nx := 43) (by decide +kernel) rfl ?_
          refine g_1 (a := 1) (b := 0) (nx := 44) (by decide +kernel) ?_
          by_cases c21 : x2 = 1
          · rw [if_pos c21] at h
            refine g_41f (a := 1) (b := 55) (nx := 47) (by decide +kernel) (by rw [wr_id r3, wr_id (show inR 1 by decide)]; exact fun hz => ((cb_1 _ _).mp hz) c21) ?_
            refine g_7 (a := 0) (b := 0) (nx := 48) (by decide +kernel) rfl ?_
            refine g_52 (a := 11) (b := 2) (nx := 51) (by decide +kernel) h0 ?_
            refine g_50 (a := 1) (b := 9) (nx := 54) (by decide +kernel) h.1 ?_
            replace h := h.2
            exact g_91 (b := 0) (nx := 55) (by decide +kernel) h
          · rw [if_neg c21] at h
            refine g_41t (a := 1) (b := 55) (nx := 47) (by decide +kernel) (by rw [wr_id r3, wr_id (show inR 1 by decide)]; exact (cb_1 _ _).mpr c21) ?_
            refine g_5 (a := 2) (b := 0) (nx := 56) (by decide +kernel) rfl ?_
            refine g_1 (a := 5) (b := 0) (nx := 57) (by decide +kernel) ?_
            by_cases c20 : x2 = 5
            · rw [if_pos c20] at h
              refine g_41f (a := 1) (b := 68) (nx := 60) (by decide +kernel) (by rw [wr_id r3, wr_id (show inR 5 by decide)]; exact fun hz => ((cb_1 _ _).mp hz) c20) ?_
              refine g_7 (a := 0) (b := 0) (nx := 61) (by decide +kernel) rfl ?_
              refine g_52 (a := 11) (b := 2) (nx := 64) (by decide +kernel) h0 ?_
              refine g_80 (a := 16) (b := 0) (nx := 67) (by decide +kernel) (r := (M4 x0 2)) (As := []) (st' := []) (z := 16) rfl rfl rfl (Nat.le_of_ble_eq_true rfl) h.1 (Nat.le_of_ble_eq_true rfl) rfl (c_I (by decide +kernel) h.2 (fun y19 M18 h => ?_))
              exact g_91 (b := 0) (nx := 68) (by decide +kernel) h
            · rw [if_neg c20] at h
              refine g_41t (a := 1) (b := 68) (nx := 60) (by decide +kernel) (by rw [wr_id r3, wr_id (show inR 5 by decide)]; exact (cb_1 _ _).mpr c20) ?_
              refine g_7 (a := 0) (b := 0) (nx := 69) (by decide +kernel) rfl ?_
              refine g_52 (a := 11) (b := 2) (nx := 72) (by decide +kernel) h0 ?_
              refine g_50 (a := 1) (b := 9) (nx := 75) (by decide +kernel) h.1 ?_
              replace h := h.2
              obtain ⟨r6, h⟩ := h
              by_cases c17 : (M4 (M4 x0 2) 9) = 0
              · rw [if_pos c17] at h
                refine g_40f (a := 1) (b := 80) (nx := 78) (by decide +kernel) r6 (by exact fun hz => ((cb_1 _ _).mp hz) c17) ?_
                refine g_1 (a := (-1)) (b := 0) (nx := 79) (by decide +kernel) ?_
                exact g_91 (b := 0) (nx := 80) (by decide +kernel) h
              · rw [if_neg c17] at h
                refine g_40t (a := 1) (b := 80) (nx := 78) (by decide +kernel) r6 (by exact (cb_1 _ _).mpr c17) ?_
                refine g_5 (a := 2) (b := 0) (nx := 81) (by decide +kernel) rfl ?_
                refine g_1 (a := 4) (b := 0) (nx := 82) (by decide +kernel) ?_
                by_cases c16 : x2 = 4
                · rw [if_pos c16] at h
                  refine g_41f (a := 1) (b := 93) (nx := 85) (by decide +kernel) (by rw [wr_id r3, wr_id (show inR 4 by decide)]; exact fun hz => ((cb_1 _ _).mp hz) c16) ?_
                  refine g_7 (a := 0) (b := 0) (nx := 86) (by decide +kernel) rfl ?_
                  refine g_52 (a := 11) (b := 2) (nx := 89) (by decide +kernel) h0 ?_
                  refine g_80 (a := 18) (b := 0) (nx := 92) (by decide +kernel) (r := (M4 x0 2)) (As := []) (st' := []) (z := 18) rfl rfl rfl (Nat.le_of_ble_eq_true rfl) h.1 (Nat.le_of_ble_eq_true rfl) rfl (c_I (by decide +kernel) h.2 (fun y15 M14 h => ?_))
                  exact g_91 (b := 0) (nx := 93) (by decide +kernel) h
                · rw [if_neg c16] at h
                  refine g_41t (a := 1) (b := 93) (nx := 85) (by decide +kernel) (by rw [wr_id r3, wr_id (show inR 4 by decide)]; exact (cb_1 _ _).mpr c16) ?_
                  refine g_7 (a := 0) (b := 0) (nx := 94) (by decide +kernel) rfl ?_
                  refine g_52 (a := 11) (b := 2) (nx := 97) (by decide +kernel) h0 ?_
                  refine g_80 (a := 17) (b := 0) (nx := 100) (by decide +kernel) (r := (M4 x0 2)) (As := []) (st' := []) (z := 17) rfl rfl rfl (Nat.le_of_ble_eq_true rfl) h.1 (Nat.le_of_ble_eq_true rfl) rfl (c_V (by decide +kernel) h.2 (fun M7 h => ?_))
                  refine g_5 (a := 2) (b := 0) (nx := 101) (by decide +kernel) rfl ?_
                  refine g_1 (a := 2) (b := 0) (nx := 102) (by decide +kernel) ?_
                  by_cases c13 : x2 = 2
                  · rw [if_pos c13] at h
                    refine g_41f (a := 1) (b := 115) (nx := 105) (by decide +kernel) (by rw [wr_id r3, wr_id (show inR 2 by decide)]; exact fun hz => ((cb_1 _ _).mp hz) c13) ?_
                    refine g_7 (a := 0) (b := 0) (nx := 106) (by decide +kernel) rfl ?_
                    refine g_52 (a := 11) (b := 2) (nx := 109) (by decide +kernel) h0 ?_
                    refine g_80 (a := 38) (b := 0) (nx := 112) (by decide +kernel) (r := (M7 x0 2)) (As := []) (st' := []) (z := 38) rfl rfl rfl (Nat.le_of_ble_eq_true rfl) h.1 (Nat.le_of_ble_eq_true rfl) rfl (c_I (by decide +kernel) h.2 (fun y12 M11 h => ?_))
                    refine g_44 (a := 0) (b := 122) (nx := 115) (by decide +kernel) ?_
                    exact g_91 (b := 0) (nx := 123) (by decide +kernel) h
                  · rw [if_neg c13] at h
                    refine g_41t (a := 1) (b := 115) (nx := 105) (by decide +kernel) (by rw [wr_id r3, wr_id (show inR 2 by decide)]; exact (cb_1 _ _).mpr c13) ?_
                    refine g_7 (a := 0) (b := 0) (nx := 116) (by decide +kernel) rfl ?_
                    refine g_52 (a := 11) (b := 2) (nx := 119) (by decide +kernel) h0 ?_
                    refine g_80 (a := 36) (b := 0) (nx := 122) (by decide +kernel) (r := (M7 x0 2)) (As := []) (st' := []) (z := 36) rfl rfl rfl (Nat.le_of_ble_eq_true rfl) h.1 (Nat.le_of_ble_eq_true rfl) rfl (c_I (by decide +kernel) h.2 (fun y10 M9 h => ?_))
                    exact g_91 (b := 0) (nx := 123) (by decide +kernel) h
      · rw [if_neg c23] at h
        refine g_41f (a := 5) (b := 21) (nx := 19) (by decide +kernel) (by rw [wr_id r3, wr_id (show inR 5 by decide)]; exact fun hz => c23 ((cb_5 _ _).mp hz)) ?_
        refine g_1 (a := (-1)) (b := 0) (nx := 20) (by decide +kernel) ?_
        exact g_91 (b := 0) (nx := 21) (by decide +kernel) h
-- 152 SyllableMaker.at(II)I
theorem t_152 {x0 x1 x2 : Int} {M : Mem} {Q : AV → Mem → Prop} (h0 : gO 11 x0) (h : WF 175 [vR x0, vI x1] M (fun y2 M1 => y2 ≠ -1000 ∧ (if y2 = 0 then (Q (vI (-1)) M1) else (((shA SH y2).1 = 5) ∧ WI 82 [vR y2, vI x2] M1 (fun y4 M3 => Q (vI y4) M3))))) : WC 152 [vR x0, vI x1, vI x2] M Q := by
  show WR 152 0 [some (vR x0), some (vI x1), some (vI x2), none] [] M Q
  refine g_7 (a := 0) (b := 0) (nx := 1) (by decide +kernel) rfl ?_
  refine g_5 (a := 1) (b := 0) (nx := 2) (by decide +kernel) rfl ?_
  refine g_80 (a := 175) (b := 1) (nx := 5) (by decide +kernel) (r := x0) (As := [vI x1]) (st' := []) (z := 175) rfl rfl rfl (Nat.le_of_ble_eq_true rfl) h0.2 (Nat.le_of_ble_eq_true rfl) rfl (c_R (by decide +kernel) h (fun y2 M1 h => ?_))
  refine g_10 (a := 3) (b := 0) (nx := 6) (by decide +kernel) rfl (ls' := [some (vR x0), some (vI x1), some (vI x2), some (vR y2)]) rfl ?_
  refine g_7 (a := 3) (b := 0) (nx := 7) (by decide +kernel) rfl ?_
  obtain ⟨q0, h⟩ := h
  by_cases c5 : y2 = 0
  · rw [if_pos c5] at h
    refine g_43t (a := 0) (b := 14) (nx := 10) (by decide +kernel) c5 ?_
    refine g_1 (a := (-1)) (b := 0) (nx := 11) (by decide +kernel) ?_
    refine g_44 (a := 0) (b := 19) (nx := 14) (by decide +kernel) ?_
    exact g_91 (b := 0) (nx := 20) (by decide +kernel) h
  · rw [if_neg c5] at h
    refine g_43f (a := 0) (b := 14) (nx := 10) (by decide +kernel) q0 c5 ?_
    refine g_7 (a := 3) (b := 0) (nx := 15) (by decide +kernel) rfl ?_
    refine g_5 (a := 2) (b := 0) (nx := 16) (by decide +kernel) rfl ?_
    refine g_80 (a := 82) (b := 1) (nx := 19) (by decide +kernel) (r := y2) (As := [vI x2]) (st' := []) (z := 82) rfl rfl rfl (Nat.le_of_ble_eq_true rfl) h.1 (Nat.le_of_ble_eq_true rfl) rfl (c_I (by decide +kernel) h.2 (fun y4 M3 h => ?_))
    exact g_91 (b := 0) (nx := 20) (by decide +kernel) h
-- 153 SyllableMaker.syllable(IIII)I
theorem t_153 {x0 x1 x2 x3 x4 : Int} {M : Mem} {Q : AV → Mem → Prop} (h0 : gO 11 x0) (h : WF 175 [vR x0, vI x1] M (fun y2 M1 => y2 ≠ -1000 ∧ (if y2 = 0 then (Q (vI (-100)) M1) else (inR x2 ∧ (if x2 < 0 then (Q (vI (-100)) M1) else (if x2 ≤ 2 then (if x2 = 2 then (inR x1 ∧ (if x1 < 100 then (((shA SH (M1 x0 3)).1 = 7) ∧ WI 107 [vR (M1 x0 3), vR (M1 x0 7), vI x1] M1 (fun y25 M24 => ((shA SH (M24 x0 2)).1 = 1) ∧ WI 13 [vR (M24 x0 2), vI x3] M24 (fun y27 M26 => inR y27 ∧ (if y27 = 0 then (Q (vI (-100)) M26) else (WI 154 [vR x0, vI x3, vI x4] M26 (fun y30 M29 => Q (vI y30) M29)))))) else (Q (vI (-100)) M1))) else (((shA SH (M1 x0 2)).1 = 1) ∧ WV 11 [vR (M1 x0 2), vR (M1 x0 7), vR y2] M1 (fun M4 => if x2 = 1 then (((shA SH (M4 x0 2)).1 = 1) ∧ WI 18 [vR (M4 x0 2)] M4 (fun y15 M14 => ((shA SH (M14 x0 2)).1 = 1) ∧ WI 13 [vR (M14 x0 2), vI x3] M14 (fun y17 M16 => inR y17 ∧ (if y17 = 0 then (Q (vI (-100)) M16) else (WI 154 [vR x0, vI x3, vI x4] M16 (fun y20 M19 => Q (vI y20) M19)))))) else (((shA SH (M4 x0 2)).1 = 1) ∧ WV 17 [vR (M4 x0 2)] M4 (fun M6 => ((shA SH (M6 x0 2)).1 = 1) ∧ WI 13 [vR (M6 x0 2), vI x3] M6 (fun y9 M8 => inR y9 ∧ (if y9 = 0 then (Q (vI (-100)) M8) else (WI 154 [vR x0, vI x3, vI x4] M8 (fun y12 M11 => Q (vI y12) M11))))))))) else (Q (vI (-100)) M1))))))) : WC 153 [vR x0, vI x1, vI x2, vI x3, vI x4] M Q := by
  show WR 153 0 [some (vR x0), some (vI x1), some (vI x2), some (vI x3), some (vI x4), none] [] M Q
  refine g_7 (a := 0) (b := 0) (nx := 1) (by decide +kernel) rfl ?_
  refine g_5 (a := 1) (b := 0) (nx := 2) (by decide +kernel) rfl ?_
  refine g_80 (a := 175) (b := 1) (nx := 5) (by decide +kernel) (r := x0) (As := [vI x1]) (st' := []) (z := 175) rfl rfl rfl (Nat.le_of_ble_eq_true rfl) h0.2 (Nat.le_of_ble_eq_true rfl) rfl (c_R (by decide +kernel) h (fun y2 M1 h => ?_))
  refine g_10 (a := 5) (b := 0) (nx := 7) (by decide +kernel) rfl (ls' := [some (vR x0), some (vI x1), some (vI x2), some (vI x3), some (vI x4), some (vR y2)]) rfl ?_
  refine g_7 (a := 5) (b := 0) (nx := 9) (by decide +kernel) rfl ?_
  obtain ⟨q0, h⟩ := h
  by_cases c36 : y2 = 0
  · rw [if_pos c36] at h
    refine g_42t (a := 0) (b := 21) (nx := 12) (by decide +kernel) c36 ?_
    refine g_1 (a := (-100)) (b := 0) (nx := 23) (by decide +kernel) ?_
    exact g_91 (b := 0) (nx := 24) (by decide +kernel) h
  · rw [if_neg c36] at h
    refine g_42f (a := 0) (b := 21) (nx := 12) (by decide +kernel) q0 c36 ?_
    refine g_5 (a := 2) (b := 0) (nx := 13) (by decide +kernel) rfl ?_
    obtain ⟨r3, h⟩ := h
    by_cases c35 : x2 < 0
    · rw [if_pos c35] at h
      refine g_40t (a := 2) (b := 21) (nx := 16) (by decide +kernel) r3 (by exact (cb_2 _ _).mpr c35) ?_
      refine g_1 (a := (-100)) (b := 0) (nx := 23) (by decide +kernel) ?_
      exact g_91 (b := 0) (nx := 24) (by decide +kernel) h
    · rw [if_neg c35] at h
      refine g_40f (a := 2) (b := 21) (nx := 16) (by decide +kernel) r3 (by exact fun hz => c35 ((cb_2 _ _).mp hz)) ?_
      refine g_5 (a := 2) (b := 0) (nx := 17) (by decide +kernel) rfl ?_
      refine g_1 (a := 2) (b := 0) (nx := 18) (by decide +kernel) ?_
      by_cases c34 : x2 ≤ 2
      · rw [if_pos c34] at h
        refine g_41t (a := 5) (b := 24) (nx := 21) (by decide +kernel) (by rw [wr_id r3, wr_id (show inR 2 by decide)]; exact (cb_5 _ _).mpr c34) ?_
        refine g_5 (a := 2) (b := 0) (nx := 25) (by decide +kernel) rfl ?_
        refine g_1 (a := 2) (b := 0) (nx := 26) (by decide +kernel) ?_
        by_cases c33 : x2 = 2
        · rw [if_pos c33] at h
          refine g_41f (a := 1) (b := 54) (nx := 29) (by decide +kernel) (by rw [wr_id r3, wr_id (show inR 2 by decide)]; exact fun hz => ((cb_1 _ _).mp hz) c33) ?_
          refine g_5 (a := 1) (b := 0) (nx := 30) (by decide +kernel) rfl ?_
          refine g_1 (a := 100) (b := 0) (nx := 32) (by decide +kernel) ?_
          obtain ⟨r23, h⟩ := h
          by_cases c32 : x1 < 100
          · rw [if_pos c32] at h
            refine g_41t (a := 2) (b := 38) (nx := 35) (by decide +kernel) (by rw [wr_id r23, wr_id (show inR 100 by decide)]; exact (cb_2 _ _).mpr c32) ?_
            refine g_7 (a := 0) (b := 0) (nx := 39) (by decide +kernel) rfl ?_
            refine g_52 (a := 11) (b := 3) (nx := 42) (by decide +kernel) h0 ?_
            refine g_7 (a := 0) (b := 0) (nx := 43) (by decide +kernel) rfl ?_
            refine g_52 (a := 11) (b := 7) (nx := 46) (by decide +kernel) h0 ?_
            refine g_5 (a := 1) (b := 0) (nx := 47) (by decide +kernel) rfl ?_
            refine g_80 (a := 107) (b := 2) (nx := 50) (by decide +kernel) (r := (M1 x0 3)) (As := [vR (M1 x0 7), vI x1]) (st' := []) (z := 107) rfl rfl rfl (Nat.le_of_ble_eq_true rfl) h.1 (Nat.le_of_ble_eq_true rfl) rfl (c_I (by decide +kernel) h.2 (fun y25 M24 h => ?_))
            refine g_12 (a := 0) (b := 0) (nx := 51) (by decide +kernel) rfl ?_
            refine g_44 (a := 0) (b := 90) (nx := 54) (by decide +kernel) ?_
            refine g_7 (a := 0) (b := 0) (nx := 91) (by decide +kernel) rfl ?_
            refine g_52 (a := 11) (b := 2) (nx := 94) (by decide +kernel) h0 ?_
            refine g_5 (a := 3) (b := 0) (nx := 95) (by decide +kernel) rfl ?_
            refine g_80 (a := 13) (b := 1) (nx := 98) (by decide +kernel) (r := (M24 x0 2)) (As := [vI x3]) (st' := []) (z := 13) rfl rfl rfl (Nat.le_of_ble_eq_true rfl) h.1 (Nat.le_of_ble_eq_true rfl) rfl (c_I (by decide +kernel) h.2 (fun y27 M26 h => ?_))
            obtain ⟨r28, h⟩ := h
            by_cases c31 : y27 = 0
            · rw [if_pos c31] at h
              refine g_40t (a := 0) (b := 111) (nx := 101) (by decide +kernel) r28 (by exact (cb_0 _ _).mpr c31) ?_
              refine g_1 (a := (-100)) (b := 0) (nx := 113) (by decide +kernel) ?_
              exact g_91 (b := 0) (nx := 114) (by decide +kernel) h
            · rw [if_neg c31] at h
              refine g_40f (a := 0) (b := 111) (nx := 101) (by decide +kernel) r28 (by exact fun hz => c31 ((cb_0 _ _).mp hz)) ?_
              refine g_7 (a := 0) (b := 0) (nx := 102) (by decide +kernel) rfl ?_
              refine g_5 (a := 3) (b := 0) (nx := 103) (by decide +kernel) rfl ?_
              refine g_5 (a := 4) (b := 0) (nx := 105) (by decide +kernel) rfl ?_
              refine g_80 (a := 154) (b := 2) (nx := 108) (by decide +kernel) (r := x0) (As := [vI x3, vI x4]) (st' := []) (z := 154) rfl rfl rfl (Nat.le_of_ble_eq_true rfl) h0.2 (Nat.le_of_ble_eq_true rfl) rfl (c_I (by decide +kernel) h (fun y30 M29 h => ?_))
              refine g_44 (a := 0) (b := 113) (nx := 111) (by decide +kernel) ?_
              exact g_91 (b := 0) (nx := 114) (by decide +kernel) h
          · rw [if_neg c32] at h
            refine g_41f (a := 2) (b := 38) (nx := 35) (by decide +kernel) (by rw [wr_id r23, wr_id (show inR 100 by decide)]; exact fun hz => c32 ((cb_2 _ _).mp hz)) ?_
            refine g_1 (a := (-100)) (b := 0) (nx := 37) (by decide +kernel) ?_
            exact g_91 (b := 0) (nx := 38) (by decide +kernel) h
        · rw [if_neg c33] at h
          refine g_41t (a := 1) (b := 54) (nx := 29) (by decide +kernel) (by rw [wr_id r3, wr_id (show inR 2 by decide)]; exact (cb_1 _ _).mpr c33) ?_
          refine g_7 (a := 0) (b := 0) (nx := 55) (by decide +kernel) rfl ?_
          refine g_52 (a := 11) (b := 2) (nx := 58) (by decide +kernel) h0 ?_
          refine g_7 (a := 0) (b := 0) (nx := 59) (by decide +kernel) rfl ?_
          refine g_52 (a := 11) (b := 7) (nx := 62) (by decide +kernel) h0 ?_
          refine g_7 (a := 5) (b := 0) (nx := 64) (by decide +kernel) rfl ?_
          refine g_80 (a := 11) (b := 2) (nx := 67) (by decide +kernel) (r := (M1 x0 2)) (As := [vR (M1 x0 7), vR y2]) (st' := []) (z := 11) rfl rfl rfl (Nat.le_of_ble_eq_true rfl) h.1 (Nat.le_of_ble_eq_true rfl) rfl (c_V (by decide +kernel) h.2 (fun M4 h => ?_))
          refine g_5 (a := 2) (b := 0) (nx := 68) (by decide +kernel) rfl ?_
          refine g_1 (a := 1) (b := 0) (nx := 69) (by decide +kernel) ?_
          by_cases c22 : x2 = 1
          · rw [if_pos c22] at h
            refine g_41f (a := 1) (b := 83) (nx := 72) (by decide +kernel) (by rw [wr_id r3, wr_id (show inR 1 by decide)]; exact fun hz => ((cb_1 _ _).mp hz) c22) ?_
            refine g_7 (a := 0) (b := 0) (nx := 73) (by decide +kernel) rfl ?_
            refine g_52 (a := 11) (b := 2) (nx := 76) (by decide +kernel) h0 ?_
            refine g_80 (a := 18) (b := 0) (nx := 79) (by decide +kernel) (r := (M4 x0 2)) (As := []) (st' := []) (z := 18) rfl rfl rfl (Nat.le_of_ble_eq_true rfl) h.1 (Nat.le_of_ble_eq_true rfl) rfl (c_I (by decide +kernel) h.2 (fun y15 M14 h => ?_))
            refine g_12 (a := 0) (b := 0) (nx := 80) (by decide +kernel) rfl ?_
            refine g_44 (a := 0) (b := 90) (nx := 83) (by decide +kernel) ?_
            refine g_7 (a := 0) (b := 0) (nx := 91) (by decide +kernel) rfl ?_
            refine g_52 (a := 11) (b := 2) (nx := 94) (by decide +kernel) h0 ?_
            refine g_5 (a := 3) (b := 0) (nx := 95) (by decide +kernel) rfl ?_
            refine g_80 (a := 13) (b := 1) (nx := 98) (by decide +kernel) (r := (M14 x0 2)) (As := [vI x3]) (st' := []) (z := 13) rfl rfl rfl (Nat.le_of_ble_eq_true rfl) h.1 (Nat.le_of_ble_eq_true rfl) rfl (c_I (by decide +kernel) h.2 (fun y17 M16 h => ?_))
            obtain ⟨r18, h⟩ := h
            by_cases c21 : y17 = 0
            · rw [if_pos c21] at h
              refine g_40t (a := 0) (b := 111) (nx := 101) (by decide +kernel) r18 (by exact (cb_0 _ _).mpr c21) ?_
              refine g_1 (a := (-100)) (b := 0) (nx := 113) (by decide +kernel) ?_
              exact g_91 (b := 0) (nx := 114) (by decide +kernel) h
            · rw [if_neg c21] at h
              refine g_40f (a := 0) (b := 111) (nx := 101) (by decide +kernel) r18 (by exact fun hz => c21 ((cb_0 _ _).mp hz)) ?_
              refine g_7 (a := 0) (b := 0) (nx := 102) (by decide +kernel) rfl ?_
              refine g_5 (a := 3) (b := 0) (nx := 103) (by decide +kernel) rfl ?_
              refine g_5 (a := 4) (b := 0) (nx := 105) (by decide +kernel) rfl ?_
              refine g_80 (a := 154) (b := 2) (nx := 108) (by decide +kernel) (r := x0) (As := [vI x3, vI x4]) (st' := []) (z := 154) rfl rfl rfl (Nat.le_of_ble_eq_true rfl) h0.2 (Nat.le_of_ble_eq_true rfl) rfl (c_I (by decide +kernel) h (fun y20 M19 h => ?_))
              refine g_44 (a := 0) (b := 113) (nx := 111) (by decide +kernel) ?_
              exact g_91 (b := 0) (nx := 114) (by decide +kernel) h
          · rw [if_neg c22] at h
            refine g_41t (a := 1) (b := 83) (nx := 72) (by decide +kernel) (by rw [wr_id r3, wr_id (show inR 1 by decide)]; exact (cb_1 _ _).mpr c22) ?_
            refine g_7 (a := 0) (b := 0) (nx := 84) (by decide +kernel) rfl ?_
            refine g_52 (a := 11) (b := 2) (nx := 87) (by decide +kernel) h0 ?_
            refine g_80 (a := 17) (b := 0) (nx := 90) (by decide +kernel) (r := (M4 x0 2)) (As := []) (st' := []) (z := 17) rfl rfl rfl (Nat.le_of_ble_eq_true rfl) h.1 (Nat.le_of_ble_eq_true rfl) rfl (c_V (by decide +kernel) h.2 (fun M6 h => ?_))
            refine g_7 (a := 0) (b := 0) (nx := 91) (by decide +kernel) rfl ?_
            refine g_52 (a := 11) (b := 2) (nx := 94) (by decide +kernel) h0 ?_
            refine g_5 (a := 3) (b := 0) (nx := 95) (by decide +kernel) rfl ?_
            refine g_80 (a := 13) (b := 1) (nx := 98) (by decide +kernel) (r := (M6 x0 2)) (As := [vI x3]) (st' := []) (z := 13) rfl rfl rfl (Nat.le_of_ble_eq_true rfl) h.1 (Nat.le_of_ble_eq_true rfl) rfl (c_I (by decide +kernel) h.2 (fun y9 M8 h => ?_))
            obtain ⟨r10, h⟩ := h
            by_cases c13 : y9 = 0
            · rw [if_pos c13] at h
              refine g_40t (a := 0) (b := 111) (nx := 101) (by decide +kernel) r10 (by exact (cb_0 _ _).mpr c13) ?_
              refine g_1 (a := (-100)) (b := 0) (nx := 113) (by decide +kernel) ?_
              exact g_91 (b := 0) (nx := 114) (by decide +kernel) h
            · rw [if_neg c13] at h
              refine g_40f (a := 0) (b := 111) (nx := 101) (by decide +kernel) r10 (by exact fun hz => c13 ((cb_0 _ _).mp hz)) ?_
              refine g_7 (a := 0) (b := 0) (nx := 102) (by decide +kernel) rfl ?_
              refine g_5 (a := 3) (b := 0) (nx := 103) (by decide +kernel) rfl ?_
              refine g_5 (a := 4) (b := 0) (nx := 105) (by decide +kernel) rfl ?_
              refine g_80 (a := 154) (b := 2) (nx := 108) (by decide +kernel) (r := x0) (As := [vI x3, vI x4]) (st' := []) (z := 154) rfl rfl rfl (Nat.le_of_ble_eq_true rfl) h0.2 (Nat.le_of_ble_eq_true rfl) rfl (c_I (by decide +kernel) h (fun y12 M11 h => ?_))
              refine g_44 (a := 0) (b := 113) (nx := 111) (by decide +kernel) ?_
              exact g_91 (b := 0) (nx := 114) (by decide +kernel) h
      · rw [if_neg c34] at h
        refine g_41f (a := 5) (b := 24) (nx := 21) (by decide +kernel) (by rw [wr_id r3, wr_id (show inR 2 by decide)]; exact fun hz => c34 ((cb_5 _ _).mp hz)) ?_
        refine g_1 (a := (-100)) (b := 0) (nx := 23) (by decide +kernel) ?_
        exact g_91 (b := 0) (nx := 24) (by decide +kernel) h
-- 154 SyllableMaker.tellSyllable(II)I
theorem t_154 {x0 x1 x2 : Int} {M : Mem} {Q : AV → Mem → Prop} (h0 : gO 11 x0) (h : inR x2 ∧ (if x2 = 0 then (((shA SH (M x0 2)).1 = 1) ∧ WI 24 [vR (M x0 2), vI x1] M (fun y4 M3 => Q (vI y4) M3)) else (if x2 = 1 then (((shA SH (M x0 2)).1 = 1) ∧ WI 25 [vR (M x0 2), vI x1] M (fun y7 M6 => Q (vI y7) M6)) else (if x2 = 2 then (((shA SH (M x0 2)).1 = 1) ∧ WI 26 [vR (M x0 2), vI x1] M (fun y10 M9 => Q (vI y10) M9)) else (if x2 = 3 then (((shA SH (M x0 2)).1 = 1) ∧ WI 27 [vR (M x0 2), vI x1] M (fun y13 M12 => Q (vI y13) M12)) else (if x2 = 4 then (((shA SH (M x0 2)).1 = 1) ∧ WI 32 [vR (M x0 2), vI x1] M (fun y16 M15 => Q (vI y16) M15)) else (if x2 = 5 then (((shA SH (M x0 2)).1 = 1) ∧ WI 33 [vR (M x0 2), vI x1] M (fun y19 M18 => inR y19 ∧ (if y19 = 0 then (Q (vI 0) M18) else (Q (vI 1) M18)))) else (if x2 = 6 then (((shA SH (M x0 2)).1 = 1) ∧ WI 35 [vR (M x0 2), vI x1] M (fun y24 M23 => Q (vI y24) M23)) else (Q (vI (-100)) M))))))))) : WC 154 [vR x0, vI x1, vI x2] M Q := by
  show WR 154 0 [some (vR x0), some (vI x1), some (vI x2)] [] M Q
  refine g_5 (a := 2) (b := 0) (nx := 1) (by decide +kernel) rfl ?_
  obtain ⟨r1, h⟩ := h
  by_cases c2 : x2 = 0
  · rw [if_pos c2] at h
    refine g_45 (a := 0) (b := 115) (nx := 44) (by decide +kernel) r1 (t := 44) (by rw [(show sws 154 1 = [(0, 44), (1, 53), (2, 62), (3, 71), (4, 80), (5, 89), (6, 106)] from by decide +kernel)]; simp only [swL]; simp [c2]) ?_
    refine g_7 (a := 0) (b := 0) (nx := 45) (by decide +kernel) rfl ?_
    refine g_52 (a := 11) (b := 2) (nx := 48) (by decide +kernel) h0 ?_
    refine g_5 (a := 1) (b := 0) (nx := 49) (by decide +kernel) rfl ?_
    refine g_80 (a := 24) (b := 1) (nx := 52) (by decide +kernel) (r := (M x0 2)) (As := [vI x1]) (st' := []) (z := 24) rfl rfl rfl (Nat.le_of_ble_eq_true rfl) h.1 (Nat.le_of_ble_eq_true rfl) rfl (c_I (by decide +kernel) h.2 (fun y4 M3 h => ?_))
    exact g_91 (b := 0) (nx := 53) (by decide +kernel) h
  · rw [if_neg c2] at h
    by_cases c5 : x2 = 1
    · rw [if_pos c5] at h
      refine g_45 (a := 0) (b := 115) (nx := 44) (by decide +kernel) r1 (t := 53) (by rw [(show sws 154 1 = [(0, 44), (1, 53), (2, 62), (3, 71), (4, 80), (5, 89), (6, 106)] from by decide +kernel)]; simp only [swL]; simp [c5]) ?_
      refine g_7 (a := 0) (b := 0) (nx := 54) (by decide +kernel) rfl ?_
      refine g_52 (a := 11) (b := 2) (nx := 57) (by decide +kernel) h0 ?_
      refine g_5 (a := 1) (b := 0) (nx := 58) (by decide +kernel) rfl ?_
      refine g_80 (a := 25) (b := 1) (nx := 61) (by decide +kernel) (r := (M x0 2)) (As := [vI x1]) (st' := []) (z := 25) rfl rfl rfl (Nat.le_of_ble_eq_true rfl) h.1 (Nat.le_of_ble_eq_true rfl) rfl (c_I (by decide +kernel) h.2 (fun y7 M6 h => ?_))
      exact g_91 (b := 0) (nx := 62) (by decide +kernel) h
    · rw [if_neg c5] at h
      by_cases c8 : x2 = 2
      · rw [if_pos c8] at h
        refine g_45 (a := 0) (b := 115) (nx := 44) (by decide +kernel) r1 (t := 62) (by rw [(show sws 154 1 = [(0, 44), (1, 53), (2, 62), (3, 71), (4, 80), (5, 89), (6, 106)] from by decide +kernel)]; simp only [swL]; simp [c8]) ?_
        refine g_7 (a := 0) (b := 0) (nx := 63) (by decide +kernel) rfl ?_
        refine g_52 (a := 11) (b := 2) (nx := 66) (by decide +kernel) h0 ?_
        refine g_5 (a := 1) (b := 0) (nx := 67) (by decide +kernel) rfl ?_
        refine g_80 (a := 26) (b := 1) (nx := 70) (by decide +kernel) (r := (M x0 2)) (As := [vI x1]) (st' := []) (z := 26) rfl rfl rfl (Nat.le_of_ble_eq_true rfl) h.1 (Nat.le_of_ble_eq_true rfl) rfl (c_I (by decide +kernel) h.2 (fun y10 M9 h => ?_))
        exact g_91 (b := 0) (nx := 71) (by decide +kernel) h
      · rw [if_neg c8] at h
        by_cases c11 : x2 = 3
        · rw [if_pos c11] at h
          refine g_45 (a := 0) (b := 115) (nx := 44) (by decide +kernel) r1 (t := 71) (by rw [(show sws 154 1 = [(0, 44), (1, 53), (2, 62), (3, 71), (4, 80), (5, 89), (6, 106)] from by decide +kernel)]; simp only [swL]; simp [c11]) ?_
          refine g_7 (a := 0) (b := 0) (nx := 72) (by decide +kernel) rfl ?_
          refine g_52 (a := 11) (b := 2) (nx := 75) (by decide +kernel) h0 ?_
          refine g_5 (a := 1) (b := 0) (nx := 76) (by decide +kernel) rfl ?_
          refine g_80 (a := 27) (b := 1) (nx := 79) (by decide +kernel) (r := (M x0 2)) (As := [vI x1]) (st' := []) (z := 27) rfl rfl rfl (Nat.le_of_ble_eq_true rfl) h.1 (Nat.le_of_ble_eq_true rfl) rfl (c_I (by decide +kernel) h.2 (fun y13 M12 h => ?_))
          exact g_91 (b := 0) (nx := 80) (by decide +kernel) h
        · rw [if_neg c11] at h
          by_cases c14 : x2 = 4
          · rw [if_pos c14] at h
            refine g_45 (a := 0) (b := 115) (nx := 44) (by decide +kernel) r1 (t := 80) (by rw [(show sws 154 1 = [(0, 44), (1, 53), (2, 62), (3, 71), (4, 80), (5, 89), (6, 106)] from by decide +kernel)]; simp only [swL]; simp [c14]) ?_
            refine g_7 (a := 0) (b := 0) (nx := 81) (by decide +kernel) rfl ?_
            refine g_52 (a := 11) (b := 2) (nx := 84) (by decide +kernel) h0 ?_
            refine g_5 (a := 1) (b := 0) (nx := 85) (by decide +kernel) rfl ?_
            refine g_80 (a := 32) (b := 1) (nx := 88) (by decide +kernel) (r := (M x0 2)) (As := [vI x1]) (st' := []) (z := 32) rfl rfl rfl (Nat.le_of_ble_eq_true rfl) h.1 (Nat.le_of_ble_eq_true rfl) rfl (c_I (by decide +kernel) h.2 (fun y16 M15 h => ?_))
            exact g_91 (b := 0) (nx := 89) (by decide +kernel) h
          · rw [if_neg c14] at h
            by_cases c17 : x2 = 5
            · rw [if_pos c17] at h
              refine g_45 (a := 0) (b := 115) (nx := 44) (by decide +kernel) r1 (t := 89) (by rw [(show sws 154 1 = [(0, 44), (1, 53), (2, 62), (3, 71), (4, 80), (5, 89), (6, 106)] from by decide +kernel)]; simp only [swL]; simp [c17]) ?_
              refine g_7 (a := 0) (b := 0) (nx := 90) (by decide +kernel) rfl ?_
              refine g_52 (a := 11) (b := 2) (nx := 93) (by decide +kernel) h0 ?_
              refine g_5 (a := 1) (b := 0) (nx := 94) (by decide +kernel) rfl ?_
              refine g_80 (a := 33) (b := 1) (nx := 97) (by decide +kernel) (r := (M x0 2)) (As := [vI x1]) (st' := []) (z := 33) rfl rfl rfl (Nat.le_of_ble_eq_true rfl) h.1 (Nat.le_of_ble_eq_true rfl) rfl (c_I (by decide +kernel) h.2 (fun y19 M18 h => ?_))
              obtain ⟨r20, h⟩ := h
              by_cases c21 : y19 = 0
              · rw [if_pos c21] at h
                refine g_40t (a := 0) (b := 104) (nx := 100) (by decide +kernel) r20 (by exact (cb_0 _ _).mpr c21) ?_
                refine g_1 (a := 0) (b := 0) (nx := 105) (by decide +kernel) ?_
                exact g_91 (b := 0) (nx := 106) (by decide +kernel) h
              · rw [if_neg c21] at h
                refine g_40f (a := 0) (b := 104) (nx := 100) (by decide +kernel) r20 (by exact fun hz => c21 ((cb_0 _ _).mp hz)) ?_
                refine g_1 (a := 1) (b := 0) (nx := 101) (by decide +kernel) ?_
                refine g_44 (a := 0) (b := 105) (nx := 104) (by decide +kernel) ?_
                exact g_91 (b := 0) (nx := 106) (by decide +kernel) h
            · rw [if_neg c17] at h
              by_cases c22 : x2 = 6
              · rw [if_pos c22] at h
                refine g_45 (a := 0) (b := 115) (nx := 44) (by decide +kernel) r1 (t := 106) (by rw [(show sws 154 1 = [(0, 44), (1, 53), (2, 62), (3, 71), (4, 80), (5, 89), (6, 106)] from by decide +kernel)]; simp only [swL]; simp [c22]) ?_
                refine g_7 (a := 0) (b := 0) (nx := 107) (by decide +kernel) rfl ?_
                refine g_52 (a := 11) (b := 2) (nx := 110) (by decide +kernel) h0 ?_
                refine g_5 (a := 1) (b := 0) (nx := 111) (by decide +kernel) rfl ?_
                refine g_80 (a := 35) (b := 1) (nx := 114) (by decide +kernel) (r := (M x0 2)) (As := [vI x1]) (st' := []) (z := 35) rfl rfl rfl (Nat.le_of_ble_eq_true rfl) h.1 (Nat.le_of_ble_eq_true rfl) rfl (c_I (by decide +kernel) h.2 (fun y24 M23 h => ?_))
                exact g_91 (b := 0) (nx := 115) (by decide +kernel) h
              · rw [if_neg c22] at h
                refine g_45 (a := 0) (b := 115) (nx := 44) (by decide +kernel) r1 (t := 115) (by rw [(show sws 154 1 = [(0, 44), (1, 53), (2, 62), (3, 71), (4, 80), (5, 89), (6, 106)] from by decide +kernel)]; simp only [swL]; first | rfl | (simp [c2, c5, c8, c11, c14, c17, c22])) ?_
                refine g_1 (a := (-100)) (b := 0) (nx := 117) (by decide +kernel) ?_
                exact g_91 (b := 0) (nx := 118) (by decide +kernel) h
-- 155 SyllableMaker.judge(IJI)I
theorem t_155 {x0 x1 x2 x4 : Int} {M : Mem} {Q : AV → Mem → Prop} (h0 : gO 11 x0) (h : WF 175 [vR x0, vI x1] M (fun y2 M1 => y2 ≠ -1000 ∧ (if y2 = 0 then (Q (vI (-2)) M1) else (inR x4 ∧ (if x4 < 0 then (Q (vI (-2)) M1) else (if x4 ≤ 2 then (((shA SH (M1 x0 2)).1 = 1) ∧ WV 11 [vR (M1 x0 2), vR (M1 x0 7), vR y2] M1 (fun M4 => ((shA SH (M4 x0 2)).1 = 1) ∧ WI 21 [vR (M4 x0 2), vL x2] M4 (fun y7 M6 => inR y7 ∧ (if y7 = 0 then (Q (vI (-2)) M6) else (if x4 = 1 then (((shA SH (M6 x0 2)).1 = 1) ∧ WI 37 [vR (M6 x0 2)] M6 (fun y15 M14 => Q (vI y15) M14)) else (((shA SH (M6 x0 2)).1 = 1) ∧ WI 36 [vR (M6 x0 2)] M6 (fun y10 M9 => if x4 = 0 then (Q (vI y10) M9) else (((shA SH (M9 x0 2)).1 = 1) ∧ WI 20 [vR (M9 x0 2), vI (y10 - 1)] M9 (fun y12 M11 => Q (vI y12) M11))))))))) else (Q (vI (-2)) M1))))))) : WC 155 [vR x0, vI x1, vL x2, vI x4] M Q := by
  show WR 155 0 [some (vR x0), some (vI x1), some (vL x2), none, some (vI x4), none, none] [] M Q
  refine g_7 (a := 0) (b := 0) (nx := 1) (by decide +kernel) rfl ?_
  refine g_5 (a := 1) (b := 0) (nx := 2) (by decide +kernel) rfl ?_
  refine g_80 (a := 175) (b := 1) (nx := 5) (by decide +kernel) (r := x0) (As := [vI x1]) (st' := []) (z := 175) rfl rfl rfl (Nat.le_of_ble_eq_true rfl) h0.2 (Nat.le_of_ble_eq_true rfl) rfl (c_R (by decide +kernel) h (fun y2 M1 h => ?_))
  refine g_10 (a := 5) (b := 0) (nx := 7) (by decide +kernel) rfl (ls' := [some (vR x0), some (vI x1), some (vL x2), none, some (vI x4), some (vR y2), none]) rfl ?_
  refine g_7 (a := 5) (b := 0) (nx := 9) (by decide +kernel) rfl ?_
  obtain ⟨q0, h⟩ := h
  by_cases c20 : y2 = 0
  · rw [if_pos c20] at h
    refine g_42t (a := 0) (b := 23) (nx := 12) (by decide +kernel) c20 ?_
    refine g_1 (a := (-2)) (b := 0) (nx := 25) (by decide +kernel) ?_
    exact g_91 (b := 0) (nx := 26) (by decide +kernel) h
  · rw [if_neg c20] at h
    refine g_42f (a := 0) (b := 23) (nx := 12) (by decide +kernel) q0 c20 ?_
    refine g_5 (a := 4) (b := 0) (nx := 14) (by decide +kernel) rfl ?_
    obtain ⟨r3, h⟩ := h
    by_cases c19 : x4 < 0
    · rw [if_pos c19] at h
      refine g_40t (a := 2) (b := 23) (nx := 17) (by decide +kernel) r3 (by exact (cb_2 _ _).mpr c19) ?_
      refine g_1 (a := (-2)) (b := 0) (nx := 25) (by decide +kernel) ?_
      exact g_91 (b := 0) (nx := 26) (by decide +kernel) h
    · rw [if_neg c19] at h
      refine g_40f (a := 2) (b := 23) (nx := 17) (by decide +kernel) r3 (by exact fun hz => c19 ((cb_2 _ _).mp hz)) ?_
      refine g_5 (a := 4) (b := 0) (nx := 19) (by decide +kernel) rfl ?_
      refine g_1 (a := 2) (b := 0) (nx := 20) (by decide +kernel) ?_
      by_cases c18 : x4 ≤ 2
      · rw [if_pos c18] at h
        refine g_41t (a := 5) (b := 26) (nx := 23) (by decide +kernel) (by rw [wr_id r3, wr_id (show inR 2 by decide)]; exact (cb_5 _ _).mpr c18) ?_
        refine g_7 (a := 0) (b := 0) (nx := 27) (by decide +kernel) rfl ?_
        refine g_52 (a := 11) (b := 2) (nx := 30) (by decide +kernel) h0 ?_
        refine g_7 (a := 0) (b := 0) (nx := 31) (by decide +kernel) rfl ?_
        refine g_52 (a := 11) (b := 7) (nx := 34) (by decide +kernel) h0 ?_
        refine g_7 (a := 5) (b := 0) (nx := 36) (by decide +kernel) rfl ?_
        refine g_80 (a := 11) (b := 2) (nx := 39) (by decide +kernel) (r := (M1 x0 2)) (As := [vR (M1 x0 7), vR y2]) (st' := []) (z := 11) rfl rfl rfl (Nat.le_of_ble_eq_true rfl) h.1 (Nat.le_of_ble_eq_true rfl) rfl (c_V (by decide +kernel) h.2 (fun M4 h => ?_))
        refine g_7 (a := 0) (b := 0) (nx := 40) (by decide +kernel) rfl ?_
        refine g_52 (a := 11) (b := 2) (nx := 43) (by decide +kernel) h0 ?_
        refine g_6 (a := 2) (b := 0) (nx := 44) (by decide +kernel) rfl ?_
        refine g_80 (a := 21) (b := 1) (nx := 47) (by decide +kernel) (r := (M4 x0 2)) (As := [vL x2]) (st' := []) (z := 21) rfl rfl rfl (Nat.le_of_ble_eq_true rfl) h.1 (Nat.le_of_ble_eq_true rfl) rfl (c_I (by decide +kernel) h.2 (fun y7 M6 h => ?_))
        obtain ⟨r8, h⟩ := h
        by_cases c17 : y7 = 0
        · rw [if_pos c17] at h
          refine g_40f (a := 1) (b := 53) (nx := 50) (by decide +kernel) r8 (by exact fun hz => ((cb_1 _ _).mp hz) c17) ?_
          refine g_1 (a := (-2)) (b := 0) (nx := 52) (by decide +kernel) ?_
          exact g_91 (b := 0) (nx := 53) (by decide +kernel) h
        · rw [if_neg c17] at h
          refine g_40t (a := 1) (b := 53) (nx := 50) (by decide +kernel) r8 (by exact (cb_1 _ _).mpr c17) ?_
          refine g_5 (a := 4) (b := 0) (nx := 55) (by decide +kernel) rfl ?_
          refine g_1 (a := 1) (b := 0) (nx := 56) (by decide +kernel) ?_
          by_cases c16 : x4 = 1
          · rw [if_pos c16] at h
            refine g_41f (a := 1) (b := 67) (nx := 59) (by decide +kernel) (by rw [wr_id r3, wr_id (show inR 1 by decide)]; exact fun hz => ((cb_1 _ _).mp hz) c16) ?_
            refine g_7 (a := 0) (b := 0) (nx := 60) (by decide +kernel) rfl ?_
            refine g_52 (a := 11) (b := 2) (nx := 63) (by decide +kernel) h0 ?_
            refine g_80 (a := 37) (b := 0) (nx := 66) (by decide +kernel) (r := (M6 x0 2)) (As := []) (st' := []) (z := 37) rfl rfl rfl (Nat.le_of_ble_eq_true rfl) h.1 (Nat.le_of_ble_eq_true rfl) rfl (c_I (by decide +kernel) h.2 (fun y15 M14 h => ?_))
            exact g_91 (b := 0) (nx := 67) (by decide +kernel) h
          · rw [if_neg c16] at h
            refine g_41t (a := 1) (b := 67) (nx := 59) (by decide +kernel) (by rw [wr_id r3, wr_id (show inR 1 by decide)]; exact (cb_1 _ _).mpr c16) ?_
            refine g_7 (a := 0) (b := 0) (nx := 68) (by decide +kernel) rfl ?_
            refine g_52 (a := 11) (b := 2) (nx := 71) (by decide +kernel) h0 ?_
            refine g_80 (a := 36) (b := 0) (nx := 74) (by decide +kernel) (r := (M6 x0 2)) (As := []) (st' := []) (z := 36) rfl rfl rfl (Nat.le_of_ble_eq_true rfl) h.1 (Nat.le_of_ble_eq_true rfl) rfl (c_I (by decide +kernel) h.2 (fun y10 M9 h => ?_))
            refine g_8 (a := 6) (b := 0) (nx := 76) (by decide +kernel) rfl (ls' := [some (vR x0), some (vI x1), some (vL x2), none, some (vI x4), some (vR y2), some (vI y10)]) rfl ?_
            refine g_5 (a := 4) (b := 0) (nx := 78) (by decide +kernel) rfl ?_
            by_cases c13 : x4 = 0
            · rw [if_pos c13] at h
              refine g_40f (a := 1) (b := 86) (nx := 81) (by decide +kernel) r3 (by exact fun hz => ((cb_1 _ _).mp hz) c13) ?_
              refine g_5 (a := 6) (b := 0) (nx := 83) (by decide +kernel) rfl ?_
              refine g_44 (a := 0) (b := 97) (nx := 86) (by decide +kernel) ?_
              exact g_91 (b := 0) (nx := 98) (by decide +kernel) h
            · rw [if_neg c13] at h
              refine g_40t (a := 1) (b := 86) (nx := 81) (by decide +kernel) r3 (by exact (cb_1 _ _).mpr c13) ?_
              refine g_7 (a := 0) (b := 0) (nx := 87) (by decide +kernel) rfl ?_
              refine g_52 (a := 11) (b := 2) (nx := 90) (by decide +kernel) h0 ?_
              refine g_5 (a := 6) (b := 0) (nx := 92) (by decide +kernel) rfl ?_
              refine g_1 (a := 1) (b := 0) (nx := 93) (by decide +kernel) ?_
              refine g_16 (a := 0) (b := 0) (nx := 94) (by decide +kernel) ?_
              refine g_80 (a := 20) (b := 1) (nx := 97) (by decide +kernel) (r := (M9 x0 2)) (As := [vI (y10 - 1)]) (st' := []) (z := 20) rfl rfl rfl (Nat.le_of_ble_eq_true rfl) h.1 (Nat.le_of_ble_eq_true rfl) rfl (c_I (by decide +kernel) h.2 (fun y12 M11 h => ?_))
              exact g_91 (b := 0) (nx := 98) (by decide +kernel) h
      · rw [if_neg c18] at h
        refine g_41f (a := 5) (b := 26) (nx := 23) (by decide +kernel) (by rw [wr_id r3, wr_id (show inR 2 by decide)]; exact fun hz => c18 ((cb_5 _ _).mp hz)) ?_
        refine g_1 (a := (-2)) (b := 0) (nx := 25) (by decide +kernel) ?_
        exact g_91 (b := 0) (nx := 26) (by decide +kernel) h
-- 156 SyllableMaker.within(II)I
theorem t_156 {x0 x1 x2 : Int} {M : Mem} {Q : AV → Mem → Prop} (h0 : gO 11 x0) (h : WF 175 [vR x0, vI x1] M (fun y2 M1 => y2 ≠ -1000 ∧ (if y2 = 0 then (Q (vI (-1)) M1) else (((shA SH (M1 x0 2)).1 = 1) ∧ WV 11 [vR (M1 x0 2), vR (M1 x0 7), vR y2] M1 (fun M3 => ((shA SH (M3 x0 2)).1 = 1) ∧ WI 20 [vR (M3 x0 2), vI x2] M3 (fun y6 M5 => Q (vI y6) M5)))))) : WC 156 [vR x0, vI x1, vI x2] M Q := by
  show WR 156 0 [some (vR x0), some (vI x1), some (vI x2), none] [] M Q
  refine g_7 (a := 0) (b := 0) (nx := 1) (by decide +kernel) rfl ?_
  refine g_5 (a := 1) (b := 0) (nx := 2) (by decide +kernel) rfl ?_
  refine g_80 (a := 175) (b := 1) (nx := 5) (by decide +kernel) (r := x0) (As := [vI x1]) (st' := []) (z := 175) rfl rfl rfl (Nat.le_of_ble_eq_true rfl) h0.2 (Nat.le_of_ble_eq_true rfl) rfl (c_R (by decide +kernel) h (fun y2 M1 h => ?_))
  refine g_10 (a := 3) (b := 0) (nx := 6) (by decide +kernel) rfl (ls' := [some (vR x0), some (vI x1), some (vI x2), some (vR y2)]) rfl ?_
  refine g_7 (a := 3) (b := 0) (nx := 7) (by decide +kernel) rfl ?_
  obtain ⟨q0, h⟩ := h
  by_cases c7 : y2 = 0
  · rw [if_pos c7] at h
    refine g_43t (a := 0) (b := 12) (nx := 10) (by decide +kernel) c7 ?_
    refine g_1 (a := (-1)) (b := 0) (nx := 11) (by decide +kernel) ?_
    exact g_91 (b := 0) (nx := 12) (by decide +kernel) h
  · rw [if_neg c7] at h
    refine g_43f (a := 0) (b := 12) (nx := 10) (by decide +kernel) q0 c7 ?_
    refine g_7 (a := 0) (b := 0) (nx := 13) (by decide +kernel) rfl ?_
    refine g_52 (a := 11) (b := 2) (nx := 16) (by decide +kernel) h0 ?_
    refine g_7 (a := 0) (b := 0) (nx := 17) (by decide +kernel) rfl ?_
    refine g_52 (a := 11) (b := 7) (nx := 20) (by decide +kernel) h0 ?_
    refine g_7 (a := 3) (b := 0) (nx := 21) (by decide +kernel) rfl ?_
    refine g_80 (a := 11) (b := 2) (nx := 24) (by decide +kernel) (r := (M1 x0 2)) (As := [vR (M1 x0 7), vR y2]) (st' := []) (z := 11) rfl rfl rfl (Nat.le_of_ble_eq_true rfl) h.1 (Nat.le_of_ble_eq_true rfl) rfl (c_V (by decide +kernel) h.2 (fun M3 h => ?_))
    refine g_7 (a := 0) (b := 0) (nx := 25) (by decide +kernel) rfl ?_
    refine g_52 (a := 11) (b := 2) (nx := 28) (by decide +kernel) h0 ?_
    refine g_5 (a := 2) (b := 0) (nx := 29) (by decide +kernel) rfl ?_
    refine g_80 (a := 20) (b := 1) (nx := 32) (by decide +kernel) (r := (M3 x0 2)) (As := [vI x2]) (st' := []) (z := 20) rfl rfl rfl (Nat.le_of_ble_eq_true rfl) h.1 (Nat.le_of_ble_eq_true rfl) rfl (c_I (by decide +kernel) h.2 (fun y6 M5 h => ?_))
    exact g_91 (b := 0) (nx := 33) (by decide +kernel) h
-- 157 SyllableMaker.rhyme(II)I
theorem t_157 {x0 x1 x2 : Int} {M : Mem} {Q : AV → Mem → Prop} (h0 : gO 11 x0) (h : (gO 7 (M x0 3)) ∧ ((shA SH (M (M x0 3) 1)).1 = 10) ∧ WF 136 [vR (M (M x0 3) 1), vI x1] M (fun y2 M1 => (gO 7 (M1 x0 3)) ∧ ((shA SH (M1 (M1 x0 3) 1)).1 = 10) ∧ WF 136 [vR (M1 (M1 x0 3) 1), vI x2] M1 (fun y4 M3 => y2 ≠ -1000 ∧ (if y2 = 0 then (Q (vI (-1)) M3) else (y4 ≠ -1000 ∧ (if y4 = 0 then (Q (vI (-1)) M3) else (((shA SH (M3 x0 3)).1 = 7) ∧ WL 112 [vR (M3 x0 3), vR (M3 x0 7), vR y2] M3 (fun y6 M5 => (in64 y6 ∧ in64 0) ∧ inR (if y6 < 0 then -1 else if y6 = 0 then 0 else 1) ∧ (if (if y6 < 0 then -1 else if y6 = 0 then 0 else 1) = 0 then (Q (vI 0) M5) else (((shA SH (M5 x0 3)).1 = 7) ∧ WL 112 [vR (M5 x0 3), vR (M5 x0 7), vR y4] M5 (fun y9 M8 => (in64 y6 ∧ in64 y9) ∧ inR (if y6 < y9 then -1 else if y6 = y9 then 0 else 1) ∧ (if (if y6 < y9 then -1 else if y6 = y9 then 0 else 1) = 0 then (Q (vI 1) M8) else (Q (vI 0) M8))))))))))))) : WC 157 [vR x0, vI x1, vI x2] M Q := by
  show WR 157 0 [some (vR x0), some (vI x1), some (vI x2), none, none, none, none] [] M Q
  refine g_7 (a := 0) (b := 0) (nx := 1) (by decide +kernel) rfl ?_
  refine g_52 (a := 11) (b := 3) (nx := 4) (by decide +kernel) h0 ?_
  refine g_52 (a := 7) (b := 1) (nx := 7) (by decide +kernel) h.1 ?_
  replace h := h.2
  refine g_5 (a := 1) (b := 0) (nx := 8) (by decide +kernel) rfl ?_
  refine g_80 (a := 136) (b := 1) (nx := 11) (by decide +kernel) (r := (M (M x0 3) 1)) (As := [vI x1]) (st' := []) (z := 136) rfl rfl rfl (Nat.le_of_ble_eq_true rfl) h.1 (Nat.le_of_ble_eq_true rfl) rfl (c_R (by decide +kernel) h.2 (fun y2 M1 h => ?_))
  refine g_10 (a := 3) (b := 0) (nx := 12) (by decide +kernel) rfl (ls' := [some (vR x0), some (vI x1), some (vI x2), some (vR y2), none, none, none]) rfl ?_
  refine g_7 (a := 0) (b := 0) (nx := 13) (by decide +kernel) rfl ?_
  refine g_52 (a := 11) (b := 3) (nx := 16) (by decide +kernel) h0 ?_
  refine g_52 (a := 7) (b := 1) (nx := 19) (by decide +kernel) h.1 ?_
  replace h := h.2
  refine g_5 (a := 2) (b := 0) (nx := 20) (by decide +kernel) rfl ?_
  refine g_80 (a := 136) (b := 1) (nx := 23) (by decide +kernel) (r := (M1 (M1 x0 3) 1)) (As := [vI x2]) (st' := []) (z := 136) rfl rfl rfl (Nat.le_of_ble_eq_true rfl) h.1 (Nat.le_of_ble_eq_true rfl) rfl (c_R (by decide +kernel) h.2 (fun y4 M3 h => ?_))
  refine g_10 (a := 4) (b := 0) (nx := 25) (by decide +kernel) rfl (ls' := [some (vR x0), some (vI x1), some (vI x2), some (vR y2), some (vR y4), none, none]) rfl ?_
  refine g_7 (a := 3) (b := 0) (nx := 26) (by decide +kernel) rfl ?_
  obtain ⟨q0, h⟩ := h
  by_cases c14 : y2 = 0
  · rw [if_pos c14] at h
    refine g_42t (a := 0) (b := 34) (nx := 29) (by decide +kernel) c14 ?_
    refine g_1 (a := (-1)) (b := 0) (nx := 35) (by decide +kernel) ?_
    exact g_91 (b := 0) (nx := 36) (by decide +kernel) h
  · rw [if_neg c14] at h
    refine g_42f (a := 0) (b := 34) (nx := 29) (by decide +kernel) q0 c14 ?_
    refine g_7 (a := 4) (b := 0) (nx := 31) (by decide +kernel) rfl ?_
    obtain ⟨q0, h⟩ := h
    by_cases c13 : y4 = 0
    · rw [if_pos c13] at h
      refine g_43t (a := 0) (b := 36) (nx := 34) (by decide +kernel) c13 ?_
      refine g_1 (a := (-1)) (b := 0) (nx := 35) (by decide +kernel) ?_
      exact g_91 (b := 0) (nx := 36) (by decide +kernel) h
    · rw [if_neg c13] at h
      refine g_43f (a := 0) (b := 36) (nx := 34) (by decide +kernel) q0 c13 ?_
      refine g_7 (a := 0) (b := 0) (nx := 37) (by decide +kernel) rfl ?_
      refine g_52 (a := 11) (b := 3) (nx := 40) (by decide +kernel) h0 ?_
      refine g_7 (a := 0) (b := 0) (nx := 41) (by decide +kernel) rfl ?_
      refine g_52 (a := 11) (b := 7) (nx := 44) (by decide +kernel) h0 ?_
      refine g_7 (a := 3) (b := 0) (nx := 45) (by decide +kernel) rfl ?_
      refine g_80 (a := 112) (b := 2) (nx := 48) (by decide +kernel) (r := (M3 x0 3)) (As := [vR (M3 x0 7), vR y2]) (st' := []) (z := 112) rfl rfl rfl (Nat.le_of_ble_eq_true rfl) h.1 (Nat.le_of_ble_eq_true rfl) rfl (c_L (by decide +kernel) h.2 (fun y6 M5 h => ?_))
      refine g_9 (a := 5) (b := 0) (nx := 50) (by decide +kernel) ⟨rfl, Nat.le_of_ble_eq_true rfl⟩ (ls' := [some (vR x0), some (vI x1), some (vI x2), some (vR y2), some (vR y4), some (vL y6), none]) rfl ?_
      refine g_6 (a := 5) (b := 0) (nx := 52) (by decide +kernel) rfl ?_
      refine g_2 (a := 0) (b := 0) (nx := 53) (by decide +kernel) ?_
      refine g_34 (a := 0) (b := 0) (nx := 54) (by decide +kernel) h.1 ?_
      replace h := h.2
      obtain ⟨r7, h⟩ := h
      by_cases c12 : (if y6 < 0 then -1 else if y6 = 0 then 0 else 1) = 0
      · rw [if_pos c12] at h
        refine g_40t (a := 0) (b := 80) (nx := 57) (by decide +kernel) r7 (by exact (cb_0 _ _).mpr c12) ?_
        refine g_1 (a := 0) (b := 0) (nx := 81) (by decide +kernel) ?_
        exact g_91 (b := 0) (nx := 82) (by decide +kernel) h
      · rw [if_neg c12] at h
        refine g_40f (a := 0) (b := 80) (nx := 57) (by decide +kernel) r7 (by exact fun hz => c12 ((cb_0 _ _).mp hz)) ?_
        refine g_6 (a := 5) (b := 0) (nx := 59) (by decide +kernel) rfl ?_
        refine g_7 (a := 0) (b := 0) (nx := 60) (by decide +kernel) rfl ?_
        refine g_52 (a := 11) (b := 3) (nx := 63) (by decide +kernel) h0 ?_
        refine g_7 (a := 0) (b := 0) (nx := 64) (by decide +kernel) rfl ?_
        refine g_52 (a := 11) (b := 7) (nx := 67) (by decide +kernel) h0 ?_
        refine g_7 (a := 4) (b := 0) (nx := 69) (by decide +kernel) rfl ?_
        refine g_80 (a := 112) (b := 2) (nx := 72) (by decide +kernel) (r := (M5 x0 3)) (As := [vR (M5 x0 7), vR y4]) (st' := [vL y6]) (z := 112) rfl rfl rfl (Nat.le_of_ble_eq_true rfl) h.1 (Nat.le_of_ble_eq_true rfl) rfl (c_L (by decide +kernel) h.2 (fun y9 M8 h => ?_))
        refine g_34 (a := 0) (b := 0) (nx := 73) (by decide +kernel) h.1 ?_
        replace h := h.2
        obtain ⟨r10, h⟩ := h
        by_cases c11 : (if y6 < y9 then -1 else if y6 = y9 then 0 else 1) = 0
        · rw [if_pos c11] at h
          refine g_40f (a := 1) (b := 80) (nx := 76) (by decide +kernel) r10 (by exact fun hz => ((cb_1 _ _).mp hz) c11) ?_
          refine g_1 (a := 1) (b := 0) (nx := 77) (by decide +kernel) ?_
          refine g_44 (a := 0) (b := 81) (nx := 80) (by decide +kernel) ?_
          exact g_91 (b := 0) (nx := 82) (by decide +kernel) h
        · rw [if_neg c11] at h
          refine g_40t (a := 1) (b := 80) (nx := 76) (by decide +kernel) r10 (by exact (cb_1 _ _).mpr c11) ?_
          refine g_1 (a := 0) (b := 0) (nx := 81) (by decide +kernel) ?_
          exact g_91 (b := 0) (nx := 82) (by decide +kernel) h
-- 158 SyllableMaker.mend(II)I
theorem t_158 {x0 x1 x2 : Int} {M : Mem} {Q : AV → Mem → Prop} (h0 : gO 11 x0) (h : WF 175 [vR x0, vI x1] M (fun y2 M1 => y2 ≠ -1000 ∧ (if y2 = 0 then (Q (vI (-1)) M1) else (((shA SH (M1 x0 5)).1 = 3) ∧ WI 58 [vR (M1 x0 5), vR (M1 x0 7), vR y2] M1 (fun y4 M3 => inR y4 ∧ (if y4 = (-2) then (Q (vI y4) M3) else (inR x2 ∧ (if x2 = (-1) then (Q (vI y4) M3) else (if x2 < 0 then (Q (vI (-1)) M3) else (if y4 ≤ x2 then (Q (vI (-1)) M3) else (((shA SH (M3 x0 5)).1 = 3) ∧ WI 61 [vR (M3 x0 5), vI x2] M3 (fun y8 M7 => Q (vI y8) M7)))))))))))) : WC 158 [vR x0, vI x1, vI x2] M Q := by
  show WR 158 0 [some (vR x0), some (vI x1), some (vI x2), none, none] [] M Q
  refine g_7 (a := 0) (b := 0) (nx := 1) (by decide +kernel) rfl ?_
  refine g_5 (a := 1) (b := 0) (nx := 2) (by decide +kernel) rfl ?_
  refine g_80 (a := 175) (b := 1) (nx := 5) (by decide +kernel) (r := x0) (As := [vI x1]) (st' := []) (z := 175) rfl rfl rfl (Nat.le_of_ble_eq_true rfl) h0.2 (Nat.le_of_ble_eq_true rfl) rfl (c_R (by decide +kernel) h (fun y2 M1 h => ?_))
  refine g_10 (a := 3) (b := 0) (nx := 6) (by decide +kernel) rfl (ls' := [some (vR x0), some (vI x1), some (vI x2), some (vR y2), none]) rfl ?_
  refine g_7 (a := 3) (b := 0) (nx := 7) (by decide +kernel) rfl ?_
  obtain ⟨q0, h⟩ := h
  by_cases c13 : y2 = 0
  · rw [if_pos c13] at h
    refine g_43t (a := 0) (b := 12) (nx := 10) (by decide +kernel) c13 ?_
    refine g_1 (a := (-1)) (b := 0) (nx := 11) (by decide +kernel) ?_
    exact g_91 (b := 0) (nx := 12) (by decide +kernel) h
  · rw [if_neg c13] at h
    refine g_43f (a := 0) (b := 12) (nx := 10) (by decide +kernel) q0 c13 ?_
    refine g_7 (a := 0) (b := 0) (nx := 13) (by decide +kernel) rfl ?_
    refine g_52 (a := 11) (b := 5) (nx := 16) (by decide +kernel) h0 ?_
    refine g_7 (a := 0) (b := 0) (nx := 17) (by decide +kernel) rfl ?_
    refine g_52 (a := 11) (b := 7) (nx := 20) (by decide +kernel) h0 ?_
    refine g_7 (a := 3) (b := 0) (nx := 21) (by decide +kernel) rfl ?_
    refine g_80 (a := 58) (b := 2) (nx := 24) (by decide +kernel) (r := (M1 x0 5)) (As := [vR (M1 x0 7), vR y2]) (st' := []) (z := 58) rfl rfl rfl (Nat.le_of_ble_eq_true rfl) h.1 (Nat.le_of_ble_eq_true rfl) rfl (c_I (by decide +kernel) h.2 (fun y4 M3 h => ?_))
    refine g_8 (a := 4) (b := 0) (nx := 26) (by decide +kernel) rfl (ls' := [some (vR x0), some (vI x1), some (vI x2), some (vR y2), some (vI y4)]) rfl ?_
    refine g_5 (a := 4) (b := 0) (nx := 28) (by decide +kernel) rfl ?_
    refine g_1 (a := (-2)) (b := 0) (nx := 30) (by decide +kernel) ?_
    obtain ⟨r5, h⟩ := h
    by_cases c12 : y4 = (-2)
    · rw [if_pos c12] at h
      refine g_41t (a := 0) (b := 38) (nx := 33) (by decide +kernel) (by rw [wr_id r5, wr_id (show inR (-2) by decide)]; exact (cb_0 _ _).mpr c12) ?_
      refine g_5 (a := 4) (b := 0) (nx := 40) (by decide +kernel) rfl ?_
      exact g_91 (b := 0) (nx := 41) (by decide +kernel) h
    · rw [if_neg c12] at h
      refine g_41f (a := 0) (b := 38) (nx := 33) (by decide +kernel) (by rw [wr_id r5, wr_id (show inR (-2) by decide)]; exact fun hz => c12 ((cb_0 _ _).mp hz)) ?_
      refine g_5 (a := 2) (b := 0) (nx := 34) (by decide +kernel) rfl ?_
      refine g_1 (a := (-1)) (b := 0) (nx := 35) (by decide +kernel) ?_
      obtain ⟨r6, h⟩ := h
      by_cases c11 : x2 = (-1)
      · rw [if_pos c11] at h
        refine g_41f (a := 1) (b := 41) (nx := 38) (by decide +kernel) (by rw [wr_id r6, wr_id (show inR (-1) by decide)]; exact fun hz => ((cb_1 _ _).mp hz) c11) ?_
        refine g_5 (a := 4) (b := 0) (nx := 40) (by decide +kernel) rfl ?_
        exact g_91 (b := 0) (nx := 41) (by decide +kernel) h
      · rw [if_neg c11] at h
        refine g_41t (a := 1) (b := 41) (nx := 38) (by decide +kernel) (by rw [wr_id r6, wr_id (show inR (-1) by decide)]; exact (cb_1 _ _).mpr c11) ?_
        refine g_5 (a := 2) (b := 0) (nx := 42) (by decide +kernel) rfl ?_
        by_cases c10 : x2 < 0
        · rw [if_pos c10] at h
          refine g_40t (a := 2) (b := 62) (nx := 45) (by decide +kernel) r6 (by exact (cb_2 _ _).mpr c10) ?_
          refine g_1 (a := (-1)) (b := 0) (nx := 63) (by decide +kernel) ?_
          exact g_91 (b := 0) (nx := 64) (by decide +kernel) h
        · rw [if_neg c10] at h
          refine g_40f (a := 2) (b := 62) (nx := 45) (by decide +kernel) r6 (by exact fun hz => c10 ((cb_2 _ _).mp hz)) ?_
          refine g_5 (a := 2) (b := 0) (nx := 46) (by decide +kernel) rfl ?_
          refine g_5 (a := 4) (b := 0) (nx := 48) (by decide +kernel) rfl ?_
          by_cases c9 : y4 ≤ x2
          · rw [if_pos c9] at h
            refine g_41t (a := 3) (b := 62) (nx := 51) (by decide +kernel) (by rw [wr_id r6, wr_id r5]; exact (cb_3 _ _).mpr c9) ?_
            refine g_1 (a := (-1)) (b := 0) (nx := 63) (by decide +kernel) ?_
            exact g_91 (b := 0) (nx := 64) (by decide +kernel) h
          · rw [if_neg c9] at h
            refine g_41f (a := 3) (b := 62) (nx := 51) (by decide +kernel) (by rw [wr_id r6, wr_id r5]; exact fun hz => c9 ((cb_3 _ _).mp hz)) ?_
            refine g_7 (a := 0) (b := 0) (nx := 52) (by decide +kernel) rfl ?_
            refine g_52 (a := 11) (b := 5) (nx := 55) (by decide +kernel) h0 ?_
            refine g_5 (a := 2) (b := 0) (nx := 56) (by decide +kernel) rfl ?_
            refine g_80 (a := 61) (b := 1) (nx := 59) (by decide +kernel) (r := (M3 x0 5)) (As := [vI x2]) (st' := []) (z := 61) rfl rfl rfl (Nat.le_of_ble_eq_true rfl) h.1 (Nat.le_of_ble_eq_true rfl) rfl (c_I (by decide +kernel) h.2 (fun y8 M7 h => ?_))
            refine g_44 (a := 0) (b := 63) (nx := 62) (by decide +kernel) ?_
            exact g_91 (b := 0) (nx := 64) (by decide +kernel) h
-- 159 SyllableMaker.far(II)I
theorem t_159 {x0 x1 x2 : Int} {M : Mem} {Q : AV → Mem → Prop} (h0 : gO 11 x0) (h : WF 175 [vR x0, vI x1] M (fun y2 M1 => WF 175 [vR x0, vI x2] M1 (fun y4 M3 => y2 ≠ -1000 ∧ (if y2 = 0 then (Q (vI (-1)) M3) else (y4 ≠ -1000 ∧ (if y4 = 0 then (Q (vI (-1)) M3) else ((gO 2 (M3 x0 7)) ∧ ((shA SH (M3 (M3 x0 7) 0)).1 = 6) ∧ WI 96 [vR (M3 (M3 x0 7) 0), vR y2, vR y4] M3 (fun y6 M5 => Q (vI y6) M5)))))))) : WC 159 [vR x0, vI x1, vI x2] M Q := by
  show WR 159 0 [some (vR x0), some (vI x1), some (vI x2), none, none] [] M Q
  refine g_7 (a := 0) (b := 0) (nx := 1) (by decide +kernel) rfl ?_
  refine g_5 (a := 1) (b := 0) (nx := 2) (by decide +kernel) rfl ?_
  refine g_80 (a := 175) (b := 1) (nx := 5) (by decide +kernel) (r := x0) (As := [vI x1]) (st' := []) (z := 175) rfl rfl rfl (Nat.le_of_ble_eq_true rfl) h0.2 (Nat.le_of_ble_eq_true rfl) rfl (c_R (by decide +kernel) h (fun y2 M1 h => ?_))
  refine g_10 (a := 3) (b := 0) (nx := 6) (by decide +kernel) rfl (ls' := [some (vR x0), some (vI x1), some (vI x2), some (vR y2), none]) rfl ?_
  refine g_7 (a := 0) (b := 0) (nx := 7) (by decide +kernel) rfl ?_
  refine g_5 (a := 2) (b := 0) (nx := 8) (by decide +kernel) rfl ?_
  refine g_80 (a := 175) (b := 1) (nx := 11) (by decide +kernel) (r := x0) (As := [vI x2]) (st' := []) (z := 175) rfl rfl rfl (Nat.le_of_ble_eq_true rfl) h0.2 (Nat.le_of_ble_eq_true rfl) rfl (c_R (by decide +kernel) h (fun y4 M3 h => ?_))
  refine g_10 (a := 4) (b := 0) (nx := 13) (by decide +kernel) rfl (ls' := [some (vR x0), some (vI x1), some (vI x2), some (vR y2), some (vR y4)]) rfl ?_
  refine g_7 (a := 3) (b := 0) (nx := 14) (by decide +kernel) rfl ?_
  obtain ⟨q0, h⟩ := h
  by_cases c8 : y2 = 0
  · rw [if_pos c8] at h
    refine g_42t (a := 0) (b := 22) (nx := 17) (by decide +kernel) c8 ?_
    refine g_1 (a := (-1)) (b := 0) (nx := 23) (by decide +kernel) ?_
    exact g_91 (b := 0) (nx := 24) (by decide +kernel) h
  · rw [if_neg c8] at h
    refine g_42f (a := 0) (b := 22) (nx := 17) (by decide +kernel) q0 c8 ?_
    refine g_7 (a := 4) (b := 0) (nx := 19) (by decide +kernel) rfl ?_
    obtain ⟨q0, h⟩ := h
    by_cases c7 : y4 = 0
    · rw [if_pos c7] at h
      refine g_43t (a := 0) (b := 24) (nx := 22) (by decide +kernel) c7 ?_
      refine g_1 (a := (-1)) (b := 0) (nx := 23) (by decide +kernel) ?_
      exact g_91 (b := 0) (nx := 24) (by decide +kernel) h
    · rw [if_neg c7] at h
      refine g_43f (a := 0) (b := 24) (nx := 22) (by decide +kernel) q0 c7 ?_
      refine g_7 (a := 0) (b := 0) (nx := 25) (by decide +kernel) rfl ?_
      refine g_52 (a := 11) (b := 7) (nx := 28) (by decide +kernel) h0 ?_
      refine g_52 (a := 2) (b := 0) (nx := 31) (by decide +kernel) h.1 ?_
      replace h := h.2
      refine g_7 (a := 3) (b := 0) (nx := 32) (by decide +kernel) rfl ?_
      refine g_7 (a := 4) (b := 0) (nx := 34) (by decide +kernel) rfl ?_
      refine g_80 (a := 96) (b := 2) (nx := 37) (by decide +kernel) (r := (M3 (M3 x0 7) 0)) (As := [vR y2, vR y4]) (st' := []) (z := 96) rfl rfl rfl (Nat.le_of_ble_eq_true rfl) h.1 (Nat.le_of_ble_eq_true rfl) rfl (c_I (by decide +kernel) h.2 (fun y6 M5 h => ?_))
      exact g_91 (b := 0) (nx := 38) (by decide +kernel) h
-- 160 SyllableMaker.nearest(I)I
theorem t_160 {x0 x1 : Int} {M : Mem} {Q : AV → Mem → Prop} (h0 : gO 11 x0) (h : WF 175 [vR x0, vI x1] M (fun y2 M1 => y2 ≠ -1000 ∧ (if y2 = 0 then (Q (vI (-1)) M1) else (WR 160 20 [some (vR x0), some (vI x1), some (vR y2), some (vI (-1)), some (vI 0), some (vI 0), none, none] [] M1 Q)))) : WC 160 [vR x0, vI x1] M Q := by
  show WR 160 0 [some (vR x0), some (vI x1), none, none, none, none, none, none] [] M Q
  refine g_7 (a := 0) (b := 0) (nx := 1) (by decide +kernel) rfl ?_
  refine g_5 (a := 1) (b := 0) (nx := 2) (by decide +kernel) rfl ?_
  refine g_80 (a := 175) (b := 1) (nx := 5) (by decide +kernel) (r := x0) (As := [vI x1]) (st' := []) (z := 175) rfl rfl rfl (Nat.le_of_ble_eq_true rfl) h0.2 (Nat.le_of_ble_eq_true rfl) rfl (c_R (by decide +kernel) h (fun y2 M1 h => ?_))
  refine g_10 (a := 2) (b := 0) (nx := 6) (by decide +kernel) rfl (ls' := [some (vR x0), some (vI x1), some (vR y2), none, none, none, none, none]) rfl ?_
  refine g_7 (a := 2) (b := 0) (nx := 7) (by decide +kernel) rfl ?_
  obtain ⟨q0, h⟩ := h
  by_cases c3 : y2 = 0
  · rw [if_pos c3] at h
    refine g_43t (a := 0) (b := 12) (nx := 10) (by decide +kernel) c3 ?_
    refine g_1 (a := (-1)) (b := 0) (nx := 11) (by decide +kernel) ?_
    exact g_91 (b := 0) (nx := 12) (by decide +kernel) h
  · rw [if_neg c3] at h
    refine g_43f (a := 0) (b := 12) (nx := 10) (by decide +kernel) q0 c3 ?_
    refine g_1 (a := (-1)) (b := 0) (nx := 13) (by decide +kernel) ?_
    refine g_8 (a := 3) (b := 0) (nx := 14) (by decide +kernel) rfl (ls' := [some (vR x0), some (vI x1), some (vR y2), some (vI (-1)), none, none, none, none]) rfl ?_
    refine g_1 (a := 0) (b := 0) (nx := 15) (by decide +kernel) ?_
    refine g_8 (a := 4) (b := 0) (nx := 17) (by decide +kernel) rfl (ls' := [some (vR x0), some (vI x1), some (vR y2), some (vI (-1)), some (vI 0), none, none, none]) rfl ?_
    refine g_1 (a := 0) (b := 0) (nx := 18) (by decide +kernel) ?_
    refine g_8 (a := 5) (b := 0) (nx := 20) (by decide +kernel) rfl (ls' := [some (vR x0), some (vI x1), some (vR y2), some (vI (-1)), some (vI 0), some (vI 0), none, none]) rfl ?_
    exact h
theorem t_160_20 {x0 x1 x2 x3 x4 x5 : Int} {l6 l7 : Option AV} {M : Mem} {Q : AV → Mem → Prop} (h0 : gO 11 x0) (h : (gO 2 (M x0 7)) ∧ (gO 10 (M (M x0 7) 1)) ∧ inR x5 ∧ (inR (M (M (M x0 7) 1) 2) ∧ (if (M (M (M x0 7) 1) 2) ≤ x5 then (Q (vI x3) M) else ((gO 2 (M x0 7)) ∧ ((shA SH (M (M x0 7) 1)).1 = 10) ∧ WF 136 [vR (M (M x0 7) 1), vI x5] M (fun y4 M3 => y4 ≠ -1000 ∧ (if y4 = 0 then (WR 160 20 [some (vR x0), some (vI x1), some (vR x2), some (vI x3), some (vI x4), some (vI (x5 + 1)), some (vR y4), l7] [] M3 Q) else (inR (100 + x5) ∧ (inR x1 ∧ (if (100 + x5) = x1 then (WR 160 20 [some (vR x0), some (vI x1), some (vR x2), some (vI x3), some (vI x4), some (vI (x5 + 1)), some (vR y4), l7] [] M3 Q) else ((gO 2 (M3 x0 7)) ∧ ((shA SH (M3 (M3 x0 7) 0)).1 = 6) ∧ WI 96 [vR (M3 (M3 x0 7) 0), vR x2, vR y4] M3 (fun y8 M7 => inR x3 ∧ (if x3 = (-1) then (WR 160 20 [some (vR x0), some (vI x1), some (vR x2), some (vI (100 + x5)), some (vI y8), some (vI (x5 + 1)), some (vR y4), some (vI y8)] [] M7 Q) else (inR y8 ∧ (inR x4 ∧ (if x4 ≤ y8 then (WR 160 20 [some (vR x0), some (vI x1), some (vR x2), some (vI x3), some (vI x4), some (vI (x5 + 1)), some (vR y4), some (vI y8)] [] M7 Q) else (WR 160 20 [some (vR x0), some (vI x1), some (vR x2), some (vI (100 + x5)), some (vI y8), some (vI (x5 + 1)), some (vR y4), some (vI y8)] [] M7 Q)))))))))))))))) : WR 160 20 [some (vR x0), some (vI x1), some (vR x2), some (vI x3), some (vI x4), some (vI x5), l6, l7] [] M Q := by
  refine g_5 (a := 5) (b := 0) (nx := 22) (by decide +kernel) rfl ?_
  refine g_7 (a := 0) (b := 0) (nx := 23) (by decide +kernel) rfl ?_
  refine g_52 (a := 11) (b := 7) (nx := 26) (by decide +kernel) h0 ?_
  refine g_52 (a := 2) (b := 1) (nx := 29) (by decide +kernel) h.1 ?_
  replace h := h.2
  refine g_50 (a := 10) (b := 2) (nx := 32) (by decide +kernel) h.1 ?_
  replace h := h.2
  obtain ⟨r1, h⟩ := h
  obtain ⟨r2, h⟩ := h
  by_cases c16 : (M (M (M x0 7) 1) 2) ≤ x5
  · rw [if_pos c16] at h
    refine g_41t (a := 3) (b := 109) (nx := 35) (by decide +kernel) (by rw [wr_id r1, wr_id r2]; exact (cb_3 _ _).mpr c16) ?_
    refine g_5 (a := 3) (b := 0) (nx := 110) (by decide +kernel) rfl ?_
    exact g_91 (b := 0) (nx := 111) (by decide +kernel) h
  · rw [if_neg c16] at h
    refine g_41f (a := 3) (b := 109) (nx := 35) (by decide +kernel) (by rw [wr_id r1, wr_id r2]; exact fun hz => c16 ((cb_3 _ _).mp hz)) ?_
    refine g_7 (a := 0) (b := 0) (nx := 36) (by decide +kernel) rfl ?_
    refine g_52 (a := 11) (b := 7) (nx := 39) (by decide +kernel) h0 ?_
    refine g_52 (a := 2) (b := 1) (nx := 42) (by decide +kernel) h.1 ?_
    replace h := h.2
    refine g_5 (a := 5) (b := 0) (nx := 44) (by decide +kernel) rfl ?_
    refine g_80 (a := 136) (b := 1) (nx := 47) (by decide +kernel) (r := (M (M x0 7) 1)) (As := [vI x5]) (st' := []) (z := 136) rfl rfl rfl (Nat.le_of_ble_eq_true rfl) h.1 (Nat.le_of_ble_eq_true rfl) rfl (c_R (by decide +kernel) h.2 (fun y4 M3 h => ?_))
    refine g_10 (a := 6) (b := 0) (nx := 49) (by decide +kernel) rfl (ls' := [some (vR x0), some (vI x1), some (vR x2), some (vI x3), some (vI x4), some (vI x5), some (vR y4), l7]) rfl ?_
    refine g_7 (a := 6) (b := 0) (nx := 51) (by decide +kernel) rfl ?_
    obtain ⟨q0, h⟩ := h
    by_cases c15 : y4 = 0
    · rw [if_pos c15] at h
      refine g_42t (a := 0) (b := 103) (nx := 54) (by decide +kernel) c15 ?_
      refine g_11 (a := 5) (b := 1) (nx := 106) (by decide +kernel) rfl rfl (ls' := [some (vR x0), some (vI x1), some (vR x2), some (vI x3), some (vI x4), some (vI (x5 + 1)), some (vR y4), l7]) rfl ?_
      refine g_44 (a := 0) (b := 20) (nx := 109) (by decide +kernel) ?_
      exact h
    · rw [if_neg c15] at h
      refine g_42f (a := 0) (b := 103) (nx := 54) (by decide +kernel) q0 c15 ?_
      refine g_1 (a := 100) (b := 0) (nx := 56) (by decide +kernel) ?_
      refine g_5 (a := 5) (b := 0) (nx := 58) (by decide +kernel) rfl ?_
      refine g_15 (a := 0) (b := 0) (nx := 59) (by decide +kernel) ?_
      refine g_5 (a := 1) (b := 0) (nx := 60) (by decide +kernel) rfl ?_
      obtain ⟨r5, h⟩ := h
      obtain ⟨r6, h⟩ := h
      by_cases c14 : (100 + x5) = x1
      · rw [if_pos c14] at h
        refine g_41f (a := 1) (b := 66) (nx := 63) (by decide +kernel) (by rw [wr_id r5, wr_id r6]; exact fun hz => ((cb_1 _ _).mp hz) c14) ?_
        refine g_44 (a := 0) (b := 103) (nx := 66) (by decide +kernel) ?_
        refine g_11 (a := 5) (b := 1) (nx := 106) (by decide +kernel) rfl rfl (ls' := [some (vR x0), some (vI x1), some (vR x2), some (vI x3), some (vI x4), some (vI (x5 + 1)), some (vR y4), l7]) rfl ?_
        refine g_44 (a := 0) (b := 20) (nx := 109) (by decide +kernel) ?_
        exact h
      · rw [if_neg c14] at h
        refine g_41t (a := 1) (b := 66) (nx := 63) (by decide +kernel) (by rw [wr_id r5, wr_id r6]; exact (cb_1 _ _).mpr c14) ?_
        refine g_7 (a := 0) (b := 0) (nx := 67) (by decide +kernel) rfl ?_
        refine g_52 (a := 11) (b := 7) (nx := 70) (by decide +kernel) h0 ?_
        refine g_52 (a := 2) (b := 0) (nx := 73) (by decide +kernel) h.1 ?_
        replace h := h.2
        refine g_7 (a := 2) (b := 0) (nx := 74) (by decide +kernel) rfl ?_
        refine g_7 (a := 6) (b := 0) (nx := 76) (by decide +kernel) rfl ?_
        refine g_80 (a := 96) (b := 2) (nx := 79) (by decide +kernel) (r := (M3 (M3 x0 7) 0)) (As := [vR x2, vR y4]) (st' := []) (z := 96) rfl rfl rfl (Nat.le_of_ble_eq_true rfl) h.1 (Nat.le_of_ble_eq_true rfl) rfl (c_I (by decide +kernel) h.2 (fun y8 M7 h => ?_))
        refine g_8 (a := 7) (b := 0) (nx := 81) (by decide +kernel) rfl (ls' := [some (vR x0), some (vI x1), some (vR x2), some (vI x3), some (vI x4), some (vI x5), some (vR y4), some (vI y8)]) rfl ?_
        refine g_5 (a := 3) (b := 0) (nx := 82) (by decide +kernel) rfl ?_
        refine g_1 (a := (-1)) (b := 0) (nx := 83) (by decide +kernel) ?_
        obtain ⟨r9, h⟩ := h
        by_cases c13 : x3 = (-1)
        · rw [if_pos c13] at h
          refine g_41t (a := 0) (b := 93) (nx := 86) (by decide +kernel) (by rw [wr_id r9, wr_id (show inR (-1) by decide)]; exact (cb_0 _ _).mpr c13) ?_
          refine g_1 (a := 100) (b := 0) (nx := 95) (by decide +kernel) ?_
          refine g_5 (a := 5) (b := 0) (nx := 97) (by decide +kernel) rfl ?_
          refine g_15 (a := 0) (b := 0) (nx := 98) (by decide +kernel) ?_
          refine g_8 (a := 3) (b := 0) (nx := 99) (by decide +kernel) rfl (ls' := [some (vR x0), some (vI x1), some (vR x2), some (vI (100 + x5)), some (vI x4), some (vI x5), some (vR y4), some (vI y8)]) rfl ?_
          refine g_5 (a := 7) (b := 0) (nx := 101) (by decide +kernel) rfl ?_
          refine g_8 (a := 4) (b := 0) (nx := 103) (by decide +kernel) rfl (ls' := [some (vR x0), some (vI x1), some (vR x2), some (vI (100 + x5)), some (vI y8), some (vI x5), some (vR y4), some (vI y8)]) rfl ?_
          refine g_11 (a := 5) (b := 1) (nx := 106) (by decide +kernel) rfl rfl (ls' := [some (vR x0), some (vI x1), some (vR x2), some (vI (100 + x5)), some (vI y8), some (vI (x5 + 1)), some (vR y4), some (vI y8)]) rfl ?_
          refine g_44 (a := 0) (b := 20) (nx := 109) (by decide +kernel) ?_
          exact h
        · rw [if_neg c13] at h
          refine g_41f (a := 0) (b := 93) (nx := 86) (by decide +kernel) (by rw [wr_id r9, wr_id (show inR (-1) by decide)]; exact fun hz => c13 ((cb_0 _ _).mp hz)) ?_
          refine g_5 (a := 7) (b := 0) (nx := 88) (by decide +kernel) rfl ?_
          refine g_5 (a := 4) (b := 0) (nx := 90) (by decide +kernel) rfl ?_
          obtain ⟨r10, h⟩ := h
          obtain ⟨r11, h⟩ := h
          by_cases c12 : x4 ≤ y8
          · rw [if_pos c12] at h
            refine g_41t (a := 3) (b := 103) (nx := 93) (by decide +kernel) (by rw [wr_id r10, wr_id r11]; exact (cb_3 _ _).mpr c12) ?_
            refine g_11 (a := 5) (b := 1) (nx := 106) (by decide +kernel) rfl rfl (ls' := [some (vR x0), some (vI x1), some (vR x2), some (vI x3), some (vI x4), some (vI (x5 + 1)), some (vR y4), some (vI y8)]) rfl ?_
            refine g_44 (a := 0) (b := 20) (nx := 109) (by decide +kernel) ?_
            exact h
          · rw [if_neg c12] at h
            refine g_41f (a := 3) (b := 103) (nx := 93) (by decide +kernel) (by rw [wr_id r10, wr_id r11]; exact fun hz => c12 ((cb_3 _ _).mp hz)) ?_
            refine g_1 (a := 100) (b := 0) (nx := 95) (by decide +kernel) ?_
            refine g_5 (a := 5) (b := 0) (nx := 97) (by decide +kernel) rfl ?_
            refine g_15 (a := 0) (b := 0) (nx := 98) (by decide +kernel) ?_
            refine g_8 (a := 3) (b := 0) (nx := 99) (by decide +kernel) rfl (ls' := [some (vR x0), some (vI x1), some (vR x2), some (vI (100 + x5)), some (vI x4), some (vI x5), some (vR y4), some (vI y8)]) rfl ?_
            refine g_5 (a := 7) (b := 0) (nx := 101) (by decide +kernel) rfl ?_
            refine g_8 (a := 4) (b := 0) (nx := 103) (by decide +kernel) rfl (ls' := [some (vR x0), some (vI x1), some (vR x2), some (vI (100 + x5)), some (vI y8), some (vI x5), some (vR y4), some (vI y8)]) rfl ?_
            refine g_11 (a := 5) (b := 1) (nx := 106) (by decide +kernel) rfl rfl (ls' := [some (vR x0), some (vI x1), some (vR x2), some (vI (100 + x5)), some (vI y8), some (vI (x5 + 1)), some (vR y4), some (vI y8)]) rfl ?_
            refine g_44 (a := 0) (b := 20) (nx := 109) (by decide +kernel) ?_
            exact h
-- 161 SyllableMaker.parts(I)I
theorem t_161 {x0 x1 : Int} {M : Mem} {Q : AV → Mem → Prop} (h0 : gO 11 x0) (h : WF 175 [vR x0, vI x1] M (fun y2 M1 => y2 ≠ -1000 ∧ (if y2 = 0 then (Q (vI (-1)) M1) else ((gO 2 (M1 x0 7)) ∧ ((shA SH (M1 (M1 x0 7) 1)).1 = 10) ∧ WI 141 [vR (M1 (M1 x0 7) 1), vR y2] M1 (fun y4 M3 => (inR 1000000 ∧ inR y4) ∧ Q (vI (min 1000000 y4)) M3))))) : WC 161 [vR x0, vI x1] M Q := by
  show WR 161 0 [some (vR x0), some (vI x1), none] [] M Q
  refine g_7 (a := 0) (b := 0) (nx := 1) (by decide +kernel) rfl ?_
  refine g_5 (a := 1) (b := 0) (nx := 2) (by decide +kernel) rfl ?_
  refine g_80 (a := 175) (b := 1) (nx := 5) (by decide +kernel) (r := x0) (As := [vI x1]) (st' := []) (z := 175) rfl rfl rfl (Nat.le_of_ble_eq_true rfl) h0.2 (Nat.le_of_ble_eq_true rfl) rfl (c_R (by decide +kernel) h (fun y2 M1 h => ?_))
  refine g_10 (a := 2) (b := 0) (nx := 6) (by decide +kernel) rfl (ls' := [some (vR x0), some (vI x1), some (vR y2)]) rfl ?_
  refine g_7 (a := 2) (b := 0) (nx := 7) (by decide +kernel) rfl ?_
  obtain ⟨q0, h⟩ := h
  by_cases c5 : y2 = 0
  · rw [if_pos c5] at h
    refine g_43t (a := 0) (b := 14) (nx := 10) (by decide +kernel) c5 ?_
    refine g_1 (a := (-1)) (b := 0) (nx := 11) (by decide +kernel) ?_
    refine g_44 (a := 0) (b := 30) (nx := 14) (by decide +kernel) ?_
    exact g_91 (b := 0) (nx := 31) (by decide +kernel) h
  · rw [if_neg c5] at h
    refine g_43f (a := 0) (b := 14) (nx := 10) (by decide +kernel) q0 c5 ?_
    refine g_1 (a := 1000000) (b := 0) (nx := 16) (by decide +kernel) ?_
    refine g_7 (a := 0) (b := 0) (nx := 17) (by decide +kernel) rfl ?_
    refine g_52 (a := 11) (b := 7) (nx := 20) (by decide +kernel) h0 ?_
    refine g_52 (a := 2) (b := 1) (nx := 23) (by decide +kernel) h.1 ?_
    replace h := h.2
    refine g_7 (a := 2) (b := 0) (nx := 24) (by decide +kernel) rfl ?_
    refine g_80 (a := 141) (b := 1) (nx := 27) (by decide +kernel) (r := (M1 (M1 x0 7) 1)) (As := [vR y2]) (st' := [vI 1000000]) (z := 141) rfl rfl rfl (Nat.le_of_ble_eq_true rfl) h.1 (Nat.le_of_ble_eq_true rfl) rfl (c_I (by decide +kernel) h.2 (fun y4 M3 h => ?_))
    refine g_84 (a := 0) (b := 0) (nx := 30) (by decide +kernel) h.1.1 h.1.2 (Nat.le_of_ble_eq_true rfl) ?_
    replace h := h.2
    exact g_91 (b := 0) (nx := 31) (by decide +kernel) h
-- 162 SyllableMaker.hills(I)I
theorem t_162 {x0 x1 : Int} {M : Mem} {Q : AV → Mem → Prop} (h0 : gO 11 x0) (h : WF 175 [vR x0, vI x1] M (fun y2 M1 => y2 ≠ -1000 ∧ (if y2 = 0 then (Q (vI (-1)) M1) else ((gO 2 (M1 x0 7)) ∧ ((shA SH (M1 (M1 x0 7) 0)).1 = 6) ∧ WI 98 [vR (M1 (M1 x0 7) 0), vR y2] M1 (fun y4 M3 => Q (vI y4) M3))))) : WC 162 [vR x0, vI x1] M Q := by
  show WR 162 0 [some (vR x0), some (vI x1), none] [] M Q
  refine g_7 (a := 0) (b := 0) (nx := 1) (by decide +kernel) rfl ?_
  refine g_5 (a := 1) (b := 0) (nx := 2) (by decide +kernel) rfl ?_
  refine g_80 (a := 175) (b := 1) (nx := 5) (by decide +kernel) (r := x0) (As := [vI x1]) (st' := []) (z := 175) rfl rfl rfl (Nat.le_of_ble_eq_true rfl) h0.2 (Nat.le_of_ble_eq_true rfl) rfl (c_R (by decide +kernel) h (fun y2 M1 h => ?_))
  refine g_10 (a := 2) (b := 0) (nx := 6) (by decide +kernel) rfl (ls' := [some (vR x0), some (vI x1), some (vR y2)]) rfl ?_
  refine g_7 (a := 2) (b := 0) (nx := 7) (by decide +kernel) rfl ?_
  obtain ⟨q0, h⟩ := h
  by_cases c5 : y2 = 0
  · rw [if_pos c5] at h
    refine g_43t (a := 0) (b := 14) (nx := 10) (by decide +kernel) c5 ?_
    refine g_1 (a := (-1)) (b := 0) (nx := 11) (by decide +kernel) ?_
    refine g_44 (a := 0) (b := 25) (nx := 14) (by decide +kernel) ?_
    exact g_91 (b := 0) (nx := 26) (by decide +kernel) h
  · rw [if_neg c5] at h
    refine g_43f (a := 0) (b := 14) (nx := 10) (by decide +kernel) q0 c5 ?_
    refine g_7 (a := 0) (b := 0) (nx := 15) (by decide +kernel) rfl ?_
    refine g_52 (a := 11) (b := 7) (nx := 18) (by decide +kernel) h0 ?_
    refine g_52 (a := 2) (b := 0) (nx := 21) (by decide +kernel) h.1 ?_
    replace h := h.2
    refine g_7 (a := 2) (b := 0) (nx := 22) (by decide +kernel) rfl ?_
    refine g_80 (a := 98) (b := 1) (nx := 25) (by decide +kernel) (r := (M1 (M1 x0 7) 0)) (As := [vR y2]) (st' := []) (z := 98) rfl rfl rfl (Nat.le_of_ble_eq_true rfl) h.1 (Nat.le_of_ble_eq_true rfl) rfl (c_I (by decide +kernel) h.2 (fun y4 M3 h => ?_))
    exact g_91 (b := 0) (nx := 26) (by decide +kernel) h
-- 163 SyllableMaker.joins(I)I
theorem t_163 {x0 x1 : Int} {M : Mem} {Q : AV → Mem → Prop} (h0 : gO 11 x0) (h : (gO 7 (M x0 3)) ∧ ((shA SH (M (M x0 3) 1)).1 = 10) ∧ WF 136 [vR (M (M x0 3) 1), vI x1] M (fun y2 M1 => y2 ≠ -1000 ∧ (if y2 = 0 then (Q (vI (-1)) M1) else (((shA SH (M1 x0 3)).1 = 7) ∧ WI 105 [vR (M1 x0 3), vR (M1 x0 7), vI x1] M1 (fun y4 M3 => Q (vI y4) M3))))) : WC 163 [vR x0, vI x1] M Q := by
  show WR 163 0 [some (vR x0), some (vI x1)] [] M Q
  refine g_7 (a := 0) (b := 0) (nx := 1) (by decide +kernel) rfl ?_
  refine g_52 (a := 11) (b := 3) (nx := 4) (by decide +kernel) h0 ?_
  refine g_52 (a := 7) (b := 1) (nx := 7) (by decide +kernel) h.1 ?_
  replace h := h.2
  refine g_5 (a := 1) (b := 0) (nx := 8) (by decide +kernel) rfl ?_
  refine g_80 (a := 136) (b := 1) (nx := 11) (by decide +kernel) (r := (M (M x0 3) 1)) (As := [vI x1]) (st' := []) (z := 136) rfl rfl rfl (Nat.le_of_ble_eq_true rfl) h.1 (Nat.le_of_ble_eq_true rfl) rfl (c_R (by decide +kernel) h.2 (fun y2 M1 h => ?_))
  obtain ⟨q0, h⟩ := h
  by_cases c5 : y2 = 0
  · rw [if_pos c5] at h
    refine g_43t (a := 0) (b := 18) (nx := 14) (by decide +kernel) c5 ?_
    refine g_1 (a := (-1)) (b := 0) (nx := 15) (by decide +kernel) ?_
    refine g_44 (a := 0) (b := 30) (nx := 18) (by decide +kernel) ?_
    exact g_91 (b := 0) (nx := 31) (by decide +kernel) h
  · rw [if_neg c5] at h
    refine g_43f (a := 0) (b := 18) (nx := 14) (by decide +kernel) q0 c5 ?_
    refine g_7 (a := 0) (b := 0) (nx := 19) (by decide +kernel) rfl ?_
    refine g_52 (a := 11) (b := 3) (nx := 22) (by decide +kernel) h0 ?_
    refine g_7 (a := 0) (b := 0) (nx := 23) (by decide +kernel) rfl ?_
    refine g_52 (a := 11) (b := 7) (nx := 26) (by decide +kernel) h0 ?_
    refine g_5 (a := 1) (b := 0) (nx := 27) (by decide +kernel) rfl ?_
    refine g_80 (a := 105) (b := 2) (nx := 30) (by decide +kernel) (r := (M1 x0 3)) (As := [vR (M1 x0 7), vI x1]) (st' := []) (z := 105) rfl rfl rfl (Nat.le_of_ble_eq_true rfl) h.1 (Nat.le_of_ble_eq_true rfl) rfl (c_I (by decide +kernel) h.2 (fun y4 M3 h => ?_))
    exact g_91 (b := 0) (nx := 31) (by decide +kernel) h
-- 164 SyllableMaker.speech(I)I
theorem t_164 {x0 x1 : Int} {M : Mem} {Q : AV → Mem → Prop} (h0 : gO 11 x0) (h : (gO 7 (M x0 3)) ∧ (gO 10 (M (M x0 3) 1)) ∧ inR (M (M (M x0 3) 1) 2) ∧ (if (M (M (M x0 3) 1) 2) = 0 then (Q (vI (-1)) M) else (inR x1 ∧ (if x1 = 0 then (((shA SH (M x0 3)).1 = 7) ∧ WI 108 [vR (M x0 3), vR (M x0 7)] M (fun y5 M4 => Q (vI y5) M4)) else (if x1 = 1 then (((shA SH (M x0 3)).1 = 7) ∧ WI 109 [vR (M x0 3), vR (M x0 7)] M (fun y8 M7 => Q (vI y8) M7)) else (if x1 = 2 then (((shA SH (M x0 3)).1 = 7) ∧ WI 110 [vR (M x0 3), vR (M x0 7)] M (fun y11 M10 => Q (vI y11) M10)) else (Q (vI (-1)) M))))))) : WC 164 [vR x0, vI x1] M Q := by
  show WR 164 0 [some (vR x0), some (vI x1)] [] M Q
  refine g_7 (a := 0) (b := 0) (nx := 1) (by decide +kernel) rfl ?_
  refine g_52 (a := 11) (b := 3) (nx := 4) (by decide +kernel) h0 ?_
  refine g_52 (a := 7) (b := 1) (nx := 7) (by decide +kernel) h.1 ?_
  replace h := h.2
  refine g_50 (a := 10) (b := 2) (nx := 10) (by decide +kernel) h.1 ?_
  replace h := h.2
  obtain ⟨r1, h⟩ := h
  by_cases c12 : (M (M (M x0 3) 1) 2) = 0
  · rw [if_pos c12] at h
    refine g_40f (a := 1) (b := 15) (nx := 13) (by decide +kernel) r1 (by exact fun hz => ((cb_1 _ _).mp hz) c12) ?_
    refine g_1 (a := (-1)) (b := 0) (nx := 14) (by decide +kernel) ?_
    exact g_91 (b := 0) (nx := 15) (by decide +kernel) h
  · rw [if_neg c12] at h
    refine g_40t (a := 1) (b := 15) (nx := 13) (by decide +kernel) r1 (by exact (cb_1 _ _).mpr c12) ?_
    refine g_5 (a := 1) (b := 0) (nx := 16) (by decide +kernel) rfl ?_
    obtain ⟨r2, h⟩ := h
    by_cases c3 : x1 = 0
    · rw [if_pos c3] at h
      refine g_45 (a := 0) (b := 80) (nx := 44) (by decide +kernel) r2 (t := 44) (by rw [(show sws 164 16 = [(0, 44), (1, 56), (2, 68)] from by decide +kernel)]; simp only [swL]; simp [c3]) ?_
      refine g_7 (a := 0) (b := 0) (nx := 45) (by decide +kernel) rfl ?_
      refine g_52 (a := 11) (b := 3) (nx := 48) (by decide +kernel) h0 ?_
      refine g_7 (a := 0) (b := 0) (nx := 49) (by decide +kernel) rfl ?_
      refine g_52 (a := 11) (b := 7) (nx := 52) (by decide +kernel) h0 ?_
      refine g_80 (a := 108) (b := 1) (nx := 55) (by decide +kernel) (r := (M x0 3)) (As := [vR (M x0 7)]) (st' := []) (z := 108) rfl rfl rfl (Nat.le_of_ble_eq_true rfl) h.1 (Nat.le_of_ble_eq_true rfl) rfl (c_I (by decide +kernel) h.2 (fun y5 M4 h => ?_))
      exact g_91 (b := 0) (nx := 56) (by decide +kernel) h
    · rw [if_neg c3] at h
      by_cases c6 : x1 = 1
      · rw [if_pos c6] at h
        refine g_45 (a := 0) (b := 80) (nx := 44) (by decide +kernel) r2 (t := 56) (by rw [(show sws 164 16 = [(0, 44), (1, 56), (2, 68)] from by decide +kernel)]; simp only [swL]; simp [c6]) ?_
        refine g_7 (a := 0) (b := 0) (nx := 57) (by decide +kernel) rfl ?_
        refine g_52 (a := 11) (b := 3) (nx := 60) (by decide +kernel) h0 ?_
        refine g_7 (a := 0) (b := 0) (nx := 61) (by decide +kernel) rfl ?_
        refine g_52 (a := 11) (b := 7) (nx := 64) (by decide +kernel) h0 ?_
        refine g_80 (a := 109) (b := 1) (nx := 67) (by decide +kernel) (r := (M x0 3)) (As := [vR (M x0 7)]) (st' := []) (z := 109) rfl rfl rfl (Nat.le_of_ble_eq_true rfl) h.1 (Nat.le_of_ble_eq_true rfl) rfl (c_I (by decide +kernel) h.2 (fun y8 M7 h => ?_))
        exact g_91 (b := 0) (nx := 68) (by decide +kernel) h
      · rw [if_neg c6] at h
        by_cases c9 : x1 = 2
        · rw [if_pos c9] at h
          refine g_45 (a := 0) (b := 80) (nx := 44) (by decide +kernel) r2 (t := 68) (by rw [(show sws 164 16 = [(0, 44), (1, 56), (2, 68)] from by decide +kernel)]; simp only [swL]; simp [c9]) ?_
          refine g_7 (a := 0) (b := 0) (nx := 69) (by decide +kernel) rfl ?_
          refine g_52 (a := 11) (b := 3) (nx := 72) (by decide +kernel) h0 ?_
          refine g_7 (a := 0) (b := 0) (nx := 73) (by decide +kernel) rfl ?_
          refine g_52 (a := 11) (b := 7) (nx := 76) (by decide +kernel) h0 ?_
          refine g_80 (a := 110) (b := 1) (nx := 79) (by decide +kernel) (r := (M x0 3)) (As := [vR (M x0 7)]) (st' := []) (z := 110) rfl rfl rfl (Nat.le_of_ble_eq_true rfl) h.1 (Nat.le_of_ble_eq_true rfl) rfl (c_I (by decide +kernel) h.2 (fun y11 M10 h => ?_))
          exact g_91 (b := 0) (nx := 80) (by decide +kernel) h
        · rw [if_neg c9] at h
          refine g_45 (a := 0) (b := 80) (nx := 44) (by decide +kernel) r2 (t := 80) (by rw [(show sws 164 16 = [(0, 44), (1, 56), (2, 68)] from by decide +kernel)]; simp only [swL]; first | rfl | (simp [c3, c6, c9])) ?_
          refine g_1 (a := (-1)) (b := 0) (nx := 81) (by decide +kernel) ?_
          exact g_91 (b := 0) (nx := 82) (by decide +kernel) h
-- 165 SyllableMaker.misfits(II)I
theorem t_165 {x0 x1 x2 : Int} {M : Mem} {Q : AV → Mem → Prop} (h0 : gO 11 x0) (h : inR x1 ∧ (if x1 < 2 then (Q (vI (-1)) M) else (if 4 < x1 then (Q (vI (-1)) M) else (inR x2 ∧ (if x2 < 0 then (Q (vI (-1)) M) else (if x1 ≤ x2 then (Q (vI (-1)) M) else (((shA SH (M x0 3)).1 = 7) ∧ WI 104 [vR (M x0 3)] M (fun y4 M3 => inR y4 ∧ (if y4 = 0 then (Q (vI (-1)) M3) else (((shA SH (M3 x0 3)).1 = 7) ∧ WI 111 [vR (M3 x0 3), vR (M3 x0 7), vI x1, vI x2] M3 (fun y7 M6 => Q (vI y7) M6))))))))))) : WC 165 [vR x0, vI x1, vI x2] M Q := by
  show WR 165 0 [some (vR x0), some (vI x1), some (vI x2)] [] M Q
  refine g_5 (a := 1) (b := 0) (nx := 1) (by decide +kernel) rfl ?_
  refine g_1 (a := 2) (b := 0) (nx := 2) (by decide +kernel) ?_
  obtain ⟨r1, h⟩ := h
  by_cases c12 : x1 < 2
  · rw [if_pos c12] at h
    refine g_41t (a := 2) (b := 29) (nx := 5) (by decide +kernel) (by rw [wr_id r1, wr_id (show inR 2 by decide)]; exact (cb_2 _ _).mpr c12) ?_
    refine g_1 (a := (-1)) (b := 0) (nx := 30) (by decide +kernel) ?_
    exact g_91 (b := 0) (nx := 31) (by decide +kernel) h
  · rw [if_neg c12] at h
    refine g_41f (a := 2) (b := 29) (nx := 5) (by decide +kernel) (by rw [wr_id r1, wr_id (show inR 2 by decide)]; exact fun hz => c12 ((cb_2 _ _).mp hz)) ?_
    refine g_5 (a := 1) (b := 0) (nx := 6) (by decide +kernel) rfl ?_
    refine g_1 (a := 4) (b := 0) (nx := 7) (by decide +kernel) ?_
    by_cases c11 : 4 < x1
    · rw [if_pos c11] at h
      refine g_41t (a := 4) (b := 29) (nx := 10) (by decide +kernel) (by rw [wr_id r1, wr_id (show inR 4 by decide)]; exact (cb_4 _ _).mpr c11) ?_
      refine g_1 (a := (-1)) (b := 0) (nx := 30) (by decide +kernel) ?_
      exact g_91 (b := 0) (nx := 31) (by decide +kernel) h
    · rw [if_neg c11] at h
      refine g_41f (a := 4) (b := 29) (nx := 10) (by decide +kernel) (by rw [wr_id r1, wr_id (show inR 4 by decide)]; exact fun hz => c11 ((cb_4 _ _).mp hz)) ?_
      refine g_5 (a := 2) (b := 0) (nx := 11) (by decide +kernel) rfl ?_
      obtain ⟨r2, h⟩ := h
      by_cases c10 : x2 < 0
      · rw [if_pos c10] at h
        refine g_40t (a := 2) (b := 29) (nx := 14) (by decide +kernel) r2 (by exact (cb_2 _ _).mpr c10) ?_
        refine g_1 (a := (-1)) (b := 0) (nx := 30) (by decide +kernel) ?_
        exact g_91 (b := 0) (nx := 31) (by decide +kernel) h
      · rw [if_neg c10] at h
        refine g_40f (a := 2) (b := 29) (nx := 14) (by decide +kernel) r2 (by exact fun hz => c10 ((cb_2 _ _).mp hz)) ?_
        refine g_5 (a := 2) (b := 0) (nx := 15) (by decide +kernel) rfl ?_
        refine g_5 (a := 1) (b := 0) (nx := 16) (by decide +kernel) rfl ?_
        by_cases c9 : x1 ≤ x2
        · rw [if_pos c9] at h
          refine g_41t (a := 3) (b := 29) (nx := 19) (by decide +kernel) (by rw [wr_id r2, wr_id r1]; exact (cb_3 _ _).mpr c9) ?_
          refine g_1 (a := (-1)) (b := 0) (nx := 30) (by decide +kernel) ?_
          exact g_91 (b := 0) (nx := 31) (by decide +kernel) h
        · rw [if_neg c9] at h
          refine g_41f (a := 3) (b := 29) (nx := 19) (by decide +kernel) (by rw [wr_id r2, wr_id r1]; exact fun hz => c9 ((cb_3 _ _).mp hz)) ?_
          refine g_7 (a := 0) (b := 0) (nx := 20) (by decide +kernel) rfl ?_
          refine g_52 (a := 11) (b := 3) (nx := 23) (by decide +kernel) h0 ?_
          refine g_80 (a := 104) (b := 0) (nx := 26) (by decide +kernel) (r := (M x0 3)) (As := []) (st' := []) (z := 104) rfl rfl rfl (Nat.le_of_ble_eq_true rfl) h.1 (Nat.le_of_ble_eq_true rfl) rfl (c_I (by decide +kernel) h.2 (fun y4 M3 h => ?_))
          obtain ⟨r5, h⟩ := h
          by_cases c8 : y4 = 0
          · rw [if_pos c8] at h
            refine g_40f (a := 1) (b := 31) (nx := 29) (by decide +kernel) r5 (by exact fun hz => ((cb_1 _ _).mp hz) c8) ?_
            refine g_1 (a := (-1)) (b := 0) (nx := 30) (by decide +kernel) ?_
            exact g_91 (b := 0) (nx := 31) (by decide +kernel) h
          · rw [if_neg c8] at h
            refine g_40t (a := 1) (b := 31) (nx := 29) (by decide +kernel) r5 (by exact (cb_1 _ _).mpr c8) ?_
            refine g_7 (a := 0) (b := 0) (nx := 32) (by decide +kernel) rfl ?_
            refine g_52 (a := 11) (b := 3) (nx := 35) (by decide +kernel) h0 ?_
            refine g_7 (a := 0) (b := 0) (nx := 36) (by decide +kernel) rfl ?_
            refine g_52 (a := 11) (b := 7) (nx := 39) (by decide +kernel) h0 ?_
            refine g_5 (a := 1) (b := 0) (nx := 40) (by decide +kernel) rfl ?_
            refine g_5 (a := 2) (b := 0) (nx := 41) (by decide +kernel) rfl ?_
            refine g_80 (a := 111) (b := 3) (nx := 44) (by decide +kernel) (r := (M3 x0 3)) (As := [vR (M3 x0 7), vI x1, vI x2]) (st' := []) (z := 111) rfl rfl rfl (Nat.le_of_ble_eq_true rfl) h.1 (Nat.le_of_ble_eq_true rfl) rfl (c_I (by decide +kernel) h.2 (fun y7 M6 h => ?_))
            exact g_91 (b := 0) (nx := 45) (by decide +kernel) h
-- 166 SyllableMaker.beat(I)I
theorem t_166 {x0 x1 : Int} {M : Mem} {Q : AV → Mem → Prop} (h0 : gO 11 x0) (h : inR x1 ∧ (if x1 < 0 then (Q (vI (-1)) M) else (if 2 < x1 then (Q (vI (-1)) M) else (((shA SH (M x0 3)).1 = 7) ∧ WI 104 [vR (M x0 3)] M (fun y3 M2 => inR y3 ∧ (if y3 = 0 then (Q (vI (-1)) M2) else (WR 166 31 [some (vR x0), some (vI x1), some (vI 0), some (vI 0), some (vI (-1)), some (vI 2), none, none] [] M2 Q))))))) : WC 166 [vR x0, vI x1] M Q := by
  show WR 166 0 [some (vR x0), some (vI x1), none, none, none, none, none, none] [] M Q
  refine g_5 (a := 1) (b := 0) (nx := 1) (by decide +kernel) rfl ?_
  obtain ⟨r1, h⟩ := h
  by_cases c7 : x1 < 0
  · rw [if_pos c7] at h
    refine g_40t (a := 2) (b := 19) (nx := 4) (by decide +kernel) r1 (by exact (cb_2 _ _).mpr c7) ?_
    refine g_1 (a := (-1)) (b := 0) (nx := 20) (by decide +kernel) ?_
    exact g_91 (b := 0) (nx := 21) (by decide +kernel) h
  · rw [if_neg c7] at h
    refine g_40f (a := 2) (b := 19) (nx := 4) (by decide +kernel) r1 (by exact fun hz => c7 ((cb_2 _ _).mp hz)) ?_
    refine g_5 (a := 1) (b := 0) (nx := 5) (by decide +kernel) rfl ?_
    refine g_1 (a := 2) (b := 0) (nx := 6) (by decide +kernel) ?_
    by_cases c6 : 2 < x1
    · rw [if_pos c6] at h
      refine g_41t (a := 4) (b := 19) (nx := 9) (by decide +kernel) (by rw [wr_id r1, wr_id (show inR 2 by decide)]; exact (cb_4 _ _).mpr c6) ?_
      refine g_1 (a := (-1)) (b := 0) (nx := 20) (by decide +kernel) ?_
      exact g_91 (b := 0) (nx := 21) (by decide +kernel) h
    · rw [if_neg c6] at h
      refine g_41f (a := 4) (b := 19) (nx := 9) (by decide +kernel) (by rw [wr_id r1, wr_id (show inR 2 by decide)]; exact fun hz => c6 ((cb_4 _ _).mp hz)) ?_
      refine g_7 (a := 0) (b := 0) (nx := 10) (by decide +kernel) rfl ?_
      refine g_52 (a := 11) (b := 3) (nx := 13) (by decide +kernel) h0 ?_
      refine g_80 (a := 104) (b := 0) (nx := 16) (by decide +kernel) (r := (M x0 3)) (As := []) (st' := []) (z := 104) rfl rfl rfl (Nat.le_of_ble_eq_true rfl) h.1 (Nat.le_of_ble_eq_true rfl) rfl (c_I (by decide +kernel) h.2 (fun y3 M2 h => ?_))
      obtain ⟨r4, h⟩ := h
      by_cases c5 : y3 = 0
      · rw [if_pos c5] at h
        refine g_40f (a := 1) (b := 21) (nx := 19) (by decide +kernel) r4 (by exact fun hz => ((cb_1 _ _).mp hz) c5) ?_
        refine g_1 (a := (-1)) (b := 0) (nx := 20) (by decide +kernel) ?_
        exact g_91 (b := 0) (nx := 21) (by decide +kernel) h
      · rw [if_neg c5] at h
        refine g_40t (a := 1) (b := 21) (nx := 19) (by decide +kernel) r4 (by exact (cb_1 _ _).mpr c5) ?_
        refine g_1 (a := 0) (b := 0) (nx := 22) (by decide +kernel) ?_
        refine g_8 (a := 2) (b := 0) (nx := 23) (by decide +kernel) rfl (ls' := [some (vR x0), some (vI x1), some (vI 0), none, none, none, none, none]) rfl ?_
        refine g_1 (a := 0) (b := 0) (nx := 24) (by decide +kernel) ?_
        refine g_8 (a := 3) (b := 0) (nx := 25) (by decide +kernel) rfl (ls' := [some (vR x0), some (vI x1), some (vI 0), some (vI 0), none, none, none, none]) rfl ?_
        refine g_1 (a := (-1)) (b := 0) (nx := 26) (by decide +kernel) ?_
        refine g_8 (a := 4) (b := 0) (nx := 28) (by decide +kernel) rfl (ls' := [some (vR x0), some (vI x1), some (vI 0), some (vI 0), some (vI (-1)), none, none, none]) rfl ?_
        refine g_1 (a := 2) (b := 0) (nx := 29) (by decide +kernel) ?_
        refine g_8 (a := 5) (b := 0) (nx := 31) (by decide +kernel) rfl (ls' := [some (vR x0), some (vI x1), some (vI 0), some (vI 0), some (vI (-1)), some (vI 2), none, none]) rfl ?_
        exact h
theorem t_166_31 {x0 x1 x2 x3 x4 x5 : Int} {l6 l7 : Option AV} {M : Mem} {Q : AV → Mem → Prop} (h0 : gO 11 x0) (h : inR x5 ∧ (if 4 < x5 then (inR x1 ∧ (if x1 = 0 then (Q (vI x2) M) else (if x1 = 1 then (Q (vI x3) M) else (Q (vI x4) M)))) else (WR 166 40 [some (vR x0), some (vI x1), some (vI x2), some (vI x3), some (vI x4), some (vI x5), some (vI 0), l7] [] M Q))) : WR 166 31 [some (vR x0), some (vI x1), some (vI x2), some (vI x3), some (vI x4), some (vI x5), l6, l7] [] M Q := by
  refine g_5 (a := 5) (b := 0) (nx := 33) (by decide +kernel) rfl ?_
  refine g_1 (a := 4) (b := 0) (nx := 34) (by decide +kernel) ?_
  obtain ⟨r1, h⟩ := h
  by_cases c5 : 4 < x5
  · rw [if_pos c5] at h
    refine g_41t (a := 4) (b := 99) (nx := 37) (by decide +kernel) (by rw [wr_id r1, wr_id (show inR 4 by decide)]; exact (cb_4 _ _).mpr c5) ?_
    refine g_5 (a := 1) (b := 0) (nx := 100) (by decide +kernel) rfl ?_
    obtain ⟨r2, h⟩ := h
    by_cases c4 : x1 = 0
    · rw [if_pos c4] at h
      refine g_40f (a := 1) (b := 107) (nx := 103) (by decide +kernel) r2 (by exact fun hz => ((cb_1 _ _).mp hz) c4) ?_
      refine g_5 (a := 2) (b := 0) (nx := 104) (by decide +kernel) rfl ?_
      refine g_44 (a := 0) (b := 118) (nx := 107) (by decide +kernel) ?_
      exact g_91 (b := 0) (nx := 119) (by decide +kernel) h
    · rw [if_neg c4] at h
      refine g_40t (a := 1) (b := 107) (nx := 103) (by decide +kernel) r2 (by exact (cb_1 _ _).mpr c4) ?_
      refine g_5 (a := 1) (b := 0) (nx := 108) (by decide +kernel) rfl ?_
      refine g_1 (a := 1) (b := 0) (nx := 109) (by decide +kernel) ?_
      by_cases c3 : x1 = 1
      · rw [if_pos c3] at h
        refine g_41f (a := 1) (b := 116) (nx := 112) (by decide +kernel) (by rw [wr_id r2, wr_id (show inR 1 by decide)]; exact fun hz => ((cb_1 _ _).mp hz) c3) ?_
        refine g_5 (a := 3) (b := 0) (nx := 113) (by decide +kernel) rfl ?_
        refine g_44 (a := 0) (b := 118) (nx := 116) (by decide +kernel) ?_
        exact g_91 (b := 0) (nx := 119) (by decide +kernel) h
      · rw [if_neg c3] at h
        refine g_41t (a := 1) (b := 116) (nx := 112) (by decide +kernel) (by rw [wr_id r2, wr_id (show inR 1 by decide)]; exact (cb_1 _ _).mpr c3) ?_
        refine g_5 (a := 4) (b := 0) (nx := 118) (by decide +kernel) rfl ?_
        exact g_91 (b := 0) (nx := 119) (by decide +kernel) h
  · rw [if_neg c5] at h
    refine g_41f (a := 4) (b := 99) (nx := 37) (by decide +kernel) (by rw [wr_id r1, wr_id (show inR 4 by decide)]; exact fun hz => c5 ((cb_4 _ _).mp hz)) ?_
    refine g_1 (a := 0) (b := 0) (nx := 38) (by decide +kernel) ?_
    refine g_8 (a := 6) (b := 0) (nx := 40) (by decide +kernel) rfl (ls' := [some (vR x0), some (vI x1), some (vI x2), some (vI x3), some (vI x4), some (vI x5), some (vI 0), l7]) rfl ?_
    exact h
theorem t_166_40 {x0 x1 x2 x3 x4 x5 x6 : Int} {l7 : Option AV} {M : Mem} {Q : AV → Mem → Prop} (h0 : gO 11 x0) (h : inR x6 ∧ (inR x5 ∧ (if x5 ≤ x6 then (WR 166 31 [some (vR x0), some (vI x1), some (vI x2), some (vI x3), some (vI x4), some (vI (x5 + 1)), some (vI x6), l7] [] M Q) else (((shA SH (M x0 3)).1 = 7) ∧ WI 111 [vR (M x0 3), vR (M x0 7), vI x5, vI x6] M (fun y4 M3 => inR x4 ∧ (if x4 = (-1) then (WR 166 40 [some (vR x0), some (vI x1), some (vI x5), some (vI x6), some (vI y4), some (vI x5), some (vI (x6 + 1)), some (vI y4)] [] M3 Q) else (inR y4 ∧ (if x4 ≤ y4 then (WR 166 40 [some (vR x0), some (vI x1), some (vI x2), some (vI x3), some (vI x4), some (vI x5), some (vI (x6 + 1)), some (vI y4)] [] M3 Q) else (WR 166 40 [some (vR x0), some (vI x1), some (vI x5), some (vI x6), some (vI y4), some (vI x5), some (vI (x6 + 1)), some (vI y4)] [] M3 Q))))))))) : WR 166 40 [some (vR x0), some (vI x1), some (vI x2), some (vI x3), some (vI x4), some (vI x5), some (vI x6), l7] [] M Q := by
  refine g_5 (a := 6) (b := 0) (nx := 42) (by decide +kernel) rfl ?_
  refine g_5 (a := 5) (b := 0) (nx := 44) (by decide +kernel) rfl ?_
  obtain ⟨r1, h⟩ := h
  obtain ⟨r2, h⟩ := h
  by_cases c9 : x5 ≤ x6
  · rw [if_pos c9] at h
    refine g_41t (a := 3) (b := 93) (nx := 47) (by decide +kernel) (by rw [wr_id r1, wr_id r2]; exact (cb_3 _ _).mpr c9) ?_
    refine g_11 (a := 5) (b := 1) (nx := 96) (by decide +kernel) rfl rfl (ls' := [some (vR x0), some (vI x1), some (vI x2), some (vI x3), some (vI x4), some (vI (x5 + 1)), some (vI x6), l7]) rfl ?_
    refine g_44 (a := 0) (b := 31) (nx := 99) (by decide +kernel) ?_
    exact h
  · rw [if_neg c9] at h
    refine g_41f (a := 3) (b := 93) (nx := 47) (by decide +kernel) (by rw [wr_id r1, wr_id r2]; exact fun hz => c9 ((cb_3 _ _).mp hz)) ?_
    refine g_7 (a := 0) (b := 0) (nx := 48) (by decide +kernel) rfl ?_
    refine g_52 (a := 11) (b := 3) (nx := 51) (by decide +kernel) h0 ?_
    refine g_7 (a := 0) (b := 0) (nx := 52) (by decide +kernel) rfl ?_
    refine g_52 (a := 11) (b := 7) (nx := 55) (by decide +kernel) h0 ?_
    refine g_5 (a := 5) (b := 0) (nx := 57) (by decide +kernel) rfl ?_
    refine g_5 (a := 6) (b := 0) (nx := 59) (by decide +kernel) rfl ?_
    refine g_80 (a := 111) (b := 3) (nx := 62) (by decide +kernel) (r := (M x0 3)) (As := [vR (M x0 7), vI x5, vI x6]) (st' := []) (z := 111) rfl rfl rfl (Nat.le_of_ble_eq_true rfl) h.1 (Nat.le_of_ble_eq_true rfl) rfl (c_I (by decide +kernel) h.2 (fun y4 M3 h => ?_))
    refine g_8 (a := 7) (b := 0) (nx := 64) (by decide +kernel) rfl (ls' := [some (vR x0), some (vI x1), some (vI x2), some (vI x3), some (vI x4), some (vI x5), some (vI x6), some (vI y4)]) rfl ?_
    refine g_5 (a := 4) (b := 0) (nx := 66) (by decide +kernel) rfl ?_
    refine g_1 (a := (-1)) (b := 0) (nx := 67) (by decide +kernel) ?_
    obtain ⟨r5, h⟩ := h
    by_cases c8 : x4 = (-1)
    · rw [if_pos c8] at h
      refine g_41t (a := 0) (b := 77) (nx := 70) (by decide +kernel) (by rw [wr_id r5, wr_id (show inR (-1) by decide)]; exact (cb_0 _ _).mpr c8) ?_
      refine g_5 (a := 5) (b := 0) (nx := 79) (by decide +kernel) rfl ?_
      refine g_8 (a := 2) (b := 0) (nx := 80) (by decide +kernel) rfl (ls' := [some (vR x0), some (vI x1), some (vI x5), some (vI x3), some (vI x4), some (vI x5), some (vI x6), some (vI y4)]) rfl ?_
      refine g_5 (a := 6) (b := 0) (nx := 82) (by decide +kernel) rfl ?_
      refine g_8 (a := 3) (b := 0) (nx := 83) (by decide +kernel) rfl (ls' := [some (vR x0), some (vI x1), some (vI x5), some (vI x6), some (vI x4), some (vI x5), some (vI x6), some (vI y4)]) rfl ?_
      refine g_5 (a := 7) (b := 0) (nx := 85) (by decide +kernel) rfl ?_
      refine g_8 (a := 4) (b := 0) (nx := 87) (by decide +kernel) rfl (ls' := [some (vR x0), some (vI x1), some (vI x5), some (vI x6), some (vI y4), some (vI x5), some (vI x6), some (vI y4)]) rfl ?_
      refine g_11 (a := 6) (b := 1) (nx := 90) (by decide +kernel) rfl rfl (ls' := [some (vR x0), some (vI x1), some (vI x5), some (vI x6), some (vI y4), some (vI x5), some (vI (x6 + 1)), some (vI y4)]) rfl ?_
      refine g_44 (a := 0) (b := 40) (nx := 93) (by decide +kernel) ?_
      exact h
    · rw [if_neg c8] at h
      refine g_41f (a := 0) (b := 77) (nx := 70) (by decide +kernel) (by rw [wr_id r5, wr_id (show inR (-1) by decide)]; exact fun hz => c8 ((cb_0 _ _).mp hz)) ?_
      refine g_5 (a := 7) (b := 0) (nx := 72) (by decide +kernel) rfl ?_
      refine g_5 (a := 4) (b := 0) (nx := 74) (by decide +kernel) rfl ?_
      obtain ⟨r6, h⟩ := h
      by_cases c7 : x4 ≤ y4
      · rw [if_pos c7] at h
        refine g_41t (a := 3) (b := 87) (nx := 77) (by decide +kernel) (by rw [wr_id r6, wr_id r5]; exact (cb_3 _ _).mpr c7) ?_
        refine g_11 (a := 6) (b := 1) (nx := 90) (by decide +kernel) rfl rfl (ls' := [some (vR x0), some (vI x1), some (vI x2), some (vI x3), some (vI x4), some (vI x5), some (vI (x6 + 1)), some (vI y4)]) rfl ?_
        refine g_44 (a := 0) (b := 40) (nx := 93) (by decide +kernel) ?_
        exact h
      · rw [if_neg c7] at h
        refine g_41f (a := 3) (b := 87) (nx := 77) (by decide +kernel) (by rw [wr_id r6, wr_id r5]; exact fun hz => c7 ((cb_3 _ _).mp hz)) ?_
        refine g_5 (a := 5) (b := 0) (nx := 79) (by decide +kernel) rfl ?_
        refine g_8 (a := 2) (b := 0) (nx := 80) (by decide +kernel) rfl (ls' := [some (vR x0), some (vI x1), some (vI x5), some (vI x3), some (vI x4), some (vI x5), some (vI x6), some (vI y4)]) rfl ?_
        refine g_5 (a := 6) (b := 0) (nx := 82) (by decide +kernel) rfl ?_
        refine g_8 (a := 3) (b := 0) (nx := 83) (by decide +kernel) rfl (ls' := [some (vR x0), some (vI x1), some (vI x5), some (vI x6), some (vI x4), some (vI x5), some (vI x6), some (vI y4)]) rfl ?_
        refine g_5 (a := 7) (b := 0) (nx := 85) (by decide +kernel) rfl ?_
        refine g_8 (a := 4) (b := 0) (nx := 87) (by decide +kernel) rfl (ls' := [some (vR x0), some (vI x1), some (vI x5), some (vI x6), some (vI y4), some (vI x5), some (vI x6), some (vI y4)]) rfl ?_
        refine g_11 (a := 6) (b := 1) (nx := 90) (by decide +kernel) rfl rfl (ls' := [some (vR x0), some (vI x1), some (vI x5), some (vI x6), some (vI y4), some (vI x5), some (vI (x6 + 1)), some (vI y4)]) rfl ?_
        refine g_44 (a := 0) (b := 40) (nx := 93) (by decide +kernel) ?_
        exact h
-- 167 SyllableMaker.possible(I)I
theorem t_167 {x0 x1 : Int} {M : Mem} {Q : AV → Mem → Prop} (h0 : gO 11 x0) (h : inR x1 ∧ (if x1 < 1 then (Q (vI (-1)) M) else (if x1 ≤ 6 then (WR 167 17 [some (vR x0), some (vI x1), some (vI 0), some (vI 1), none, none] [] M Q) else (Q (vI (-1)) M)))) : WC 167 [vR x0, vI x1] M Q := by
  show WR 167 0 [some (vR x0), some (vI x1), none, none, none, none] [] M Q
  refine g_5 (a := 1) (b := 0) (nx := 1) (by decide +kernel) rfl ?_
  refine g_1 (a := 1) (b := 0) (nx := 2) (by decide +kernel) ?_
  obtain ⟨r1, h⟩ := h
  by_cases c3 : x1 < 1
  · rw [if_pos c3] at h
    refine g_41t (a := 2) (b := 11) (nx := 5) (by decide +kernel) (by rw [wr_id r1, wr_id (show inR 1 by decide)]; exact (cb_2 _ _).mpr c3) ?_
    refine g_1 (a := (-1)) (b := 0) (nx := 12) (by decide +kernel) ?_
    exact g_91 (b := 0) (nx := 13) (by decide +kernel) h
  · rw [if_neg c3] at h
    refine g_41f (a := 2) (b := 11) (nx := 5) (by decide +kernel) (by rw [wr_id r1, wr_id (show inR 1 by decide)]; exact fun hz => c3 ((cb_2 _ _).mp hz)) ?_
    refine g_5 (a := 1) (b := 0) (nx := 6) (by decide +kernel) rfl ?_
    refine g_1 (a := 6) (b := 0) (nx := 8) (by decide +kernel) ?_
    by_cases c2 : x1 ≤ 6
    · rw [if_pos c2] at h
      refine g_41t (a := 5) (b := 13) (nx := 11) (by decide +kernel) (by rw [wr_id r1, wr_id (show inR 6 by decide)]; exact (cb_5 _ _).mpr c2) ?_
      refine g_1 (a := 0) (b := 0) (nx := 14) (by decide +kernel) ?_
      refine g_8 (a := 2) (b := 0) (nx := 15) (by decide +kernel) rfl (ls' := [some (vR x0), some (vI x1), some (vI 0), none, none, none]) rfl ?_
      refine g_1 (a := 1) (b := 0) (nx := 16) (by decide +kernel) ?_
      refine g_8 (a := 3) (b := 0) (nx := 17) (by decide +kernel) rfl (ls' := [some (vR x0), some (vI x1), some (vI 0), some (vI 1), none, none]) rfl ?_
      exact h
    · rw [if_neg c2] at h
      refine g_41f (a := 5) (b := 13) (nx := 11) (by decide +kernel) (by rw [wr_id r1, wr_id (show inR 6 by decide)]; exact fun hz => c2 ((cb_5 _ _).mp hz)) ?_
      refine g_1 (a := (-1)) (b := 0) (nx := 12) (by decide +kernel) ?_
      exact g_91 (b := 0) (nx := 13) (by decide +kernel) h
theorem t_167_17 {x0 x1 x2 x3 : Int} {l4 l5 : Option AV} {M : Mem} {Q : AV → Mem → Prop} (h0 : gO 11 x0) (h : inR x3 ∧ (if 2 < x3 then (Q (vI x2) M) else (WR 167 25 [some (vR x0), some (vI x1), some (vI x2), some (vI x3), some (vI 0), l5] [] M Q))) : WR 167 17 [some (vR x0), some (vI x1), some (vI x2), some (vI x3), l4, l5] [] M Q := by
  refine g_5 (a := 3) (b := 0) (nx := 18) (by decide +kernel) rfl ?_
  refine g_1 (a := 2) (b := 0) (nx := 19) (by decide +kernel) ?_
  obtain ⟨r1, h⟩ := h
  by_cases c2 : 2 < x3
  · rw [if_pos c2] at h
    refine g_41t (a := 4) (b := 84) (nx := 22) (by decide +kernel) (by rw [wr_id r1, wr_id (show inR 2 by decide)]; exact (cb_4 _ _).mpr c2) ?_
    refine g_5 (a := 2) (b := 0) (nx := 85) (by decide +kernel) rfl ?_
    exact g_91 (b := 0) (nx := 86) (by decide +kernel) h
  · rw [if_neg c2] at h
    refine g_41f (a := 4) (b := 84) (nx := 22) (by decide +kernel) (by rw [wr_id r1, wr_id (show inR 2 by decide)]; exact fun hz => c2 ((cb_4 _ _).mp hz)) ?_
    refine g_1 (a := 0) (b := 0) (nx := 23) (by decide +kernel) ?_
    refine g_8 (a := 4) (b := 0) (nx := 25) (by decide +kernel) rfl (ls' := [some (vR x0), some (vI x1), some (vI x2), some (vI x3), some (vI 0), l5]) rfl ?_
    exact h
theorem t_167_25 {x0 x1 x2 x3 x4 : Int} {l5 : Option AV} {M : Mem} {Q : AV → Mem → Prop} (h0 : gO 11 x0) (h : inR (x4 + x3) ∧ (inR x1 ∧ (if x1 < (x4 + x3) then (WR 167 17 [some (vR x0), some (vI x1), some (vI x2), some (vI (x3 + 1)), some (vI x4), l5] [] M Q) else (((shA SH (M x0 7)).1 = 2) ∧ WI 54 [vR (M x0 7), vI x4] M (fun y4 M3 => ((shA SH (M3 x0 7)).1 = 2) ∧ WI 55 [vR (M3 x0 7), vI x3] M3 (fun y6 M5 => ((shA SH (M5 x0 7)).1 = 2) ∧ WI 56 [vR (M5 x0 7), vI ((x1 - x3) - x4)] M5 (fun y8 M7 => WR 167 25 [some (vR x0), some (vI x1), some (vI (x2 + ((y4 * y6) * y8))), some (vI x3), some (vI (x4 + 1)), some (vI ((x1 - x3) - x4))] [] M7 Q))))))) : WR 167 25 [some (vR x0), some (vI x1), some (vI x2), some (vI x3), some (vI x4), l5] [] M Q := by
  refine g_5 (a := 4) (b := 0) (nx := 27) (by decide +kernel) rfl ?_
  refine g_5 (a := 3) (b := 0) (nx := 28) (by decide +kernel) rfl ?_
  refine g_15 (a := 0) (b := 0) (nx := 29) (by decide +kernel) ?_
  refine g_5 (a := 1) (b := 0) (nx := 30) (by decide +kernel) rfl ?_
  obtain ⟨r1, h⟩ := h
  obtain ⟨r2, h⟩ := h
  by_cases c9 : x1 < (x4 + x3)
  · rw [if_pos c9] at h
    refine g_41t (a := 4) (b := 78) (nx := 33) (by decide +kernel) (by rw [wr_id r1, wr_id r2]; exact (cb_4 _ _).mpr c9) ?_
    refine g_11 (a := 3) (b := 1) (nx := 81) (by decide +kernel) rfl rfl (ls' := [some (vR x0), some (vI x1), some (vI x2), some (vI (x3 + 1)), some (vI x4), l5]) rfl ?_
    refine g_44 (a := 0) (b := 17) (nx := 84) (by decide +kernel) ?_
    exact h
  · rw [if_neg c9] at h
    refine g_41f (a := 4) (b := 78) (nx := 33) (by decide +kernel) (by rw [wr_id r1, wr_id r2]; exact fun hz => c9 ((cb_4 _ _).mp hz)) ?_
    refine g_5 (a := 1) (b := 0) (nx := 34) (by decide +kernel) rfl ?_
    refine g_5 (a := 3) (b := 0) (nx := 35) (by decide +kernel) rfl ?_
    refine g_16 (a := 0) (b := 0) (nx := 36) (by decide +kernel) ?_
    refine g_5 (a := 4) (b := 0) (nx := 38) (by decide +kernel) rfl ?_
    refine g_16 (a := 0) (b := 0) (nx := 39) (by decide +kernel) ?_
    refine g_8 (a := 5) (b := 0) (nx := 41) (by decide +kernel) rfl (ls' := [some (vR x0), some (vI x1), some (vI x2), some (vI x3), some (vI x4), some (vI ((x1 - x3) - x4))]) rfl ?_
    refine g_5 (a := 2) (b := 0) (nx := 42) (by decide +kernel) rfl ?_
    refine g_7 (a := 0) (b := 0) (nx := 43) (by decide +kernel) rfl ?_
    refine g_52 (a := 11) (b := 7) (nx := 46) (by decide +kernel) h0 ?_
    refine g_5 (a := 4) (b := 0) (nx := 48) (by decide +kernel) rfl ?_
    refine g_80 (a := 54) (b := 1) (nx := 51) (by decide +kernel) (r := (M x0 7)) (As := [vI x4]) (st' := [vI x2]) (z := 54) rfl rfl rfl (Nat.le_of_ble_eq_true rfl) h.1 (Nat.le_of_ble_eq_true rfl) rfl (c_I (by decide +kernel) h.2 (fun y4 M3 h => ?_))
    refine g_7 (a := 0) (b := 0) (nx := 52) (by decide +kernel) rfl ?_
    refine g_52 (a := 11) (b := 7) (nx := 55) (by decide +kernel) h0 ?_
    refine g_5 (a := 3) (b := 0) (nx := 56) (by decide +kernel) rfl ?_
    refine g_80 (a := 55) (b := 1) (nx := 59) (by decide +kernel) (r := (M3 x0 7)) (As := [vI x3]) (st' := [vI y4, vI x2]) (z := 55) rfl rfl rfl (Nat.le_of_ble_eq_true rfl) h.1 (Nat.le_of_ble_eq_true rfl) rfl (c_I (by decide +kernel) h.2 (fun y6 M5 h => ?_))
    refine g_17 (a := 0) (b := 0) (nx := 60) (by decide +kernel) ?_
    refine g_7 (a := 0) (b := 0) (nx := 61) (by decide +kernel) rfl ?_
    refine g_52 (a := 11) (b := 7) (nx := 64) (by decide +kernel) h0 ?_
    refine g_5 (a := 5) (b := 0) (nx := 66) (by decide +kernel) rfl ?_
    refine g_80 (a := 56) (b := 1) (nx := 69) (by decide +kernel) (r := (M5 x0 7)) (As := [vI ((x1 - x3) - x4)]) (st' := [vI (y4 * y6), vI x2]) (z := 56) rfl rfl rfl (Nat.le_of_ble_eq_true rfl) h.1 (Nat.le_of_ble_eq_true rfl) rfl (c_I (by decide +kernel) h.2 (fun y8 M7 h => ?_))
    refine g_17 (a := 0) (b := 0) (nx := 70) (by decide +kernel) ?_
    refine g_15 (a := 0) (b := 0) (nx := 71) (by decide +kernel) ?_
    refine g_8 (a := 2) (b := 0) (nx := 72) (by decide +kernel) rfl (ls' := [some (vR x0), some (vI x1), some (vI (x2 + ((y4 * y6) * y8))), some (vI x3), some (vI x4), some (vI ((x1 - x3) - x4))]) rfl ?_
    refine g_11 (a := 4) (b := 1) (nx := 75) (by decide +kernel) rfl rfl (ls' := [some (vR x0), some (vI x1), some (vI (x2 + ((y4 * y6) * y8))), some (vI x3), some (vI (x4 + 1)), some (vI ((x1 - x3) - x4))]) rfl ?_
    refine g_44 (a := 0) (b := 25) (nx := 78) (by decide +kernel) ?_
    exact h
-- 168 SyllableMaker.tally(III)I
theorem t_168 {x0 x1 x2 x3 : Int} {M : Mem} {Q : AV → Mem → Prop} (h0 : gO 11 x0) (h : inR x1 ∧ (if x1 < 0 then (Q (vI (-1)) M) else (if x1 < 3 then (((shA SH (M x0 4)).1 = 8) ∧ WV 114 [vR (M x0 4), vR (M x0 7)] M (fun M2 => inR x2 ∧ (if x2 = (-1) then (((shA SH (M2 x0 4)).1 = 8) ∧ WI 117 [vR (M2 x0 4), vI x1] M2 (fun y8 M7 => Q (vI y8) M7)) else (((shA SH (M2 x0 4)).1 = 8) ∧ WI 118 [vR (M2 x0 4), vI x1, vI x2, vI x3] M2 (fun y6 M5 => Q (vI y6) M5))))) else (Q (vI (-1)) M)))) : WC 168 [vR x0, vI x1, vI x2, vI x3] M Q := by
  show WR 168 0 [some (vR x0), some (vI x1), some (vI x2), some (vI x3)] [] M Q
  refine g_5 (a := 1) (b := 0) (nx := 1) (by decide +kernel) rfl ?_
  obtain ⟨r1, h⟩ := h
  by_cases c11 : x1 < 0
  · rw [if_pos c11] at h
    refine g_40t (a := 2) (b := 9) (nx := 4) (by decide +kernel) r1 (by exact (cb_2 _ _).mpr c11) ?_
    refine g_1 (a := (-1)) (b := 0) (nx := 10) (by decide +kernel) ?_
    exact g_91 (b := 0) (nx := 11) (by decide +kernel) h
  · rw [if_neg c11] at h
    refine g_40f (a := 2) (b := 9) (nx := 4) (by decide +kernel) r1 (by exact fun hz => c11 ((cb_2 _ _).mp hz)) ?_
    refine g_5 (a := 1) (b := 0) (nx := 5) (by decide +kernel) rfl ?_
    refine g_1 (a := 3) (b := 0) (nx := 6) (by decide +kernel) ?_
    by_cases c10 : x1 < 3
    · rw [if_pos c10] at h
      refine g_41t (a := 2) (b := 11) (nx := 9) (by decide +kernel) (by rw [wr_id r1, wr_id (show inR 3 by decide)]; exact (cb_2 _ _).mpr c10) ?_
      refine g_7 (a := 0) (b := 0) (nx := 12) (by decide +kernel) rfl ?_
      refine g_52 (a := 11) (b := 4) (nx := 15) (by decide +kernel) h0 ?_
      refine g_7 (a := 0) (b := 0) (nx := 16) (by decide +kernel) rfl ?_
      refine g_52 (a := 11) (b := 7) (nx := 19) (by decide +kernel) h0 ?_
      refine g_80 (a := 114) (b := 1) (nx := 22) (by decide +kernel) (r := (M x0 4)) (As := [vR (M x0 7)]) (st' := []) (z := 114) rfl rfl rfl (Nat.le_of_ble_eq_true rfl) h.1 (Nat.le_of_ble_eq_true rfl) rfl (c_V (by decide +kernel) h.2 (fun M2 h => ?_))
      refine g_5 (a := 2) (b := 0) (nx := 23) (by decide +kernel) rfl ?_
      refine g_1 (a := (-1)) (b := 0) (nx := 24) (by decide +kernel) ?_
      obtain ⟨r4, h⟩ := h
      by_cases c9 : x2 = (-1)
      · rw [if_pos c9] at h
        refine g_41f (a := 1) (b := 38) (nx := 27) (by decide +kernel) (by rw [wr_id r4, wr_id (show inR (-1) by decide)]; exact fun hz => ((cb_1 _ _).mp hz) c9) ?_
        refine g_7 (a := 0) (b := 0) (nx := 28) (by decide +kernel) rfl ?_
        refine g_52 (a := 11) (b := 4) (nx := 31) (by decide +kernel) h0 ?_
        refine g_5 (a := 1) (b := 0) (nx := 32) (by decide +kernel) rfl ?_
        refine g_80 (a := 117) (b := 1) (nx := 35) (by decide +kernel) (r := (M2 x0 4)) (As := [vI x1]) (st' := []) (z := 117) rfl rfl rfl (Nat.le_of_ble_eq_true rfl) h.1 (Nat.le_of_ble_eq_true rfl) rfl (c_I (by decide +kernel) h.2 (fun y8 M7 h => ?_))
        refine g_44 (a := 0) (b := 48) (nx := 38) (by decide +kernel) ?_
        exact g_91 (b := 0) (nx := 49) (by decide +kernel) h
      · rw [if_neg c9] at h
        refine g_41t (a := 1) (b := 38) (nx := 27) (by decide +kernel) (by rw [wr_id r4, wr_id (show inR (-1) by decide)]; exact (cb_1 _ _).mpr c9) ?_
        refine g_7 (a := 0) (b := 0) (nx := 39) (by decide +kernel) rfl ?_
        refine g_52 (a := 11) (b := 4) (nx := 42) (by decide +kernel) h0 ?_
        refine g_5 (a := 1) (b := 0) (nx := 43) (by decide +kernel) rfl ?_
        refine g_5 (a := 2) (b := 0) (nx := 44) (by decide +kernel) rfl ?_
        refine g_5 (a := 3) (b := 0) (nx := 45) (by decide +kernel) rfl ?_
        refine g_80 (a := 118) (b := 3) (nx := 48) (by decide +kernel) (r := (M2 x0 4)) (As := [vI x1, vI x2, vI x3]) (st' := []) (z := 118) rfl rfl rfl (Nat.le_of_ble_eq_true rfl) h.1 (Nat.le_of_ble_eq_true rfl) rfl (c_I (by decide +kernel) h.2 (fun y6 M5 h => ?_))
        exact g_91 (b := 0) (nx := 49) (by decide +kernel) h
    · rw [if_neg c10] at h
      refine g_41f (a := 2) (b := 11) (nx := 9) (by decide +kernel) (by rw [wr_id r1, wr_id (show inR 3 by decide)]; exact fun hz => c10 ((cb_2 _ _).mp hz)) ?_
      refine g_1 (a := (-1)) (b := 0) (nx := 10) (by decide +kernel) ?_
      exact g_91 (b := 0) (nx := 11) (by decide +kernel) h
-- 169 SyllableMaker.made(III)I
theorem t_169 {x0 x1 x2 x3 : Int} {M : Mem} {Q : AV → Mem → Prop} (h0 : gO 11 x0) (h : inR x2 ∧ (if x2 < 1 then (Q (vI (-1)) M) else (if 4 < x2 then (Q (vI (-1)) M) else (inR x3 ∧ (if (-1) ≤ x3 then (((shA SH (M x0 4)).1 = 8) ∧ WV 114 [vR (M x0 4), vR (M x0 7)] M (fun M3 => ((shA SH (M3 x0 4)).1 = 8) ∧ WI 119 [vR (M3 x0 4), vI x1, vI x2, vI x3] M3 (fun y6 M5 => Q (vI y6) M5))) else (Q (vI (-1)) M)))))) : WC 169 [vR x0, vI x1, vI x2, vI x3] M Q := by
  show WR 169 0 [some (vR x0), some (vI x1), some (vI x2), some (vI x3)] [] M Q
  refine g_5 (a := 2) (b := 0) (nx := 1) (by decide +kernel) rfl ?_
  refine g_1 (a := 1) (b := 0) (nx := 2) (by decide +kernel) ?_
  obtain ⟨r1, h⟩ := h
  by_cases c9 : x2 < 1
  · rw [if_pos c9] at h
    refine g_41t (a := 2) (b := 15) (nx := 5) (by decide +kernel) (by rw [wr_id r1, wr_id (show inR 1 by decide)]; exact (cb_2 _ _).mpr c9) ?_
    refine g_1 (a := (-1)) (b := 0) (nx := 16) (by decide +kernel) ?_
    exact g_91 (b := 0) (nx := 17) (by decide +kernel) h
  · rw [if_neg c9] at h
    refine g_41f (a := 2) (b := 15) (nx := 5) (by decide +kernel) (by rw [wr_id r1, wr_id (show inR 1 by decide)]; exact fun hz => c9 ((cb_2 _ _).mp hz)) ?_
    refine g_5 (a := 2) (b := 0) (nx := 6) (by decide +kernel) rfl ?_
    refine g_1 (a := 4) (b := 0) (nx := 7) (by decide +kernel) ?_
    by_cases c8 : 4 < x2
    · rw [if_pos c8] at h
      refine g_41t (a := 4) (b := 15) (nx := 10) (by decide +kernel) (by rw [wr_id r1, wr_id (show inR 4 by decide)]; exact (cb_4 _ _).mpr c8) ?_
      refine g_1 (a := (-1)) (b := 0) (nx := 16) (by decide +kernel) ?_
      exact g_91 (b := 0) (nx := 17) (by decide +kernel) h
    · rw [if_neg c8] at h
      refine g_41f (a := 4) (b := 15) (nx := 10) (by decide +kernel) (by rw [wr_id r1, wr_id (show inR 4 by decide)]; exact fun hz => c8 ((cb_4 _ _).mp hz)) ?_
      refine g_5 (a := 3) (b := 0) (nx := 11) (by decide +kernel) rfl ?_
      refine g_1 (a := (-1)) (b := 0) (nx := 12) (by decide +kernel) ?_
      obtain ⟨r2, h⟩ := h
      by_cases c7 : (-1) ≤ x3
      · rw [if_pos c7] at h
        refine g_41t (a := 3) (b := 17) (nx := 15) (by decide +kernel) (by rw [wr_id r2, wr_id (show inR (-1) by decide)]; exact (cb_3 _ _).mpr c7) ?_
        refine g_7 (a := 0) (b := 0) (nx := 18) (by decide +kernel) rfl ?_
        refine g_52 (a := 11) (b := 4) (nx := 21) (by decide +kernel) h0 ?_
        refine g_7 (a := 0) (b := 0) (nx := 22) (by decide +kernel) rfl ?_
        refine g_52 (a := 11) (b := 7) (nx := 25) (by decide +kernel) h0 ?_
        refine g_80 (a := 114) (b := 1) (nx := 28) (by decide +kernel) (r := (M x0 4)) (As := [vR (M x0 7)]) (st' := []) (z := 114) rfl rfl rfl (Nat.le_of_ble_eq_true rfl) h.1 (Nat.le_of_ble_eq_true rfl) rfl (c_V (by decide +kernel) h.2 (fun M3 h => ?_))
        refine g_7 (a := 0) (b := 0) (nx := 29) (by decide +kernel) rfl ?_
        refine g_52 (a := 11) (b := 4) (nx := 32) (by decide +kernel) h0 ?_
        refine g_5 (a := 1) (b := 0) (nx := 33) (by decide +kernel) rfl ?_
        refine g_5 (a := 2) (b := 0) (nx := 34) (by decide +kernel) rfl ?_
        refine g_5 (a := 3) (b := 0) (nx := 35) (by decide +kernel) rfl ?_
        refine g_80 (a := 119) (b := 3) (nx := 38) (by decide +kernel) (r := (M3 x0 4)) (As := [vI x1, vI x2, vI x3]) (st' := []) (z := 119) rfl rfl rfl (Nat.le_of_ble_eq_true rfl) h.1 (Nat.le_of_ble_eq_true rfl) rfl (c_I (by decide +kernel) h.2 (fun y6 M5 h => ?_))
        exact g_91 (b := 0) (nx := 39) (by decide +kernel) h
      · rw [if_neg c7] at h
        refine g_41f (a := 3) (b := 17) (nx := 15) (by decide +kernel) (by rw [wr_id r2, wr_id (show inR (-1) by decide)]; exact fun hz => c7 ((cb_3 _ _).mp hz)) ?_
        refine g_1 (a := (-1)) (b := 0) (nx := 16) (by decide +kernel) ?_
        exact g_91 (b := 0) (nx := 17) (by decide +kernel) h
-- 170 SyllableMaker.learn(I)I
theorem t_170 {x0 x1 : Int} {M : Mem} {Q : AV → Mem → Prop} (h0 : gO 11 x0) (h : (gO 7 (M x0 3)) ∧ ((shA SH (M (M x0 3) 1)).1 = 10) ∧ WF 136 [vR (M (M x0 3) 1), vI x1] M (fun y2 M1 => y2 ≠ -1000 ∧ (if y2 = 0 then (Q (vI (-1)) M1) else ((gO 2 (M1 x0 7)) ∧ ((shA SH (M1 (M1 x0 7) 1)).1 = 10) ∧ WI 137 [vR (M1 (M1 x0 7) 1), vR y2] M1 (fun y4 M3 => inR y4 ∧ (if y4 = 0 then (Q (vI (-1)) M3) else ((gO 2 (M3 x0 7)) ∧ (gO 10 (M3 (M3 x0 7) 1)) ∧ ((shA SH (M3 x0 6)).1 = 0) ∧ WV 2 [vR (M3 x0 6), vI 0, vI ((M3 (M3 (M3 x0 7) 1) 2) - 1), vI 0, vR 0] M3 (fun M6 => Q (vI (100 + ((M3 (M3 (M3 x0 7) 1) 2) - 1))) M6)))))))) : WC 170 [vR x0, vI x1] M Q := by
  show WR 170 0 [some (vR x0), some (vI x1), none, none] [] M Q
  refine g_7 (a := 0) (b := 0) (nx := 1) (by decide +kernel) rfl ?_
  refine g_52 (a := 11) (b := 3) (nx := 4) (by decide +kernel) h0 ?_
  refine g_52 (a := 7) (b := 1) (nx := 7) (by decide +kernel) h.1 ?_
  replace h := h.2
  refine g_5 (a := 1) (b := 0) (nx := 8) (by decide +kernel) rfl ?_
  refine g_80 (a := 136) (b := 1) (nx := 11) (by decide +kernel) (r := (M (M x0 3) 1)) (As := [vI x1]) (st' := []) (z := 136) rfl rfl rfl (Nat.le_of_ble_eq_true rfl) h.1 (Nat.le_of_ble_eq_true rfl) rfl (c_R (by decide +kernel) h.2 (fun y2 M1 h => ?_))
  refine g_10 (a := 2) (b := 0) (nx := 12) (by decide +kernel) rfl (ls' := [some (vR x0), some (vI x1), some (vR y2), none]) rfl ?_
  refine g_7 (a := 2) (b := 0) (nx := 13) (by decide +kernel) rfl ?_
  obtain ⟨q0, h⟩ := h
  by_cases c9 : y2 = 0
  · rw [if_pos c9] at h
    refine g_42t (a := 0) (b := 30) (nx := 16) (by decide +kernel) c9 ?_
    refine g_1 (a := (-1)) (b := 0) (nx := 31) (by decide +kernel) ?_
    exact g_91 (b := 0) (nx := 32) (by decide +kernel) h
  · rw [if_neg c9] at h
    refine g_42f (a := 0) (b := 30) (nx := 16) (by decide +kernel) q0 c9 ?_
    refine g_7 (a := 0) (b := 0) (nx := 17) (by decide +kernel) rfl ?_
    refine g_52 (a := 11) (b := 7) (nx := 20) (by decide +kernel) h0 ?_
    refine g_52 (a := 2) (b := 1) (nx := 23) (by decide +kernel) h.1 ?_
    replace h := h.2
    refine g_7 (a := 2) (b := 0) (nx := 24) (by decide +kernel) rfl ?_
    refine g_80 (a := 137) (b := 1) (nx := 27) (by decide +kernel) (r := (M1 (M1 x0 7) 1)) (As := [vR y2]) (st' := []) (z := 137) rfl rfl rfl (Nat.le_of_ble_eq_true rfl) h.1 (Nat.le_of_ble_eq_true rfl) rfl (c_I (by decide +kernel) h.2 (fun y4 M3 h => ?_))
    obtain ⟨r5, h⟩ := h
    by_cases c8 : y4 = 0
    · rw [if_pos c8] at h
      refine g_40f (a := 1) (b := 32) (nx := 30) (by decide +kernel) r5 (by exact fun hz => ((cb_1 _ _).mp hz) c8) ?_
      refine g_1 (a := (-1)) (b := 0) (nx := 31) (by decide +kernel) ?_
      exact g_91 (b := 0) (nx := 32) (by decide +kernel) h
    · rw [if_neg c8] at h
      refine g_40t (a := 1) (b := 32) (nx := 30) (by decide +kernel) r5 (by exact (cb_1 _ _).mpr c8) ?_
      refine g_7 (a := 0) (b := 0) (nx := 33) (by decide +kernel) rfl ?_
      refine g_52 (a := 11) (b := 7) (nx := 36) (by decide +kernel) h0 ?_
      refine g_52 (a := 2) (b := 1) (nx := 39) (by decide +kernel) h.1 ?_
      replace h := h.2
      refine g_50 (a := 10) (b := 2) (nx := 42) (by decide +kernel) h.1 ?_
      replace h := h.2
      refine g_1 (a := 1) (b := 0) (nx := 43) (by decide +kernel) ?_
      refine g_16 (a := 0) (b := 0) (nx := 44) (by decide +kernel) ?_
      refine g_8 (a := 3) (b := 0) (nx := 45) (by decide +kernel) rfl (ls' := [some (vR x0), some (vI x1), some (vR y2), some (vI ((M3 (M3 (M3 x0 7) 1) 2) - 1))]) rfl ?_
      refine g_7 (a := 0) (b := 0) (nx := 46) (by decide +kernel) rfl ?_
      refine g_52 (a := 11) (b := 6) (nx := 49) (by decide +kernel) h0 ?_
      refine g_1 (a := 0) (b := 0) (nx := 50) (by decide +kernel) ?_
      refine g_5 (a := 3) (b := 0) (nx := 51) (by decide +kernel) rfl ?_
      refine g_1 (a := 0) (b := 0) (nx := 52) (by decide +kernel) ?_
      refine g_3 (a := 0) (b := 0) (nx := 53) (by decide +kernel) ?_
      refine g_80 (a := 2) (b := 4) (nx := 56) (by decide +kernel) (r := (M3 x0 6)) (As := [vI 0, vI ((M3 (M3 (M3 x0 7) 1) 2) - 1), vI 0, vR 0]) (st' := []) (z := 2) rfl rfl rfl (Nat.le_of_ble_eq_true rfl) h.1 (Nat.le_of_ble_eq_true rfl) rfl (c_V (by decide +kernel) h.2 (fun M6 h => ?_))
      refine g_1 (a := 100) (b := 0) (nx := 58) (by decide +kernel) ?_
      refine g_5 (a := 3) (b := 0) (nx := 59) (by decide +kernel) rfl ?_
      refine g_15 (a := 0) (b := 0) (nx := 60) (by decide +kernel) ?_
      exact g_91 (b := 0) (nx := 61) (by decide +kernel) h
-- 171 SyllableMaker.forget(I)I
theorem t_171 {x0 x1 : Int} {M : Mem} {Q : AV → Mem → Prop} (h0 : gO 11 x0) (h : inR x1 ∧ (if 100 ≤ x1 then ((gO 2 (M x0 7)) ∧ ((shA SH (M (M x0 7) 1)).1 = 10) ∧ WF 136 [vR (M (M x0 7) 1), vI (x1 - 100)] M (fun y3 M2 => y3 ≠ -1000 ∧ (if y3 = 0 then (Q (vI (-1)) M2) else (((shA SH (M2 x0 6)).1 = 0) ∧ WV 2 [vR (M2 x0 6), vI 1, vI (x1 - 100), vI 0, vR y3] M2 (fun M4 => (gO 2 (M4 x0 7)) ∧ ((shA SH (M4 (M4 x0 7) 1)).1 = 10) ∧ WV 139 [vR (M4 (M4 x0 7) 1), vI (x1 - 100)] M4 (fun M6 => (gO 2 (M6 x0 7)) ∧ (gO 10 (M6 (M6 x0 7) 1)) ∧ Q (vI (M6 (M6 (M6 x0 7) 1) 2)) M6)))))) else (Q (vI (-1)) M))) : WC 171 [vR x0, vI x1] M Q := by
  show WR 171 0 [some (vR x0), some (vI x1), none, none] [] M Q
  refine g_5 (a := 1) (b := 0) (nx := 1) (by decide +kernel) rfl ?_
  refine g_1 (a := 100) (b := 0) (nx := 3) (by decide +kernel) ?_
  obtain ⟨r1, h⟩ := h
  by_cases c9 : 100 ≤ x1
  · rw [if_pos c9] at h
    refine g_41t (a := 3) (b := 8) (nx := 6) (by decide +kernel) (by rw [wr_id r1, wr_id (show inR 100 by decide)]; exact (cb_3 _ _).mpr c9) ?_
    refine g_5 (a := 1) (b := 0) (nx := 9) (by decide +kernel) rfl ?_
    refine g_1 (a := 100) (b := 0) (nx := 11) (by decide +kernel) ?_
    refine g_16 (a := 0) (b := 0) (nx := 12) (by decide +kernel) ?_
    refine g_8 (a := 2) (b := 0) (nx := 13) (by decide +kernel) rfl (ls' := [some (vR x0), some (vI x1), some (vI (x1 - 100)), none]) rfl ?_
    refine g_7 (a := 0) (b := 0) (nx := 14) (by decide +kernel) rfl ?_
    refine g_52 (a := 11) (b := 7) (nx := 17) (by decide +kernel) h0 ?_
    refine g_52 (a := 2) (b := 1) (nx := 20) (by decide +kernel) h.1 ?_
    replace h := h.2
    refine g_5 (a := 2) (b := 0) (nx := 21) (by decide +kernel) rfl ?_
    refine g_80 (a := 136) (b := 1) (nx := 24) (by decide +kernel) (r := (M (M x0 7) 1)) (As := [vI (x1 - 100)]) (st' := []) (z := 136) rfl rfl rfl (Nat.le_of_ble_eq_true rfl) h.1 (Nat.le_of_ble_eq_true rfl) rfl (c_R (by decide +kernel) h.2 (fun y3 M2 h => ?_))
    refine g_10 (a := 3) (b := 0) (nx := 25) (by decide +kernel) rfl (ls' := [some (vR x0), some (vI x1), some (vI (x1 - 100)), some (vR y3)]) rfl ?_
    refine g_7 (a := 3) (b := 0) (nx := 26) (by decide +kernel) rfl ?_
    obtain ⟨q0, h⟩ := h
    by_cases c8 : y3 = 0
    · rw [if_pos c8] at h
      refine g_43t (a := 0) (b := 31) (nx := 29) (by decide +kernel) c8 ?_
      refine g_1 (a := (-1)) (b := 0) (nx := 30) (by decide +kernel) ?_
      exact g_91 (b := 0) (nx := 31) (by decide +kernel) h
    · rw [if_neg c8] at h
      refine g_43f (a := 0) (b := 31) (nx := 29) (by decide +kernel) q0 c8 ?_
      refine g_7 (a := 0) (b := 0) (nx := 32) (by decide +kernel) rfl ?_
      refine g_52 (a := 11) (b := 6) (nx := 35) (by decide +kernel) h0 ?_
      refine g_1 (a := 1) (b := 0) (nx := 36) (by decide +kernel) ?_
      refine g_5 (a := 2) (b := 0) (nx := 37) (by decide +kernel) rfl ?_
      refine g_1 (a := 0) (b := 0) (nx := 38) (by decide +kernel) ?_
      refine g_7 (a := 3) (b := 0) (nx := 39) (by decide +kernel) rfl ?_
      refine g_80 (a := 2) (b := 4) (nx := 42) (by decide +kernel) (r := (M2 x0 6)) (As := [vI 1, vI (x1 - 100), vI 0, vR y3]) (st' := []) (z := 2) rfl rfl rfl (Nat.le_of_ble_eq_true rfl) h.1 (Nat.le_of_ble_eq_true rfl) rfl (c_V (by decide +kernel) h.2 (fun M4 h => ?_))
      refine g_7 (a := 0) (b := 0) (nx := 43) (by decide +kernel) rfl ?_
      refine g_52 (a := 11) (b := 7) (nx := 46) (by decide +kernel) h0 ?_
      refine g_52 (a := 2) (b := 1) (nx := 49) (by decide +kernel) h.1 ?_
      replace h := h.2
      refine g_5 (a := 2) (b := 0) (nx := 50) (by decide +kernel) rfl ?_
      refine g_80 (a := 139) (b := 1) (nx := 53) (by decide +kernel) (r := (M4 (M4 x0 7) 1)) (As := [vI (x1 - 100)]) (st' := []) (z := 139) rfl rfl rfl (Nat.le_of_ble_eq_true rfl) h.1 (Nat.le_of_ble_eq_true rfl) rfl (c_V (by decide +kernel) h.2 (fun M6 h => ?_))
      refine g_7 (a := 0) (b := 0) (nx := 54) (by decide +kernel) rfl ?_
      refine g_52 (a := 11) (b := 7) (nx := 57) (by decide +kernel) h0 ?_
      refine g_52 (a := 2) (b := 1) (nx := 60) (by decide +kernel) h.1 ?_
      replace h := h.2
      refine g_50 (a := 10) (b := 2) (nx := 63) (by decide +kernel) h.1 ?_
      replace h := h.2
      exact g_91 (b := 0) (nx := 64) (by decide +kernel) h
  · rw [if_neg c9] at h
    refine g_41f (a := 3) (b := 8) (nx := 6) (by decide +kernel) (by rw [wr_id r1, wr_id (show inR 100 by decide)]; exact fun hz => c9 ((cb_3 _ _).mp hz)) ?_
    refine g_1 (a := (-1)) (b := 0) (nx := 7) (by decide +kernel) ?_
    exact g_91 (b := 0) (nx := 8) (by decide +kernel) h
-- 172 SyllableMaker.cost(II)I
theorem t_172 {x0 x1 x2 : Int} {M : Mem} {Q : AV → Mem → Prop} (h0 : gO 11 x0) (h : ((shA SH (M x0 7)).1 = 2) ∧ WI 41 [vR (M x0 7), vI x1] M (fun y2 M1 => inR y2 ∧ (if y2 = (-1) then (Q (vI (-1)) M1) else (inR x2 ∧ (if x2 < 0 then (Q (vI (-1)) M1) else (if 999 < x2 then (Q (vI (-1)) M1) else (if x2 = y2 then (Q (vI (-1)) M1) else (((shA SH (M1 x0 6)).1 = 0) ∧ WV 2 [vR (M1 x0 6), vI 2, vI x1, vI y2, vR 0] M1 (fun M5 => ((shA SH (M5 x0 7)).1 = 2) ∧ WV 42 [vR (M5 x0 7), vI x1, vI x2] M5 (fun M7 => Q (vI y2) M7)))))))))) : WC 172 [vR x0, vI x1, vI x2] M Q := by
  show WR 172 0 [some (vR x0), some (vI x1), some (vI x2), none] [] M Q
  refine g_7 (a := 0) (b := 0) (nx := 1) (by decide +kernel) rfl ?_
  refine g_52 (a := 11) (b := 7) (nx := 4) (by decide +kernel) h0 ?_
  refine g_5 (a := 1) (b := 0) (nx := 5) (by decide +kernel) rfl ?_
  refine g_80 (a := 41) (b := 1) (nx := 8) (by decide +kernel) (r := (M x0 7)) (As := [vI x1]) (st' := []) (z := 41) rfl rfl rfl (Nat.le_of_ble_eq_true rfl) h.1 (Nat.le_of_ble_eq_true rfl) rfl (c_I (by decide +kernel) h.2 (fun y2 M1 h => ?_))
  refine g_8 (a := 3) (b := 0) (nx := 9) (by decide +kernel) rfl (ls' := [some (vR x0), some (vI x1), some (vI x2), some (vI y2)]) rfl ?_
  refine g_5 (a := 3) (b := 0) (nx := 10) (by decide +kernel) rfl ?_
  refine g_1 (a := (-1)) (b := 0) (nx := 11) (by decide +kernel) ?_
  obtain ⟨r3, h⟩ := h
  by_cases c12 : y2 = (-1)
  · rw [if_pos c12] at h
    refine g_41t (a := 0) (b := 30) (nx := 14) (by decide +kernel) (by rw [wr_id r3, wr_id (show inR (-1) by decide)]; exact (cb_0 _ _).mpr c12) ?_
    refine g_1 (a := (-1)) (b := 0) (nx := 31) (by decide +kernel) ?_
    exact g_91 (b := 0) (nx := 32) (by decide +kernel) h
  · rw [if_neg c12] at h
    refine g_41f (a := 0) (b := 30) (nx := 14) (by decide +kernel) (by rw [wr_id r3, wr_id (show inR (-1) by decide)]; exact fun hz => c12 ((cb_0 _ _).mp hz)) ?_
    refine g_5 (a := 2) (b := 0) (nx := 15) (by decide +kernel) rfl ?_
    obtain ⟨r4, h⟩ := h
    by_cases c11 : x2 < 0
    · rw [if_pos c11] at h
      refine g_40t (a := 2) (b := 30) (nx := 18) (by decide +kernel) r4 (by exact (cb_2 _ _).mpr c11) ?_
      refine g_1 (a := (-1)) (b := 0) (nx := 31) (by decide +kernel) ?_
      exact g_91 (b := 0) (nx := 32) (by decide +kernel) h
    · rw [if_neg c11] at h
      refine g_40f (a := 2) (b := 30) (nx := 18) (by decide +kernel) r4 (by exact fun hz => c11 ((cb_2 _ _).mp hz)) ?_
      refine g_5 (a := 2) (b := 0) (nx := 19) (by decide +kernel) rfl ?_
      refine g_1 (a := 999) (b := 0) (nx := 22) (by decide +kernel) ?_
      by_cases c10 : 999 < x2
      · rw [if_pos c10] at h
        refine g_41t (a := 4) (b := 30) (nx := 25) (by decide +kernel) (by rw [wr_id r4, wr_id (show inR 999 by decide)]; exact (cb_4 _ _).mpr c10) ?_
        refine g_1 (a := (-1)) (b := 0) (nx := 31) (by decide +kernel) ?_
        exact g_91 (b := 0) (nx := 32) (by decide +kernel) h
      · rw [if_neg c10] at h
        refine g_41f (a := 4) (b := 30) (nx := 25) (by decide +kernel) (by rw [wr_id r4, wr_id (show inR 999 by decide)]; exact fun hz => c10 ((cb_4 _ _).mp hz)) ?_
        refine g_5 (a := 2) (b := 0) (nx := 26) (by decide +kernel) rfl ?_
        refine g_5 (a := 3) (b := 0) (nx := 27) (by decide +kernel) rfl ?_
        by_cases c9 : x2 = y2
        · rw [if_pos c9] at h
          refine g_41f (a := 1) (b := 32) (nx := 30) (by decide +kernel) (by rw [wr_id r4, wr_id r3]; exact fun hz => ((cb_1 _ _).mp hz) c9) ?_
          refine g_1 (a := (-1)) (b := 0) (nx := 31) (by decide +kernel) ?_
          exact g_91 (b := 0) (nx := 32) (by decide +kernel) h
        · rw [if_neg c9] at h
          refine g_41t (a := 1) (b := 32) (nx := 30) (by decide +kernel) (by rw [wr_id r4, wr_id r3]; exact (cb_1 _ _).mpr c9) ?_
          refine g_7 (a := 0) (b := 0) (nx := 33) (by decide +kernel) rfl ?_
          refine g_52 (a := 11) (b := 6) (nx := 36) (by decide +kernel) h0 ?_
          refine g_1 (a := 2) (b := 0) (nx := 37) (by decide +kernel) ?_
          refine g_5 (a := 1) (b := 0) (nx := 38) (by decide +kernel) rfl ?_
          refine g_5 (a := 3) (b := 0) (nx := 39) (by decide +kernel) rfl ?_
          refine g_3 (a := 0) (b := 0) (nx := 40) (by decide +kernel) ?_
          refine g_80 (a := 2) (b := 4) (nx := 43) (by decide +kernel) (r := (M1 x0 6)) (As := [vI 2, vI x1, vI y2, vR 0]) (st' := []) (z := 2) rfl rfl rfl (Nat.le_of_ble_eq_true rfl) h.1 (Nat.le_of_ble_eq_true rfl) rfl (c_V (by decide +kernel) h.2 (fun M5 h => ?_))
          refine g_7 (a := 0) (b := 0) (nx := 44) (by decide +kernel) rfl ?_
          refine g_52 (a := 11) (b := 7) (nx := 47) (by decide +kernel) h0 ?_
          refine g_5 (a := 1) (b := 0) (nx := 48) (by decide +kernel) rfl ?_
          refine g_5 (a := 2) (b := 0) (nx := 49) (by decide +kernel) rfl ?_
          refine g_80 (a := 42) (b := 2) (nx := 52) (by decide +kernel) (r := (M5 x0 7)) (As := [vI x1, vI x2]) (st' := []) (z := 42) rfl rfl rfl (Nat.le_of_ble_eq_true rfl) h.1 (Nat.le_of_ble_eq_true rfl) rfl (c_V (by decide +kernel) h.2 (fun M7 h => ?_))
          refine g_5 (a := 3) (b := 0) (nx := 53) (by decide +kernel) rfl ?_
          exact g_91 (b := 0) (nx := 54) (by decide +kernel) h
-- 173 SyllableMaker.undo()I
theorem t_173 {x0 : Int} {M : Mem} {Q : AV → Mem → Prop} (h0 : gO 11 x0) (h : ((shA SH (M x0 6)).1 = 0) ∧ WI 4 [vR (M x0 6)] M (fun y2 M1 => inR y2 ∧ (if y2 = 0 then (Q (vI (-1)) M1) else (((shA SH (M1 x0 6)).1 = 0) ∧ WI 6 [vR (M1 x0 6)] M1 (fun y5 M4 => inR y5 ∧ (if y5 = 0 then ((gO 2 (M4 x0 7)) ∧ ((shA SH (M4 x0 6)).1 = 0) ∧ WI 7 [vR (M4 x0 6)] M4 (fun y9 M8 => ((shA SH (M4 (M4 x0 7) 1)).1 = 10) ∧ WV 139 [vR (M4 (M4 x0 7) 1), vI y9] M8 (fun M10 => (gO 0 (M10 x0 6)) ∧ Q (vI (M10 (M10 x0 6) 4)) M10))) else (if y5 = 1 then ((gO 2 (M4 x0 7)) ∧ ((shA SH (M4 x0 6)).1 = 0) ∧ WI 7 [vR (M4 x0 6)] M4 (fun y14 M13 => ((shA SH (M13 x0 6)).1 = 0) ∧ WF 9 [vR (M13 x0 6)] M13 (fun y16 M15 => ((shA SH (M4 (M4 x0 7) 1)).1 = 10) ∧ WI 138 [vR (M4 (M4 x0 7) 1), vI y14, vR y16] M15 (fun y18 M17 => (gO 0 (M17 x0 6)) ∧ Q (vI (M17 (M17 x0 6) 4)) M17)))) else (((shA SH (M4 x0 6)).1 = 0) ∧ WI 7 [vR (M4 x0 6)] M4 (fun y20 M19 => ((shA SH (M19 x0 6)).1 = 0) ∧ WI 8 [vR (M19 x0 6)] M19 (fun y22 M21 => ((shA SH (M4 x0 7)).1 = 2) ∧ WV 42 [vR (M4 x0 7), vI y20, vI y22] M21 (fun M23 => (gO 0 (M23 x0 6)) ∧ Q (vI (M23 (M23 x0 6) 4)) M23))))))))))) : WC 173 [vR x0] M Q := by
  show WR 173 0 [some (vR x0)] [] M Q
  refine g_7 (a := 0) (b := 0) (nx := 1) (by decide +kernel) rfl ?_
  refine g_52 (a := 11) (b := 6) (nx := 4) (by decide +kernel) h0 ?_
  refine g_80 (a := 4) (b := 0) (nx := 7) (by decide +kernel) (r := (M x0 6)) (As := []) (st' := []) (z := 4) rfl rfl rfl (Nat.le_of_ble_eq_true rfl) h.1 (Nat.le_of_ble_eq_true rfl) rfl (c_I (by decide +kernel) h.2 (fun y2 M1 h => ?_))
  obtain ⟨r3, h⟩ := h
  by_cases c25 : y2 = 0
  · rw [if_pos c25] at h
    refine g_40f (a := 1) (b := 12) (nx := 10) (by decide +kernel) r3 (by exact fun hz => ((cb_1 _ _).mp hz) c25) ?_
    refine g_1 (a := (-1)) (b := 0) (nx := 11) (by decide +kernel) ?_
    exact g_91 (b := 0) (nx := 12) (by decide +kernel) h
  · rw [if_neg c25] at h
    refine g_40t (a := 1) (b := 12) (nx := 10) (by decide +kernel) r3 (by exact (cb_1 _ _).mpr c25) ?_
    refine g_7 (a := 0) (b := 0) (nx := 13) (by decide +kernel) rfl ?_
    refine g_52 (a := 11) (b := 6) (nx := 16) (by decide +kernel) h0 ?_
    refine g_80 (a := 6) (b := 0) (nx := 19) (by decide +kernel) (r := (M1 x0 6)) (As := []) (st' := []) (z := 6) rfl rfl rfl (Nat.le_of_ble_eq_true rfl) h.1 (Nat.le_of_ble_eq_true rfl) rfl (c_I (by decide +kernel) h.2 (fun y5 M4 h => ?_))
    obtain ⟨r6, h⟩ := h
    by_cases c7 : y5 = 0
    · rw [if_pos c7] at h
      refine g_45 (a := 0) (b := 92) (nx := 44) (by decide +kernel) r6 (t := 44) (by rw [(show sws 173 19 = [(0, 44), (1, 64)] from by decide +kernel)]; simp only [swL]; simp [c7]) ?_
      refine g_7 (a := 0) (b := 0) (nx := 45) (by decide +kernel) rfl ?_
      refine g_52 (a := 11) (b := 7) (nx := 48) (by decide +kernel) h0 ?_
      refine g_52 (a := 2) (b := 1) (nx := 51) (by decide +kernel) h.1 ?_
      replace h := h.2
      refine g_7 (a := 0) (b := 0) (nx := 52) (by decide +kernel) rfl ?_
      refine g_52 (a := 11) (b := 6) (nx := 55) (by decide +kernel) h0 ?_
      refine g_80 (a := 7) (b := 0) (nx := 58) (by decide +kernel) (r := (M4 x0 6)) (As := []) (st' := [vR (M4 (M4 x0 7) 1)]) (z := 7) rfl rfl rfl (Nat.le_of_ble_eq_true rfl) h.1 (Nat.le_of_ble_eq_true rfl) rfl (c_I (by decide +kernel) h.2 (fun y9 M8 h => ?_))
      refine g_80 (a := 139) (b := 1) (nx := 61) (by decide +kernel) (r := (M4 (M4 x0 7) 1)) (As := [vI y9]) (st' := []) (z := 139) rfl rfl rfl (Nat.le_of_ble_eq_true rfl) h.1 (Nat.le_of_ble_eq_true rfl) rfl (c_V (by decide +kernel) h.2 (fun M10 h => ?_))
      refine g_44 (a := 0) (b := 113) (nx := 64) (by decide +kernel) ?_
      refine g_7 (a := 0) (b := 0) (nx := 114) (by decide +kernel) rfl ?_
      refine g_52 (a := 11) (b := 6) (nx := 117) (by decide +kernel) h0 ?_
      refine g_50 (a := 0) (b := 4) (nx := 120) (by decide +kernel) h.1 ?_
      replace h := h.2
      exact g_91 (b := 0) (nx := 121) (by decide +kernel) h
    · rw [if_neg c7] at h
      by_cases c12 : y5 = 1
      · rw [if_pos c12] at h
        refine g_45 (a := 0) (b := 92) (nx := 44) (by decide +kernel) r6 (t := 64) (by rw [(show sws 173 19 = [(0, 44), (1, 64)] from by decide +kernel)]; simp only [swL]; simp [c12]) ?_
        refine g_7 (a := 0) (b := 0) (nx := 65) (by decide +kernel) rfl ?_
        refine g_52 (a := 11) (b := 7) (nx := 68) (by decide +kernel) h0 ?_
        refine g_52 (a := 2) (b := 1) (nx := 71) (by decide +kernel) h.1 ?_
        replace h := h.2
        refine g_7 (a := 0) (b := 0) (nx := 72) (by decide +kernel) rfl ?_
        refine g_52 (a := 11) (b := 6) (nx := 75) (by decide +kernel) h0 ?_
        refine g_80 (a := 7) (b := 0) (nx := 78) (by decide +kernel) (r := (M4 x0 6)) (As := []) (st' := [vR (M4 (M4 x0 7) 1)]) (z := 7) rfl rfl rfl (Nat.le_of_ble_eq_true rfl) h.1 (Nat.le_of_ble_eq_true rfl) rfl (c_I (by decide +kernel) h.2 (fun y14 M13 h => ?_))
        refine g_7 (a := 0) (b := 0) (nx := 79) (by decide +kernel) rfl ?_
        refine g_52 (a := 11) (b := 6) (nx := 82) (by decide +kernel) h0 ?_
        refine g_80 (a := 9) (b := 0) (nx := 85) (by decide +kernel) (r := (M13 x0 6)) (As := []) (st' := [vI y14, vR (M4 (M4 x0 7) 1)]) (z := 9) rfl rfl rfl (Nat.le_of_ble_eq_true rfl) h.1 (Nat.le_of_ble_eq_true rfl) rfl (c_R (by decide +kernel) h.2 (fun y16 M15 h => ?_))
        refine g_80 (a := 138) (b := 2) (nx := 88) (by decide +kernel) (r := (M4 (M4 x0 7) 1)) (As := [vI y14, vR y16]) (st' := []) (z := 138) rfl rfl rfl (Nat.le_of_ble_eq_true rfl) h.1 (Nat.le_of_ble_eq_true rfl) rfl (c_I (by decide +kernel) h.2 (fun y18 M17 h => ?_))
        refine g_12 (a := 0) (b := 0) (nx := 89) (by decide +kernel) rfl ?_
        refine g_44 (a := 0) (b := 113) (nx := 92) (by decide +kernel) ?_
        refine g_7 (a := 0) (b := 0) (nx := 114) (by decide +kernel) rfl ?_
        refine g_52 (a := 11) (b := 6) (nx := 117) (by decide +kernel) h0 ?_
        refine g_50 (a := 0) (b := 4) (nx := 120) (by decide +kernel) h.1 ?_
        replace h := h.2
        exact g_91 (b := 0) (nx := 121) (by decide +kernel) h
      · rw [if_neg c12] at h
        refine g_45 (a := 0) (b := 92) (nx := 44) (by decide +kernel) r6 (t := 92) (by rw [(show sws 173 19 = [(0, 44), (1, 64)] from by decide +kernel)]; simp only [swL]; first | rfl | (simp [c7, c12])) ?_
        refine g_7 (a := 0) (b := 0) (nx := 93) (by decide +kernel) rfl ?_
        refine g_52 (a := 11) (b := 7) (nx := 96) (by decide +kernel) h0 ?_
        refine g_7 (a := 0) (b := 0) (nx := 97) (by decide +kernel) rfl ?_
        refine g_52 (a := 11) (b := 6) (nx := 100) (by decide +kernel) h0 ?_
        refine g_80 (a := 7) (b := 0) (nx := 103) (by decide +kernel) (r := (M4 x0 6)) (As := []) (st' := [vR (M4 x0 7)]) (z := 7) rfl rfl rfl (Nat.le_of_ble_eq_true rfl) h.1 (Nat.le_of_ble_eq_true rfl) rfl (c_I (by decide +kernel) h.2 (fun y20 M19 h => ?_))
        refine g_7 (a := 0) (b := 0) (nx := 104) (by decide +kernel) rfl ?_
        refine g_52 (a := 11) (b := 6) (nx := 107) (by decide +kernel) h0 ?_
        refine g_80 (a := 8) (b := 0) (nx := 110) (by decide +kernel) (r := (M19 x0 6)) (As := []) (st' := [vI y20, vR (M4 x0 7)]) (z := 8) rfl rfl rfl (Nat.le_of_ble_eq_true rfl) h.1 (Nat.le_of_ble_eq_true rfl) rfl (c_I (by decide +kernel) h.2 (fun y22 M21 h => ?_))
        refine g_80 (a := 42) (b := 2) (nx := 113) (by decide +kernel) (r := (M4 x0 7)) (As := [vI y20, vI y22]) (st' := []) (z := 42) rfl rfl rfl (Nat.le_of_ble_eq_true rfl) h.1 (Nat.le_of_ble_eq_true rfl) rfl (c_V (by decide +kernel) h.2 (fun M23 h => ?_))
        refine g_7 (a := 0) (b := 0) (nx := 114) (by decide +kernel) rfl ?_
        refine g_52 (a := 11) (b := 6) (nx := 117) (by decide +kernel) h0 ?_
        refine g_50 (a := 0) (b := 4) (nx := 120) (by decide +kernel) h.1 ?_
        replace h := h.2
        exact g_91 (b := 0) (nx := 121) (by decide +kernel) h
