/-! TREES, printed by a program: what each method's run comes to. -/
-- 93 SyllableMaker$Sounds.openOf(I)I
theorem t_93 {x0 x1 : Int} {M : Mem} {Q : AV → Mem → Prop} (h0 : gO 6 x0) (h : inR x1 ∧ (if x1 < 0 then (Q (vI (-1)) M) else (inR (M x0 6) ∧ (if (M x0 6) ≤ x1 then (Q (vI (-1)) M) else (if 16 ≤ x1 then (Q (vI (-1)) M) else ((gA 20 (M x0 1) x1) ∧ Q (vI (M (M x0 1) x1)) M)))))) : WC 93 [vR x0, vI x1] M Q := by
  show WR 93 0 [some (vR x0), some (vI x1)] [] M Q
  refine g_5 (a := 1) (b := 0) (nx := 1) (by decide +kernel) rfl ?_
  obtain ⟨r1, h⟩ := h
  by_cases c5 : x1 < 0
  · rw [if_pos c5] at h
    refine g_40t (a := 2) (b := 27) (nx := 4) (by decide +kernel) r1 (by exact (cb_2 _ _).mpr c5) ?_
    refine g_1 (a := (-1)) (b := 0) (nx := 28) (by decide +kernel) ?_
    exact g_91 (b := 0) (nx := 29) (by decide +kernel) h
  · rw [if_neg c5] at h
    refine g_40f (a := 2) (b := 27) (nx := 4) (by decide +kernel) r1 (by exact fun hz => c5 ((cb_2 _ _).mp hz)) ?_
    refine g_5 (a := 1) (b := 0) (nx := 5) (by decide +kernel) rfl ?_
    refine g_7 (a := 0) (b := 0) (nx := 6) (by decide +kernel) rfl ?_
    refine g_50 (a := 6) (b := 6) (nx := 9) (by decide +kernel) h0 ?_
    obtain ⟨r2, h⟩ := h
    by_cases c4 : (M x0 6) ≤ x1
    · rw [if_pos c4] at h
      refine g_41t (a := 3) (b := 27) (nx := 12) (by decide +kernel) (by rw [wr_id r1, wr_id r2]; exact (cb_3 _ _).mpr c4) ?_
      refine g_1 (a := (-1)) (b := 0) (nx := 28) (by decide +kernel) ?_
      exact g_91 (b := 0) (nx := 29) (by decide +kernel) h
    · rw [if_neg c4] at h
      refine g_41f (a := 3) (b := 27) (nx := 12) (by decide +kernel) (by rw [wr_id r1, wr_id r2]; exact fun hz => c4 ((cb_3 _ _).mp hz)) ?_
      refine g_5 (a := 1) (b := 0) (nx := 13) (by decide +kernel) rfl ?_
      refine g_1 (a := 16) (b := 0) (nx := 15) (by decide +kernel) ?_
      by_cases c3 : 16 ≤ x1
      · rw [if_pos c3] at h
        refine g_41t (a := 3) (b := 27) (nx := 18) (by decide +kernel) (by rw [wr_id r1, wr_id (show inR 16 by decide)]; exact (cb_3 _ _).mpr c3) ?_
        refine g_1 (a := (-1)) (b := 0) (nx := 28) (by decide +kernel) ?_
        exact g_91 (b := 0) (nx := 29) (by decide +kernel) h
      · rw [if_neg c3] at h
        refine g_41f (a := 3) (b := 27) (nx := 18) (by decide +kernel) (by rw [wr_id r1, wr_id (show inR 16 by decide)]; exact fun hz => c3 ((cb_3 _ _).mp hz)) ?_
        refine g_7 (a := 0) (b := 0) (nx := 19) (by decide +kernel) rfl ?_
        refine g_52 (a := 6) (b := 1) (nx := 22) (by decide +kernel) h0 ?_
        refine g_5 (a := 1) (b := 0) (nx := 23) (by decide +kernel) rfl ?_
        refine g_61 (a := 0) (b := 0) (nx := 24) (by decide +kernel) h.1 ?_
        replace h := h.2
        refine g_44 (a := 0) (b := 28) (nx := 27) (by decide +kernel) ?_
        exact g_91 (b := 0) (nx := 29) (by decide +kernel) h
-- 94 SyllableMaker$Sounds.isPeak(I)Z
theorem t_94 {x0 x1 : Int} {M : Mem} {Q : AV → Mem → Prop} (h0 : gO 6 x0) (h : inR x1 ∧ (if x1 < 0 then (Q (vI 0) M) else (inR (M x0 6) ∧ (if (M x0 6) ≤ x1 then (Q (vI 0) M) else (if 16 ≤ x1 then (Q (vI 0) M) else ((gA 21 (M x0 2) x1 ∨ gA 22 (M x0 2) x1) ∧ inR (M (M x0 2) x1) ∧ (if (M (M x0 2) x1) = 0 then (Q (vI 0) M) else (Q (vI 1) M)))))))) : WC 94 [vR x0, vI x1] M Q := by
  show WR 94 0 [some (vR x0), some (vI x1)] [] M Q
  refine g_5 (a := 1) (b := 0) (nx := 1) (by decide +kernel) rfl ?_
  obtain ⟨r1, h⟩ := h
  by_cases c7 : x1 < 0
  · rw [if_pos c7] at h
    refine g_40t (a := 2) (b := 31) (nx := 4) (by decide +kernel) r1 (by exact (cb_2 _ _).mpr c7) ?_
    refine g_1 (a := 0) (b := 0) (nx := 32) (by decide +kernel) ?_
    exact g_91z (b := 0) (nx := 33) (by decide +kernel) (by decide) h
  · rw [if_neg c7] at h
    refine g_40f (a := 2) (b := 31) (nx := 4) (by decide +kernel) r1 (by exact fun hz => c7 ((cb_2 _ _).mp hz)) ?_
    refine g_5 (a := 1) (b := 0) (nx := 5) (by decide +kernel) rfl ?_
    refine g_7 (a := 0) (b := 0) (nx := 6) (by decide +kernel) rfl ?_
    refine g_50 (a := 6) (b := 6) (nx := 9) (by decide +kernel) h0 ?_
    obtain ⟨r2, h⟩ := h
    by_cases c6 : (M x0 6) ≤ x1
    · rw [if_pos c6] at h
      refine g_41t (a := 3) (b := 31) (nx := 12) (by decide +kernel) (by rw [wr_id r1, wr_id r2]; exact (cb_3 _ _).mpr c6) ?_
      refine g_1 (a := 0) (b := 0) (nx := 32) (by decide +kernel) ?_
      exact g_91z (b := 0) (nx := 33) (by decide +kernel) (by decide) h
    · rw [if_neg c6] at h
      refine g_41f (a := 3) (b := 31) (nx := 12) (by decide +kernel) (by rw [wr_id r1, wr_id r2]; exact fun hz => c6 ((cb_3 _ _).mp hz)) ?_
      refine g_5 (a := 1) (b := 0) (nx := 13) (by decide +kernel) rfl ?_
      refine g_1 (a := 16) (b := 0) (nx := 15) (by decide +kernel) ?_
      by_cases c5 : 16 ≤ x1
      · rw [if_pos c5] at h
        refine g_41t (a := 3) (b := 31) (nx := 18) (by decide +kernel) (by rw [wr_id r1, wr_id (show inR 16 by decide)]; exact (cb_3 _ _).mpr c5) ?_
        refine g_1 (a := 0) (b := 0) (nx := 32) (by decide +kernel) ?_
        exact g_91z (b := 0) (nx := 33) (by decide +kernel) (by decide) h
      · rw [if_neg c5] at h
        refine g_41f (a := 3) (b := 31) (nx := 18) (by decide +kernel) (by rw [wr_id r1, wr_id (show inR 16 by decide)]; exact fun hz => c5 ((cb_3 _ _).mp hz)) ?_
        refine g_7 (a := 0) (b := 0) (nx := 19) (by decide +kernel) rfl ?_
        refine g_52 (a := 6) (b := 2) (nx := 22) (by decide +kernel) h0 ?_
        refine g_5 (a := 1) (b := 0) (nx := 23) (by decide +kernel) rfl ?_
        refine g_63 (a := 0) (b := 0) (nx := 24) (by decide +kernel) h.1 ?_
        replace h := h.2
        obtain ⟨r3, h⟩ := h
        by_cases c4 : (M (M x0 2) x1) = 0
        · rw [if_pos c4] at h
          refine g_40t (a := 0) (b := 31) (nx := 27) (by decide +kernel) r3 (by exact (cb_0 _ _).mpr c4) ?_
          refine g_1 (a := 0) (b := 0) (nx := 32) (by decide +kernel) ?_
          exact g_91z (b := 0) (nx := 33) (by decide +kernel) (by decide) h
        · rw [if_neg c4] at h
          refine g_40f (a := 0) (b := 31) (nx := 27) (by decide +kernel) r3 (by exact fun hz => c4 ((cb_0 _ _).mp hz)) ?_
          refine g_1 (a := 1) (b := 0) (nx := 28) (by decide +kernel) ?_
          refine g_44 (a := 0) (b := 32) (nx := 31) (by decide +kernel) ?_
          exact g_91z (b := 0) (nx := 33) (by decide +kernel) (by decide) h
-- 95 SyllableMaker$Sounds.countPeaks()I
theorem t_95 {x0 : Int} {M : Mem} {Q : AV → Mem → Prop} (h0 : gO 6 x0) (h : WR 95 4 [some (vR x0), some (vI 0), some (vI 0)] [] M Q) : WC 95 [vR x0] M Q := by
  show WR 95 0 [some (vR x0), none, none] [] M Q
  refine g_1 (a := 0) (b := 0) (nx := 1) (by decide +kernel) ?_
  refine g_8 (a := 1) (b := 0) (nx := 2) (by decide +kernel) rfl (ls' := [some (vR x0), some (vI 0), none]) rfl ?_
  refine g_1 (a := 0) (b := 0) (nx := 3) (by decide +kernel) ?_
  refine g_8 (a := 2) (b := 0) (nx := 4) (by decide +kernel) rfl (ls' := [some (vR x0), some (vI 0), some (vI 0)]) rfl ?_
  exact h
theorem t_95_4 {x0 x1 x2 : Int} {M : Mem} {Q : AV → Mem → Prop} (h0 : gO 6 x0) (h : inR x2 ∧ (inR (M x0 6) ∧ (if (M x0 6) ≤ x2 then (Q (vI x1) M) else (WI 94 [vR x0, vI x2] M (fun y4 M3 => inR y4 ∧ (if y4 = 0 then (WR 95 4 [some (vR x0), some (vI (x1 + 0)), some (vI (x2 + 1))] [] M3 Q) else (WR 95 4 [some (vR x0), some (vI (x1 + 1)), some (vI (x2 + 1))] [] M3 Q))))))) : WR 95 4 [some (vR x0), some (vI x1), some (vI x2)] [] M Q := by
  refine g_5 (a := 2) (b := 0) (nx := 5) (by decide +kernel) rfl ?_
  refine g_7 (a := 0) (b := 0) (nx := 6) (by decide +kernel) rfl ?_
  refine g_50 (a := 6) (b := 6) (nx := 9) (by decide +kernel) h0 ?_
  obtain ⟨r1, h⟩ := h
  obtain ⟨r2, h⟩ := h
  by_cases c7 : (M x0 6) ≤ x2
  · rw [if_pos c7] at h
    refine g_41t (a := 3) (b := 34) (nx := 12) (by decide +kernel) (by rw [wr_id r1, wr_id r2]; exact (cb_3 _ _).mpr c7) ?_
    refine g_5 (a := 1) (b := 0) (nx := 35) (by decide +kernel) rfl ?_
    exact g_91 (b := 0) (nx := 36) (by decide +kernel) h
  · rw [if_neg c7] at h
    refine g_41f (a := 3) (b := 34) (nx := 12) (by decide +kernel) (by rw [wr_id r1, wr_id r2]; exact fun hz => c7 ((cb_3 _ _).mp hz)) ?_
    refine g_5 (a := 1) (b := 0) (nx := 13) (by decide +kernel) rfl ?_
    refine g_7 (a := 0) (b := 0) (nx := 14) (by decide +kernel) rfl ?_
    refine g_5 (a := 2) (b := 0) (nx := 15) (by decide +kernel) rfl ?_
    refine g_80 (a := 94) (b := 1) (nx := 18) (by decide +kernel) (r := x0) (As := [vI x2]) (st' := [vI x1]) (z := 94) rfl rfl rfl (Nat.le_of_ble_eq_true rfl) h0.2 (Nat.le_of_ble_eq_true rfl) rfl (c_I (by decide +kernel) h (fun y4 M3 h => ?_))
    obtain ⟨r5, h⟩ := h
    by_cases c6 : y4 = 0
    · rw [if_pos c6] at h
      refine g_40t (a := 0) (b := 25) (nx := 21) (by decide +kernel) r5 (by exact (cb_0 _ _).mpr c6) ?_
      refine g_1 (a := 0) (b := 0) (nx := 26) (by decide +kernel) ?_
      refine g_15 (a := 0) (b := 0) (nx := 27) (by decide +kernel) ?_
      refine g_8 (a := 1) (b := 0) (nx := 28) (by decide +kernel) rfl (ls' := [some (vR x0), some (vI (x1 + 0)), some (vI x2)]) rfl ?_
      refine g_11 (a := 2) (b := 1) (nx := 31) (by decide +kernel) rfl rfl (ls' := [some (vR x0), some (vI (x1 + 0)), some (vI (x2 + 1))]) rfl ?_
      refine g_44 (a := 0) (b := 4) (nx := 34) (by decide +kernel) ?_
      exact h
    · rw [if_neg c6] at h
      refine g_40f (a := 0) (b := 25) (nx := 21) (by decide +kernel) r5 (by exact fun hz => c6 ((cb_0 _ _).mp hz)) ?_
      refine g_1 (a := 1) (b := 0) (nx := 22) (by decide +kernel) ?_
      refine g_44 (a := 0) (b := 26) (nx := 25) (by decide +kernel) ?_
      refine g_15 (a := 0) (b := 0) (nx := 27) (by decide +kernel) ?_
      refine g_8 (a := 1) (b := 0) (nx := 28) (by decide +kernel) rfl (ls' := [some (vR x0), some (vI (x1 + 1)), some (vI x2)]) rfl ?_
      refine g_11 (a := 2) (b := 1) (nx := 31) (by decide +kernel) rfl rfl (ls' := [some (vR x0), some (vI (x1 + 1)), some (vI (x2 + 1))]) rfl ?_
      refine g_44 (a := 0) (b := 4) (nx := 34) (by decide +kernel) ?_
      exact h
-- 96 SyllableMaker$Sounds.distance(LSyllableMaker$Row;LSyllableMaker$Row;)I
theorem t_96 {x0 x1 x2 : Int} {M : Mem} {Q : AV → Mem → Prop} (h0 : gO 6 x0) (h : (gO 5 x2) ∧ (inR (M x2 1) ∧ inR 12) ∧ WR 96 13 [some (vR x0), some (vR x1), some (vR x2), some (vI (min (M x2 1) 12)), some (vI 0), none, none, none] [] M Q) : WC 96 [vR x0, vR x1, vR x2] M Q := by
  show WR 96 0 [some (vR x0), some (vR x1), some (vR x2), none, none, none, none, none] [] M Q
  refine g_7 (a := 2) (b := 0) (nx := 1) (by decide +kernel) rfl ?_
  refine g_50 (a := 5) (b := 1) (nx := 4) (by decide +kernel) h.1 ?_
  replace h := h.2
  refine g_1 (a := 12) (b := 0) (nx := 6) (by decide +kernel) ?_
  refine g_84 (a := 0) (b := 0) (nx := 9) (by decide +kernel) h.1.1 h.1.2 (Nat.le_of_ble_eq_true rfl) ?_
  replace h := h.2
  refine g_8 (a := 3) (b := 0) (nx := 10) (by decide +kernel) rfl (ls' := [some (vR x0), some (vR x1), some (vR x2), some (vI (min (M x2 1) 12)), none, none, none, none]) rfl ?_
  refine g_1 (a := 0) (b := 0) (nx := 11) (by decide +kernel) ?_
  refine g_8 (a := 4) (b := 0) (nx := 13) (by decide +kernel) rfl (ls' := [some (vR x0), some (vR x1), some (vR x2), some (vI (min (M x2 1) 12)), some (vI 0), none, none, none]) rfl ?_
  exact h
theorem t_96_13 {x0 x1 x2 x3 x4 : Int} {M : Mem} {Q : AV → Mem → Prop} (h0 : gO 6 x0) (h : inR x4 ∧ (inR x3 ∧ (if x3 < x4 then (WR 96 39 [some (vR x0), some (vR x1), some (vR x2), some (vI x3), some (vI 0), none, none, none] [] M Q) else ((gA 20 (M x0 3) x4) ∧ WR 96 13 [some (vR x0), some (vR x1), some (vR x2), some (vI x3), some (vI (x4 + 1)), none, none, none] [] (upM M (M x0 3) x4 (x4 * 5)) Q)))) : WR 96 13 [some (vR x0), some (vR x1), some (vR x2), some (vI x3), some (vI x4), none, none, none] [] M Q := by
  refine g_5 (a := 4) (b := 0) (nx := 15) (by decide +kernel) rfl ?_
  refine g_5 (a := 3) (b := 0) (nx := 16) (by decide +kernel) rfl ?_
  obtain ⟨r1, h⟩ := h
  obtain ⟨r2, h⟩ := h
  by_cases c3 : x3 < x4
  · rw [if_pos c3] at h
    refine g_41t (a := 4) (b := 36) (nx := 19) (by decide +kernel) (by rw [wr_id r1, wr_id r2]; exact (cb_4 _ _).mpr c3) ?_
    refine g_1 (a := 0) (b := 0) (nx := 37) (by decide +kernel) ?_
    refine g_8 (a := 4) (b := 0) (nx := 39) (by decide +kernel) rfl (ls' := [some (vR x0), some (vR x1), some (vR x2), some (vI x3), some (vI 0), none, none, none]) rfl ?_
    exact h
  · rw [if_neg c3] at h
    refine g_41f (a := 4) (b := 36) (nx := 19) (by decide +kernel) (by rw [wr_id r1, wr_id r2]; exact fun hz => c3 ((cb_4 _ _).mp hz)) ?_
    refine g_7 (a := 0) (b := 0) (nx := 20) (by decide +kernel) rfl ?_
    refine g_52 (a := 6) (b := 3) (nx := 23) (by decide +kernel) h0 ?_
    refine g_5 (a := 4) (b := 0) (nx := 25) (by decide +kernel) rfl ?_
    refine g_5 (a := 4) (b := 0) (nx := 27) (by decide +kernel) rfl ?_
    refine g_1 (a := 5) (b := 0) (nx := 28) (by decide +kernel) ?_
    refine g_17 (a := 0) (b := 0) (nx := 29) (by decide +kernel) ?_
    refine g_62 (a := 0) (b := 0) (nx := 30) (by decide +kernel) h.1 ?_
    replace h := h.2
    refine g_11 (a := 4) (b := 1) (nx := 33) (by decide +kernel) rfl rfl (ls' := [some (vR x0), some (vR x1), some (vR x2), some (vI x3), some (vI (x4 + 1)), none, none, none]) rfl ?_
    refine g_44 (a := 0) (b := 13) (nx := 36) (by decide +kernel) ?_
    exact h
theorem t_96_39 {x0 x1 x2 x3 x4 : Int} {l5 l6 l7 : Option AV} {M : Mem} {Q : AV → Mem → Prop} (h0 : gO 6 x0) (h : (gO 5 x1) ∧ inR x4 ∧ (inR (M x1 1) ∧ (if (M x1 1) ≤ x4 then ((gA 20 (M x0 3) x3) ∧ Q (vI (M (M x0 3) x3)) M) else ((gA 20 (M x0 3) 0) ∧ (gA 20 (M x0 3) 0) ∧ WR 96 71 [some (vR x0), some (vR x1), some (vR x2), some (vI x3), some (vI x4), some (vI (M (M x0 3) 0)), some (vI 1), l7] [] (upM M (M x0 3) 0 ((x4 + 1) * 5)) Q)))) : WR 96 39 [some (vR x0), some (vR x1), some (vR x2), some (vI x3), some (vI x4), l5, l6, l7] [] M Q := by
  refine g_5 (a := 4) (b := 0) (nx := 41) (by decide +kernel) rfl ?_
  refine g_7 (a := 1) (b := 0) (nx := 42) (by decide +kernel) rfl ?_
  refine g_50 (a := 5) (b := 1) (nx := 45) (by decide +kernel) h.1 ?_
  replace h := h.2
  obtain ⟨r1, h⟩ := h
  obtain ⟨r2, h⟩ := h
  by_cases c3 : (M x1 1) ≤ x4
  · rw [if_pos c3] at h
    refine g_41t (a := 3) (b := 154) (nx := 48) (by decide +kernel) (by rw [wr_id r1, wr_id r2]; exact (cb_3 _ _).mpr c3) ?_
    refine g_7 (a := 0) (b := 0) (nx := 155) (by decide +kernel) rfl ?_
    refine g_52 (a := 6) (b := 3) (nx := 158) (by decide +kernel) h0 ?_
    refine g_5 (a := 3) (b := 0) (nx := 159) (by decide +kernel) rfl ?_
    refine g_61 (a := 0) (b := 0) (nx := 160) (by decide +kernel) h.1 ?_
    replace h := h.2
    exact g_91 (b := 0) (nx := 161) (by decide +kernel) h
  · rw [if_neg c3] at h
    refine g_41f (a := 3) (b := 154) (nx := 48) (by decide +kernel) (by rw [wr_id r1, wr_id r2]; exact fun hz => c3 ((cb_3 _ _).mp hz)) ?_
    refine g_7 (a := 0) (b := 0) (nx := 49) (by decide +kernel) rfl ?_
    refine g_52 (a := 6) (b := 3) (nx := 52) (by decide +kernel) h0 ?_
    refine g_1 (a := 0) (b := 0) (nx := 53) (by decide +kernel) ?_
    refine g_61 (a := 0) (b := 0) (nx := 54) (by decide +kernel) h.1 ?_
    replace h := h.2
    refine g_8 (a := 5) (b := 0) (nx := 56) (by decide +kernel) rfl (ls' := [some (vR x0), some (vR x1), some (vR x2), some (vI x3), some (vI x4), some (vI (M (M x0 3) 0)), l6, l7]) rfl ?_
    refine g_7 (a := 0) (b := 0) (nx := 57) (by decide +kernel) rfl ?_
    refine g_52 (a := 6) (b := 3) (nx := 60) (by decide +kernel) h0 ?_
    refine g_1 (a := 0) (b := 0) (nx := 61) (by decide +kernel) ?_
    refine g_5 (a := 4) (b := 0) (nx := 63) (by decide +kernel) rfl ?_
    refine g_1 (a := 1) (b := 0) (nx := 64) (by decide +kernel) ?_
    refine g_15 (a := 0) (b := 0) (nx := 65) (by decide +kernel) ?_
    refine g_1 (a := 5) (b := 0) (nx := 66) (by decide +kernel) ?_
    refine g_17 (a := 0) (b := 0) (nx := 67) (by decide +kernel) ?_
    refine g_62 (a := 0) (b := 0) (nx := 68) (by decide +kernel) h.1 ?_
    replace h := h.2
    refine g_1 (a := 1) (b := 0) (nx := 69) (by decide +kernel) ?_
    refine g_8 (a := 6) (b := 0) (nx := 71) (by decide +kernel) rfl (ls' := [some (vR x0), some (vR x1), some (vR x2), some (vI x3), some (vI x4), some (vI (M (M x0 3) 0)), some (vI 1), l7]) rfl ?_
    exact h
theorem t_96_71 {x0 x1 x2 x3 x4 x5 x6 : Int} {l7 : Option AV} {M : Mem} {Q : AV → Mem → Prop} (h0 : gO 6 x0) (h : inR x6 ∧ (inR x3 ∧ (if x3 < x6 then (WR 96 39 [some (vR x0), some (vR x1), some (vR x2), some (vI x3), some (vI (x4 + 1)), some (vI x5), some (vI x6), l7] [] M Q) else (((shA SH x1).1 = 5) ∧ WI 82 [vR x1, vI x4] M (fun y4 M3 => ((shA SH x2).1 = 5) ∧ WI 82 [vR x2, vI (x6 - 1)] M3 (fun y6 M5 => WI 97 [vR x0, vI y4, vI y6] M5 (fun y8 M7 => (gA 20 (M7 x0 3) x6) ∧ (gA 20 (M7 x0 3) x6) ∧ (gA 20 (M7 x0 3) (x6 - 1)) ∧ (inR (M7 (M7 x0 3) x6) ∧ inR (M7 (M7 x0 3) (x6 - 1))) ∧ (inR (x5 + y8) ∧ inR ((min (M7 (M7 x0 3) x6) (M7 (M7 x0 3) (x6 - 1))) + 5)) ∧ (gA 20 (M7 x0 3) x6) ∧ WR 96 71 [some (vR x0), some (vR x1), some (vR x2), some (vI x3), some (vI x4), some (vI (M7 (M7 x0 3) x6)), some (vI (x6 + 1)), some (vI (x5 + y8))] [] (upM M7 (M7 x0 3) x6 (min (x5 + y8) ((min (M7 (M7 x0 3) x6) (M7 (M7 x0 3) (x6 - 1))) + 5))) Q))))))) : WR 96 71 [some (vR x0), some (vR x1), some (vR x2), some (vI x3), some (vI x4), some (vI x5), some (vI x6), l7] [] M Q := by
  refine g_5 (a := 6) (b := 0) (nx := 73) (by decide +kernel) rfl ?_
  refine g_5 (a := 3) (b := 0) (nx := 74) (by decide +kernel) rfl ?_
  obtain ⟨r1, h⟩ := h
  obtain ⟨r2, h⟩ := h
  by_cases c9 : x3 < x6
  · rw [if_pos c9] at h
    refine g_41t (a := 4) (b := 148) (nx := 77) (by decide +kernel) (by rw [wr_id r1, wr_id r2]; exact (cb_4 _ _).mpr c9) ?_
    refine g_11 (a := 4) (b := 1) (nx := 151) (by decide +kernel) rfl rfl (ls' := [some (vR x0), some (vR x1), some (vR x2), some (vI x3), some (vI (x4 + 1)), some (vI x5), some (vI x6), l7]) rfl ?_
    refine g_44 (a := 0) (b := 39) (nx := 154) (by decide +kernel) ?_
    exact h
  · rw [if_neg c9] at h
    refine g_41f (a := 4) (b := 148) (nx := 77) (by decide +kernel) (by rw [wr_id r1, wr_id r2]; exact fun hz => c9 ((cb_4 _ _).mp hz)) ?_
    refine g_5 (a := 5) (b := 0) (nx := 79) (by decide +kernel) rfl ?_
    refine g_7 (a := 0) (b := 0) (nx := 80) (by decide +kernel) rfl ?_
    refine g_7 (a := 1) (b := 0) (nx := 81) (by decide +kernel) rfl ?_
    refine g_5 (a := 4) (b := 0) (nx := 83) (by decide +kernel) rfl ?_
    refine g_80 (a := 82) (b := 1) (nx := 86) (by decide +kernel) (r := x1) (As := [vI x4]) (st' := [vR x0, vI x5]) (z := 82) rfl rfl rfl (Nat.le_of_ble_eq_true rfl) h.1 (Nat.le_of_ble_eq_true rfl) rfl (c_I (by decide +kernel) h.2 (fun y4 M3 h => ?_))
    refine g_7 (a := 2) (b := 0) (nx := 87) (by decide +kernel) rfl ?_
    refine g_5 (a := 6) (b := 0) (nx := 89) (by decide +kernel) rfl ?_
    refine g_1 (a := 1) (b := 0) (nx := 90) (by decide +kernel) ?_
    refine g_16 (a := 0) (b := 0) (nx := 91) (by decide +kernel) ?_
    refine g_80 (a := 82) (b := 1) (nx := 94) (by decide +kernel) (r := x2) (As := [vI (x6 - 1)]) (st' := [vI y4, vR x0, vI x5]) (z := 82) rfl rfl rfl (Nat.le_of_ble_eq_true rfl) h.1 (Nat.le_of_ble_eq_true rfl) rfl (c_I (by decide +kernel) h.2 (fun y6 M5 h => ?_))
    refine g_80 (a := 97) (b := 2) (nx := 97) (by decide +kernel) (r := x0) (As := [vI y4, vI y6]) (st' := [vI x5]) (z := 97) rfl rfl rfl (Nat.le_of_ble_eq_true rfl) h0.2 (Nat.le_of_ble_eq_true rfl) rfl (c_I (by decide +kernel) h (fun y8 M7 h => ?_))
    refine g_15 (a := 0) (b := 0) (nx := 98) (by decide +kernel) ?_
    refine g_8 (a := 7) (b := 0) (nx := 100) (by decide +kernel) rfl (ls' := [some (vR x0), some (vR x1), some (vR x2), some (vI x3), some (vI x4), some (vI x5), some (vI x6), some (vI (x5 + y8))]) rfl ?_
    refine g_7 (a := 0) (b := 0) (nx := 101) (by decide +kernel) rfl ?_
    refine g_52 (a := 6) (b := 3) (nx := 104) (by decide +kernel) h0 ?_
    refine g_5 (a := 6) (b := 0) (nx := 106) (by decide +kernel) rfl ?_
    refine g_61 (a := 0) (b := 0) (nx := 107) (by decide +kernel) h.1 ?_
    replace h := h.2
    refine g_8 (a := 5) (b := 0) (nx := 109) (by decide +kernel) rfl (ls' := [some (vR x0), some (vR x1), some (vR x2), some (vI x3), some (vI x4), some (vI (M7 (M7 x0 3) x6)), some (vI x6), some (vI (x5 + y8))]) rfl ?_
    refine g_7 (a := 0) (b := 0) (nx := 110) (by decide +kernel) rfl ?_
    refine g_52 (a := 6) (b := 3) (nx := 113) (by decide +kernel) h0 ?_
    refine g_5 (a := 6) (b := 0) (nx := 115) (by decide +kernel) rfl ?_
    refine g_5 (a := 7) (b := 0) (nx := 117) (by decide +kernel) rfl ?_
    refine g_7 (a := 0) (b := 0) (nx := 118) (by decide +kernel) rfl ?_
    refine g_52 (a := 6) (b := 3) (nx := 121) (by decide +kernel) h0 ?_
    refine g_5 (a := 6) (b := 0) (nx := 123) (by decide +kernel) rfl ?_
    refine g_61 (a := 0) (b := 0) (nx := 124) (by decide +kernel) h.1 ?_
    replace h := h.2
    refine g_7 (a := 0) (b := 0) (nx := 125) (by decide +kernel) rfl ?_
    refine g_52 (a := 6) (b := 3) (nx := 128) (by decide +kernel) h0 ?_
    refine g_5 (a := 6) (b := 0) (nx := 130) (by decide +kernel) rfl ?_
    refine g_1 (a := 1) (b := 0) (nx := 131) (by decide +kernel) ?_
    refine g_16 (a := 0) (b := 0) (nx := 132) (by decide +kernel) ?_
    refine g_61 (a := 0) (b := 0) (nx := 133) (by decide +kernel) h.1 ?_
    replace h := h.2
    refine g_84 (a := 0) (b := 0) (nx := 136) (by decide +kernel) h.1.1 h.1.2 (Nat.le_of_ble_eq_true rfl) ?_
    replace h := h.2
    refine g_1 (a := 5) (b := 0) (nx := 137) (by decide +kernel) ?_
    refine g_15 (a := 0) (b := 0) (nx := 138) (by decide +kernel) ?_
    refine g_84 (a := 0) (b := 0) (nx := 141) (by decide +kernel) h.1.1 h.1.2 (Nat.le_of_ble_eq_true rfl) ?_
    replace h := h.2
    refine g_62 (a := 0) (b := 0) (nx := 142) (by decide +kernel) h.1 ?_
    replace h := h.2
    refine g_11 (a := 6) (b := 1) (nx := 145) (by decide +kernel) rfl rfl (ls' := [some (vR x0), some (vR x1), some (vR x2), some (vI x3), some (vI x4), some (vI (M7 (M7 x0 3) x6)), some (vI (x6 + 1)), some (vI (x5 + y8))]) rfl ?_
    refine g_44 (a := 0) (b := 71) (nx := 148) (by decide +kernel) ?_
    exact h
-- 97 SyllableMaker$Sounds.change(II)I
theorem t_97 {x0 x1 x2 : Int} {M : Mem} {Q : AV → Mem → Prop} (h0 : gO 6 x0) (h : inR x1 ∧ (inR x2 ∧ (if x1 = x2 then (Q (vI 0) M) else (WI 93 [vR x0, vI x1] M (fun y4 M3 => WI 93 [vR x0, vI x2] M3 (fun y6 M5 => (-2147483648 < (y4 - y6) ∧ (y4 - y6) < 2147483648) ∧ WI 94 [vR x0, vI x1] M5 (fun y8 M7 => WI 94 [vR x0, vI x2] M7 (fun y10 M9 => inR y8 ∧ (inR y10 ∧ (if y8 = y10 then ((inR 1 ∧ inR ((if (y4 - y6) < 0 then -(y4 - y6) else (y4 - y6)) + 0)) ∧ Q (vI (max 1 ((if (y4 - y6) < 0 then -(y4 - y6) else (y4 - y6)) + 0))) M9) else ((inR 1 ∧ inR ((if (y4 - y6) < 0 then -(y4 - y6) else (y4 - y6)) + 3)) ∧ Q (vI (max 1 ((if (y4 - y6) < 0 then -(y4 - y6) else (y4 - y6)) + 3))) M9))))))))))) : WC 97 [vR x0, vI x1, vI x2] M Q := by
  show WR 97 0 [some (vR x0), some (vI x1), some (vI x2), none] [] M Q
  refine g_5 (a := 1) (b := 0) (nx := 1) (by decide +kernel) rfl ?_
  refine g_5 (a := 2) (b := 0) (nx := 2) (by decide +kernel) rfl ?_
  obtain ⟨r1, h⟩ := h
  obtain ⟨r2, h⟩ := h
  by_cases c14 : x1 = x2
  · rw [if_pos c14] at h
    refine g_41f (a := 1) (b := 7) (nx := 5) (by decide +kernel) (by rw [wr_id r1, wr_id r2]; exact fun hz => ((cb_1 _ _).mp hz) c14) ?_
    refine g_1 (a := 0) (b := 0) (nx := 6) (by decide +kernel) ?_
    exact g_91 (b := 0) (nx := 7) (by decide +kernel) h
  · rw [if_neg c14] at h
    refine g_41t (a := 1) (b := 7) (nx := 5) (by decide +kernel) (by rw [wr_id r1, wr_id r2]; exact (cb_1 _ _).mpr c14) ?_
    refine g_7 (a := 0) (b := 0) (nx := 8) (by decide +kernel) rfl ?_
    refine g_5 (a := 1) (b := 0) (nx := 9) (by decide +kernel) rfl ?_
    refine g_80 (a := 93) (b := 1) (nx := 12) (by decide +kernel) (r := x0) (As := [vI x1]) (st' := []) (z := 93) rfl rfl rfl (Nat.le_of_ble_eq_true rfl) h0.2 (Nat.le_of_ble_eq_true rfl) rfl (c_I (by decide +kernel) h (fun y4 M3 h => ?_))
    refine g_7 (a := 0) (b := 0) (nx := 13) (by decide +kernel) rfl ?_
    refine g_5 (a := 2) (b := 0) (nx := 14) (by decide +kernel) rfl ?_
    refine g_80 (a := 93) (b := 1) (nx := 17) (by decide +kernel) (r := x0) (As := [vI x2]) (st' := [vI y4]) (z := 93) rfl rfl rfl (Nat.le_of_ble_eq_true rfl) h0.2 (Nat.le_of_ble_eq_true rfl) rfl (c_I (by decide +kernel) h (fun y6 M5 h => ?_))
    refine g_16 (a := 0) (b := 0) (nx := 18) (by decide +kernel) ?_
    refine g_86 (a := 0) (b := 0) (nx := 21) (by decide +kernel) h.1 (Nat.le_of_ble_eq_true rfl) ?_
    replace h := h.2
    refine g_7 (a := 0) (b := 0) (nx := 22) (by decide +kernel) rfl ?_
    refine g_5 (a := 1) (b := 0) (nx := 23) (by decide +kernel) rfl ?_
    refine g_80 (a := 94) (b := 1) (nx := 26) (by decide +kernel) (r := x0) (As := [vI x1]) (st' := [vI (if (y4 - y6) < 0 then -(y4 - y6) else (y4 - y6))]) (z := 94) rfl rfl rfl (Nat.le_of_ble_eq_true rfl) h0.2 (Nat.le_of_ble_eq_true rfl) rfl (c_I (by decide +kernel) h (fun y8 M7 h => ?_))
    refine g_7 (a := 0) (b := 0) (nx := 27) (by decide +kernel) rfl ?_
    refine g_5 (a := 2) (b := 0) (nx := 28) (by decide +kernel) rfl ?_
    refine g_80 (a := 94) (b := 1) (nx := 31) (by decide +kernel) (r := x0) (As := [vI x2]) (st' := [vI y8, vI (if (y4 - y6) < 0 then -(y4 - y6) else (y4 - y6))]) (z := 94) rfl rfl rfl (Nat.le_of_ble_eq_true rfl) h0.2 (Nat.le_of_ble_eq_true rfl) rfl (c_I (by decide +kernel) h (fun y10 M9 h => ?_))
    obtain ⟨r11, h⟩ := h
    obtain ⟨r12, h⟩ := h
    by_cases c13 : y8 = y10
    · rw [if_pos c13] at h
      refine g_41t (a := 0) (b := 38) (nx := 34) (by decide +kernel) (by rw [wr_id r11, wr_id r12]; exact (cb_0 _ _).mpr c13) ?_
      refine g_1 (a := 0) (b := 0) (nx := 39) (by decide +kernel) ?_
      refine g_15 (a := 0) (b := 0) (nx := 40) (by decide +kernel) ?_
      refine g_8 (a := 3) (b := 0) (nx := 41) (by decide +kernel) rfl (ls' := [some (vR x0), some (vI x1), some (vI x2), some (vI ((if (y4 - y6) < 0 then -(y4 - y6) else (y4 - y6)) + 0))]) rfl ?_
      refine g_1 (a := 1) (b := 0) (nx := 42) (by decide +kernel) ?_
      refine g_5 (a := 3) (b := 0) (nx := 43) (by decide +kernel) rfl ?_
      refine g_85 (a := 0) (b := 0) (nx := 46) (by decide +kernel) h.1.1 h.1.2 (Nat.le_of_ble_eq_true rfl) ?_
      replace h := h.2
      exact g_91 (b := 0) (nx := 47) (by decide +kernel) h
    · rw [if_neg c13] at h
      refine g_41f (a := 0) (b := 38) (nx := 34) (by decide +kernel) (by rw [wr_id r11, wr_id r12]; exact fun hz => c13 ((cb_0 _ _).mp hz)) ?_
      refine g_1 (a := 3) (b := 0) (nx := 35) (by decide +kernel) ?_
      refine g_44 (a := 0) (b := 39) (nx := 38) (by decide +kernel) ?_
      refine g_15 (a := 0) (b := 0) (nx := 40) (by decide +kernel) ?_
      refine g_8 (a := 3) (b := 0) (nx := 41) (by decide +kernel) rfl (ls' := [some (vR x0), some (vI x1), some (vI x2), some (vI ((if (y4 - y6) < 0 then -(y4 - y6) else (y4 - y6)) + 3))]) rfl ?_
      refine g_1 (a := 1) (b := 0) (nx := 42) (by decide +kernel) ?_
      refine g_5 (a := 3) (b := 0) (nx := 43) (by decide +kernel) rfl ?_
      refine g_85 (a := 0) (b := 0) (nx := 46) (by decide +kernel) h.1.1 h.1.2 (Nat.le_of_ble_eq_true rfl) ?_
      replace h := h.2
      exact g_91 (b := 0) (nx := 47) (by decide +kernel) h
-- 98 SyllableMaker$Sounds.countHills(LSyllableMaker$Row;)I
theorem t_98 {x0 x1 : Int} {M : Mem} {Q : AV → Mem → Prop} (h0 : gO 6 x0) (h : WR 98 7 [some (vR x0), some (vR x1), some (vI 0), some (vI 1), some (vI 0), none, none] [] M Q) : WC 98 [vR x0, vR x1] M Q := by
  show WR 98 0 [some (vR x0), some (vR x1), none, none, none, none, none] [] M Q
  refine g_1 (a := 0) (b := 0) (nx := 1) (by decide +kernel) ?_
  refine g_8 (a := 2) (b := 0) (nx := 2) (by decide +kernel) rfl (ls' := [some (vR x0), some (vR x1), some (vI 0), none, none, none, none]) rfl ?_
  refine g_1 (a := 1) (b := 0) (nx := 3) (by decide +kernel) ?_
  refine g_8 (a := 3) (b := 0) (nx := 4) (by decide +kernel) rfl (ls' := [some (vR x0), some (vR x1), some (vI 0), some (vI 1), none, none, none]) rfl ?_
  refine g_1 (a := 0) (b := 0) (nx := 5) (by decide +kernel) ?_
  refine g_8 (a := 4) (b := 0) (nx := 7) (by decide +kernel) rfl (ls' := [some (vR x0), some (vR x1), some (vI 0), some (vI 1), some (vI 0), none, none]) rfl ?_
  exact h
theorem t_98_7 {x0 x1 x2 x3 x4 : Int} {l5 l6 : Option AV} {M : Mem} {Q : AV → Mem → Prop} (h0 : gO 6 x0) (h : (gO 5 x1) ∧ inR x4 ∧ (inR (M x1 1) ∧ (if (M x1 1) ≤ x4 then (Q (vI x2) M) else (((shA SH x1).1 = 5) ∧ WI 82 [vR x1, vI x4] M (fun y4 M3 => WI 93 [vR x0, vI y4] M3 (fun y6 M5 => (gO 5 x1) ∧ inR (x4 + 1) ∧ (inR (M5 x1 1) ∧ (if (M5 x1 1) ≤ (x4 + 1) then (inR y6 ∧ (if y6 ≤ (-1) then (if (-1) = y6 then (WR 98 7 [some (vR x0), some (vR x1), some (vI x2), some (vI x3), some (vI (x4 + 1)), some (vI y6), some (vI (-1))] [] M5 Q) else (if (-1) ≤ y6 then (WR 98 7 [some (vR x0), some (vR x1), some (vI x2), some (vI 0), some (vI (x4 + 1)), some (vI y6), some (vI (-1))] [] M5 Q) else (WR 98 7 [some (vR x0), some (vR x1), some (vI x2), some (vI 1), some (vI (x4 + 1)), some (vI y6), some (vI (-1))] [] M5 Q))) else (inR x3 ∧ (if x3 = 0 then (if (-1) = y6 then (WR 98 7 [some (vR x0), some (vR x1), some (vI x2), some (vI x3), some (vI (x4 + 1)), some (vI y6), some (vI (-1))] [] M5 Q) else (if (-1) ≤ y6 then (WR 98 7 [some (vR x0), some (vR x1), some (vI x2), some (vI 0), some (vI (x4 + 1)), some (vI y6), some (vI (-1))] [] M5 Q) else (WR 98 7 [some (vR x0), some (vR x1), some (vI x2), some (vI 1), some (vI (x4 + 1)), some (vI y6), some (vI (-1))] [] M5 Q))) else (if (-1) = y6 then (WR 98 7 [some (vR x0), some (vR x1), some (vI (x2 + 1)), some (vI x3), some (vI (x4 + 1)), some (vI y6), some (vI (-1))] [] M5 Q) else (if (-1) ≤ y6 then (WR 98 7 [some (vR x0), some (vR x1), some (vI (x2 + 1)), some (vI 0), some (vI (x4 + 1)), some (vI y6), some (vI (-1))] [] M5 Q) else (WR 98 7 [some (vR x0), some (vR x1), some (vI (x2 + 1)), some (vI 1), some (vI (x4 + 1)), some (vI y6), some (vI (-1))] [] M5 Q))))))) else (((shA SH x1).1 = 5) ∧ WI 82 [vR x1, vI (x4 + 1)] M5 (fun y20 M19 => WI 93 [vR x0, vI y20] M19 (fun y22 M21 => inR y22 ∧ (inR y6 ∧ (if y6 ≤ y22 then (if y22 = y6 then (WR 98 7 [some (vR x0), some (vR x1), some (vI x2), some (vI x3), some (vI (x4 + 1)), some (vI y6), some (vI y22)] [] M21 Q) else (if y22 ≤ y6 then (WR 98 7 [some (vR x0), some (vR x1), some (vI x2), some (vI 0), some (vI (x4 + 1)), some (vI y6), some (vI y22)] [] M21 Q) else (WR 98 7 [some (vR x0), some (vR x1), some (vI x2), some (vI 1), some (vI (x4 + 1)), some (vI y6), some (vI y22)] [] M21 Q))) else (inR x3 ∧ (if x3 = 0 then (if y22 = y6 then (WR 98 7 [some (vR x0), some (vR x1), some (vI x2), some (vI x3), some (vI (x4 + 1)), some (vI y6), some (vI y22)] [] M21 Q) else (if y22 ≤ y6 then (WR 98 7 [some (vR x0), some (vR x1), some (vI x2), some (vI 0), some (vI (x4 + 1)), some (vI y6), some (vI y22)] [] M21 Q) else (WR 98 7 [some (vR x0), some (vR x1), some (vI x2), some (vI 1), some (vI (x4 + 1)), some (vI y6), some (vI y22)] [] M21 Q))) else (if y22 = y6 then (WR 98 7 [some (vR x0), some (vR x1), some (vI (x2 + 1)), some (vI x3), some (vI (x4 + 1)), some (vI y6), some (vI y22)] [] M21 Q) else (if y22 ≤ y6 then (WR 98 7 [some (vR x0), some (vR x1), some (vI (x2 + 1)), some (vI 0), some (vI (x4 + 1)), some (vI y6), some (vI y22)] [] M21 Q) else (WR 98 7 [some (vR x0), some (vR x1), some (vI (x2 + 1)), some (vI 1), some (vI (x4 + 1)), some (vI y6), some (vI y22)] [] M21 Q)))))))))))))))))) : WR 98 7 [some (vR x0), some (vR x1), some (vI x2), some (vI x3), some (vI x4), l5, l6] [] M Q := by
  refine g_5 (a := 4) (b := 0) (nx := 9) (by decide +kernel) rfl ?_
  refine g_7 (a := 1) (b := 0) (nx := 10) (by decide +kernel) rfl ?_
  refine g_50 (a := 5) (b := 1) (nx := 13) (by decide +kernel) h.1 ?_
  replace h := h.2
  obtain ⟨r1, h⟩ := h
  obtain ⟨r2, h⟩ := h
  by_cases c35 : (M x1 1) ≤ x4
  · rw [if_pos c35] at h
    refine g_41t (a := 3) (b := 97) (nx := 16) (by decide +kernel) (by rw [wr_id r1, wr_id r2]; exact (cb_3 _ _).mpr c35) ?_
    refine g_5 (a := 2) (b := 0) (nx := 98) (by decide +kernel) rfl ?_
    exact g_91 (b := 0) (nx := 99) (by decide +kernel) h
  · rw [if_neg c35] at h
    refine g_41f (a := 3) (b := 97) (nx := 16) (by decide +kernel) (by rw [wr_id r1, wr_id r2]; exact fun hz => c35 ((cb_3 _ _).mp hz)) ?_
    refine g_7 (a := 0) (b := 0) (nx := 17) (by decide +kernel) rfl ?_
    refine g_7 (a := 1) (b := 0) (nx := 18) (by decide +kernel) rfl ?_
    refine g_5 (a := 4) (b := 0) (nx := 20) (by decide +kernel) rfl ?_
    refine g_80 (a := 82) (b := 1) (nx := 23) (by decide +kernel) (r := x1) (As := [vI x4]) (st' := [vR x0]) (z := 82) rfl rfl rfl (Nat.le_of_ble_eq_true rfl) h.1 (Nat.le_of_ble_eq_true rfl) rfl (c_I (by decide +kernel) h.2 (fun y4 M3 h => ?_))
    refine g_80 (a := 93) (b := 1) (nx := 26) (by decide +kernel) (r := x0) (As := [vI y4]) (st' := []) (z := 93) rfl rfl rfl (Nat.le_of_ble_eq_true rfl) h0.2 (Nat.le_of_ble_eq_true rfl) rfl (c_I (by decide +kernel) h (fun y6 M5 h => ?_))
    refine g_8 (a := 5) (b := 0) (nx := 28) (by decide +kernel) rfl (ls' := [some (vR x0), some (vR x1), some (vI x2), some (vI x3), some (vI x4), some (vI y6), l6]) rfl ?_
    refine g_5 (a := 4) (b := 0) (nx := 30) (by decide +kernel) rfl ?_
    refine g_1 (a := 1) (b := 0) (nx := 31) (by decide +kernel) ?_
    refine g_15 (a := 0) (b := 0) (nx := 32) (by decide +kernel) ?_
    refine g_7 (a := 1) (b := 0) (nx := 33) (by decide +kernel) rfl ?_
    refine g_50 (a := 5) (b := 1) (nx := 36) (by decide +kernel) h.1 ?_
    replace h := h.2
    obtain ⟨r7, h⟩ := h
    obtain ⟨r8, h⟩ := h
    by_cases c34 : (M5 x1 1) ≤ (x4 + 1)
    · rw [if_pos c34] at h
      refine g_41t (a := 3) (b := 54) (nx := 39) (by decide +kernel) (by rw [wr_id r7, wr_id r8]; exact (cb_3 _ _).mpr c34) ?_
      refine g_1 (a := (-1)) (b := 0) (nx := 55) (by decide +kernel) ?_
      refine g_8 (a := 6) (b := 0) (nx := 57) (by decide +kernel) rfl (ls' := [some (vR x0), some (vR x1), some (vI x2), some (vI x3), some (vI x4), some (vI y6), some (vI (-1))]) rfl ?_
      refine g_5 (a := 6) (b := 0) (nx := 59) (by decide +kernel) rfl ?_
      refine g_5 (a := 5) (b := 0) (nx := 61) (by decide +kernel) rfl ?_
      obtain ⟨r9, h⟩ := h
      by_cases c18 : y6 ≤ (-1)
      · rw [if_pos c18] at h
        refine g_41t (a := 3) (b := 71) (nx := 64) (by decide +kernel) (by rw [wr_id (show inR (-1) by decide), wr_id r9]; exact (cb_3 _ _).mpr c18) ?_
        refine g_5 (a := 6) (b := 0) (nx := 73) (by decide +kernel) rfl ?_
        refine g_5 (a := 5) (b := 0) (nx := 75) (by decide +kernel) rfl ?_
        by_cases c11 : (-1) = y6
        · rw [if_pos c11] at h
          refine g_41t (a := 0) (b := 91) (nx := 78) (by decide +kernel) (by rw [wr_id (show inR (-1) by decide), wr_id r9]; exact (cb_0 _ _).mpr c11) ?_
          refine g_11 (a := 4) (b := 1) (nx := 94) (by decide +kernel) rfl rfl (ls' := [some (vR x0), some (vR x1), some (vI x2), some (vI x3), some (vI (x4 + 1)), some (vI y6), some (vI (-1))]) rfl ?_
          refine g_44 (a := 0) (b := 7) (nx := 97) (by decide +kernel) ?_
          exact h
        · rw [if_neg c11] at h
          refine g_41f (a := 0) (b := 91) (nx := 78) (by decide +kernel) (by rw [wr_id (show inR (-1) by decide), wr_id r9]; exact fun hz => c11 ((cb_0 _ _).mp hz)) ?_
          refine g_5 (a := 6) (b := 0) (nx := 80) (by decide +kernel) rfl ?_
          refine g_5 (a := 5) (b := 0) (nx := 82) (by decide +kernel) rfl ?_
          by_cases c10 : (-1) ≤ y6
          · rw [if_pos c10] at h
            refine g_41t (a := 5) (b := 89) (nx := 85) (by decide +kernel) (by rw [wr_id (show inR (-1) by decide), wr_id r9]; exact (cb_5 _ _).mpr c10) ?_
            refine g_1 (a := 0) (b := 0) (nx := 90) (by decide +kernel) ?_
            refine g_8 (a := 3) (b := 0) (nx := 91) (by decide +kernel) rfl (ls' := [some (vR x0), some (vR x1), some (vI x2), some (vI 0), some (vI x4), some (vI y6), some (vI (-1))]) rfl ?_
            refine g_11 (a := 4) (b := 1) (nx := 94) (by decide +kernel) rfl rfl (ls' := [some (vR x0), some (vR x1), some (vI x2), some (vI 0), some (vI (x4 + 1)), some (vI y6), some (vI (-1))]) rfl ?_
            refine g_44 (a := 0) (b := 7) (nx := 97) (by decide +kernel) ?_
            exact h
          · rw [if_neg c10] at h
            refine g_41f (a := 5) (b := 89) (nx := 85) (by decide +kernel) (by rw [wr_id (show inR (-1) by decide), wr_id r9]; exact fun hz => c10 ((cb_5 _ _).mp hz)) ?_
            refine g_1 (a := 1) (b := 0) (nx := 86) (by decide +kernel) ?_
            refine g_44 (a := 0) (b := 90) (nx := 89) (by decide +kernel) ?_
            refine g_8 (a := 3) (b := 0) (nx := 91) (by decide +kernel) rfl (ls' := [some (vR x0), some (vR x1), some (vI x2), some (vI 1), some (vI x4), some (vI y6), some (vI (-1))]) rfl ?_
            refine g_11 (a := 4) (b := 1) (nx := 94) (by decide +kernel) rfl rfl (ls' := [some (vR x0), some (vR x1), some (vI x2), some (vI 1), some (vI (x4 + 1)), some (vI y6), some (vI (-1))]) rfl ?_
            refine g_44 (a := 0) (b := 7) (nx := 97) (by decide +kernel) ?_
            exact h
      · rw [if_neg c18] at h
        refine g_41f (a := 3) (b := 71) (nx := 64) (by decide +kernel) (by rw [wr_id (show inR (-1) by decide), wr_id r9]; exact fun hz => c18 ((cb_3 _ _).mp hz)) ?_
        refine g_5 (a := 3) (b := 0) (nx := 65) (by decide +kernel) rfl ?_
        obtain ⟨r12, h⟩ := h
        by_cases c17 : x3 = 0
        · rw [if_pos c17] at h
          refine g_40t (a := 0) (b := 71) (nx := 68) (by decide +kernel) r12 (by exact (cb_0 _ _).mpr c17) ?_
          refine g_5 (a := 6) (b := 0) (nx := 73) (by decide +kernel) rfl ?_
          refine g_5 (a := 5) (b := 0) (nx := 75) (by decide +kernel) rfl ?_
          by_cases c14 : (-1) = y6
          · rw [if_pos c14] at h
            refine g_41t (a := 0) (b := 91) (nx := 78) (by decide +kernel) (by rw [wr_id (show inR (-1) by decide), wr_id r9]; exact (cb_0 _ _).mpr c14) ?_
            refine g_11 (a := 4) (b := 1) (nx := 94) (by decide +kernel) rfl rfl (ls' := [some (vR x0), some (vR x1), some (vI x2), some (vI x3), some (vI (x4 + 1)), some (vI y6), some (vI (-1))]) rfl ?_
            refine g_44 (a := 0) (b := 7) (nx := 97) (by decide +kernel) ?_
            exact h
          · rw [if_neg c14] at h
            refine g_41f (a := 0) (b := 91) (nx := 78) (by decide +kernel) (by rw [wr_id (show inR (-1) by decide), wr_id r9]; exact fun hz => c14 ((cb_0 _ _).mp hz)) ?_
            refine g_5 (a := 6) (b := 0) (nx := 80) (by decide +kernel) rfl ?_
            refine g_5 (a := 5) (b := 0) (nx := 82) (by decide +kernel) rfl ?_
            by_cases c13 : (-1) ≤ y6
            · rw [if_pos c13] at h
              refine g_41t (a := 5) (b := 89) (nx := 85) (by decide +kernel) (by rw [wr_id (show inR (-1) by decide), wr_id r9]; exact (cb_5 _ _).mpr c13) ?_
              refine g_1 (a := 0) (b := 0) (nx := 90) (by decide +kernel) ?_
              refine g_8 (a := 3) (b := 0) (nx := 91) (by decide +kernel) rfl (ls' := [some (vR x0), some (vR x1), some (vI x2), some (vI 0), some (vI x4), some (vI y6), some (vI (-1))]) rfl ?_
              refine g_11 (a := 4) (b := 1) (nx := 94) (by decide +kernel) rfl rfl (ls' := [some (vR x0), some (vR x1), some (vI x2), some (vI 0), some (vI (x4 + 1)), some (vI y6), some (vI (-1))]) rfl ?_
              refine g_44 (a := 0) (b := 7) (nx := 97) (by decide +kernel) ?_
              exact h
            · rw [if_neg c13] at h
              refine g_41f (a := 5) (b := 89) (nx := 85) (by decide +kernel) (by rw [wr_id (show inR (-1) by decide), wr_id r9]; exact fun hz => c13 ((cb_5 _ _).mp hz)) ?_
              refine g_1 (a := 1) (b := 0) (nx := 86) (by decide +kernel) ?_
              refine g_44 (a := 0) (b := 90) (nx := 89) (by decide +kernel) ?_
              refine g_8 (a := 3) (b := 0) (nx := 91) (by decide +kernel) rfl (ls' := [some (vR x0), some (vR x1), some (vI x2), some (vI 1), some (vI x4), some (vI y6), some (vI (-1))]) rfl ?_
              refine g_11 (a := 4) (b := 1) (nx := 94) (by decide +kernel) rfl rfl (ls' := [some (vR x0), some (vR x1), some (vI x2), some (vI 1), some (vI (x4 + 1)), some (vI y6), some (vI (-1))]) rfl ?_
              refine g_44 (a := 0) (b := 7) (nx := 97) (by decide +kernel) ?_
              exact h
        · rw [if_neg c17] at h
          refine g_40f (a := 0) (b := 71) (nx := 68) (by decide +kernel) r12 (by exact fun hz => c17 ((cb_0 _ _).mp hz)) ?_
          refine g_11 (a := 2) (b := 1) (nx := 71) (by decide +kernel) rfl rfl (ls' := [some (vR x0), some (vR x1), some (vI (x2 + 1)), some (vI x3), some (vI x4), some (vI y6), some (vI (-1))]) rfl ?_
          refine g_5 (a := 6) (b := 0) (nx := 73) (by decide +kernel) rfl ?_
          refine g_5 (a := 5) (b := 0) (nx := 75) (by decide +kernel) rfl ?_
          by_cases c16 : (-1) = y6
          · rw [if_pos c16] at h
            refine g_41t (a := 0) (b := 91) (nx := 78) (by decide +kernel) (by rw [wr_id (show inR (-1) by decide), wr_id r9]; exact (cb_0 _ _).mpr c16) ?_
            refine g_11 (a := 4) (b := 1) (nx := 94) (by decide +kernel) rfl rfl (ls' := [some (vR x0), some (vR x1), some (vI (x2 + 1)), some (vI x3), some (vI (x4 + 1)), some (vI y6), some (vI (-1))]) rfl ?_
            refine g_44 (a := 0) (b := 7) (nx := 97) (by decide +kernel) ?_
            exact h
          · rw [if_neg c16] at h
            refine g_41f (a := 0) (b := 91) (nx := 78) (by decide +kernel) (by rw [wr_id (show inR (-1) by decide), wr_id r9]; exact fun hz => c16 ((cb_0 _ _).mp hz)) ?_
            refine g_5 (a := 6) (b := 0) (nx := 80) (by decide +kernel) rfl ?_
            refine g_5 (a := 5) (b := 0) (nx := 82) (by decide +kernel) rfl ?_
            by_cases c15 : (-1) ≤ y6
            · rw [if_pos c15] at h
              refine g_41t (a := 5) (b := 89) (nx := 85) (by decide +kernel) (by rw [wr_id (show inR (-1) by decide), wr_id r9]; exact (cb_5 _ _).mpr c15) ?_
              refine g_1 (a := 0) (b := 0) (nx := 90) (by decide +kernel) ?_
              refine g_8 (a := 3) (b := 0) (nx := 91) (by decide +kernel) rfl (ls' := [some (vR x0), some (vR x1), some (vI (x2 + 1)), some (vI 0), some (vI x4), some (vI y6), some (vI (-1))]) rfl ?_
              refine g_11 (a := 4) (b := 1) (nx := 94) (by decide +kernel) rfl rfl (ls' := [some (vR x0), some (vR x1), some (vI (x2 + 1)), some (vI 0), some (vI (x4 + 1)), some (vI y6), some (vI (-1))]) rfl ?_
              refine g_44 (a := 0) (b := 7) (nx := 97) (by decide +kernel) ?_
              exact h
            · rw [if_neg c15] at h
              refine g_41f (a := 5) (b := 89) (nx := 85) (by decide +kernel) (by rw [wr_id (show inR (-1) by decide), wr_id r9]; exact fun hz => c15 ((cb_5 _ _).mp hz)) ?_
              refine g_1 (a := 1) (b := 0) (nx := 86) (by decide +kernel) ?_
              refine g_44 (a := 0) (b := 90) (nx := 89) (by decide +kernel) ?_
              refine g_8 (a := 3) (b := 0) (nx := 91) (by decide +kernel) rfl (ls' := [some (vR x0), some (vR x1), some (vI (x2 + 1)), some (vI 1), some (vI x4), some (vI y6), some (vI (-1))]) rfl ?_
              refine g_11 (a := 4) (b := 1) (nx := 94) (by decide +kernel) rfl rfl (ls' := [some (vR x0), some (vR x1), some (vI (x2 + 1)), some (vI 1), some (vI (x4 + 1)), some (vI y6), some (vI (-1))]) rfl ?_
              refine g_44 (a := 0) (b := 7) (nx := 97) (by decide +kernel) ?_
              exact h
    · rw [if_neg c34] at h
      refine g_41f (a := 3) (b := 54) (nx := 39) (by decide +kernel) (by rw [wr_id r7, wr_id r8]; exact fun hz => c34 ((cb_3 _ _).mp hz)) ?_
      refine g_7 (a := 0) (b := 0) (nx := 40) (by decide +kernel) rfl ?_
      refine g_7 (a := 1) (b := 0) (nx := 41) (by decide +kernel) rfl ?_
      refine g_5 (a := 4) (b := 0) (nx := 43) (by decide +kernel) rfl ?_
      refine g_1 (a := 1) (b := 0) (nx := 44) (by decide +kernel) ?_
      refine g_15 (a := 0) (b := 0) (nx := 45) (by decide +kernel) ?_
      refine g_80 (a := 82) (b := 1) (nx := 48) (by decide +kernel) (r := x1) (As := [vI (x4 + 1)]) (st' := [vR x0]) (z := 82) rfl rfl rfl (Nat.le_of_ble_eq_true rfl) h.1 (Nat.le_of_ble_eq_true rfl) rfl (c_I (by decide +kernel) h.2 (fun y20 M19 h => ?_))
      refine g_80 (a := 93) (b := 1) (nx := 51) (by decide +kernel) (r := x0) (As := [vI y20]) (st' := []) (z := 93) rfl rfl rfl (Nat.le_of_ble_eq_true rfl) h0.2 (Nat.le_of_ble_eq_true rfl) rfl (c_I (by decide +kernel) h (fun y22 M21 h => ?_))
      refine g_44 (a := 0) (b := 55) (nx := 54) (by decide +kernel) ?_
      refine g_8 (a := 6) (b := 0) (nx := 57) (by decide +kernel) rfl (ls' := [some (vR x0), some (vR x1), some (vI x2), some (vI x3), some (vI x4), some (vI y6), some (vI y22)]) rfl ?_
      refine g_5 (a := 6) (b := 0) (nx := 59) (by decide +kernel) rfl ?_
      refine g_5 (a := 5) (b := 0) (nx := 61) (by decide +kernel) rfl ?_
      obtain ⟨r23, h⟩ := h
      obtain ⟨r24, h⟩ := h
      by_cases c33 : y6 ≤ y22
      · rw [if_pos c33] at h
        refine g_41t (a := 3) (b := 71) (nx := 64) (by decide +kernel) (by rw [wr_id r23, wr_id r24]; exact (cb_3 _ _).mpr c33) ?_
        refine g_5 (a := 6) (b := 0) (nx := 73) (by decide +kernel) rfl ?_
        refine g_5 (a := 5) (b := 0) (nx := 75) (by decide +kernel) rfl ?_
        by_cases c26 : y22 = y6
        · rw [if_pos c26] at h
          refine g_41t (a := 0) (b := 91) (nx := 78) (by decide +kernel) (by rw [wr_id r23, wr_id r24]; exact (cb_0 _ _).mpr c26) ?_
          refine g_11 (a := 4) (b := 1) (nx := 94) (by decide +kernel) rfl rfl (ls' := [some (vR x0), some (vR x1), some (vI x2), some (vI x3), some (vI (x4 + 1)), some (vI y6), some (vI y22)]) rfl ?_
          refine g_44 (a := 0) (b := 7) (nx := 97) (by decide +kernel) ?_
          exact h
        · rw [if_neg c26] at h
          refine g_41f (a := 0) (b := 91) (nx := 78) (by decide +kernel) (by rw [wr_id r23, wr_id r24]; exact fun hz => c26 ((cb_0 _ _).mp hz)) ?_
          refine g_5 (a := 6) (b := 0) (nx := 80) (by decide +kernel) rfl ?_
          refine g_5 (a := 5) (b := 0) (nx := 82) (by decide +kernel) rfl ?_
          by_cases c25 : y22 ≤ y6
          · rw [if_pos c25] at h
            refine g_41t (a := 5) (b := 89) (nx := 85) (by decide +kernel) (by rw [wr_id r23, wr_id r24]; exact (cb_5 _ _).mpr c25) ?_
            refine g_1 (a := 0) (b := 0) (nx := 90) (by decide +kernel) ?_
            refine g_8 (a := 3) (b := 0) (nx := 91) (by decide +kernel) rfl (ls' := [some (vR x0), some (vR x1), some (vI x2), some (vI 0), some (vI x4), some (vI y6), some (vI y22)]) rfl ?_
            refine g_11 (a := 4) (b := 1) (nx := 94) (by decide +kernel) rfl rfl (ls' := [some (vR x0), some (vR x1), some (vI x2), some (vI 0), some (vI (x4 + 1)), some (vI y6), some (vI y22)]) rfl ?_
            refine g_44 (a := 0) (b := 7) (nx := 97) (by decide +kernel) ?_
            exact h
          · rw [if_neg c25] at h
            refine g_41f (a := 5) (b := 89) (nx := 85) (by decide +kernel) (by rw [wr_id r23, wr_id r24]; exact fun hz => c25 ((cb_5 _ _).mp hz)) ?_
            refine g_1 (a := 1) (b := 0) (nx := 86) (by decide +kernel) ?_
            refine g_44 (a := 0) (b := 90) (nx := 89) (by decide +kernel) ?_
            refine g_8 (a := 3) (b := 0) (nx := 91) (by decide +kernel) rfl (ls' := [some (vR x0), some (vR x1), some (vI x2), some (vI 1), some (vI x4), some (vI y6), some (vI y22)]) rfl ?_
            refine g_11 (a := 4) (b := 1) (nx := 94) (by decide +kernel) rfl rfl (ls' := [some (vR x0), some (vR x1), some (vI x2), some (vI 1), some (vI (x4 + 1)), some (vI y6), some (vI y22)]) rfl ?_
            refine g_44 (a := 0) (b := 7) (nx := 97) (by decide +kernel) ?_
            exact h
      · rw [if_neg c33] at h
        refine g_41f (a := 3) (b := 71) (nx := 64) (by decide +kernel) (by rw [wr_id r23, wr_id r24]; exact fun hz => c33 ((cb_3 _ _).mp hz)) ?_
        refine g_5 (a := 3) (b := 0) (nx := 65) (by decide +kernel) rfl ?_
        obtain ⟨r27, h⟩ := h
        by_cases c32 : x3 = 0
        · rw [if_pos c32] at h
          refine g_40t (a := 0) (b := 71) (nx := 68) (by decide +kernel) r27 (by exact (cb_0 _ _).mpr c32) ?_
          refine g_5 (a := 6) (b := 0) (nx := 73) (by decide +kernel) rfl ?_
          refine g_5 (a := 5) (b := 0) (nx := 75) (by decide +kernel) rfl ?_
          by_cases c29 : y22 = y6
          · rw [if_pos c29] at h
            refine g_41t (a := 0) (b := 91) (nx := 78) (by decide +kernel) (by rw [wr_id r23, wr_id r24]; exact (cb_0 _ _).mpr c29) ?_
            refine g_11 (a := 4) (b := 1) (nx := 94) (by decide +kernel) rfl rfl (ls' := [some (vR x0), some (vR x1), some (vI x2), some (vI x3), some (vI (x4 + 1)), some (vI y6), some (vI y22)]) rfl ?_
            refine g_44 (a := 0) (b := 7) (nx := 97) (by decide +kernel) ?_
            exact h
          · rw [if_neg c29] at h
            refine g_41f (a := 0) (b := 91) (nx := 78) (by decide +kernel) (by rw [wr_id r23, wr_id r24]; exact fun hz => c29 ((cb_0 _ _).mp hz)) ?_
            refine g_5 (a := 6) (b := 0) (nx := 80) (by decide +kernel) rfl ?_
            refine g_5 (a := 5) (b := 0) (nx := 82) (by decide +kernel) rfl ?_
            by_cases c28 : y22 ≤ y6
            · rw [if_pos c28] at h
              refine g_41t (a := 5) (b := 89) (nx := 85) (by decide +kernel) (by rw [wr_id r23, wr_id r24]; exact (cb_5 _ _).mpr c28) ?_
              refine g_1 (a := 0) (b := 0) (nx := 90) (by decide +kernel) ?_
              refine g_8 (a := 3) (b := 0) (nx := 91) (by decide +kernel) rfl (ls' := [some (vR x0), some (vR x1), some (vI x2), some (vI 0), some (vI x4), some (vI y6), some (vI y22)]) rfl ?_
              refine g_11 (a := 4) (b := 1) (nx := 94) (by decide +kernel) rfl rfl (ls' := [some (vR x0), some (vR x1), some (vI x2), some (vI 0), some (vI (x4 + 1)), some (vI y6), some (vI y22)]) rfl ?_
              refine g_44 (a := 0) (b := 7) (nx := 97) (by decide +kernel) ?_
              exact h
            · rw [if_neg c28] at h
              refine g_41f (a := 5) (b := 89) (nx := 85) (by decide +kernel) (by rw [wr_id r23, wr_id r24]; exact fun hz => c28 ((cb_5 _ _).mp hz)) ?_
              refine g_1 (a := 1) (b := 0) (nx := 86) (by decide +kernel) ?_
              refine g_44 (a := 0) (b := 90) (nx := 89) (by decide +kernel) ?_
              refine g_8 (a := 3) (b := 0) (nx := 91) (by decide +kernel) rfl (ls' := [some (vR x0), some (vR x1), some (vI x2), some (vI 1), some (vI x4), some (vI y6), some (vI y22)]) rfl ?_
              refine g_11 (a := 4) (b := 1) (nx := 94) (by decide +kernel) rfl rfl (ls' := [some (vR x0), some (vR x1), some (vI x2), some (vI 1), some (vI (x4 + 1)), some (vI y6), some (vI y22)]) rfl ?_
              refine g_44 (a := 0) (b := 7) (nx := 97) (by decide +kernel) ?_
              exact h
        · rw [if_neg c32] at h
          refine g_40f (a := 0) (b := 71) (nx := 68) (by decide +kernel) r27 (by exact fun hz => c32 ((cb_0 _ _).mp hz)) ?_
          refine g_11 (a := 2) (b := 1) (nx := 71) (by decide +kernel) rfl rfl (ls' := [some (vR x0), some (vR x1), some (vI (x2 + 1)), some (vI x3), some (vI x4), some (vI y6), some (vI y22)]) rfl ?_
          refine g_5 (a := 6) (b := 0) (nx := 73) (by decide +kernel) rfl ?_
          refine g_5 (a := 5) (b := 0) (nx := 75) (by decide +kernel) rfl ?_
          by_cases c31 : y22 = y6
          · rw [if_pos c31] at h
            refine g_41t (a := 0) (b := 91) (nx := 78) (by decide +kernel) (by rw [wr_id r23, wr_id r24]; exact (cb_0 _ _).mpr c31) ?_
            refine g_11 (a := 4) (b := 1) (nx := 94) (by decide +kernel) rfl rfl (ls' := [some (vR x0), some (vR x1), some (vI (x2 + 1)), some (vI x3), some (vI (x4 + 1)), some (vI y6), some (vI y22)]) rfl ?_
            refine g_44 (a := 0) (b := 7) (nx := 97) (by decide +kernel) ?_
            exact h
          · rw [if_neg c31] at h
            refine g_41f (a := 0) (b := 91) (nx := 78) (by decide +kernel) (by rw [wr_id r23, wr_id r24]; exact fun hz => c31 ((cb_0 _ _).mp hz)) ?_
            refine g_5 (a := 6) (b := 0) (nx := 80) (by decide +kernel) rfl ?_
            refine g_5 (a := 5) (b := 0) (nx := 82) (by decide +kernel) rfl ?_
            by_cases c30 : y22 ≤ y6
            · rw [if_pos c30] at h
              refine g_41t (a := 5) (b := 89) (nx := 85) (by decide +kernel) (by rw [wr_id r23, wr_id r24]; exact (cb_5 _ _).mpr c30) ?_
              refine g_1 (a := 0) (b := 0) (nx := 90) (by decide +kernel) ?_
              refine g_8 (a := 3) (b := 0) (nx := 91) (by decide +kernel) rfl (ls' := [some (vR x0), some (vR x1), some (vI (x2 + 1)), some (vI 0), some (vI x4), some (vI y6), some (vI y22)]) rfl ?_
              refine g_11 (a := 4) (b := 1) (nx := 94) (by decide +kernel) rfl rfl (ls' := [some (vR x0), some (vR x1), some (vI (x2 + 1)), some (vI 0), some (vI (x4 + 1)), some (vI y6), some (vI y22)]) rfl ?_
              refine g_44 (a := 0) (b := 7) (nx := 97) (by decide +kernel) ?_
              exact h
            · rw [if_neg c30] at h
              refine g_41f (a := 5) (b := 89) (nx := 85) (by decide +kernel) (by rw [wr_id r23, wr_id r24]; exact fun hz => c30 ((cb_5 _ _).mp hz)) ?_
              refine g_1 (a := 1) (b := 0) (nx := 86) (by decide +kernel) ?_
              refine g_44 (a := 0) (b := 90) (nx := 89) (by decide +kernel) ?_
              refine g_8 (a := 3) (b := 0) (nx := 91) (by decide +kernel) rfl (ls' := [some (vR x0), some (vR x1), some (vI (x2 + 1)), some (vI 1), some (vI x4), some (vI y6), some (vI y22)]) rfl ?_
              refine g_11 (a := 4) (b := 1) (nx := 94) (by decide +kernel) rfl rfl (ls' := [some (vR x0), some (vR x1), some (vI (x2 + 1)), some (vI 1), some (vI (x4 + 1)), some (vI y6), some (vI y22)]) rfl ?_
              refine g_44 (a := 0) (b := 7) (nx := 97) (by decide +kernel) ?_
              exact h
-- 99 SyllableMaker$Sounds.climbs(JIZ)Z
theorem t_99 {x0 x1 x3 x4 : Int} {M : Mem} {Q : AV → Mem → Prop} (h0 : gO 6 x0) (h : WR 99 3 [some (vR x0), some (vL x1), none, some (vI x3), some (vI x4), some (vL x1), none, none] [] M Q) : WC 99 [vR x0, vL x1, vI x3, vI x4] M Q := by
  show WR 99 0 [some (vR x0), some (vL x1), none, some (vI x3), some (vI x4), none, none, none] [] M Q
  refine g_6 (a := 1) (b := 0) (nx := 1) (by decide +kernel) rfl ?_
  refine g_9 (a := 5) (b := 0) (nx := 3) (by decide +kernel) ⟨rfl, Nat.le_of_ble_eq_true rfl⟩ (ls' := [some (vR x0), some (vL x1), none, some (vI x3), some (vI x4), some (vL x1), none, none]) rfl ?_
  exact h
theorem t_99_3 {x0 x1 x3 x4 x5 : Int} {l7 : Option AV} {M : Mem} {Q : AV → Mem → Prop} (h0 : gO 6 x0) (h : (in64 x5 ∧ in64 256) ∧ inR (if x5 < 256 then -1 else if x5 = 256 then 0 else 1) ∧ (if (if x5 < 256 then -1 else if x5 = 256 then 0 else 1) < 0 then (Q (vI 1) M) else (WI 93 [vR x0, vI (and32 x5 15)] M (fun y3 M2 => WI 93 [vR x0, vI (and32 (x5 % 18446744073709551616 / 16) 15)] M2 (fun y5 M4 => inR x4 ∧ (if x4 = 0 then (inR (-(y3 - y5)) ∧ (inR x3 ∧ (if x3 ≤ (-(y3 - y5)) then (WR 99 3 [some (vR x0), some (vL x1), none, some (vI x3), some (vI x4), some (vL (x5 % 18446744073709551616 / 16)), none, some (vI (y3 - y5))] [] M4 Q) else (Q (vI 0) M4)))) else (inR (y3 - y5) ∧ (inR x3 ∧ (if x3 ≤ (y3 - y5) then (WR 99 3 [some (vR x0), some (vL x1), none, some (vI x3), some (vI x4), some (vL (x5 % 18446744073709551616 / 16)), none, some (vI (y3 - y5))] [] M4 Q) else (Q (vI 0) M4)))))))))) : WR 99 3 [some (vR x0), some (vL x1), none, some (vI x3), some (vI x4), some (vL x5), none, l7] [] M Q := by
  refine g_6 (a := 5) (b := 0) (nx := 5) (by decide +kernel) rfl ?_
  refine g_2 (a := 256) (b := 0) (nx := 8) (by decide +kernel) ?_
  refine g_34 (a := 0) (b := 0) (nx := 9) (by decide +kernel) h.1 ?_
  replace h := h.2
  obtain ⟨r1, h⟩ := h
  by_cases c14 : (if x5 < 256 then -1 else if x5 = 256 then 0 else 1) < 0
  · rw [if_pos c14] at h
    refine g_40t (a := 2) (b := 65) (nx := 12) (by decide +kernel) r1 (by exact (cb_2 _ _).mpr c14) ?_
    refine g_1 (a := 1) (b := 0) (nx := 66) (by decide +kernel) ?_
    exact g_91z (b := 0) (nx := 67) (by decide +kernel) (by decide) h
  · rw [if_neg c14] at h
    refine g_40f (a := 2) (b := 65) (nx := 12) (by decide +kernel) r1 (by exact fun hz => c14 ((cb_2 _ _).mp hz)) ?_
    refine g_7 (a := 0) (b := 0) (nx := 13) (by decide +kernel) rfl ?_
    refine g_6 (a := 5) (b := 0) (nx := 15) (by decide +kernel) rfl ?_
    refine g_36 (a := 0) (b := 0) (nx := 16) (by decide +kernel) ?_
    refine g_1 (a := 15) (b := 0) (nx := 18) (by decide +kernel) ?_
    refine g_20 (a := 0) (b := 0) (nx := 19) (by decide +kernel) ?_
    refine g_80 (a := 93) (b := 1) (nx := 22) (by decide +kernel) (r := x0) (As := [vI (and32 x5 15)]) (st' := []) (z := 93) rfl rfl rfl (Nat.le_of_ble_eq_true rfl) h0.2 (Nat.le_of_ble_eq_true rfl) rfl (c_I (by decide +kernel) h (fun y3 M2 h => ?_))
    refine g_7 (a := 0) (b := 0) (nx := 23) (by decide +kernel) rfl ?_
    refine g_6 (a := 5) (b := 0) (nx := 25) (by decide +kernel) rfl ?_
    refine g_1 (a := 4) (b := 0) (nx := 26) (by decide +kernel) ?_
    refine g_33 (a := 0) (b := 0) (nx := 27) (by decide +kernel) (by decide) ?_
    show WR 99 27 [some (vR x0), some (vL x1), none, some (vI x3), some (vI x4), some (vL x5), none, l7] [vL (x5 % 18446744073709551616 / 16), vR x0, vI y3] M2 Q
    refine g_36 (a := 0) (b := 0) (nx := 28) (by decide +kernel) ?_
    refine g_1 (a := 15) (b := 0) (nx := 30) (by decide +kernel) ?_
    refine g_20 (a := 0) (b := 0) (nx := 31) (by decide +kernel) ?_
    refine g_80 (a := 93) (b := 1) (nx := 34) (by decide +kernel) (r := x0) (As := [vI (and32 (x5 % 18446744073709551616 / 16) 15)]) (st' := [vI y3]) (z := 93) rfl rfl rfl (Nat.le_of_ble_eq_true rfl) h0.2 (Nat.le_of_ble_eq_true rfl) rfl (c_I (by decide +kernel) h (fun y5 M4 h => ?_))
    refine g_16 (a := 0) (b := 0) (nx := 35) (by decide +kernel) ?_
    refine g_8 (a := 7) (b := 0) (nx := 37) (by decide +kernel) rfl (ls' := [some (vR x0), some (vL x1), none, some (vI x3), some (vI x4), some (vL x5), none, some (vI (y3 - y5))]) rfl ?_
    refine g_5 (a := 4) (b := 0) (nx := 39) (by decide +kernel) rfl ?_
    obtain ⟨r6, h⟩ := h
    by_cases c13 : x4 = 0
    · rw [if_pos c13] at h
      refine g_40t (a := 0) (b := 47) (nx := 42) (by decide +kernel) r6 (by exact (cb_0 _ _).mpr c13) ?_
      refine g_5 (a := 7) (b := 0) (nx := 49) (by decide +kernel) rfl ?_
      refine g_18 (a := 0) (b := 0) (nx := 50) (by decide +kernel) ?_
      refine g_5 (a := 3) (b := 0) (nx := 51) (by decide +kernel) rfl ?_
      obtain ⟨r7, h⟩ := h
      obtain ⟨r8, h⟩ := h
      by_cases c9 : x3 ≤ (-(y3 - y5))
      · rw [if_pos c9] at h
        refine g_41t (a := 3) (b := 56) (nx := 54) (by decide +kernel) (by rw [wr_id r7, wr_id r8]; exact (cb_3 _ _).mpr c9) ?_
        refine g_6 (a := 5) (b := 0) (nx := 58) (by decide +kernel) rfl ?_
        refine g_1 (a := 4) (b := 0) (nx := 59) (by decide +kernel) ?_
        refine g_33 (a := 0) (b := 0) (nx := 60) (by decide +kernel) (by decide) ?_
        show WR 99 60 [some (vR x0), some (vL x1), none, some (vI x3), some (vI x4), some (vL x5), none, some (vI (y3 - y5))] [vL (x5 % 18446744073709551616 / 16)] M4 Q
        refine g_9 (a := 5) (b := 0) (nx := 62) (by decide +kernel) ⟨rfl, Nat.le_of_ble_eq_true rfl⟩ (ls' := [some (vR x0), some (vL x1), none, some (vI x3), some (vI x4), some (vL (x5 % 18446744073709551616 / 16)), none, some (vI (y3 - y5))]) rfl ?_
        refine g_44 (a := 0) (b := 3) (nx := 65) (by decide +kernel) ?_
        exact h
      · rw [if_neg c9] at h
        refine g_41f (a := 3) (b := 56) (nx := 54) (by decide +kernel) (by rw [wr_id r7, wr_id r8]; exact fun hz => c9 ((cb_3 _ _).mp hz)) ?_
        refine g_1 (a := 0) (b := 0) (nx := 55) (by decide +kernel) ?_
        exact g_91z (b := 0) (nx := 56) (by decide +kernel) (by decide) h
    · rw [if_neg c13] at h
      refine g_40f (a := 0) (b := 47) (nx := 42) (by decide +kernel) r6 (by exact fun hz => c13 ((cb_0 _ _).mp hz)) ?_
      refine g_5 (a := 7) (b := 0) (nx := 44) (by decide +kernel) rfl ?_
      refine g_44 (a := 0) (b := 50) (nx := 47) (by decide +kernel) ?_
      refine g_5 (a := 3) (b := 0) (nx := 51) (by decide +kernel) rfl ?_
      obtain ⟨r10, h⟩ := h
      obtain ⟨r11, h⟩ := h
      by_cases c12 : x3 ≤ (y3 - y5)
      · rw [if_pos c12] at h
        refine g_41t (a := 3) (b := 56) (nx := 54) (by decide +kernel) (by rw [wr_id r10, wr_id r11]; exact (cb_3 _ _).mpr c12) ?_
        refine g_6 (a := 5) (b := 0) (nx := 58) (by decide +kernel) rfl ?_
        refine g_1 (a := 4) (b := 0) (nx := 59) (by decide +kernel) ?_
        refine g_33 (a := 0) (b := 0) (nx := 60) (by decide +kernel) (by decide) ?_
        show WR 99 60 [some (vR x0), some (vL x1), none, some (vI x3), some (vI x4), some (vL x5), none, some (vI (y3 - y5))] [vL (x5 % 18446744073709551616 / 16)] M4 Q
        refine g_9 (a := 5) (b := 0) (nx := 62) (by decide +kernel) ⟨rfl, Nat.le_of_ble_eq_true rfl⟩ (ls' := [some (vR x0), some (vL x1), none, some (vI x3), some (vI x4), some (vL (x5 % 18446744073709551616 / 16)), none, some (vI (y3 - y5))]) rfl ?_
        refine g_44 (a := 0) (b := 3) (nx := 65) (by decide +kernel) ?_
        exact h
      · rw [if_neg c12] at h
        refine g_41f (a := 3) (b := 56) (nx := 54) (by decide +kernel) (by rw [wr_id r10, wr_id r11]; exact fun hz => c12 ((cb_3 _ _).mp hz)) ?_
        refine g_1 (a := 0) (b := 0) (nx := 55) (by decide +kernel) ?_
        exact g_91z (b := 0) (nx := 56) (by decide +kernel) (by decide) h
-- 100 SyllableMaker$Sounds.countChains(II)I
theorem t_100 {x0 x1 x2 : Int} {M : Mem} {Q : AV → Mem → Prop} (h0 : gO 6 x0) (h : WR 100 2 [some (vR x0), some (vI x1), some (vI x2), some (vI 0), none] [] M Q) : WC 100 [vR x0, vI x1, vI x2] M Q := by
  show WR 100 0 [some (vR x0), some (vI x1), some (vI x2), none, none] [] M Q
  refine g_1 (a := 0) (b := 0) (nx := 1) (by decide +kernel) ?_
  refine g_8 (a := 3) (b := 0) (nx := 2) (by decide +kernel) rfl (ls' := [some (vR x0), some (vI x1), some (vI x2), some (vI 0), none]) rfl ?_
  exact h
theorem t_100_2 {x0 x1 x2 x3 : Int} {M : Mem} {Q : AV → Mem → Prop} (h0 : gO 6 x0) (h : inR x3 ∧ (if 16 ≤ x3 then (WR 100 44 [some (vR x0), some (vI x1), some (vI x2), some (vI 2), none] [] M Q) else (inR (M x0 6) ∧ (if (M x0 6) ≤ x3 then ((gA 20 (M x0 4) x3) ∧ WR 100 2 [some (vR x0), some (vI x1), some (vI x2), some (vI (x3 + 1)), none] [] (upM M (M x0 4) x3 0) Q) else ((gA 21 (M x0 2) x3 ∨ gA 22 (M x0 2) x3) ∧ inR (M (M x0 2) x3) ∧ (if (M (M x0 2) x3) = 0 then ((gA 20 (M x0 4) x3) ∧ WR 100 2 [some (vR x0), some (vI x1), some (vI x2), some (vI (x3 + 1)), none] [] (upM M (M x0 4) x3 1) Q) else ((gA 20 (M x0 4) x3) ∧ WR 100 2 [some (vR x0), some (vI x1), some (vI x2), some (vI (x3 + 1)), none] [] (upM M (M x0 4) x3 0) Q))))))) : WR 100 2 [some (vR x0), some (vI x1), some (vI x2), some (vI x3), none] [] M Q := by
  refine g_5 (a := 3) (b := 0) (nx := 3) (by decide +kernel) rfl ?_
  refine g_1 (a := 16) (b := 0) (nx := 5) (by decide +kernel) ?_
  obtain ⟨r1, h⟩ := h
  by_cases c6 : 16 ≤ x3
  · rw [if_pos c6] at h
    refine g_41t (a := 3) (b := 42) (nx := 8) (by decide +kernel) (by rw [wr_id r1, wr_id (show inR 16 by decide)]; exact (cb_3 _ _).mpr c6) ?_
    refine g_1 (a := 2) (b := 0) (nx := 43) (by decide +kernel) ?_
    refine g_8 (a := 3) (b := 0) (nx := 44) (by decide +kernel) rfl (ls' := [some (vR x0), some (vI x1), some (vI x2), some (vI 2), none]) rfl ?_
    exact h
  · rw [if_neg c6] at h
    refine g_41f (a := 3) (b := 42) (nx := 8) (by decide +kernel) (by rw [wr_id r1, wr_id (show inR 16 by decide)]; exact fun hz => c6 ((cb_3 _ _).mp hz)) ?_
    refine g_7 (a := 0) (b := 0) (nx := 9) (by decide +kernel) rfl ?_
    refine g_52 (a := 6) (b := 4) (nx := 12) (by decide +kernel) h0 ?_
    refine g_5 (a := 3) (b := 0) (nx := 13) (by decide +kernel) rfl ?_
    refine g_5 (a := 3) (b := 0) (nx := 14) (by decide +kernel) rfl ?_
    refine g_7 (a := 0) (b := 0) (nx := 15) (by decide +kernel) rfl ?_
    refine g_50 (a := 6) (b := 6) (nx := 18) (by decide +kernel) h0 ?_
    obtain ⟨r2, h⟩ := h
    by_cases c5 : (M x0 6) ≤ x3
    · rw [if_pos c5] at h
      refine g_41t (a := 3) (b := 34) (nx := 21) (by decide +kernel) (by rw [wr_id r1, wr_id r2]; exact (cb_3 _ _).mpr c5) ?_
      refine g_1 (a := 0) (b := 0) (nx := 35) (by decide +kernel) ?_
      refine g_62 (a := 0) (b := 0) (nx := 36) (by decide +kernel) h.1 ?_
      replace h := h.2
      refine g_11 (a := 3) (b := 1) (nx := 39) (by decide +kernel) rfl rfl (ls' := [some (vR x0), some (vI x1), some (vI x2), some (vI (x3 + 1)), none]) rfl ?_
      refine g_44 (a := 0) (b := 2) (nx := 42) (by decide +kernel) ?_
      exact h
    · rw [if_neg c5] at h
      refine g_41f (a := 3) (b := 34) (nx := 21) (by decide +kernel) (by rw [wr_id r1, wr_id r2]; exact fun hz => c5 ((cb_3 _ _).mp hz)) ?_
      refine g_7 (a := 0) (b := 0) (nx := 22) (by decide +kernel) rfl ?_
      refine g_52 (a := 6) (b := 2) (nx := 25) (by decide +kernel) h0 ?_
      refine g_5 (a := 3) (b := 0) (nx := 26) (by decide +kernel) rfl ?_
      refine g_63 (a := 0) (b := 0) (nx := 27) (by decide +kernel) h.1 ?_
      replace h := h.2
      obtain ⟨r3, h⟩ := h
      by_cases c4 : (M (M x0 2) x3) = 0
      · rw [if_pos c4] at h
        refine g_40f (a := 1) (b := 34) (nx := 30) (by decide +kernel) r3 (by exact fun hz => ((cb_1 _ _).mp hz) c4) ?_
        refine g_1 (a := 1) (b := 0) (nx := 31) (by decide +kernel) ?_
        refine g_44 (a := 0) (b := 35) (nx := 34) (by decide +kernel) ?_
        refine g_62 (a := 0) (b := 0) (nx := 36) (by decide +kernel) h.1 ?_
        replace h := h.2
        refine g_11 (a := 3) (b := 1) (nx := 39) (by decide +kernel) rfl rfl (ls' := [some (vR x0), some (vI x1), some (vI x2), some (vI (x3 + 1)), none]) rfl ?_
        refine g_44 (a := 0) (b := 2) (nx := 42) (by decide +kernel) ?_
        exact h
      · rw [if_neg c4] at h
        refine g_40t (a := 1) (b := 34) (nx := 30) (by decide +kernel) r3 (by exact (cb_1 _ _).mpr c4) ?_
        refine g_1 (a := 0) (b := 0) (nx := 35) (by decide +kernel) ?_
        refine g_62 (a := 0) (b := 0) (nx := 36) (by decide +kernel) h.1 ?_
        replace h := h.2
        refine g_11 (a := 3) (b := 1) (nx := 39) (by decide +kernel) rfl rfl (ls' := [some (vR x0), some (vI x1), some (vI x2), some (vI (x3 + 1)), none]) rfl ?_
        refine g_44 (a := 0) (b := 2) (nx := 42) (by decide +kernel) ?_
        exact h
theorem t_100_44 {x0 x1 x2 x3 : Int} {l4 : Option AV} {M : Mem} {Q : AV → Mem → Prop} (h0 : gO 6 x0) (h : inR x3 ∧ (inR x1 ∧ (if x1 < x3 then (WR 100 128 [some (vR x0), some (vI x1), some (vI x2), some (vI 0), some (vI 0)] [] M Q) else (WR 100 52 [some (vR x0), some (vI x1), some (vI x2), some (vI x3), some (vI 0)] [] M Q)))) : WR 100 44 [some (vR x0), some (vI x1), some (vI x2), some (vI x3), l4] [] M Q := by
  refine g_5 (a := 3) (b := 0) (nx := 45) (by decide +kernel) rfl ?_
  refine g_5 (a := 1) (b := 0) (nx := 46) (by decide +kernel) rfl ?_
  obtain ⟨r1, h⟩ := h
  obtain ⟨r2, h⟩ := h
  by_cases c3 : x1 < x3
  · rw [if_pos c3] at h
    refine g_41t (a := 4) (b := 123) (nx := 49) (by decide +kernel) (by rw [wr_id r1, wr_id r2]; exact (cb_4 _ _).mpr c3) ?_
    refine g_1 (a := 0) (b := 0) (nx := 124) (by decide +kernel) ?_
    refine g_8 (a := 3) (b := 0) (nx := 125) (by decide +kernel) rfl (ls' := [some (vR x0), some (vI x1), some (vI x2), some (vI 0), l4]) rfl ?_
    refine g_1 (a := 0) (b := 0) (nx := 126) (by decide +kernel) ?_
    refine g_8 (a := 4) (b := 0) (nx := 128) (by decide +kernel) rfl (ls' := [some (vR x0), some (vI x1), some (vI x2), some (vI 0), some (vI 0)]) rfl ?_
    exact h
  · rw [if_neg c3] at h
    refine g_41f (a := 4) (b := 123) (nx := 49) (by decide +kernel) (by rw [wr_id r1, wr_id r2]; exact fun hz => c3 ((cb_4 _ _).mp hz)) ?_
    refine g_1 (a := 0) (b := 0) (nx := 50) (by decide +kernel) ?_
    refine g_8 (a := 4) (b := 0) (nx := 52) (by decide +kernel) rfl (ls' := [some (vR x0), some (vI x1), some (vI x2), some (vI x3), some (vI 0)]) rfl ?_
    exact h
theorem t_100_52 {x0 x1 x2 x3 x4 : Int} {M : Mem} {Q : AV → Mem → Prop} (h0 : gO 6 x0) (h : inR x4 ∧ (if 16 ≤ x4 then ((gCp (M x0 5) (M x0 4) 0 0 16) ∧ WR 100 44 [some (vR x0), some (vI x1), some (vI x2), some (vI (x3 + 1)), some (vI x4)] [] (cpM M (M x0 5) (M x0 4) 0 0 16) Q) else (inR (M x0 6) ∧ (if (M x0 6) ≤ x4 then ((gA 20 (M x0 5) x4) ∧ WR 100 52 [some (vR x0), some (vI x1), some (vI x2), some (vI x3), some (vI (x4 + 1))] [] (upM M (M x0 5) x4 0) Q) else ((gA 21 (M x0 2) x4 ∨ gA 22 (M x0 2) x4) ∧ inR (M (M x0 2) x4) ∧ (if (M (M x0 2) x4) = 0 then (WI 101 [vR x0, vI x4, vI x2] M (fun y5 M4 => (gA 20 (M x0 5) x4) ∧ WR 100 52 [some (vR x0), some (vI x1), some (vI x2), some (vI x3), some (vI (x4 + 1))] [] (upM M4 (M x0 5) x4 y5) Q)) else ((gA 20 (M x0 5) x4) ∧ WR 100 52 [some (vR x0), some (vI x1), some (vI x2), some (vI x3), some (vI (x4 + 1))] [] (upM M (M x0 5) x4 0) Q))))))) : WR 100 52 [some (vR x0), some (vI x1), some (vI x2), some (vI x3), some (vI x4)] [] M Q := by
  refine g_5 (a := 4) (b := 0) (nx := 54) (by decide +kernel) rfl ?_
  refine g_1 (a := 16) (b := 0) (nx := 56) (by decide +kernel) ?_
  obtain ⟨r1, h⟩ := h
  by_cases c8 : 16 ≤ x4
  · rw [if_pos c8] at h
    refine g_41t (a := 3) (b := 102) (nx := 59) (by decide +kernel) (by rw [wr_id r1, wr_id (show inR 16 by decide)]; exact (cb_3 _ _).mpr c8) ?_
    refine g_7 (a := 0) (b := 0) (nx := 103) (by decide +kernel) rfl ?_
    refine g_52 (a := 6) (b := 5) (nx := 106) (by decide +kernel) h0 ?_
    refine g_1 (a := 0) (b := 0) (nx := 107) (by decide +kernel) ?_
    refine g_7 (a := 0) (b := 0) (nx := 108) (by decide +kernel) rfl ?_
    refine g_52 (a := 6) (b := 4) (nx := 111) (by decide +kernel) h0 ?_
    refine g_1 (a := 0) (b := 0) (nx := 112) (by decide +kernel) ?_
    refine g_1 (a := 16) (b := 0) (nx := 114) (by decide +kernel) ?_
    refine g_87 (a := 0) (b := 0) (nx := 117) (by decide +kernel) h.1 (Nat.le_of_ble_eq_true rfl) ?_
    replace h := h.2
    refine g_11 (a := 3) (b := 1) (nx := 120) (by decide +kernel) rfl rfl (ls' := [some (vR x0), some (vI x1), some (vI x2), some (vI (x3 + 1)), some (vI x4)]) rfl ?_
    refine g_44 (a := 0) (b := 44) (nx := 123) (by decide +kernel) ?_
    exact h
  · rw [if_neg c8] at h
    refine g_41f (a := 3) (b := 102) (nx := 59) (by decide +kernel) (by rw [wr_id r1, wr_id (show inR 16 by decide)]; exact fun hz => c8 ((cb_3 _ _).mp hz)) ?_
    refine g_7 (a := 0) (b := 0) (nx := 60) (by decide +kernel) rfl ?_
    refine g_52 (a := 6) (b := 5) (nx := 63) (by decide +kernel) h0 ?_
    refine g_5 (a := 4) (b := 0) (nx := 65) (by decide +kernel) rfl ?_
    refine g_5 (a := 4) (b := 0) (nx := 67) (by decide +kernel) rfl ?_
    refine g_7 (a := 0) (b := 0) (nx := 68) (by decide +kernel) rfl ?_
    refine g_50 (a := 6) (b := 6) (nx := 71) (by decide +kernel) h0 ?_
    obtain ⟨r2, h⟩ := h
    by_cases c7 : (M x0 6) ≤ x4
    · rw [if_pos c7] at h
      refine g_41t (a := 3) (b := 94) (nx := 74) (by decide +kernel) (by rw [wr_id r1, wr_id r2]; exact (cb_3 _ _).mpr c7) ?_
      refine g_1 (a := 0) (b := 0) (nx := 95) (by decide +kernel) ?_
      refine g_62 (a := 0) (b := 0) (nx := 96) (by decide +kernel) h.1 ?_
      replace h := h.2
      refine g_11 (a := 4) (b := 1) (nx := 99) (by decide +kernel) rfl rfl (ls' := [some (vR x0), some (vI x1), some (vI x2), some (vI x3), some (vI (x4 + 1))]) rfl ?_
      refine g_44 (a := 0) (b := 52) (nx := 102) (by decide +kernel) ?_
      exact h
    · rw [if_neg c7] at h
      refine g_41f (a := 3) (b := 94) (nx := 74) (by decide +kernel) (by rw [wr_id r1, wr_id r2]; exact fun hz => c7 ((cb_3 _ _).mp hz)) ?_
      refine g_7 (a := 0) (b := 0) (nx := 75) (by decide +kernel) rfl ?_
      refine g_52 (a := 6) (b := 2) (nx := 78) (by decide +kernel) h0 ?_
      refine g_5 (a := 4) (b := 0) (nx := 80) (by decide +kernel) rfl ?_
      refine g_63 (a := 0) (b := 0) (nx := 81) (by decide +kernel) h.1 ?_
      replace h := h.2
      obtain ⟨r3, h⟩ := h
      by_cases c6 : (M (M x0 2) x4) = 0
      · rw [if_pos c6] at h
        refine g_40f (a := 1) (b := 94) (nx := 84) (by decide +kernel) r3 (by exact fun hz => ((cb_1 _ _).mp hz) c6) ?_
        refine g_7 (a := 0) (b := 0) (nx := 85) (by decide +kernel) rfl ?_
        refine g_5 (a := 4) (b := 0) (nx := 87) (by decide +kernel) rfl ?_
        refine g_5 (a := 2) (b := 0) (nx := 88) (by decide +kernel) rfl ?_
        refine g_80 (a := 101) (b := 2) (nx := 91) (by decide +kernel) (r := x0) (As := [vI x4, vI x2]) (st' := [vI x4, vR (M x0 5)]) (z := 101) rfl rfl rfl (Nat.le_of_ble_eq_true rfl) h0.2 (Nat.le_of_ble_eq_true rfl) rfl (c_I (by decide +kernel) h (fun y5 M4 h => ?_))
        refine g_44 (a := 0) (b := 95) (nx := 94) (by decide +kernel) ?_
        refine g_62 (a := 0) (b := 0) (nx := 96) (by decide +kernel) h.1 ?_
        replace h := h.2
        refine g_11 (a := 4) (b := 1) (nx := 99) (by decide +kernel) rfl rfl (ls' := [some (vR x0), some (vI x1), some (vI x2), some (vI x3), some (vI (x4 + 1))]) rfl ?_
        refine g_44 (a := 0) (b := 52) (nx := 102) (by decide +kernel) ?_
        exact h
      · rw [if_neg c6] at h
        refine g_40t (a := 1) (b := 94) (nx := 84) (by decide +kernel) r3 (by exact (cb_1 _ _).mpr c6) ?_
        refine g_1 (a := 0) (b := 0) (nx := 95) (by decide +kernel) ?_
        refine g_62 (a := 0) (b := 0) (nx := 96) (by decide +kernel) h.1 ?_
        replace h := h.2
        refine g_11 (a := 4) (b := 1) (nx := 99) (by decide +kernel) rfl rfl (ls' := [some (vR x0), some (vI x1), some (vI x2), some (vI x3), some (vI (x4 + 1))]) rfl ?_
        refine g_44 (a := 0) (b := 52) (nx := 102) (by decide +kernel) ?_
        exact h
theorem t_100_128 {x0 x1 x2 x3 x4 : Int} {M : Mem} {Q : AV → Mem → Prop} (h0 : gO 6 x0) (h : inR x4 ∧ (if 16 ≤ x4 then (Q (vI x3) M) else ((gA 20 (M x0 4) x4) ∧ WR 100 128 [some (vR x0), some (vI x1), some (vI x2), some (vI (x3 + (M (M x0 4) x4))), some (vI (x4 + 1))] [] M Q))) : WR 100 128 [some (vR x0), some (vI x1), some (vI x2), some (vI x3), some (vI x4)] [] M Q := by
  refine g_5 (a := 4) (b := 0) (nx := 130) (by decide +kernel) rfl ?_
  refine g_1 (a := 16) (b := 0) (nx := 132) (by decide +kernel) ?_
  obtain ⟨r1, h⟩ := h
  by_cases c2 : 16 ≤ x4
  · rw [if_pos c2] at h
    refine g_41t (a := 3) (b := 151) (nx := 135) (by decide +kernel) (by rw [wr_id r1, wr_id (show inR 16 by decide)]; exact (cb_3 _ _).mpr c2) ?_
    refine g_5 (a := 3) (b := 0) (nx := 152) (by decide +kernel) rfl ?_
    exact g_91 (b := 0) (nx := 153) (by decide +kernel) h
  · rw [if_neg c2] at h
    refine g_41f (a := 3) (b := 151) (nx := 135) (by decide +kernel) (by rw [wr_id r1, wr_id (show inR 16 by decide)]; exact fun hz => c2 ((cb_3 _ _).mp hz)) ?_
    refine g_5 (a := 3) (b := 0) (nx := 136) (by decide +kernel) rfl ?_
    refine g_7 (a := 0) (b := 0) (nx := 137) (by decide +kernel) rfl ?_
    refine g_52 (a := 6) (b := 4) (nx := 140) (by decide +kernel) h0 ?_
    refine g_5 (a := 4) (b := 0) (nx := 142) (by decide +kernel) rfl ?_
    refine g_61 (a := 0) (b := 0) (nx := 143) (by decide +kernel) h.1 ?_
    replace h := h.2
    refine g_15 (a := 0) (b := 0) (nx := 144) (by decide +kernel) ?_
    refine g_8 (a := 3) (b := 0) (nx := 145) (by decide +kernel) rfl (ls' := [some (vR x0), some (vI x1), some (vI x2), some (vI (x3 + (M (M x0 4) x4))), some (vI x4)]) rfl ?_
    refine g_11 (a := 4) (b := 1) (nx := 148) (by decide +kernel) rfl rfl (ls' := [some (vR x0), some (vI x1), some (vI x2), some (vI (x3 + (M (M x0 4) x4))), some (vI (x4 + 1))]) rfl ?_
    refine g_44 (a := 0) (b := 128) (nx := 151) (by decide +kernel) ?_
    exact h
-- 101 SyllableMaker$Sounds.chainsBefore(II)I
theorem t_101 {x0 x1 x2 : Int} {M : Mem} {Q : AV → Mem → Prop} (h0 : gO 6 x0) (h : WR 101 5 [some (vR x0), some (vI x1), some (vI x2), some (vI 0), some (vI 0)] [] M Q) : WC 101 [vR x0, vI x1, vI x2] M Q := by
  show WR 101 0 [some (vR x0), some (vI x1), some (vI x2), none, none] [] M Q
  refine g_1 (a := 0) (b := 0) (nx := 1) (by decide +kernel) ?_
  refine g_8 (a := 3) (b := 0) (nx := 2) (by decide +kernel) rfl (ls' := [some (vR x0), some (vI x1), some (vI x2), some (vI 0), none]) rfl ?_
  refine g_1 (a := 0) (b := 0) (nx := 3) (by decide +kernel) ?_
  refine g_8 (a := 4) (b := 0) (nx := 5) (by decide +kernel) rfl (ls' := [some (vR x0), some (vI x1), some (vI x2), some (vI 0), some (vI 0)]) rfl ?_
  exact h
theorem t_101_5 {x0 x1 x2 x3 x4 : Int} {M : Mem} {Q : AV → Mem → Prop} (h0 : gO 6 x0) (h : inR x4 ∧ (inR (M x0 6) ∧ (if (M x0 6) ≤ x4 then (Q (vI x3) M) else (if 16 ≤ x4 then (Q (vI x3) M) else (WI 93 [vR x0, vI x1] M (fun y4 M3 => WI 93 [vR x0, vI x4] M3 (fun y6 M5 => inR (y4 - y6) ∧ (inR x2 ∧ (if (y4 - y6) < x2 then (WR 101 5 [some (vR x0), some (vI x1), some (vI x2), some (vI x3), some (vI (x4 + 1))] [] M5 Q) else ((gA 20 (M5 x0 4) x4) ∧ WR 101 5 [some (vR x0), some (vI x1), some (vI x2), some (vI (x3 + (M5 (M5 x0 4) x4))), some (vI (x4 + 1))] [] M5 Q)))))))))) : WR 101 5 [some (vR x0), some (vI x1), some (vI x2), some (vI x3), some (vI x4)] [] M Q := by
  refine g_5 (a := 4) (b := 0) (nx := 7) (by decide +kernel) rfl ?_
  refine g_7 (a := 0) (b := 0) (nx := 8) (by decide +kernel) rfl ?_
  refine g_50 (a := 6) (b := 6) (nx := 11) (by decide +kernel) h0 ?_
  obtain ⟨r1, h⟩ := h
  obtain ⟨r2, h⟩ := h
  by_cases c11 : (M x0 6) ≤ x4
  · rw [if_pos c11] at h
    refine g_41t (a := 3) (b := 53) (nx := 14) (by decide +kernel) (by rw [wr_id r1, wr_id r2]; exact (cb_3 _ _).mpr c11) ?_
    refine g_5 (a := 3) (b := 0) (nx := 54) (by decide +kernel) rfl ?_
    exact g_91 (b := 0) (nx := 55) (by decide +kernel) h
  · rw [if_neg c11] at h
    refine g_41f (a := 3) (b := 53) (nx := 14) (by decide +kernel) (by rw [wr_id r1, wr_id r2]; exact fun hz => c11 ((cb_3 _ _).mp hz)) ?_
    refine g_5 (a := 4) (b := 0) (nx := 16) (by decide +kernel) rfl ?_
    refine g_1 (a := 16) (b := 0) (nx := 18) (by decide +kernel) ?_
    by_cases c10 : 16 ≤ x4
    · rw [if_pos c10] at h
      refine g_41t (a := 3) (b := 53) (nx := 21) (by decide +kernel) (by rw [wr_id r1, wr_id (show inR 16 by decide)]; exact (cb_3 _ _).mpr c10) ?_
      refine g_5 (a := 3) (b := 0) (nx := 54) (by decide +kernel) rfl ?_
      exact g_91 (b := 0) (nx := 55) (by decide +kernel) h
    · rw [if_neg c10] at h
      refine g_41f (a := 3) (b := 53) (nx := 21) (by decide +kernel) (by rw [wr_id r1, wr_id (show inR 16 by decide)]; exact fun hz => c10 ((cb_3 _ _).mp hz)) ?_
      refine g_7 (a := 0) (b := 0) (nx := 22) (by decide +kernel) rfl ?_
      refine g_5 (a := 1) (b := 0) (nx := 23) (by decide +kernel) rfl ?_
      refine g_80 (a := 93) (b := 1) (nx := 26) (by decide +kernel) (r := x0) (As := [vI x1]) (st' := []) (z := 93) rfl rfl rfl (Nat.le_of_ble_eq_true rfl) h0.2 (Nat.le_of_ble_eq_true rfl) rfl (c_I (by decide +kernel) h (fun y4 M3 h => ?_))
      refine g_7 (a := 0) (b := 0) (nx := 27) (by decide +kernel) rfl ?_
      refine g_5 (a := 4) (b := 0) (nx := 29) (by decide +kernel) rfl ?_
      refine g_80 (a := 93) (b := 1) (nx := 32) (by decide +kernel) (r := x0) (As := [vI x4]) (st' := [vI y4]) (z := 93) rfl rfl rfl (Nat.le_of_ble_eq_true rfl) h0.2 (Nat.le_of_ble_eq_true rfl) rfl (c_I (by decide +kernel) h (fun y6 M5 h => ?_))
      refine g_16 (a := 0) (b := 0) (nx := 33) (by decide +kernel) ?_
      refine g_5 (a := 2) (b := 0) (nx := 34) (by decide +kernel) rfl ?_
      obtain ⟨r7, h⟩ := h
      obtain ⟨r8, h⟩ := h
      by_cases c9 : (y4 - y6) < x2
      · rw [if_pos c9] at h
        refine g_41t (a := 2) (b := 47) (nx := 37) (by decide +kernel) (by rw [wr_id r7, wr_id r8]; exact (cb_2 _ _).mpr c9) ?_
        refine g_11 (a := 4) (b := 1) (nx := 50) (by decide +kernel) rfl rfl (ls' := [some (vR x0), some (vI x1), some (vI x2), some (vI x3), some (vI (x4 + 1))]) rfl ?_
        refine g_44 (a := 0) (b := 5) (nx := 53) (by decide +kernel) ?_
        exact h
      · rw [if_neg c9] at h
        refine g_41f (a := 2) (b := 47) (nx := 37) (by decide +kernel) (by rw [wr_id r7, wr_id r8]; exact fun hz => c9 ((cb_2 _ _).mp hz)) ?_
        refine g_5 (a := 3) (b := 0) (nx := 38) (by decide +kernel) rfl ?_
        refine g_7 (a := 0) (b := 0) (nx := 39) (by decide +kernel) rfl ?_
        refine g_52 (a := 6) (b := 4) (nx := 42) (by decide +kernel) h0 ?_
        refine g_5 (a := 4) (b := 0) (nx := 44) (by decide +kernel) rfl ?_
        refine g_61 (a := 0) (b := 0) (nx := 45) (by decide +kernel) h.1 ?_
        replace h := h.2
        refine g_15 (a := 0) (b := 0) (nx := 46) (by decide +kernel) ?_
        refine g_8 (a := 3) (b := 0) (nx := 47) (by decide +kernel) rfl (ls' := [some (vR x0), some (vI x1), some (vI x2), some (vI (x3 + (M5 (M5 x0 4) x4))), some (vI x4)]) rfl ?_
        refine g_11 (a := 4) (b := 1) (nx := 50) (by decide +kernel) rfl rfl (ls' := [some (vR x0), some (vI x1), some (vI x2), some (vI (x3 + (M5 (M5 x0 4) x4))), some (vI (x4 + 1))]) rfl ?_
        refine g_44 (a := 0) (b := 5) (nx := 53) (by decide +kernel) ?_
        exact h
-- 103 SyllableMaker$Speech.takeSpare()V
theorem t_103 {x0 : Int} {M : Mem} {Q : AV → Mem → Prop} (h0 : gO 7 x0) (h : (0 ≤ (M x0 1)) ∧ (0 ≤ (M x0 2)) ∧ Q (vI 0) (upM (upM M x0 2 (M x0 1)) x0 1 (M x0 2))) : WC 103 [vR x0] M Q := by
  show WR 103 0 [some (vR x0), none] [] M Q
  refine g_7 (a := 0) (b := 0) (nx := 1) (by decide +kernel) rfl ?_
  refine g_52 (a := 7) (b := 2) (nx := 4) (by decide +kernel) h0 ?_
  refine g_10 (a := 1) (b := 0) (nx := 5) (by decide +kernel) rfl (ls' := [some (vR x0), some (vR (M x0 2))]) rfl ?_
  refine g_7 (a := 0) (b := 0) (nx := 6) (by decide +kernel) rfl ?_
  refine g_7 (a := 0) (b := 0) (nx := 7) (by decide +kernel) rfl ?_
  refine g_52 (a := 7) (b := 1) (nx := 10) (by decide +kernel) h0 ?_
  refine g_55 (a := 7) (b := 2) (nx := 13) (by decide +kernel) h0 h.1 ?_
  replace h := h.2
  refine g_7 (a := 0) (b := 0) (nx := 14) (by decide +kernel) rfl ?_
  refine g_7 (a := 1) (b := 0) (nx := 15) (by decide +kernel) rfl ?_
  refine g_55 (a := 7) (b := 1) (nx := 18) (by decide +kernel) h0 h.1 ?_
  replace h := h.2
  exact g_90 (a := 0) (b := 0) (nx := 19) (by decide +kernel) h
-- 104 SyllableMaker$Speech.hasSyllables()Z
theorem t_104 {x0 : Int} {M : Mem} {Q : AV → Mem → Prop} (h0 : gO 7 x0) (h : WR 104 2 [some (vR x0), some (vI 0), none] [] M Q) : WC 104 [vR x0] M Q := by
  show WR 104 0 [some (vR x0), none, none] [] M Q
  refine g_1 (a := 0) (b := 0) (nx := 1) (by decide +kernel) ?_
  refine g_8 (a := 1) (b := 0) (nx := 2) (by decide +kernel) rfl (ls' := [some (vR x0), some (vI 0), none]) rfl ?_
  exact h
theorem t_104_2 {x0 x1 : Int} {l2 : Option AV} {M : Mem} {Q : AV → Mem → Prop} (h0 : gO 7 x0) (h : (gO 10 (M x0 1)) ∧ inR x1 ∧ (inR (M (M x0 1) 2) ∧ (if (M (M x0 1) 2) ≤ x1 then (Q (vI 0) M) else (((shA SH (M x0 1)).1 = 10) ∧ WF 136 [vR (M x0 1), vI x1] M (fun y4 M3 => y4 ≠ -1000 ∧ (if y4 = 0 then (WR 104 2 [some (vR x0), some (vI (x1 + 1)), some (vR y4)] [] M3 Q) else ((gO 5 y4) ∧ (in64 (M3 y4 2) ∧ in64 0) ∧ inR (if (M3 y4 2) < 0 then -1 else if (M3 y4 2) = 0 then 0 else 1) ∧ (if (if (M3 y4 2) < 0 then -1 else if (M3 y4 2) = 0 then 0 else 1) = 0 then (WR 104 2 [some (vR x0), some (vI (x1 + 1)), some (vR y4)] [] M3 Q) else (Q (vI 1) M3))))))))) : WR 104 2 [some (vR x0), some (vI x1), l2] [] M Q := by
  refine g_5 (a := 1) (b := 0) (nx := 3) (by decide +kernel) rfl ?_
  refine g_7 (a := 0) (b := 0) (nx := 4) (by decide +kernel) rfl ?_
  refine g_52 (a := 7) (b := 1) (nx := 7) (by decide +kernel) h0 ?_
  refine g_50 (a := 10) (b := 2) (nx := 10) (by decide +kernel) h.1 ?_
  replace h := h.2
  obtain ⟨r1, h⟩ := h
  obtain ⟨r2, h⟩ := h
  by_cases c8 : (M (M x0 1) 2) ≤ x1
  · rw [if_pos c8] at h
    refine g_41t (a := 3) (b := 43) (nx := 13) (by decide +kernel) (by rw [wr_id r1, wr_id r2]; exact (cb_3 _ _).mpr c8) ?_
    refine g_1 (a := 0) (b := 0) (nx := 44) (by decide +kernel) ?_
    exact g_91z (b := 0) (nx := 45) (by decide +kernel) (by decide) h
  · rw [if_neg c8] at h
    refine g_41f (a := 3) (b := 43) (nx := 13) (by decide +kernel) (by rw [wr_id r1, wr_id r2]; exact fun hz => c8 ((cb_3 _ _).mp hz)) ?_
    refine g_7 (a := 0) (b := 0) (nx := 14) (by decide +kernel) rfl ?_
    refine g_52 (a := 7) (b := 1) (nx := 17) (by decide +kernel) h0 ?_
    refine g_5 (a := 1) (b := 0) (nx := 18) (by decide +kernel) rfl ?_
    refine g_80 (a := 136) (b := 1) (nx := 21) (by decide +kernel) (r := (M x0 1)) (As := [vI x1]) (st' := []) (z := 136) rfl rfl rfl (Nat.le_of_ble_eq_true rfl) h.1 (Nat.le_of_ble_eq_true rfl) rfl (c_R (by decide +kernel) h.2 (fun y4 M3 h => ?_))
    refine g_10 (a := 2) (b := 0) (nx := 22) (by decide +kernel) rfl (ls' := [some (vR x0), some (vI x1), some (vR y4)]) rfl ?_
    refine g_7 (a := 2) (b := 0) (nx := 23) (by decide +kernel) rfl ?_
    obtain ⟨q0, h⟩ := h
    by_cases c7 : y4 = 0
    · rw [if_pos c7] at h
      refine g_42t (a := 0) (b := 37) (nx := 26) (by decide +kernel) c7 ?_
      refine g_11 (a := 1) (b := 1) (nx := 40) (by decide +kernel) rfl rfl (ls' := [some (vR x0), some (vI (x1 + 1)), some (vR y4)]) rfl ?_
      refine g_44 (a := 0) (b := 2) (nx := 43) (by decide +kernel) ?_
      exact h
    · rw [if_neg c7] at h
      refine g_42f (a := 0) (b := 37) (nx := 26) (by decide +kernel) q0 c7 ?_
      refine g_7 (a := 2) (b := 0) (nx := 27) (by decide +kernel) rfl ?_
      refine g_51 (a := 5) (b := 2) (nx := 30) (by decide +kernel) h.1 ?_
      replace h := h.2
      refine g_2 (a := 0) (b := 0) (nx := 31) (by decide +kernel) ?_
      refine g_34 (a := 0) (b := 0) (nx := 32) (by decide +kernel) h.1 ?_
      replace h := h.2
      obtain ⟨r5, h⟩ := h
      by_cases c6 : (if (M3 y4 2) < 0 then -1 else if (M3 y4 2) = 0 then 0 else 1) = 0
      · rw [if_pos c6] at h
        refine g_40t (a := 0) (b := 37) (nx := 35) (by decide +kernel) r5 (by exact (cb_0 _ _).mpr c6) ?_
        refine g_11 (a := 1) (b := 1) (nx := 40) (by decide +kernel) rfl rfl (ls' := [some (vR x0), some (vI (x1 + 1)), some (vR y4)]) rfl ?_
        refine g_44 (a := 0) (b := 2) (nx := 43) (by decide +kernel) ?_
        exact h
      · rw [if_neg c6] at h
        refine g_40f (a := 0) (b := 37) (nx := 35) (by decide +kernel) r5 (by exact fun hz => c6 ((cb_0 _ _).mp hz)) ?_
        refine g_1 (a := 1) (b := 0) (nx := 36) (by decide +kernel) ?_
        exact g_91z (b := 0) (nx := 37) (by decide +kernel) (by decide) h
-- 105 SyllableMaker$Speech.goingOver(LSyllableMaker$Law;I)I
theorem t_105 {x0 x1 x2 : Int} {M : Mem} {Q : AV → Mem → Prop} (h0 : gO 7 x0) (h : ((shA SH (M x0 1)).1 = 10) ∧ WF 136 [vR (M x0 1), vI (x2 - 1)] M (fun y2 M1 => ((shA SH (M1 x0 1)).1 = 10) ∧ WF 136 [vR (M1 x0 1), vI x2] M1 (fun y4 M3 => y2 ≠ -1000 ∧ (if y2 = 0 then (Q (vI 0) M3) else (y4 ≠ -1000 ∧ (if y4 = 0 then (Q (vI 0) M3) else ((gO 2 x1) ∧ ((shA SH y4).1 = 5) ∧ WI 82 [vR y4, vI 0] M3 (fun y6 M5 => ((shA SH (M3 x1 0)).1 = 6) ∧ WI 94 [vR (M3 x1 0), vI y6] M5 (fun y8 M7 => inR y8 ∧ (if y8 = 0 then (Q (vI 0) M7) else (((shA SH (M7 x0 0)).1 = 1) ∧ WV 11 [vR (M7 x0 0), vR x1, vR y2] M7 (fun M10 => (gO 1 (M10 x0 0)) ∧ inR (M10 (M10 x0 0) 9) ∧ (if (M10 (M10 x0 0) 9) = 0 then (Q (vI 0) M10) else ((gO 2 x1) ∧ (gO 1 (M10 x0 0)) ∧ ((shA SH (M10 x0 0)).1 = 1) ∧ WI 27 [vR (M10 x0 0), vI ((M10 (M10 x0 0) 9) - 1)] M10 (fun y14 M13 => (inR (M10 x1 17) ∧ inR y14) ∧ WR 105 94 [some (vR x0), some (vR x1), some (vI x2), some (vR y2), some (vR y4), some (vI (min (M10 x1 17) y14))] [] M13 Q))))))))))))))) : WC 105 [vR x0, vR x1, vI x2] M Q := by
  show WR 105 0 [some (vR x0), some (vR x1), some (vI x2), none, none, none] [] M Q
  refine g_7 (a := 0) (b := 0) (nx := 1) (by decide +kernel) rfl ?_
  refine g_52 (a := 7) (b := 1) (nx := 4) (by decide +kernel) h0 ?_
  refine g_5 (a := 2) (b := 0) (nx := 5) (by decide +kernel) rfl ?_
  refine g_1 (a := 1) (b := 0) (nx := 6) (by decide +kernel) ?_
  refine g_16 (a := 0) (b := 0) (nx := 7) (by decide +kernel) ?_
  refine g_80 (a := 136) (b := 1) (nx := 10) (by decide +kernel) (r := (M x0 1)) (As := [vI (x2 - 1)]) (st' := []) (z := 136) rfl rfl rfl (Nat.le_of_ble_eq_true rfl) h.1 (Nat.le_of_ble_eq_true rfl) rfl (c_R (by decide +kernel) h.2 (fun y2 M1 h => ?_))
  refine g_10 (a := 3) (b := 0) (nx := 11) (by decide +kernel) rfl (ls' := [some (vR x0), some (vR x1), some (vI x2), some (vR y2), none, none]) rfl ?_
  refine g_7 (a := 0) (b := 0) (nx := 12) (by decide +kernel) rfl ?_
  refine g_52 (a := 7) (b := 1) (nx := 15) (by decide +kernel) h0 ?_
  refine g_5 (a := 2) (b := 0) (nx := 16) (by decide +kernel) rfl ?_
  refine g_80 (a := 136) (b := 1) (nx := 19) (by decide +kernel) (r := (M1 x0 1)) (As := [vI x2]) (st' := []) (z := 136) rfl rfl rfl (Nat.le_of_ble_eq_true rfl) h.1 (Nat.le_of_ble_eq_true rfl) rfl (c_R (by decide +kernel) h.2 (fun y4 M3 h => ?_))
  refine g_10 (a := 4) (b := 0) (nx := 21) (by decide +kernel) rfl (ls' := [some (vR x0), some (vR x1), some (vI x2), some (vR y2), some (vR y4), none]) rfl ?_
  refine g_7 (a := 3) (b := 0) (nx := 22) (by decide +kernel) rfl ?_
  obtain ⟨q0, h⟩ := h
  by_cases c18 : y2 = 0
  · rw [if_pos c18] at h
    refine g_42t (a := 0) (b := 46) (nx := 25) (by decide +kernel) c18 ?_
    refine g_1 (a := 0) (b := 0) (nx := 47) (by decide +kernel) ?_
    exact g_91 (b := 0) (nx := 48) (by decide +kernel) h
  · rw [if_neg c18] at h
    refine g_42f (a := 0) (b := 46) (nx := 25) (by decide +kernel) q0 c18 ?_
    refine g_7 (a := 4) (b := 0) (nx := 27) (by decide +kernel) rfl ?_
    obtain ⟨q0, h⟩ := h
    by_cases c17 : y4 = 0
    · rw [if_pos c17] at h
      refine g_42t (a := 0) (b := 46) (nx := 30) (by decide +kernel) c17 ?_
      refine g_1 (a := 0) (b := 0) (nx := 47) (by decide +kernel) ?_
      exact g_91 (b := 0) (nx := 48) (by decide +kernel) h
    · rw [if_neg c17] at h
      refine g_42f (a := 0) (b := 46) (nx := 30) (by decide +kernel) q0 c17 ?_
      refine g_7 (a := 1) (b := 0) (nx := 31) (by decide +kernel) rfl ?_
      refine g_52 (a := 2) (b := 0) (nx := 34) (by decide +kernel) h.1 ?_
      replace h := h.2
      refine g_7 (a := 4) (b := 0) (nx := 36) (by decide +kernel) rfl ?_
      refine g_1 (a := 0) (b := 0) (nx := 37) (by decide +kernel) ?_
      refine g_80 (a := 82) (b := 1) (nx := 40) (by decide +kernel) (r := y4) (As := [vI 0]) (st' := [vR (M3 x1 0)]) (z := 82) rfl rfl rfl (Nat.le_of_ble_eq_true rfl) h.1 (Nat.le_of_ble_eq_true rfl) rfl (c_I (by decide +kernel) h.2 (fun y6 M5 h => ?_))
      refine g_80 (a := 94) (b := 1) (nx := 43) (by decide +kernel) (r := (M3 x1 0)) (As := [vI y6]) (st' := []) (z := 94) rfl rfl rfl (Nat.le_of_ble_eq_true rfl) h.1 (Nat.le_of_ble_eq_true rfl) rfl (c_I (by decide +kernel) h.2 (fun y8 M7 h => ?_))
      obtain ⟨r9, h⟩ := h
      by_cases c16 : y8 = 0
      · rw [if_pos c16] at h
        refine g_40f (a := 1) (b := 48) (nx := 46) (by decide +kernel) r9 (by exact fun hz => ((cb_1 _ _).mp hz) c16) ?_
        refine g_1 (a := 0) (b := 0) (nx := 47) (by decide +kernel) ?_
        exact g_91 (b := 0) (nx := 48) (by decide +kernel) h
      · rw [if_neg c16] at h
        refine g_40t (a := 1) (b := 48) (nx := 46) (by decide +kernel) r9 (by exact (cb_1 _ _).mpr c16) ?_
        refine g_7 (a := 0) (b := 0) (nx := 49) (by decide +kernel) rfl ?_
        refine g_52 (a := 7) (b := 0) (nx := 52) (by decide +kernel) h0 ?_
        refine g_7 (a := 1) (b := 0) (nx := 53) (by decide +kernel) rfl ?_
        refine g_7 (a := 3) (b := 0) (nx := 54) (by decide +kernel) rfl ?_
        refine g_80 (a := 11) (b := 2) (nx := 57) (by decide +kernel) (r := (M7 x0 0)) (As := [vR x1, vR y2]) (st' := []) (z := 11) rfl rfl rfl (Nat.le_of_ble_eq_true rfl) h.1 (Nat.le_of_ble_eq_true rfl) rfl (c_V (by decide +kernel) h.2 (fun M10 h => ?_))
        refine g_7 (a := 0) (b := 0) (nx := 58) (by decide +kernel) rfl ?_
        refine g_52 (a := 7) (b := 0) (nx := 61) (by decide +kernel) h0 ?_
        refine g_50 (a := 1) (b := 9) (nx := 64) (by decide +kernel) h.1 ?_
        replace h := h.2
        obtain ⟨r12, h⟩ := h
        by_cases c15 : (M10 (M10 x0 0) 9) = 0
        · rw [if_pos c15] at h
          refine g_40f (a := 1) (b := 69) (nx := 67) (by decide +kernel) r12 (by exact fun hz => ((cb_1 _ _).mp hz) c15) ?_
          refine g_1 (a := 0) (b := 0) (nx := 68) (by decide +kernel) ?_
          exact g_91 (b := 0) (nx := 69) (by decide +kernel) h
        · rw [if_neg c15] at h
          refine g_40t (a := 1) (b := 69) (nx := 67) (by decide +kernel) r12 (by exact (cb_1 _ _).mpr c15) ?_
          refine g_7 (a := 1) (b := 0) (nx := 70) (by decide +kernel) rfl ?_
          refine g_50 (a := 2) (b := 17) (nx := 73) (by decide +kernel) h.1 ?_
          replace h := h.2
          refine g_7 (a := 0) (b := 0) (nx := 74) (by decide +kernel) rfl ?_
          refine g_52 (a := 7) (b := 0) (nx := 77) (by decide +kernel) h0 ?_
          refine g_7 (a := 0) (b := 0) (nx := 78) (by decide +kernel) rfl ?_
          refine g_52 (a := 7) (b := 0) (nx := 81) (by decide +kernel) h0 ?_
          refine g_50 (a := 1) (b := 9) (nx := 84) (by decide +kernel) h.1 ?_
          replace h := h.2
          refine g_1 (a := 1) (b := 0) (nx := 85) (by decide +kernel) ?_
          refine g_16 (a := 0) (b := 0) (nx := 86) (by decide +kernel) ?_
          refine g_80 (a := 27) (b := 1) (nx := 89) (by decide +kernel) (r := (M10 x0 0)) (As := [vI ((M10 (M10 x0 0) 9) - 1)]) (st' := [vI (M10 x1 17)]) (z := 27) rfl rfl rfl (Nat.le_of_ble_eq_true rfl) h.1 (Nat.le_of_ble_eq_true rfl) rfl (c_I (by decide +kernel) h.2 (fun y14 M13 h => ?_))
          refine g_84 (a := 0) (b := 0) (nx := 92) (by decide +kernel) h.1.1 h.1.2 (Nat.le_of_ble_eq_true rfl) ?_
          replace h := h.2
          refine g_8 (a := 5) (b := 0) (nx := 94) (by decide +kernel) rfl (ls' := [some (vR x0), some (vR x1), some (vI x2), some (vR y2), some (vR y4), some (vI (min (M10 x1 17) y14))]) rfl ?_
          exact h
theorem t_105_94 {x0 x1 x2 x3 x4 x5 : Int} {M : Mem} {Q : AV → Mem → Prop} (h0 : gO 7 x0) (h : inR x5 ∧ (if x5 ≤ 0 then (Q (vI x5) M) else ((gO 5 x3) ∧ ((shA SH x3).1 = 5) ∧ WL 83 [vR x3, vI ((M x3 1) - x5), vI x5] M (fun y3 M2 => ((shA SH x1).1 = 2) ∧ WI 48 [vR x1, vL y3] M2 (fun y5 M4 => inR y5 ∧ (if y5 = 0 then (WR 105 94 [some (vR x0), some (vR x1), some (vI x2), some (vR x3), some (vR x4), some (vI (x5 + (-1)))] [] M4 Q) else (Q (vI x5) M4))))))) : WR 105 94 [some (vR x0), some (vR x1), some (vI x2), some (vR x3), some (vR x4), some (vI x5)] [] M Q := by
  refine g_5 (a := 5) (b := 0) (nx := 96) (by decide +kernel) rfl ?_
  obtain ⟨r1, h⟩ := h
  by_cases c8 : x5 ≤ 0
  · rw [if_pos c8] at h
    refine g_40t (a := 5) (b := 125) (nx := 99) (by decide +kernel) r1 (by exact (cb_5 _ _).mpr c8) ?_
    refine g_5 (a := 5) (b := 0) (nx := 127) (by decide +kernel) rfl ?_
    exact g_91 (b := 0) (nx := 128) (by decide +kernel) h
  · rw [if_neg c8] at h
    refine g_40f (a := 5) (b := 125) (nx := 99) (by decide +kernel) r1 (by exact fun hz => c8 ((cb_5 _ _).mp hz)) ?_
    refine g_7 (a := 1) (b := 0) (nx := 100) (by decide +kernel) rfl ?_
    refine g_7 (a := 3) (b := 0) (nx := 101) (by decide +kernel) rfl ?_
    refine g_7 (a := 3) (b := 0) (nx := 102) (by decide +kernel) rfl ?_
    refine g_50 (a := 5) (b := 1) (nx := 105) (by decide +kernel) h.1 ?_
    replace h := h.2
    refine g_5 (a := 5) (b := 0) (nx := 107) (by decide +kernel) rfl ?_
    refine g_16 (a := 0) (b := 0) (nx := 108) (by decide +kernel) ?_
    refine g_5 (a := 5) (b := 0) (nx := 110) (by decide +kernel) rfl ?_
    refine g_80 (a := 83) (b := 2) (nx := 113) (by decide +kernel) (r := x3) (As := [vI ((M x3 1) - x5), vI x5]) (st' := [vR x1]) (z := 83) rfl rfl rfl (Nat.le_of_ble_eq_true rfl) h.1 (Nat.le_of_ble_eq_true rfl) rfl (c_L (by decide +kernel) h.2 (fun y3 M2 h => ?_))
    refine g_80 (a := 48) (b := 1) (nx := 116) (by decide +kernel) (r := x1) (As := [vL y3]) (st' := []) (z := 48) rfl rfl rfl (Nat.le_of_ble_eq_true rfl) h.1 (Nat.le_of_ble_eq_true rfl) rfl (c_I (by decide +kernel) h.2 (fun y5 M4 h => ?_))
    obtain ⟨r6, h⟩ := h
    by_cases c7 : y5 = 0
    · rw [if_pos c7] at h
      refine g_40f (a := 1) (b := 125) (nx := 119) (by decide +kernel) r6 (by exact fun hz => ((cb_1 _ _).mp hz) c7) ?_
      refine g_11 (a := 5) (b := (-1)) (nx := 122) (by decide +kernel) rfl rfl (ls' := [some (vR x0), some (vR x1), some (vI x2), some (vR x3), some (vR x4), some (vI (x5 + (-1)))]) rfl ?_
      refine g_44 (a := 0) (b := 94) (nx := 125) (by decide +kernel) ?_
      exact h
    · rw [if_neg c7] at h
      refine g_40t (a := 1) (b := 125) (nx := 119) (by decide +kernel) r6 (by exact (cb_1 _ _).mpr c7) ?_
      refine g_5 (a := 5) (b := 0) (nx := 127) (by decide +kernel) rfl ?_
      exact g_91 (b := 0) (nx := 128) (by decide +kernel) h
-- 106 SyllableMaker$Speech.cutPlain(LSyllableMaker$Law;I)Z
theorem t_106 {x0 x1 x2 : Int} {M : Mem} {Q : AV → Mem → Prop} (h0 : gO 7 x0) (h : ((shA SH (M x0 1)).1 = 10) ∧ WF 136 [vR (M x0 1), vI x2] M (fun y2 M1 => y2 ≠ -1000 ∧ (if y2 = 0 then (Q (vI 0) M1) else (((shA SH (M1 x0 0)).1 = 1) ∧ WV 11 [vR (M1 x0 0), vR x1, vR y2] M1 (fun M3 => ((shA SH (M3 x0 0)).1 = 1) ∧ WV 17 [vR (M3 x0 0)] M3 (fun M5 => Q (vI 1) M5)))))) : WC 106 [vR x0, vR x1, vI x2] M Q := by
  show WR 106 0 [some (vR x0), some (vR x1), some (vI x2), none] [] M Q
  refine g_7 (a := 0) (b := 0) (nx := 1) (by decide +kernel) rfl ?_
  refine g_52 (a := 7) (b := 1) (nx := 4) (by decide +kernel) h0 ?_
  refine g_5 (a := 2) (b := 0) (nx := 5) (by decide +kernel) rfl ?_
  refine g_80 (a := 136) (b := 1) (nx := 8) (by decide +kernel) (r := (M x0 1)) (As := [vI x2]) (st' := []) (z := 136) rfl rfl rfl (Nat.le_of_ble_eq_true rfl) h.1 (Nat.le_of_ble_eq_true rfl) rfl (c_R (by decide +kernel) h.2 (fun y2 M1 h => ?_))
  refine g_10 (a := 3) (b := 0) (nx := 9) (by decide +kernel) rfl (ls' := [some (vR x0), some (vR x1), some (vI x2), some (vR y2)]) rfl ?_
  refine g_7 (a := 3) (b := 0) (nx := 10) (by decide +kernel) rfl ?_
  obtain ⟨q0, h⟩ := h
  by_cases c7 : y2 = 0
  · rw [if_pos c7] at h
    refine g_43t (a := 0) (b := 15) (nx := 13) (by decide +kernel) c7 ?_
    refine g_1 (a := 0) (b := 0) (nx := 14) (by decide +kernel) ?_
    exact g_91z (b := 0) (nx := 15) (by decide +kernel) (by decide) h
  · rw [if_neg c7] at h
    refine g_43f (a := 0) (b := 15) (nx := 13) (by decide +kernel) q0 c7 ?_
    refine g_7 (a := 0) (b := 0) (nx := 16) (by decide +kernel) rfl ?_
    refine g_52 (a := 7) (b := 0) (nx := 19) (by decide +kernel) h0 ?_
    refine g_7 (a := 1) (b := 0) (nx := 20) (by decide +kernel) rfl ?_
    refine g_7 (a := 3) (b := 0) (nx := 21) (by decide +kernel) rfl ?_
    refine g_80 (a := 11) (b := 2) (nx := 24) (by decide +kernel) (r := (M1 x0 0)) (As := [vR x1, vR y2]) (st' := []) (z := 11) rfl rfl rfl (Nat.le_of_ble_eq_true rfl) h.1 (Nat.le_of_ble_eq_true rfl) rfl (c_V (by decide +kernel) h.2 (fun M3 h => ?_))
    refine g_7 (a := 0) (b := 0) (nx := 25) (by decide +kernel) rfl ?_
    refine g_52 (a := 7) (b := 0) (nx := 28) (by decide +kernel) h0 ?_
    refine g_80 (a := 17) (b := 0) (nx := 31) (by decide +kernel) (r := (M3 x0 0)) (As := []) (st' := []) (z := 17) rfl rfl rfl (Nat.le_of_ble_eq_true rfl) h.1 (Nat.le_of_ble_eq_true rfl) rfl (c_V (by decide +kernel) h.2 (fun M5 h => ?_))
    refine g_1 (a := 1) (b := 0) (nx := 32) (by decide +kernel) ?_
    exact g_91z (b := 0) (nx := 33) (by decide +kernel) (by decide) h
-- 107 SyllableMaker$Speech.cutJoined(LSyllableMaker$Law;I)Z
theorem t_107 {x0 x1 x2 : Int} {M : Mem} {Q : AV → Mem → Prop} (h0 : gO 7 x0) (h : WI 105 [vR x0, vR x1, vI x2] M (fun y2 M1 => WI 105 [vR x0, vR x1, vI (x2 + 1)] M1 (fun y4 M3 => ((shA SH (M3 x0 1)).1 = 10) ∧ WF 136 [vR (M3 x0 1), vI x2] M3 (fun y6 M5 => y6 ≠ -1000 ∧ (if y6 = 0 then (Q (vI 0) M5) else (((shA SH (M5 x0 0)).1 = 1) ∧ WV 11 [vR (M5 x0 0), vR x1, vR y6] M5 (fun M7 => ((shA SH (M7 x0 0)).1 = 1) ∧ WV 17 [vR (M7 x0 0)] M7 (fun M9 => ((shA SH (M9 x0 1)).1 = 10) ∧ WF 136 [vR (M9 x0 1), vI (x2 - 1)] M9 (fun y12 M11 => ((shA SH (M9 x0 0)).1 = 1) ∧ WV 22 [vR (M9 x0 0), vR y12, vI y2, vI y4] M11 (fun M13 => Q (vI 1) M13)))))))))) : WC 107 [vR x0, vR x1, vI x2] M Q := by
  show WR 107 0 [some (vR x0), some (vR x1), some (vI x2), none, none, none] [] M Q
  refine g_7 (a := 0) (b := 0) (nx := 1) (by decide +kernel) rfl ?_
  refine g_7 (a := 1) (b := 0) (nx := 2) (by decide +kernel) rfl ?_
  refine g_5 (a := 2) (b := 0) (nx := 3) (by decide +kernel) rfl ?_
  refine g_80 (a := 105) (b := 2) (nx := 6) (by decide +kernel) (r := x0) (As := [vR x1, vI x2]) (st' := []) (z := 105) rfl rfl rfl (Nat.le_of_ble_eq_true rfl) h0.2 (Nat.le_of_ble_eq_true rfl) rfl (c_I (by decide +kernel) h (fun y2 M1 h => ?_))
  refine g_8 (a := 3) (b := 0) (nx := 7) (by decide +kernel) rfl (ls' := [some (vR x0), some (vR x1), some (vI x2), some (vI y2), none, none]) rfl ?_
  refine g_7 (a := 0) (b := 0) (nx := 8) (by decide +kernel) rfl ?_
  refine g_7 (a := 1) (b := 0) (nx := 9) (by decide +kernel) rfl ?_
  refine g_5 (a := 2) (b := 0) (nx := 10) (by decide +kernel) rfl ?_
  refine g_1 (a := 1) (b := 0) (nx := 11) (by decide +kernel) ?_
  refine g_15 (a := 0) (b := 0) (nx := 12) (by decide +kernel) ?_
  refine g_80 (a := 105) (b := 2) (nx := 15) (by decide +kernel) (r := x0) (As := [vR x1, vI (x2 + 1)]) (st' := []) (z := 105) rfl rfl rfl (Nat.le_of_ble_eq_true rfl) h0.2 (Nat.le_of_ble_eq_true rfl) rfl (c_I (by decide +kernel) h (fun y4 M3 h => ?_))
  refine g_8 (a := 4) (b := 0) (nx := 17) (by decide +kernel) rfl (ls' := [some (vR x0), some (vR x1), some (vI x2), some (vI y2), some (vI y4), none]) rfl ?_
  refine g_7 (a := 0) (b := 0) (nx := 18) (by decide +kernel) rfl ?_
  refine g_52 (a := 7) (b := 1) (nx := 21) (by decide +kernel) h0 ?_
  refine g_5 (a := 2) (b := 0) (nx := 22) (by decide +kernel) rfl ?_
  refine g_80 (a := 136) (b := 1) (nx := 25) (by decide +kernel) (r := (M3 x0 1)) (As := [vI x2]) (st' := []) (z := 136) rfl rfl rfl (Nat.le_of_ble_eq_true rfl) h.1 (Nat.le_of_ble_eq_true rfl) rfl (c_R (by decide +kernel) h.2 (fun y6 M5 h => ?_))
  refine g_10 (a := 5) (b := 0) (nx := 27) (by decide +kernel) rfl (ls' := [some (vR x0), some (vR x1), some (vI x2), some (vI y2), some (vI y4), some (vR y6)]) rfl ?_
  refine g_7 (a := 5) (b := 0) (nx := 29) (by decide +kernel) rfl ?_
  obtain ⟨q0, h⟩ := h
  by_cases c15 : y6 = 0
  · rw [if_pos c15] at h
    refine g_43t (a := 0) (b := 34) (nx := 32) (by decide +kernel) c15 ?_
    refine g_1 (a := 0) (b := 0) (nx := 33) (by decide +kernel) ?_
    exact g_91z (b := 0) (nx := 34) (by decide +kernel) (by decide) h
  · rw [if_neg c15] at h
    refine g_43f (a := 0) (b := 34) (nx := 32) (by decide +kernel) q0 c15 ?_
    refine g_7 (a := 0) (b := 0) (nx := 35) (by decide +kernel) rfl ?_
    refine g_52 (a := 7) (b := 0) (nx := 38) (by decide +kernel) h0 ?_
    refine g_7 (a := 1) (b := 0) (nx := 39) (by decide +kernel) rfl ?_
    refine g_7 (a := 5) (b := 0) (nx := 41) (by decide +kernel) rfl ?_
    refine g_80 (a := 11) (b := 2) (nx := 44) (by decide +kernel) (r := (M5 x0 0)) (As := [vR x1, vR y6]) (st' := []) (z := 11) rfl rfl rfl (Nat.le_of_ble_eq_true rfl) h.1 (Nat.le_of_ble_eq_true rfl) rfl (c_V (by decide +kernel) h.2 (fun M7 h => ?_))
    refine g_7 (a := 0) (b := 0) (nx := 45) (by decide +kernel) rfl ?_
    refine g_52 (a := 7) (b := 0) (nx := 48) (by decide +kernel) h0 ?_
    refine g_80 (a := 17) (b := 0) (nx := 51) (by decide +kernel) (r := (M7 x0 0)) (As := []) (st' := []) (z := 17) rfl rfl rfl (Nat.le_of_ble_eq_true rfl) h.1 (Nat.le_of_ble_eq_true rfl) rfl (c_V (by decide +kernel) h.2 (fun M9 h => ?_))
    refine g_7 (a := 0) (b := 0) (nx := 52) (by decide +kernel) rfl ?_
    refine g_52 (a := 7) (b := 0) (nx := 55) (by decide +kernel) h0 ?_
    refine g_7 (a := 0) (b := 0) (nx := 56) (by decide +kernel) rfl ?_
    refine g_52 (a := 7) (b := 1) (nx := 59) (by decide +kernel) h0 ?_
    refine g_5 (a := 2) (b := 0) (nx := 60) (by decide +kernel) rfl ?_
    refine g_1 (a := 1) (b := 0) (nx := 61) (by decide +kernel) ?_
    refine g_16 (a := 0) (b := 0) (nx := 62) (by decide +kernel) ?_
    refine g_80 (a := 136) (b := 1) (nx := 65) (by decide +kernel) (r := (M9 x0 1)) (As := [vI (x2 - 1)]) (st' := [vR (M9 x0 0)]) (z := 136) rfl rfl rfl (Nat.le_of_ble_eq_true rfl) h.1 (Nat.le_of_ble_eq_true rfl) rfl (c_R (by decide +kernel) h.2 (fun y12 M11 h => ?_))
    refine g_5 (a := 3) (b := 0) (nx := 66) (by decide +kernel) rfl ?_
    refine g_5 (a := 4) (b := 0) (nx := 68) (by decide +kernel) rfl ?_
    refine g_80 (a := 22) (b := 3) (nx := 71) (by decide +kernel) (r := (M9 x0 0)) (As := [vR y12, vI y2, vI y4]) (st' := []) (z := 22) rfl rfl rfl (Nat.le_of_ble_eq_true rfl) h.1 (Nat.le_of_ble_eq_true rfl) rfl (c_V (by decide +kernel) h.2 (fun M13 h => ?_))
    refine g_1 (a := 1) (b := 0) (nx := 72) (by decide +kernel) ?_
    exact g_91z (b := 0) (nx := 73) (by decide +kernel) (by decide) h
-- 108 SyllableMaker$Speech.heavyJoined(LSyllableMaker$Law;)I
theorem t_108 {x0 x1 : Int} {M : Mem} {Q : AV → Mem → Prop} (h0 : gO 7 x0) (h : WR 108 4 [some (vR x0), some (vR x1), some (vI 0), some (vI 0)] [] M Q) : WC 108 [vR x0, vR x1] M Q := by
  show WR 108 0 [some (vR x0), some (vR x1), none, none] [] M Q
  refine g_1 (a := 0) (b := 0) (nx := 1) (by decide +kernel) ?_
  refine g_8 (a := 2) (b := 0) (nx := 2) (by decide +kernel) rfl (ls' := [some (vR x0), some (vR x1), some (vI 0), none]) rfl ?_
  refine g_1 (a := 0) (b := 0) (nx := 3) (by decide +kernel) ?_
  refine g_8 (a := 3) (b := 0) (nx := 4) (by decide +kernel) rfl (ls' := [some (vR x0), some (vR x1), some (vI 0), some (vI 0)]) rfl ?_
  exact h
theorem t_108_4 {x0 x1 x2 x3 : Int} {M : Mem} {Q : AV → Mem → Prop} (h0 : gO 7 x0) (h : (gO 10 (M x0 1)) ∧ inR x3 ∧ (inR (M (M x0 1) 2) ∧ (if (M (M x0 1) 2) ≤ x3 then (Q (vI x2) M) else (WI 107 [vR x0, vR x1, vI x3] M (fun y4 M3 => inR y4 ∧ (if y4 = 0 then (WR 108 4 [some (vR x0), some (vR x1), some (vI (x2 + 0)), some (vI (x3 + 1))] [] M3 Q) else (((shA SH (M3 x0 0)).1 = 1) ∧ WI 34 [vR (M3 x0 0)] M3 (fun y7 M6 => WR 108 4 [some (vR x0), some (vR x1), some (vI (x2 + y7)), some (vI (x3 + 1))] [] M6 Q)))))))) : WR 108 4 [some (vR x0), some (vR x1), some (vI x2), some (vI x3)] [] M Q := by
  refine g_5 (a := 3) (b := 0) (nx := 5) (by decide +kernel) rfl ?_
  refine g_7 (a := 0) (b := 0) (nx := 6) (by decide +kernel) rfl ?_
  refine g_52 (a := 7) (b := 1) (nx := 9) (by decide +kernel) h0 ?_
  refine g_50 (a := 10) (b := 2) (nx := 12) (by decide +kernel) h.1 ?_
  replace h := h.2
  obtain ⟨r1, h⟩ := h
  obtain ⟨r2, h⟩ := h
  by_cases c9 : (M (M x0 1) 2) ≤ x3
  · rw [if_pos c9] at h
    refine g_41t (a := 3) (b := 44) (nx := 15) (by decide +kernel) (by rw [wr_id r1, wr_id r2]; exact (cb_3 _ _).mpr c9) ?_
    refine g_5 (a := 2) (b := 0) (nx := 45) (by decide +kernel) rfl ?_
    exact g_91 (b := 0) (nx := 46) (by decide +kernel) h
  · rw [if_neg c9] at h
    refine g_41f (a := 3) (b := 44) (nx := 15) (by decide +kernel) (by rw [wr_id r1, wr_id r2]; exact fun hz => c9 ((cb_3 _ _).mp hz)) ?_
    refine g_5 (a := 2) (b := 0) (nx := 16) (by decide +kernel) rfl ?_
    refine g_7 (a := 0) (b := 0) (nx := 17) (by decide +kernel) rfl ?_
    refine g_7 (a := 1) (b := 0) (nx := 18) (by decide +kernel) rfl ?_
    refine g_5 (a := 3) (b := 0) (nx := 19) (by decide +kernel) rfl ?_
    refine g_80 (a := 107) (b := 2) (nx := 22) (by decide +kernel) (r := x0) (As := [vR x1, vI x3]) (st' := [vI x2]) (z := 107) rfl rfl rfl (Nat.le_of_ble_eq_true rfl) h0.2 (Nat.le_of_ble_eq_true rfl) rfl (c_I (by decide +kernel) h (fun y4 M3 h => ?_))
    obtain ⟨r5, h⟩ := h
    by_cases c8 : y4 = 0
    · rw [if_pos c8] at h
      refine g_40t (a := 0) (b := 35) (nx := 25) (by decide +kernel) r5 (by exact (cb_0 _ _).mpr c8) ?_
      refine g_1 (a := 0) (b := 0) (nx := 36) (by decide +kernel) ?_
      refine g_15 (a := 0) (b := 0) (nx := 37) (by decide +kernel) ?_
      refine g_8 (a := 2) (b := 0) (nx := 38) (by decide +kernel) rfl (ls' := [some (vR x0), some (vR x1), some (vI (x2 + 0)), some (vI x3)]) rfl ?_
      refine g_11 (a := 3) (b := 1) (nx := 41) (by decide +kernel) rfl rfl (ls' := [some (vR x0), some (vR x1), some (vI (x2 + 0)), some (vI (x3 + 1))]) rfl ?_
      refine g_44 (a := 0) (b := 4) (nx := 44) (by decide +kernel) ?_
      exact h
    · rw [if_neg c8] at h
      refine g_40f (a := 0) (b := 35) (nx := 25) (by decide +kernel) r5 (by exact fun hz => c8 ((cb_0 _ _).mp hz)) ?_
      refine g_7 (a := 0) (b := 0) (nx := 26) (by decide +kernel) rfl ?_
      refine g_52 (a := 7) (b := 0) (nx := 29) (by decide +kernel) h0 ?_
      refine g_80 (a := 34) (b := 0) (nx := 32) (by decide +kernel) (r := (M3 x0 0)) (As := []) (st' := [vI x2]) (z := 34) rfl rfl rfl (Nat.le_of_ble_eq_true rfl) h.1 (Nat.le_of_ble_eq_true rfl) rfl (c_I (by decide +kernel) h.2 (fun y7 M6 h => ?_))
      refine g_44 (a := 0) (b := 36) (nx := 35) (by decide +kernel) ?_
      refine g_15 (a := 0) (b := 0) (nx := 37) (by decide +kernel) ?_
      refine g_8 (a := 2) (b := 0) (nx := 38) (by decide +kernel) rfl (ls' := [some (vR x0), some (vR x1), some (vI (x2 + y7)), some (vI x3)]) rfl ?_
      refine g_11 (a := 3) (b := 1) (nx := 41) (by decide +kernel) rfl rfl (ls' := [some (vR x0), some (vR x1), some (vI (x2 + y7)), some (vI (x3 + 1))]) rfl ?_
      refine g_44 (a := 0) (b := 4) (nx := 44) (by decide +kernel) ?_
      exact h
-- 109 SyllableMaker$Speech.heavyPlain(LSyllableMaker$Law;)I
theorem t_109 {x0 x1 : Int} {M : Mem} {Q : AV → Mem → Prop} (h0 : gO 7 x0) (h : WR 109 4 [some (vR x0), some (vR x1), some (vI 0), some (vI 0)] [] M Q) : WC 109 [vR x0, vR x1] M Q := by
  show WR 109 0 [some (vR x0), some (vR x1), none, none] [] M Q
  refine g_1 (a := 0) (b := 0) (nx := 1) (by decide +kernel) ?_
  refine g_8 (a := 2) (b := 0) (nx := 2) (by decide +kernel) rfl (ls' := [some (vR x0), some (vR x1), some (vI 0), none]) rfl ?_
  refine g_1 (a := 0) (b := 0) (nx := 3) (by decide +kernel) ?_
  refine g_8 (a := 3) (b := 0) (nx := 4) (by decide +kernel) rfl (ls' := [some (vR x0), some (vR x1), some (vI 0), some (vI 0)]) rfl ?_
  exact h
theorem t_109_4 {x0 x1 x2 x3 : Int} {M : Mem} {Q : AV → Mem → Prop} (h0 : gO 7 x0) (h : (gO 10 (M x0 1)) ∧ inR x3 ∧ (inR (M (M x0 1) 2) ∧ (if (M (M x0 1) 2) ≤ x3 then (Q (vI x2) M) else (WI 106 [vR x0, vR x1, vI x3] M (fun y4 M3 => inR y4 ∧ (if y4 = 0 then (WR 109 4 [some (vR x0), some (vR x1), some (vI (x2 + 0)), some (vI (x3 + 1))] [] M3 Q) else (((shA SH (M3 x0 0)).1 = 1) ∧ WI 34 [vR (M3 x0 0)] M3 (fun y7 M6 => WR 109 4 [some (vR x0), some (vR x1), some (vI (x2 + y7)), some (vI (x3 + 1))] [] M6 Q)))))))) : WR 109 4 [some (vR x0), some (vR x1), some (vI x2), some (vI x3)] [] M Q := by
  refine g_5 (a := 3) (b := 0) (nx := 5) (by decide +kernel) rfl ?_
  refine g_7 (a := 0) (b := 0) (nx := 6) (by decide +kernel) rfl ?_
  refine g_52 (a := 7) (b := 1) (nx := 9) (by decide +kernel) h0 ?_
  refine g_50 (a := 10) (b := 2) (nx := 12) (by decide +kernel) h.1 ?_
  replace h := h.2
  obtain ⟨r1, h⟩ := h
  obtain ⟨r2, h⟩ := h
  by_cases c9 : (M (M x0 1) 2) ≤ x3
  · rw [if_pos c9] at h
    refine g_41t (a := 3) (b := 44) (nx := 15) (by decide +kernel) (by rw [wr_id r1, wr_id r2]; exact (cb_3 _ _).mpr c9) ?_
    refine g_5 (a := 2) (b := 0) (nx := 45) (by decide +kernel) rfl ?_
    exact g_91 (b := 0) (nx := 46) (by decide +kernel) h
  · rw [if_neg c9] at h
    refine g_41f (a := 3) (b := 44) (nx := 15) (by decide +kernel) (by rw [wr_id r1, wr_id r2]; exact fun hz => c9 ((cb_3 _ _).mp hz)) ?_
    refine g_5 (a := 2) (b := 0) (nx := 16) (by decide +kernel) rfl ?_
    refine g_7 (a := 0) (b := 0) (nx := 17) (by decide +kernel) rfl ?_
    refine g_7 (a := 1) (b := 0) (nx := 18) (by decide +kernel) rfl ?_
    refine g_5 (a := 3) (b := 0) (nx := 19) (by decide +kernel) rfl ?_
    refine g_80 (a := 106) (b := 2) (nx := 22) (by decide +kernel) (r := x0) (As := [vR x1, vI x3]) (st' := [vI x2]) (z := 106) rfl rfl rfl (Nat.le_of_ble_eq_true rfl) h0.2 (Nat.le_of_ble_eq_true rfl) rfl (c_I (by decide +kernel) h (fun y4 M3 h => ?_))
    obtain ⟨r5, h⟩ := h
    by_cases c8 : y4 = 0
    · rw [if_pos c8] at h
      refine g_40t (a := 0) (b := 35) (nx := 25) (by decide +kernel) r5 (by exact (cb_0 _ _).mpr c8) ?_
      refine g_1 (a := 0) (b := 0) (nx := 36) (by decide +kernel) ?_
      refine g_15 (a := 0) (b := 0) (nx := 37) (by decide +kernel) ?_
      refine g_8 (a := 2) (b := 0) (nx := 38) (by decide +kernel) rfl (ls' := [some (vR x0), some (vR x1), some (vI (x2 + 0)), some (vI x3)]) rfl ?_
      refine g_11 (a := 3) (b := 1) (nx := 41) (by decide +kernel) rfl rfl (ls' := [some (vR x0), some (vR x1), some (vI (x2 + 0)), some (vI (x3 + 1))]) rfl ?_
      refine g_44 (a := 0) (b := 4) (nx := 44) (by decide +kernel) ?_
      exact h
    · rw [if_neg c8] at h
      refine g_40f (a := 0) (b := 35) (nx := 25) (by decide +kernel) r5 (by exact fun hz => c8 ((cb_0 _ _).mp hz)) ?_
      refine g_7 (a := 0) (b := 0) (nx := 26) (by decide +kernel) rfl ?_
      refine g_52 (a := 7) (b := 0) (nx := 29) (by decide +kernel) h0 ?_
      refine g_80 (a := 34) (b := 0) (nx := 32) (by decide +kernel) (r := (M3 x0 0)) (As := []) (st' := [vI x2]) (z := 34) rfl rfl rfl (Nat.le_of_ble_eq_true rfl) h.1 (Nat.le_of_ble_eq_true rfl) rfl (c_I (by decide +kernel) h.2 (fun y7 M6 h => ?_))
      refine g_44 (a := 0) (b := 36) (nx := 35) (by decide +kernel) ?_
      refine g_15 (a := 0) (b := 0) (nx := 37) (by decide +kernel) ?_
      refine g_8 (a := 2) (b := 0) (nx := 38) (by decide +kernel) rfl (ls' := [some (vR x0), some (vR x1), some (vI (x2 + y7)), some (vI x3)]) rfl ?_
      refine g_11 (a := 3) (b := 1) (nx := 41) (by decide +kernel) rfl rfl (ls' := [some (vR x0), some (vR x1), some (vI (x2 + y7)), some (vI (x3 + 1))]) rfl ?_
      refine g_44 (a := 0) (b := 4) (nx := 44) (by decide +kernel) ?_
      exact h
-- 110 SyllableMaker$Speech.changed(LSyllableMaker$Law;)I
theorem t_110 {x0 x1 : Int} {M : Mem} {Q : AV → Mem → Prop} (h0 : gO 7 x0) (h : WR 110 4 [some (vR x0), some (vR x1), some (vI 0), some (vI 0), none, none] [] M Q) : WC 110 [vR x0, vR x1] M Q := by
  show WR 110 0 [some (vR x0), some (vR x1), none, none, none, none] [] M Q
  refine g_1 (a := 0) (b := 0) (nx := 1) (by decide +kernel) ?_
  refine g_8 (a := 2) (b := 0) (nx := 2) (by decide +kernel) rfl (ls' := [some (vR x0), some (vR x1), some (vI 0), none, none, none]) rfl ?_
  refine g_1 (a := 0) (b := 0) (nx := 3) (by decide +kernel) ?_
  refine g_8 (a := 3) (b := 0) (nx := 4) (by decide +kernel) rfl (ls' := [some (vR x0), some (vR x1), some (vI 0), some (vI 0), none, none]) rfl ?_
  exact h
theorem t_110_4 {x0 x1 x2 x3 : Int} {l4 l5 : Option AV} {M : Mem} {Q : AV → Mem → Prop} (h0 : gO 7 x0) (h : (gO 10 (M x0 1)) ∧ inR x3 ∧ (inR (M (M x0 1) 2) ∧ (if (M (M x0 1) 2) ≤ x3 then (Q (vI x2) M) else (WI 107 [vR x0, vR x1, vI x3] M (fun y4 M3 => inR y4 ∧ (if y4 = 0 then (WR 110 40 [some (vR x0), some (vR x1), some (vI x2), some (vI x3), some (vI 0), some (vI 0)] [] M3 Q) else ((gO 1 (M3 x0 0)) ∧ WR 110 40 [some (vR x0), some (vR x1), some (vI x2), some (vI x3), some (vI (M3 (M3 x0 0) 9)), some (vI 0)] [] M3 Q))))))) : WR 110 4 [some (vR x0), some (vR x1), some (vI x2), some (vI x3), l4, l5] [] M Q := by
  refine g_5 (a := 3) (b := 0) (nx := 5) (by decide +kernel) rfl ?_
  refine g_7 (a := 0) (b := 0) (nx := 6) (by decide +kernel) rfl ?_
  refine g_52 (a := 7) (b := 1) (nx := 9) (by decide +kernel) h0 ?_
  refine g_50 (a := 10) (b := 2) (nx := 12) (by decide +kernel) h.1 ?_
  replace h := h.2
  obtain ⟨r1, h⟩ := h
  obtain ⟨r2, h⟩ := h
  by_cases c7 : (M (M x0 1) 2) ≤ x3
  · rw [if_pos c7] at h
    refine g_41t (a := 3) (b := 79) (nx := 15) (by decide +kernel) (by rw [wr_id r1, wr_id r2]; exact (cb_3 _ _).mpr c7) ?_
    refine g_5 (a := 2) (b := 0) (nx := 80) (by decide +kernel) rfl ?_
    exact g_91 (b := 0) (nx := 81) (by decide +kernel) h
  · rw [if_neg c7] at h
    refine g_41f (a := 3) (b := 79) (nx := 15) (by decide +kernel) (by rw [wr_id r1, wr_id r2]; exact fun hz => c7 ((cb_3 _ _).mp hz)) ?_
    refine g_7 (a := 0) (b := 0) (nx := 16) (by decide +kernel) rfl ?_
    refine g_7 (a := 1) (b := 0) (nx := 17) (by decide +kernel) rfl ?_
    refine g_5 (a := 3) (b := 0) (nx := 18) (by decide +kernel) rfl ?_
    refine g_80 (a := 107) (b := 2) (nx := 21) (by decide +kernel) (r := x0) (As := [vR x1, vI x3]) (st' := []) (z := 107) rfl rfl rfl (Nat.le_of_ble_eq_true rfl) h0.2 (Nat.le_of_ble_eq_true rfl) rfl (c_I (by decide +kernel) h (fun y4 M3 h => ?_))
    obtain ⟨r5, h⟩ := h
    by_cases c6 : y4 = 0
    · rw [if_pos c6] at h
      refine g_40t (a := 0) (b := 34) (nx := 24) (by decide +kernel) r5 (by exact (cb_0 _ _).mpr c6) ?_
      refine g_1 (a := 0) (b := 0) (nx := 35) (by decide +kernel) ?_
      refine g_8 (a := 4) (b := 0) (nx := 37) (by decide +kernel) rfl (ls' := [some (vR x0), some (vR x1), some (vI x2), some (vI x3), some (vI 0), l5]) rfl ?_
      refine g_1 (a := 0) (b := 0) (nx := 38) (by decide +kernel) ?_
      refine g_8 (a := 5) (b := 0) (nx := 40) (by decide +kernel) rfl (ls' := [some (vR x0), some (vR x1), some (vI x2), some (vI x3), some (vI 0), some (vI 0)]) rfl ?_
      exact h
    · rw [if_neg c6] at h
      refine g_40f (a := 0) (b := 34) (nx := 24) (by decide +kernel) r5 (by exact fun hz => c6 ((cb_0 _ _).mp hz)) ?_
      refine g_7 (a := 0) (b := 0) (nx := 25) (by decide +kernel) rfl ?_
      refine g_52 (a := 7) (b := 0) (nx := 28) (by decide +kernel) h0 ?_
      refine g_50 (a := 1) (b := 9) (nx := 31) (by decide +kernel) h.1 ?_
      replace h := h.2
      refine g_44 (a := 0) (b := 35) (nx := 34) (by decide +kernel) ?_
      refine g_8 (a := 4) (b := 0) (nx := 37) (by decide +kernel) rfl (ls' := [some (vR x0), some (vR x1), some (vI x2), some (vI x3), some (vI (M3 (M3 x0 0) 9)), l5]) rfl ?_
      refine g_1 (a := 0) (b := 0) (nx := 38) (by decide +kernel) ?_
      refine g_8 (a := 5) (b := 0) (nx := 40) (by decide +kernel) rfl (ls' := [some (vR x0), some (vR x1), some (vI x2), some (vI x3), some (vI (M3 (M3 x0 0) 9)), some (vI 0)]) rfl ?_
      exact h
theorem t_110_40 {x0 x1 x2 x3 x4 x5 : Int} {M : Mem} {Q : AV → Mem → Prop} (h0 : gO 7 x0) (h : inR x5 ∧ (inR x4 ∧ (if x4 ≤ x5 then (WR 110 4 [some (vR x0), some (vR x1), some (vI x2), some (vI (x3 + 1)), some (vI x4), some (vI x5)] [] M Q) else (((shA SH (M x0 0)).1 = 1) ∧ WI 23 [vR (M x0 0), vI x5] M (fun y4 M3 => inR y4 ∧ (if y4 = 0 then (WR 110 40 [some (vR x0), some (vR x1), some (vI (x2 + 0)), some (vI x3), some (vI x4), some (vI (x5 + 1))] [] M3 Q) else (WR 110 40 [some (vR x0), some (vR x1), some (vI (x2 + 1)), some (vI x3), some (vI x4), some (vI (x5 + 1))] [] M3 Q))))))) : WR 110 40 [some (vR x0), some (vR x1), some (vI x2), some (vI x3), some (vI x4), some (vI x5)] [] M Q := by
  refine g_5 (a := 5) (b := 0) (nx := 42) (by decide +kernel) rfl ?_
  refine g_5 (a := 4) (b := 0) (nx := 44) (by decide +kernel) rfl ?_
  obtain ⟨r1, h⟩ := h
  obtain ⟨r2, h⟩ := h
  by_cases c7 : x4 ≤ x5
  · rw [if_pos c7] at h
    refine g_41t (a := 3) (b := 73) (nx := 47) (by decide +kernel) (by rw [wr_id r1, wr_id r2]; exact (cb_3 _ _).mpr c7) ?_
    refine g_11 (a := 3) (b := 1) (nx := 76) (by decide +kernel) rfl rfl (ls' := [some (vR x0), some (vR x1), some (vI x2), some (vI (x3 + 1)), some (vI x4), some (vI x5)]) rfl ?_
    refine g_44 (a := 0) (b := 4) (nx := 79) (by decide +kernel) ?_
    exact h
  · rw [if_neg c7] at h
    refine g_41f (a := 3) (b := 73) (nx := 47) (by decide +kernel) (by rw [wr_id r1, wr_id r2]; exact fun hz => c7 ((cb_3 _ _).mp hz)) ?_
    refine g_5 (a := 2) (b := 0) (nx := 48) (by decide +kernel) rfl ?_
    refine g_7 (a := 0) (b := 0) (nx := 49) (by decide +kernel) rfl ?_
    refine g_52 (a := 7) (b := 0) (nx := 52) (by decide +kernel) h0 ?_
    refine g_5 (a := 5) (b := 0) (nx := 54) (by decide +kernel) rfl ?_
    refine g_80 (a := 23) (b := 1) (nx := 57) (by decide +kernel) (r := (M x0 0)) (As := [vI x5]) (st' := [vI x2]) (z := 23) rfl rfl rfl (Nat.le_of_ble_eq_true rfl) h.1 (Nat.le_of_ble_eq_true rfl) rfl (c_I (by decide +kernel) h.2 (fun y4 M3 h => ?_))
    obtain ⟨r5, h⟩ := h
    by_cases c6 : y4 = 0
    · rw [if_pos c6] at h
      refine g_40t (a := 0) (b := 64) (nx := 60) (by decide +kernel) r5 (by exact (cb_0 _ _).mpr c6) ?_
      refine g_1 (a := 0) (b := 0) (nx := 65) (by decide +kernel) ?_
      refine g_15 (a := 0) (b := 0) (nx := 66) (by decide +kernel) ?_
      refine g_8 (a := 2) (b := 0) (nx := 67) (by decide +kernel) rfl (ls' := [some (vR x0), some (vR x1), some (vI (x2 + 0)), some (vI x3), some (vI x4), some (vI x5)]) rfl ?_
      refine g_11 (a := 5) (b := 1) (nx := 70) (by decide +kernel) rfl rfl (ls' := [some (vR x0), some (vR x1), some (vI (x2 + 0)), some (vI x3), some (vI x4), some (vI (x5 + 1))]) rfl ?_
      refine g_44 (a := 0) (b := 40) (nx := 73) (by decide +kernel) ?_
      exact h
    · rw [if_neg c6] at h
      refine g_40f (a := 0) (b := 64) (nx := 60) (by decide +kernel) r5 (by exact fun hz => c6 ((cb_0 _ _).mp hz)) ?_
      refine g_1 (a := 1) (b := 0) (nx := 61) (by decide +kernel) ?_
      refine g_44 (a := 0) (b := 65) (nx := 64) (by decide +kernel) ?_
      refine g_15 (a := 0) (b := 0) (nx := 66) (by decide +kernel) ?_
      refine g_8 (a := 2) (b := 0) (nx := 67) (by decide +kernel) rfl (ls' := [some (vR x0), some (vR x1), some (vI (x2 + 1)), some (vI x3), some (vI x4), some (vI x5)]) rfl ?_
      refine g_11 (a := 5) (b := 1) (nx := 70) (by decide +kernel) rfl rfl (ls' := [some (vR x0), some (vR x1), some (vI (x2 + 1)), some (vI x3), some (vI x4), some (vI (x5 + 1))]) rfl ?_
      refine g_44 (a := 0) (b := 40) (nx := 73) (by decide +kernel) ?_
      exact h
-- 111 SyllableMaker$Speech.countMisfits(LSyllableMaker$Law;II)I
theorem t_111 {x0 x1 x2 x3 : Int} {M : Mem} {Q : AV → Mem → Prop} (h0 : gO 7 x0) (h : WR 111 9 [some (vR x0), some (vR x1), some (vI x2), some (vI x3), some (vI 0), some (vI 0), some (vI 0), none, none, none, none] [] M Q) : WC 111 [vR x0, vR x1, vI x2, vI x3] M Q := by
  show WR 111 0 [some (vR x0), some (vR x1), some (vI x2), some (vI x3), none, none, none, none, none, none, none] [] M Q
  refine g_1 (a := 0) (b := 0) (nx := 1) (by decide +kernel) ?_
  refine g_8 (a := 4) (b := 0) (nx := 3) (by decide +kernel) rfl (ls' := [some (vR x0), some (vR x1), some (vI x2), some (vI x3), some (vI 0), none, none, none, none, none, none]) rfl ?_
  refine g_1 (a := 0) (b := 0) (nx := 4) (by decide +kernel) ?_
  refine g_8 (a := 5) (b := 0) (nx := 6) (by decide +kernel) rfl (ls' := [some (vR x0), some (vR x1), some (vI x2), some (vI x3), some (vI 0), some (vI 0), none, none, none, none, none]) rfl ?_
  refine g_1 (a := 0) (b := 0) (nx := 7) (by decide +kernel) ?_
  refine g_8 (a := 6) (b := 0) (nx := 9) (by decide +kernel) rfl (ls' := [some (vR x0), some (vR x1), some (vI x2), some (vI x3), some (vI 0), some (vI 0), some (vI 0), none, none, none, none]) rfl ?_
  exact h
theorem t_111_9 {x0 x1 x2 x3 x4 x5 x6 : Int} {l7 l8 l9 l10 : Option AV} {M : Mem} {Q : AV → Mem → Prop} (h0 : gO 7 x0) (h : (gO 10 (M x0 1)) ∧ inR x6 ∧ (inR (M (M x0 1) 2) ∧ (if (M (M x0 1) 2) ≤ x6 then (Q (vI x5) M) else (WI 106 [vR x0, vR x1, vI x6] M (fun y4 M3 => inR y4 ∧ (if y4 = 0 then (WR 111 65 [some (vR x0), some (vR x1), some (vI x2), some (vI x3), some (vI x4), some (vI x5), some (vI x6), some (vI 0), some (vI (-1)), some (vI 0), l10] [] M3 Q) else ((gO 1 (M3 x0 0)) ∧ inR (M3 (M3 x0 0) 9) ∧ (if (M3 (M3 x0 0) 9) ≤ 0 then (WR 111 65 [some (vR x0), some (vR x1), some (vI x2), some (vI x3), some (vI x4), some (vI x5), some (vI x6), some (vI (M3 (M3 x0 0) 9)), some (vI (-1)), some (vI 0), l10] [] M3 Q) else (((shA SH (M3 x0 0)).1 = 1) ∧ WI 38 [vR (M3 x0 0)] M3 (fun y8 M7 => WR 111 65 [some (vR x0), some (vR x1), some (vI x2), some (vI x3), some (vI x4), some (vI x5), some (vI x6), some (vI (M3 (M3 x0 0) 9)), some (vI y8), some (vI 0), l10] [] M7 Q)))))))))) : WR 111 9 [some (vR x0), some (vR x1), some (vI x2), some (vI x3), some (vI x4), some (vI x5), some (vI x6), l7, l8, l9, l10] [] M Q := by
  refine g_5 (a := 6) (b := 0) (nx := 11) (by decide +kernel) rfl ?_
  refine g_7 (a := 0) (b := 0) (nx := 12) (by decide +kernel) rfl ?_
  refine g_52 (a := 7) (b := 1) (nx := 15) (by decide +kernel) h0 ?_
  refine g_50 (a := 10) (b := 2) (nx := 18) (by decide +kernel) h.1 ?_
  replace h := h.2
  obtain ⟨r1, h⟩ := h
  obtain ⟨r2, h⟩ := h
  by_cases c11 : (M (M x0 1) 2) ≤ x6
  · rw [if_pos c11] at h
    refine g_41t (a := 3) (b := 134) (nx := 21) (by decide +kernel) (by rw [wr_id r1, wr_id r2]; exact (cb_3 _ _).mpr c11) ?_
    refine g_5 (a := 5) (b := 0) (nx := 136) (by decide +kernel) rfl ?_
    exact g_91 (b := 0) (nx := 137) (by decide +kernel) h
  · rw [if_neg c11] at h
    refine g_41f (a := 3) (b := 134) (nx := 21) (by decide +kernel) (by rw [wr_id r1, wr_id r2]; exact fun hz => c11 ((cb_3 _ _).mp hz)) ?_
    refine g_7 (a := 0) (b := 0) (nx := 22) (by decide +kernel) rfl ?_
    refine g_7 (a := 1) (b := 0) (nx := 23) (by decide +kernel) rfl ?_
    refine g_5 (a := 6) (b := 0) (nx := 25) (by decide +kernel) rfl ?_
    refine g_80 (a := 106) (b := 2) (nx := 28) (by decide +kernel) (r := x0) (As := [vR x1, vI x6]) (st' := []) (z := 106) rfl rfl rfl (Nat.le_of_ble_eq_true rfl) h0.2 (Nat.le_of_ble_eq_true rfl) rfl (c_I (by decide +kernel) h (fun y4 M3 h => ?_))
    obtain ⟨r5, h⟩ := h
    by_cases c10 : y4 = 0
    · rw [if_pos c10] at h
      refine g_40t (a := 0) (b := 41) (nx := 31) (by decide +kernel) r5 (by exact (cb_0 _ _).mpr c10) ?_
      refine g_1 (a := 0) (b := 0) (nx := 42) (by decide +kernel) ?_
      refine g_8 (a := 7) (b := 0) (nx := 44) (by decide +kernel) rfl (ls' := [some (vR x0), some (vR x1), some (vI x2), some (vI x3), some (vI x4), some (vI x5), some (vI x6), some (vI 0), l8, l9, l10]) rfl ?_
      refine g_5 (a := 7) (b := 0) (nx := 46) (by decide +kernel) rfl ?_
      refine g_40t (a := 5) (b := 59) (nx := 49) (by decide +kernel) (show inR 0 by decide) (by decide +kernel) ?_
      refine g_1 (a := (-1)) (b := 0) (nx := 60) (by decide +kernel) ?_
      refine g_8 (a := 8) (b := 0) (nx := 62) (by decide +kernel) rfl (ls' := [some (vR x0), some (vR x1), some (vI x2), some (vI x3), some (vI x4), some (vI x5), some (vI x6), some (vI 0), some (vI (-1)), l9, l10]) rfl ?_
      refine g_1 (a := 0) (b := 0) (nx := 63) (by decide +kernel) ?_
      refine g_8 (a := 9) (b := 0) (nx := 65) (by decide +kernel) rfl (ls' := [some (vR x0), some (vR x1), some (vI x2), some (vI x3), some (vI x4), some (vI x5), some (vI x6), some (vI 0), some (vI (-1)), some (vI 0), l10]) rfl ?_
      exact h
    · rw [if_neg c10] at h
      refine g_40f (a := 0) (b := 41) (nx := 31) (by decide +kernel) r5 (by exact fun hz => c10 ((cb_0 _ _).mp hz)) ?_
      refine g_7 (a := 0) (b := 0) (nx := 32) (by decide +kernel) rfl ?_
      refine g_52 (a := 7) (b := 0) (nx := 35) (by decide +kernel) h0 ?_
      refine g_50 (a := 1) (b := 9) (nx := 38) (by decide +kernel) h.1 ?_
      replace h := h.2
      refine g_44 (a := 0) (b := 42) (nx := 41) (by decide +kernel) ?_
      refine g_8 (a := 7) (b := 0) (nx := 44) (by decide +kernel) rfl (ls' := [some (vR x0), some (vR x1), some (vI x2), some (vI x3), some (vI x4), some (vI x5), some (vI x6), some (vI (M3 (M3 x0 0) 9)), l8, l9, l10]) rfl ?_
      refine g_5 (a := 7) (b := 0) (nx := 46) (by decide +kernel) rfl ?_
      obtain ⟨r6, h⟩ := h
      by_cases c9 : (M3 (M3 x0 0) 9) ≤ 0
      · rw [if_pos c9] at h
        refine g_40t (a := 5) (b := 59) (nx := 49) (by decide +kernel) r6 (by exact (cb_5 _ _).mpr c9) ?_
        refine g_1 (a := (-1)) (b := 0) (nx := 60) (by decide +kernel) ?_
        refine g_8 (a := 8) (b := 0) (nx := 62) (by decide +kernel) rfl (ls' := [some (vR x0), some (vR x1), some (vI x2), some (vI x3), some (vI x4), some (vI x5), some (vI x6), some (vI (M3 (M3 x0 0) 9)), some (vI (-1)), l9, l10]) rfl ?_
        refine g_1 (a := 0) (b := 0) (nx := 63) (by decide +kernel) ?_
        refine g_8 (a := 9) (b := 0) (nx := 65) (by decide +kernel) rfl (ls' := [some (vR x0), some (vR x1), some (vI x2), some (vI x3), some (vI x4), some (vI x5), some (vI x6), some (vI (M3 (M3 x0 0) 9)), some (vI (-1)), some (vI 0), l10]) rfl ?_
        exact h
      · rw [if_neg c9] at h
        refine g_40f (a := 5) (b := 59) (nx := 49) (by decide +kernel) r6 (by exact fun hz => c9 ((cb_5 _ _).mp hz)) ?_
        refine g_7 (a := 0) (b := 0) (nx := 50) (by decide +kernel) rfl ?_
        refine g_52 (a := 7) (b := 0) (nx := 53) (by decide +kernel) h0 ?_
        refine g_80 (a := 38) (b := 0) (nx := 56) (by decide +kernel) (r := (M3 x0 0)) (As := []) (st' := []) (z := 38) rfl rfl rfl (Nat.le_of_ble_eq_true rfl) h.1 (Nat.le_of_ble_eq_true rfl) rfl (c_I (by decide +kernel) h.2 (fun y8 M7 h => ?_))
        refine g_44 (a := 0) (b := 60) (nx := 59) (by decide +kernel) ?_
        refine g_8 (a := 8) (b := 0) (nx := 62) (by decide +kernel) rfl (ls' := [some (vR x0), some (vR x1), some (vI x2), some (vI x3), some (vI x4), some (vI x5), some (vI x6), some (vI (M3 (M3 x0 0) 9)), some (vI y8), l9, l10]) rfl ?_
        refine g_1 (a := 0) (b := 0) (nx := 63) (by decide +kernel) ?_
        refine g_8 (a := 9) (b := 0) (nx := 65) (by decide +kernel) rfl (ls' := [some (vR x0), some (vR x1), some (vI x2), some (vI x3), some (vI x4), some (vI x5), some (vI x6), some (vI (M3 (M3 x0 0) 9)), some (vI y8), some (vI 0), l10]) rfl ?_
        exact h
theorem t_111_65 {x0 x1 x2 x3 x4 x5 x6 x7 x8 x9 : Int} {l10 : Option AV} {M : Mem} {Q : AV → Mem → Prop} (h0 : gO 7 x0) (h : inR x9 ∧ (inR x7 ∧ (if x7 ≤ x9 then (WR 111 9 [some (vR x0), some (vR x1), some (vI x2), some (vI x3), some (vI x4), some (vI x5), some (vI (x6 + 1)), some (vI x7), some (vI x8), some (vI x9), l10] [] M Q) else (inR x2 ∧ (if x2 ≤ 0 then (inR x8 ∧ (if x9 = x8 then (WR 111 65 [some (vR x0), some (vR x1), some (vI x2), some (vI x3), some (vI (x4 + 1)), some (vI (x5 + 1)), some (vI x6), some (vI x7), some (vI x8), some (vI (x9 + 1)), some (vI 0)] [] M Q) else (WR 111 65 [some (vR x0), some (vR x1), some (vI x2), some (vI x3), some (vI (x4 + 1)), some (vI (x5 + 0)), some (vI x6), some (vI x7), some (vI x8), some (vI (x9 + 1)), some (vI 0)] [] M Q))) else ((0 < x2 ∧ -2147483648 ≤ (x4 - x3) ∧ (x4 - x3) < 2147483648 ∧ x2 < 2147483648) ∧ inR (((x4 - x3)).tmod x2) ∧ (if (((x4 - x3)).tmod x2) = 0 then (inR x8 ∧ (if x9 = x8 then (WR 111 65 [some (vR x0), some (vR x1), some (vI x2), some (vI x3), some (vI (x4 + 1)), some (vI (x5 + 0)), some (vI x6), some (vI x7), some (vI x8), some (vI (x9 + 1)), some (vI 1)] [] M Q) else (WR 111 65 [some (vR x0), some (vR x1), some (vI x2), some (vI x3), some (vI (x4 + 1)), some (vI (x5 + 1)), some (vI x6), some (vI x7), some (vI x8), some (vI (x9 + 1)), some (vI 1)] [] M Q))) else (inR x8 ∧ (if x9 = x8 then (WR 111 65 [some (vR x0), some (vR x1), some (vI x2), some (vI x3), some (vI (x4 + 1)), some (vI (x5 + 1)), some (vI x6), some (vI x7), some (vI x8), some (vI (x9 + 1)), some (vI 0)] [] M Q) else (WR 111 65 [some (vR x0), some (vR x1), some (vI x2), some (vI x3), some (vI (x4 + 1)), some (vI (x5 + 0)), some (vI x6), some (vI x7), some (vI x8), some (vI (x9 + 1)), some (vI 0)] [] M Q)))))))))) : WR 111 65 [some (vR x0), some (vR x1), some (vI x2), some (vI x3), some (vI x4), some (vI x5), some (vI x6), some (vI x7), some (vI x8), some (vI x9), l10] [] M Q := by
  refine g_5 (a := 9) (b := 0) (nx := 67) (by decide +kernel) rfl ?_
  refine g_5 (a := 7) (b := 0) (nx := 69) (by decide +kernel) rfl ?_
  obtain ⟨r1, h⟩ := h
  obtain ⟨r2, h⟩ := h
  by_cases c13 : x7 ≤ x9
  · rw [if_pos c13] at h
    refine g_41t (a := 3) (b := 128) (nx := 72) (by decide +kernel) (by rw [wr_id r1, wr_id r2]; exact (cb_3 _ _).mpr c13) ?_
    refine g_11 (a := 6) (b := 1) (nx := 131) (by decide +kernel) rfl rfl (ls' := [some (vR x0), some (vR x1), some (vI x2), some (vI x3), some (vI x4), some (vI x5), some (vI (x6 + 1)), some (vI x7), some (vI x8), some (vI x9), l10]) rfl ?_
    refine g_44 (a := 0) (b := 9) (nx := 134) (by decide +kernel) ?_
    exact h
  · rw [if_neg c13] at h
    refine g_41f (a := 3) (b := 128) (nx := 72) (by decide +kernel) (by rw [wr_id r1, wr_id r2]; exact fun hz => c13 ((cb_3 _ _).mp hz)) ?_
    refine g_5 (a := 2) (b := 0) (nx := 73) (by decide +kernel) rfl ?_
    obtain ⟨r3, h⟩ := h
    by_cases c12 : x2 ≤ 0
    · rw [if_pos c12] at h
      refine g_40t (a := 5) (b := 89) (nx := 76) (by decide +kernel) r3 (by exact (cb_5 _ _).mpr c12) ?_
      refine g_1 (a := 0) (b := 0) (nx := 90) (by decide +kernel) ?_
      refine g_8 (a := 10) (b := 0) (nx := 92) (by decide +kernel) rfl (ls' := [some (vR x0), some (vR x1), some (vI x2), some (vI x3), some (vI x4), some (vI x5), some (vI x6), some (vI x7), some (vI x8), some (vI x9), some (vI 0)]) rfl ?_
      refine g_5 (a := 5) (b := 0) (nx := 94) (by decide +kernel) rfl ?_
      refine g_5 (a := 10) (b := 0) (nx := 96) (by decide +kernel) rfl ?_
      refine g_5 (a := 9) (b := 0) (nx := 98) (by decide +kernel) rfl ?_
      refine g_5 (a := 8) (b := 0) (nx := 100) (by decide +kernel) rfl ?_
      obtain ⟨r4, h⟩ := h
      by_cases c5 : x9 = x8
      · rw [if_pos c5] at h
        refine g_41f (a := 1) (b := 107) (nx := 103) (by decide +kernel) (by rw [wr_id r1, wr_id r4]; exact fun hz => ((cb_1 _ _).mp hz) c5) ?_
        refine g_1 (a := 1) (b := 0) (nx := 104) (by decide +kernel) ?_
        refine g_44 (a := 0) (b := 108) (nx := 107) (by decide +kernel) ?_
        refine g_41f (a := 0) (b := 115) (nx := 111) (by decide +kernel) (by decide +kernel) ?_
        refine g_1 (a := 1) (b := 0) (nx := 112) (by decide +kernel) ?_
        refine g_44 (a := 0) (b := 116) (nx := 115) (by decide +kernel) ?_
        refine g_15 (a := 0) (b := 0) (nx := 117) (by decide +kernel) ?_
        refine g_8 (a := 5) (b := 0) (nx := 119) (by decide +kernel) rfl (ls' := [some (vR x0), some (vR x1), some (vI x2), some (vI x3), some (vI x4), some (vI (x5 + 1)), some (vI x6), some (vI x7), some (vI x8), some (vI x9), some (vI 0)]) rfl ?_
        refine g_11 (a := 4) (b := 1) (nx := 122) (by decide +kernel) rfl rfl (ls' := [some (vR x0), some (vR x1), some (vI x2), some (vI x3), some (vI (x4 + 1)), some (vI (x5 + 1)), some (vI x6), some (vI x7), some (vI x8), some (vI x9), some (vI 0)]) rfl ?_
        refine g_11 (a := 9) (b := 1) (nx := 125) (by decide +kernel) rfl rfl (ls' := [some (vR x0), some (vR x1), some (vI x2), some (vI x3), some (vI (x4 + 1)), some (vI (x5 + 1)), some (vI x6), some (vI x7), some (vI x8), some (vI (x9 + 1)), some (vI 0)]) rfl ?_
        refine g_44 (a := 0) (b := 65) (nx := 128) (by decide +kernel) ?_
        exact h
      · rw [if_neg c5] at h
        refine g_41t (a := 1) (b := 107) (nx := 103) (by decide +kernel) (by rw [wr_id r1, wr_id r4]; exact (cb_1 _ _).mpr c5) ?_
        refine g_1 (a := 0) (b := 0) (nx := 108) (by decide +kernel) ?_
        refine g_41t (a := 0) (b := 115) (nx := 111) (by decide +kernel) (by decide +kernel) ?_
        refine g_1 (a := 0) (b := 0) (nx := 116) (by decide +kernel) ?_
        refine g_15 (a := 0) (b := 0) (nx := 117) (by decide +kernel) ?_
        refine g_8 (a := 5) (b := 0) (nx := 119) (by decide +kernel) rfl (ls' := [some (vR x0), some (vR x1), some (vI x2), some (vI x3), some (vI x4), some (vI (x5 + 0)), some (vI x6), some (vI x7), some (vI x8), some (vI x9), some (vI 0)]) rfl ?_
        refine g_11 (a := 4) (b := 1) (nx := 122) (by decide +kernel) rfl rfl (ls' := [some (vR x0), some (vR x1), some (vI x2), some (vI x3), some (vI (x4 + 1)), some (vI (x5 + 0)), some (vI x6), some (vI x7), some (vI x8), some (vI x9), some (vI 0)]) rfl ?_
        refine g_11 (a := 9) (b := 1) (nx := 125) (by decide +kernel) rfl rfl (ls' := [some (vR x0), some (vR x1), some (vI x2), some (vI x3), some (vI (x4 + 1)), some (vI (x5 + 0)), some (vI x6), some (vI x7), some (vI x8), some (vI (x9 + 1)), some (vI 0)]) rfl ?_
        refine g_44 (a := 0) (b := 65) (nx := 128) (by decide +kernel) ?_
        exact h
    · rw [if_neg c12] at h
      refine g_40f (a := 5) (b := 89) (nx := 76) (by decide +kernel) r3 (by exact fun hz => c12 ((cb_5 _ _).mp hz)) ?_
      refine g_5 (a := 4) (b := 0) (nx := 78) (by decide +kernel) rfl ?_
      refine g_5 (a := 3) (b := 0) (nx := 79) (by decide +kernel) rfl ?_
      refine g_16 (a := 0) (b := 0) (nx := 80) (by decide +kernel) ?_
      refine g_5 (a := 2) (b := 0) (nx := 81) (by decide +kernel) rfl ?_
      refine g_19 (a := 0) (b := 0) (nx := 82) (by decide +kernel) h.1 ?_
      replace h := h.2
      obtain ⟨r6, h⟩ := h
      by_cases c11 : (((x4 - x3)).tmod x2) = 0
      · rw [if_pos c11] at h
        refine g_40f (a := 1) (b := 89) (nx := 85) (by decide +kernel) r6 (by exact fun hz => ((cb_1 _ _).mp hz) c11) ?_
        refine g_1 (a := 1) (b := 0) (nx := 86) (by decide +kernel) ?_
        refine g_44 (a := 0) (b := 90) (nx := 89) (by decide +kernel) ?_
        refine g_8 (a := 10) (b := 0) (nx := 92) (by decide +kernel) rfl (ls' := [some (vR x0), some (vR x1), some (vI x2), some (vI x3), some (vI x4), some (vI x5), some (vI x6), some (vI x7), some (vI x8), some (vI x9), some (vI 1)]) rfl ?_
        refine g_5 (a := 5) (b := 0) (nx := 94) (by decide +kernel) rfl ?_
        refine g_5 (a := 10) (b := 0) (nx := 96) (by decide +kernel) rfl ?_
        refine g_5 (a := 9) (b := 0) (nx := 98) (by decide +kernel) rfl ?_
        refine g_5 (a := 8) (b := 0) (nx := 100) (by decide +kernel) rfl ?_
        obtain ⟨r9, h⟩ := h
        by_cases c10 : x9 = x8
        · rw [if_pos c10] at h
          refine g_41f (a := 1) (b := 107) (nx := 103) (by decide +kernel) (by rw [wr_id r1, wr_id r9]; exact fun hz => ((cb_1 _ _).mp hz) c10) ?_
          refine g_1 (a := 1) (b := 0) (nx := 104) (by decide +kernel) ?_
          refine g_44 (a := 0) (b := 108) (nx := 107) (by decide +kernel) ?_
          refine g_41t (a := 0) (b := 115) (nx := 111) (by decide +kernel) (by decide +kernel) ?_
          refine g_1 (a := 0) (b := 0) (nx := 116) (by decide +kernel) ?_
          refine g_15 (a := 0) (b := 0) (nx := 117) (by decide +kernel) ?_
          refine g_8 (a := 5) (b := 0) (nx := 119) (by decide +kernel) rfl (ls' := [some (vR x0), some (vR x1), some (vI x2), some (vI x3), some (vI x4), some (vI (x5 + 0)), some (vI x6), some (vI x7), some (vI x8), some (vI x9), some (vI 1)]) rfl ?_
          refine g_11 (a := 4) (b := 1) (nx := 122) (by decide +kernel) rfl rfl (ls' := [some (vR x0), some (vR x1), some (vI x2), some (vI x3), some (vI (x4 + 1)), some (vI (x5 + 0)), some (vI x6), some (vI x7), some (vI x8), some (vI x9), some (vI 1)]) rfl ?_
          refine g_11 (a := 9) (b := 1) (nx := 125) (by decide +kernel) rfl rfl (ls' := [some (vR x0), some (vR x1), some (vI x2), some (vI x3), some (vI (x4 + 1)), some (vI (x5 + 0)), some (vI x6), some (vI x7), some (vI x8), some (vI (x9 + 1)), some (vI 1)]) rfl ?_
          refine g_44 (a := 0) (b := 65) (nx := 128) (by decide +kernel) ?_
          exact h
        · rw [if_neg c10] at h
          refine g_41t (a := 1) (b := 107) (nx := 103) (by decide +kernel) (by rw [wr_id r1, wr_id r9]; exact (cb_1 _ _).mpr c10) ?_
          refine g_1 (a := 0) (b := 0) (nx := 108) (by decide +kernel) ?_
          refine g_41f (a := 0) (b := 115) (nx := 111) (by decide +kernel) (by decide +kernel) ?_
          refine g_1 (a := 1) (b := 0) (nx := 112) (by decide +kernel) ?_
          refine g_44 (a := 0) (b := 116) (nx := 115) (by decide +kernel) ?_
          refine g_15 (a := 0) (b := 0) (nx := 117) (by decide +kernel) ?_
          refine g_8 (a := 5) (b := 0) (nx := 119) (by decide +kernel) rfl (ls' := [some (vR x0), some (vR x1), some (vI x2), some (vI x3), some (vI x4), some (vI (x5 + 1)), some (vI x6), some (vI x7), some (vI x8), some (vI x9), some (vI 1)]) rfl ?_
          refine g_11 (a := 4) (b := 1) (nx := 122) (by decide +kernel) rfl rfl (ls' := [some (vR x0), some (vR x1), some (vI x2), some (vI x3), some (vI (x4 + 1)), some (vI (x5 + 1)), some (vI x6), some (vI x7), some (vI x8), some (vI x9), some (vI 1)]) rfl ?_
          refine g_11 (a := 9) (b := 1) (nx := 125) (by decide +kernel) rfl rfl (ls' := [some (vR x0), some (vR x1), some (vI x2), some (vI x3), some (vI (x4 + 1)), some (vI (x5 + 1)), some (vI x6), some (vI x7), some (vI x8), some (vI (x9 + 1)), some (vI 1)]) rfl ?_
          refine g_44 (a := 0) (b := 65) (nx := 128) (by decide +kernel) ?_
          exact h
      · rw [if_neg c11] at h
        refine g_40t (a := 1) (b := 89) (nx := 85) (by decide +kernel) r6 (by exact (cb_1 _ _).mpr c11) ?_
        refine g_1 (a := 0) (b := 0) (nx := 90) (by decide +kernel) ?_
        refine g_8 (a := 10) (b := 0) (nx := 92) (by decide +kernel) rfl (ls' := [some (vR x0), some (vR x1), some (vI x2), some (vI x3), some (vI x4), some (vI x5), some (vI x6), some (vI x7), some (vI x8), some (vI x9), some (vI 0)]) rfl ?_
        refine g_5 (a := 5) (b := 0) (nx := 94) (by decide +kernel) rfl ?_
        refine g_5 (a := 10) (b := 0) (nx := 96) (by decide +kernel) rfl ?_
        refine g_5 (a := 9) (b := 0) (nx := 98) (by decide +kernel) rfl ?_
        refine g_5 (a := 8) (b := 0) (nx := 100) (by decide +kernel) rfl ?_
        obtain ⟨r7, h⟩ := h
        by_cases c8 : x9 = x8
        · rw [if_pos c8] at h
          refine g_41f (a := 1) (b := 107) (nx := 103) (by decide +kernel) (by rw [wr_id r1, wr_id r7]; exact fun hz => ((cb_1 _ _).mp hz) c8) ?_
          refine g_1 (a := 1) (b := 0) (nx := 104) (by decide +kernel) ?_
          refine g_44 (a := 0) (b := 108) (nx := 107) (by decide +kernel) ?_
          refine g_41f (a := 0) (b := 115) (nx := 111) (by decide +kernel) (by decide +kernel) ?_
          refine g_1 (a := 1) (b := 0) (nx := 112) (by decide +kernel) ?_
          refine g_44 (a := 0) (b := 116) (nx := 115) (by decide +kernel) ?_
          refine g_15 (a := 0) (b := 0) (nx := 117) (by decide +kernel) ?_
          refine g_8 (a := 5) (b := 0) (nx := 119) (by decide +kernel) rfl (ls' := [some (vR x0), some (vR x1), some (vI x2), some (vI x3), some (vI x4), some (vI (x5 + 1)), some (vI x6), some (vI x7), some (vI x8), some (vI x9), some (vI 0)]) rfl ?_
          refine g_11 (a := 4) (b := 1) (nx := 122) (by decide +kernel) rfl rfl (ls' := [some (vR x0), some (vR x1), some (vI x2), some (vI x3), some (vI (x4 + 1)), some (vI (x5 + 1)), some (vI x6), some (vI x7), some (vI x8), some (vI x9), some (vI 0)]) rfl ?_
          refine g_11 (a := 9) (b := 1) (nx := 125) (by decide +kernel) rfl rfl (ls' := [some (vR x0), some (vR x1), some (vI x2), some (vI x3), some (vI (x4 + 1)), some (vI (x5 + 1)), some (vI x6), some (vI x7), some (vI x8), some (vI (x9 + 1)), some (vI 0)]) rfl ?_
          refine g_44 (a := 0) (b := 65) (nx := 128) (by decide +kernel) ?_
          exact h
        · rw [if_neg c8] at h
          refine g_41t (a := 1) (b := 107) (nx := 103) (by decide +kernel) (by rw [wr_id r1, wr_id r7]; exact (cb_1 _ _).mpr c8) ?_
          refine g_1 (a := 0) (b := 0) (nx := 108) (by decide +kernel) ?_
          refine g_41t (a := 0) (b := 115) (nx := 111) (by decide +kernel) (by decide +kernel) ?_
          refine g_1 (a := 0) (b := 0) (nx := 116) (by decide +kernel) ?_
          refine g_15 (a := 0) (b := 0) (nx := 117) (by decide +kernel) ?_
          refine g_8 (a := 5) (b := 0) (nx := 119) (by decide +kernel) rfl (ls' := [some (vR x0), some (vR x1), some (vI x2), some (vI x3), some (vI x4), some (vI (x5 + 0)), some (vI x6), some (vI x7), some (vI x8), some (vI x9), some (vI 0)]) rfl ?_
          refine g_11 (a := 4) (b := 1) (nx := 122) (by decide +kernel) rfl rfl (ls' := [some (vR x0), some (vR x1), some (vI x2), some (vI x3), some (vI (x4 + 1)), some (vI (x5 + 0)), some (vI x6), some (vI x7), some (vI x8), some (vI x9), some (vI 0)]) rfl ?_
          refine g_11 (a := 9) (b := 1) (nx := 125) (by decide +kernel) rfl rfl (ls' := [some (vR x0), some (vR x1), some (vI x2), some (vI x3), some (vI (x4 + 1)), some (vI (x5 + 0)), some (vI x6), some (vI x7), some (vI x8), some (vI (x9 + 1)), some (vI 0)]) rfl ?_
          refine g_44 (a := 0) (b := 65) (nx := 128) (by decide +kernel) ?_
          exact h
-- 112 SyllableMaker$Speech.stressedEnd(LSyllableMaker$Law;LSyllableMaker$Row;)J
theorem t_112 {x0 x1 x2 : Int} {M : Mem} {Q : AV → Mem → Prop} (h0 : gO 7 x0) (h : ((shA SH (M x0 0)).1 = 1) ∧ WV 11 [vR (M x0 0), vR x1, vR x2] M (fun M1 => ((shA SH (M1 x0 0)).1 = 1) ∧ WV 17 [vR (M1 x0 0)] M1 (fun M3 => (gO 1 (M3 x0 0)) ∧ inR (M3 (M3 x0 0) 9) ∧ (if (M3 (M3 x0 0) 9) = 0 then (Q (vL 0) M3) else (((shA SH (M3 x0 0)).1 = 1) ∧ WI 38 [vR (M3 x0 0)] M3 (fun y7 M6 => ((shA SH (M3 x0 0)).1 = 1) ∧ WL 31 [vR (M3 x0 0), vI y7] M6 (fun y9 M8 => Q (vL y9) M8))))))) : WC 112 [vR x0, vR x1, vR x2] M Q := by
  show WR 112 0 [some (vR x0), some (vR x1), some (vR x2)] [] M Q
  refine g_7 (a := 0) (b := 0) (nx := 1) (by decide +kernel) rfl ?_
  refine g_52 (a := 7) (b := 0) (nx := 4) (by decide +kernel) h0 ?_
  refine g_7 (a := 1) (b := 0) (nx := 5) (by decide +kernel) rfl ?_
  refine g_7 (a := 2) (b := 0) (nx := 6) (by decide +kernel) rfl ?_
  refine g_80 (a := 11) (b := 2) (nx := 9) (by decide +kernel) (r := (M x0 0)) (As := [vR x1, vR x2]) (st' := []) (z := 11) rfl rfl rfl (Nat.le_of_ble_eq_true rfl) h.1 (Nat.le_of_ble_eq_true rfl) rfl (c_V (by decide +kernel) h.2 (fun M1 h => ?_))
  refine g_7 (a := 0) (b := 0) (nx := 10) (by decide +kernel) rfl ?_
  refine g_52 (a := 7) (b := 0) (nx := 13) (by decide +kernel) h0 ?_
  refine g_80 (a := 17) (b := 0) (nx := 16) (by decide +kernel) (r := (M1 x0 0)) (As := []) (st' := []) (z := 17) rfl rfl rfl (Nat.le_of_ble_eq_true rfl) h.1 (Nat.le_of_ble_eq_true rfl) rfl (c_V (by decide +kernel) h.2 (fun M3 h => ?_))
  refine g_7 (a := 0) (b := 0) (nx := 17) (by decide +kernel) rfl ?_
  refine g_52 (a := 7) (b := 0) (nx := 20) (by decide +kernel) h0 ?_
  refine g_50 (a := 1) (b := 9) (nx := 23) (by decide +kernel) h.1 ?_
  replace h := h.2
  obtain ⟨r5, h⟩ := h
  by_cases c10 : (M3 (M3 x0 0) 9) = 0
  · rw [if_pos c10] at h
    refine g_40f (a := 1) (b := 30) (nx := 26) (by decide +kernel) r5 (by exact fun hz => ((cb_1 _ _).mp hz) c10) ?_
    refine g_2 (a := 0) (b := 0) (nx := 27) (by decide +kernel) ?_
    refine g_44 (a := 0) (b := 44) (nx := 30) (by decide +kernel) ?_
    exact g_92 (a := 0) (b := 0) (nx := 45) (by decide +kernel) h
  · rw [if_neg c10] at h
    refine g_40t (a := 1) (b := 30) (nx := 26) (by decide +kernel) r5 (by exact (cb_1 _ _).mpr c10) ?_
    refine g_7 (a := 0) (b := 0) (nx := 31) (by decide +kernel) rfl ?_
    refine g_52 (a := 7) (b := 0) (nx := 34) (by decide +kernel) h0 ?_
    refine g_7 (a := 0) (b := 0) (nx := 35) (by decide +kernel) rfl ?_
    refine g_52 (a := 7) (b := 0) (nx := 38) (by decide +kernel) h0 ?_
    refine g_80 (a := 38) (b := 0) (nx := 41) (by decide +kernel) (r := (M3 x0 0)) (As := []) (st' := [vR (M3 x0 0)]) (z := 38) rfl rfl rfl (Nat.le_of_ble_eq_true rfl) h.1 (Nat.le_of_ble_eq_true rfl) rfl (c_I (by decide +kernel) h.2 (fun y7 M6 h => ?_))
    refine g_80 (a := 31) (b := 1) (nx := 44) (by decide +kernel) (r := (M3 x0 0)) (As := [vI y7]) (st' := []) (z := 31) rfl rfl rfl (Nat.le_of_ble_eq_true rfl) h.1 (Nat.le_of_ble_eq_true rfl) rfl (c_L (by decide +kernel) h.2 (fun y9 M8 h => ?_))
    exact g_92 (a := 0) (b := 0) (nx := 45) (by decide +kernel) h
-- 114 SyllableMaker$Tally.fill(LSyllableMaker$Law;)V
theorem t_114 {x0 x1 : Int} {M : Mem} {Q : AV → Mem → Prop} (h0 : gO 8 x0) (h : WR 114 2 [some (vR x0), some (vR x1), some (vI 0), none] [] M Q) : WC 114 [vR x0, vR x1] M Q := by
  show WR 114 0 [some (vR x0), some (vR x1), none, none] [] M Q
  refine g_1 (a := 0) (b := 0) (nx := 1) (by decide +kernel) ?_
  refine g_8 (a := 2) (b := 0) (nx := 2) (by decide +kernel) rfl (ls' := [some (vR x0), some (vR x1), some (vI 0), none]) rfl ?_
  exact h
theorem t_114_2 {x0 x1 x2 : Int} {M : Mem} {Q : AV → Mem → Prop} (h0 : gO 8 x0) (h : inR x2 ∧ (if 3 ≤ x2 then (WR 114 27 [some (vR x0), some (vR x1), some (vI 0), none] [] (upM M x0 4 0) Q) else ((gA 20 (M x0 3) x2) ∧ WR 114 2 [some (vR x0), some (vR x1), some (vI (x2 + 1)), none] [] (upM M (M x0 3) x2 0) Q))) : WR 114 2 [some (vR x0), some (vR x1), some (vI x2), none] [] M Q := by
  refine g_5 (a := 2) (b := 0) (nx := 3) (by decide +kernel) rfl ?_
  refine g_1 (a := 3) (b := 0) (nx := 4) (by decide +kernel) ?_
  obtain ⟨r1, h⟩ := h
  by_cases c2 : 3 ≤ x2
  · rw [if_pos c2] at h
    refine g_41t (a := 3) (b := 20) (nx := 7) (by decide +kernel) (by rw [wr_id r1, wr_id (show inR 3 by decide)]; exact (cb_3 _ _).mpr c2) ?_
    refine g_7 (a := 0) (b := 0) (nx := 21) (by decide +kernel) rfl ?_
    refine g_1 (a := 0) (b := 0) (nx := 22) (by decide +kernel) ?_
    refine g_53 (a := 8) (b := 4) (nx := 25) (by decide +kernel) h0 ?_
    refine g_1 (a := 0) (b := 0) (nx := 26) (by decide +kernel) ?_
    refine g_8 (a := 2) (b := 0) (nx := 27) (by decide +kernel) rfl (ls' := [some (vR x0), some (vR x1), some (vI 0), none]) rfl ?_
    exact h
  · rw [if_neg c2] at h
    refine g_41f (a := 3) (b := 20) (nx := 7) (by decide +kernel) (by rw [wr_id r1, wr_id (show inR 3 by decide)]; exact fun hz => c2 ((cb_3 _ _).mp hz)) ?_
    refine g_7 (a := 0) (b := 0) (nx := 8) (by decide +kernel) rfl ?_
    refine g_52 (a := 8) (b := 3) (nx := 11) (by decide +kernel) h0 ?_
    refine g_5 (a := 2) (b := 0) (nx := 12) (by decide +kernel) rfl ?_
    refine g_1 (a := 0) (b := 0) (nx := 13) (by decide +kernel) ?_
    refine g_62 (a := 0) (b := 0) (nx := 14) (by decide +kernel) h.1 ?_
    replace h := h.2
    refine g_11 (a := 2) (b := 1) (nx := 17) (by decide +kernel) rfl rfl (ls' := [some (vR x0), some (vR x1), some (vI (x2 + 1)), none]) rfl ?_
    refine g_44 (a := 0) (b := 2) (nx := 20) (by decide +kernel) ?_
    exact h
theorem t_114_27 {x0 x1 x2 : Int} {l3 : Option AV} {M : Mem} {Q : AV → Mem → Prop} (h0 : gO 8 x0) (h : (gO 2 x1) ∧ (gO 10 (M x1 1)) ∧ inR x2 ∧ (inR (M (M x1 1) 2) ∧ (if (M (M x1 1) 2) ≤ x2 then (Q (vI 0) M) else ((gO 2 x1) ∧ ((shA SH (M x1 1)).1 = 10) ∧ WF 136 [vR (M x1 1), vI x2] M (fun y4 M3 => y4 ≠ -1000 ∧ (if y4 = 0 then (WR 114 27 [some (vR x0), some (vR x1), some (vI (x2 + 1)), some (vR y4)] [] M3 Q) else (((shA SH (M3 x0 0)).1 = 1) ∧ WV 11 [vR (M3 x0 0), vR x1, vR y4] M3 (fun M5 => ((shA SH (M5 x0 0)).1 = 1) ∧ WV 17 [vR (M5 x0 0)] M5 (fun M7 => WV 115 [vR x0] M7 (fun M9 => WR 114 27 [some (vR x0), some (vR x1), some (vI (x2 + 1)), some (vR y4)] [] M9 Q)))))))))) : WR 114 27 [some (vR x0), some (vR x1), some (vI x2), l3] [] M Q := by
  refine g_5 (a := 2) (b := 0) (nx := 28) (by decide +kernel) rfl ?_
  refine g_7 (a := 1) (b := 0) (nx := 29) (by decide +kernel) rfl ?_
  refine g_52 (a := 2) (b := 1) (nx := 32) (by decide +kernel) h.1 ?_
  replace h := h.2
  refine g_50 (a := 10) (b := 2) (nx := 35) (by decide +kernel) h.1 ?_
  replace h := h.2
  obtain ⟨r1, h⟩ := h
  obtain ⟨r2, h⟩ := h
  by_cases c12 : (M (M x1 1) 2) ≤ x2
  · rw [if_pos c12] at h
    refine g_41t (a := 3) (b := 77) (nx := 38) (by decide +kernel) (by rw [wr_id r1, wr_id r2]; exact (cb_3 _ _).mpr c12) ?_
    exact g_90 (a := 0) (b := 0) (nx := 78) (by decide +kernel) h
  · rw [if_neg c12] at h
    refine g_41f (a := 3) (b := 77) (nx := 38) (by decide +kernel) (by rw [wr_id r1, wr_id r2]; exact fun hz => c12 ((cb_3 _ _).mp hz)) ?_
    refine g_7 (a := 1) (b := 0) (nx := 39) (by decide +kernel) rfl ?_
    refine g_52 (a := 2) (b := 1) (nx := 42) (by decide +kernel) h.1 ?_
    replace h := h.2
    refine g_5 (a := 2) (b := 0) (nx := 43) (by decide +kernel) rfl ?_
    refine g_80 (a := 136) (b := 1) (nx := 46) (by decide +kernel) (r := (M x1 1)) (As := [vI x2]) (st' := []) (z := 136) rfl rfl rfl (Nat.le_of_ble_eq_true rfl) h.1 (Nat.le_of_ble_eq_true rfl) rfl (c_R (by decide +kernel) h.2 (fun y4 M3 h => ?_))
    refine g_10 (a := 3) (b := 0) (nx := 47) (by decide +kernel) rfl (ls' := [some (vR x0), some (vR x1), some (vI x2), some (vR y4)]) rfl ?_
    refine g_7 (a := 3) (b := 0) (nx := 48) (by decide +kernel) rfl ?_
    obtain ⟨q0, h⟩ := h
    by_cases c11 : y4 = 0
    · rw [if_pos c11] at h
      refine g_42t (a := 0) (b := 71) (nx := 51) (by decide +kernel) c11 ?_
      refine g_11 (a := 2) (b := 1) (nx := 74) (by decide +kernel) rfl rfl (ls' := [some (vR x0), some (vR x1), some (vI (x2 + 1)), some (vR y4)]) rfl ?_
      refine g_44 (a := 0) (b := 27) (nx := 77) (by decide +kernel) ?_
      exact h
    · rw [if_neg c11] at h
      refine g_42f (a := 0) (b := 71) (nx := 51) (by decide +kernel) q0 c11 ?_
      refine g_7 (a := 0) (b := 0) (nx := 52) (by decide +kernel) rfl ?_
      refine g_52 (a := 8) (b := 0) (nx := 55) (by decide +kernel) h0 ?_
      refine g_7 (a := 1) (b := 0) (nx := 56) (by decide +kernel) rfl ?_
      refine g_7 (a := 3) (b := 0) (nx := 57) (by decide +kernel) rfl ?_
      refine g_80 (a := 11) (b := 2) (nx := 60) (by decide +kernel) (r := (M3 x0 0)) (As := [vR x1, vR y4]) (st' := []) (z := 11) rfl rfl rfl (Nat.le_of_ble_eq_true rfl) h.1 (Nat.le_of_ble_eq_true rfl) rfl (c_V (by decide +kernel) h.2 (fun M5 h => ?_))
      refine g_7 (a := 0) (b := 0) (nx := 61) (by decide +kernel) rfl ?_
      refine g_52 (a := 8) (b := 0) (nx := 64) (by decide +kernel) h0 ?_
      refine g_80 (a := 17) (b := 0) (nx := 67) (by decide +kernel) (r := (M5 x0 0)) (As := []) (st' := []) (z := 17) rfl rfl rfl (Nat.le_of_ble_eq_true rfl) h.1 (Nat.le_of_ble_eq_true rfl) rfl (c_V (by decide +kernel) h.2 (fun M7 h => ?_))
      refine g_7 (a := 0) (b := 0) (nx := 68) (by decide +kernel) rfl ?_
      refine g_80 (a := 115) (b := 0) (nx := 71) (by decide +kernel) (r := x0) (As := []) (st' := []) (z := 115) rfl rfl rfl (Nat.le_of_ble_eq_true rfl) h0.2 (Nat.le_of_ble_eq_true rfl) rfl (c_V (by decide +kernel) h (fun M9 h => ?_))
      refine g_11 (a := 2) (b := 1) (nx := 74) (by decide +kernel) rfl rfl (ls' := [some (vR x0), some (vR x1), some (vI (x2 + 1)), some (vR y4)]) rfl ?_
      refine g_44 (a := 0) (b := 27) (nx := 77) (by decide +kernel) ?_
      exact h
-- 115 SyllableMaker$Tally.countSyllables()V
theorem t_115 {x0 : Int} {M : Mem} {Q : AV → Mem → Prop} (h0 : gO 8 x0) (h : WR 115 2 [some (vR x0), some (vI 0)] [] M Q) : WC 115 [vR x0] M Q := by
  show WR 115 0 [some (vR x0), none] [] M Q
  refine g_1 (a := 0) (b := 0) (nx := 1) (by decide +kernel) ?_
  refine g_8 (a := 1) (b := 0) (nx := 2) (by decide +kernel) rfl (ls' := [some (vR x0), some (vI 0)]) rfl ?_
  exact h
theorem t_115_2 {x0 x1 : Int} {M : Mem} {Q : AV → Mem → Prop} (h0 : gO 8 x0) (h : (gO 1 (M x0 0)) ∧ inR x1 ∧ (inR (M (M x0 0) 9) ∧ (if (M (M x0 0) 9) ≤ x1 then (Q (vI 0) M) else (((shA SH (M x0 0)).1 = 1) ∧ WL 28 [vR (M x0 0), vI x1] M (fun y4 M3 => WV 116 [vR x0, vI 0, vL y4] M3 (fun M5 => ((shA SH (M5 x0 0)).1 = 1) ∧ WL 29 [vR (M5 x0 0), vI x1] M5 (fun y8 M7 => WV 116 [vR x0, vI 1, vL y8] M7 (fun M9 => ((shA SH (M9 x0 0)).1 = 1) ∧ WL 30 [vR (M9 x0 0), vI x1] M9 (fun y12 M11 => WV 116 [vR x0, vI 2, vL y12] M11 (fun M13 => WR 115 2 [some (vR x0), some (vI (x1 + 1))] [] (upM M13 x0 4 ((M13 x0 4) + 1)) Q)))))))))) : WR 115 2 [some (vR x0), some (vI x1)] [] M Q := by
  refine g_5 (a := 1) (b := 0) (nx := 3) (by decide +kernel) rfl ?_
  refine g_7 (a := 0) (b := 0) (nx := 4) (by decide +kernel) rfl ?_
  refine g_52 (a := 8) (b := 0) (nx := 7) (by decide +kernel) h0 ?_
  refine g_50 (a := 1) (b := 9) (nx := 10) (by decide +kernel) h.1 ?_
  replace h := h.2
  obtain ⟨r1, h⟩ := h
  obtain ⟨r2, h⟩ := h
  by_cases c15 : (M (M x0 0) 9) ≤ x1
  · rw [if_pos c15] at h
    refine g_41t (a := 3) (b := 68) (nx := 13) (by decide +kernel) (by rw [wr_id r1, wr_id r2]; exact (cb_3 _ _).mpr c15) ?_
    exact g_90 (a := 0) (b := 0) (nx := 69) (by decide +kernel) h
  · rw [if_neg c15] at h
    refine g_41f (a := 3) (b := 68) (nx := 13) (by decide +kernel) (by rw [wr_id r1, wr_id r2]; exact fun hz => c15 ((cb_3 _ _).mp hz)) ?_
    refine g_7 (a := 0) (b := 0) (nx := 14) (by decide +kernel) rfl ?_
    refine g_1 (a := 0) (b := 0) (nx := 15) (by decide +kernel) ?_
    refine g_7 (a := 0) (b := 0) (nx := 16) (by decide +kernel) rfl ?_
    refine g_52 (a := 8) (b := 0) (nx := 19) (by decide +kernel) h0 ?_
    refine g_5 (a := 1) (b := 0) (nx := 20) (by decide +kernel) rfl ?_
    refine g_80 (a := 28) (b := 1) (nx := 23) (by decide +kernel) (r := (M x0 0)) (As := [vI x1]) (st' := [vI 0, vR x0]) (z := 28) rfl rfl rfl (Nat.le_of_ble_eq_true rfl) h.1 (Nat.le_of_ble_eq_true rfl) rfl (c_L (by decide +kernel) h.2 (fun y4 M3 h => ?_))
    refine g_80 (a := 116) (b := 2) (nx := 26) (by decide +kernel) (r := x0) (As := [vI 0, vL y4]) (st' := []) (z := 116) rfl rfl rfl (Nat.le_of_ble_eq_true rfl) h0.2 (Nat.le_of_ble_eq_true rfl) rfl (c_V (by decide +kernel) h (fun M5 h => ?_))
    refine g_7 (a := 0) (b := 0) (nx := 27) (by decide +kernel) rfl ?_
    refine g_1 (a := 1) (b := 0) (nx := 28) (by decide +kernel) ?_
    refine g_7 (a := 0) (b := 0) (nx := 29) (by decide +kernel) rfl ?_
    refine g_52 (a := 8) (b := 0) (nx := 32) (by decide +kernel) h0 ?_
    refine g_5 (a := 1) (b := 0) (nx := 33) (by decide +kernel) rfl ?_
    refine g_80 (a := 29) (b := 1) (nx := 36) (by decide +kernel) (r := (M5 x0 0)) (As := [vI x1]) (st' := [vI 1, vR x0]) (z := 29) rfl rfl rfl (Nat.le_of_ble_eq_true rfl) h.1 (Nat.le_of_ble_eq_true rfl) rfl (c_L (by decide +kernel) h.2 (fun y8 M7 h => ?_))
    refine g_80 (a := 116) (b := 2) (nx := 39) (by decide +kernel) (r := x0) (As := [vI 1, vL y8]) (st' := []) (z := 116) rfl rfl rfl (Nat.le_of_ble_eq_true rfl) h0.2 (Nat.le_of_ble_eq_true rfl) rfl (c_V (by decide +kernel) h (fun M9 h => ?_))
    refine g_7 (a := 0) (b := 0) (nx := 40) (by decide +kernel) rfl ?_
    refine g_1 (a := 2) (b := 0) (nx := 41) (by decide +kernel) ?_
    refine g_7 (a := 0) (b := 0) (nx := 42) (by decide +kernel) rfl ?_
    refine g_52 (a := 8) (b := 0) (nx := 45) (by decide +kernel) h0 ?_
    refine g_5 (a := 1) (b := 0) (nx := 46) (by decide +kernel) rfl ?_
    refine g_80 (a := 30) (b := 1) (nx := 49) (by decide +kernel) (r := (M9 x0 0)) (As := [vI x1]) (st' := [vI 2, vR x0]) (z := 30) rfl rfl rfl (Nat.le_of_ble_eq_true rfl) h.1 (Nat.le_of_ble_eq_true rfl) rfl (c_L (by decide +kernel) h.2 (fun y12 M11 h => ?_))
    refine g_80 (a := 116) (b := 2) (nx := 52) (by decide +kernel) (r := x0) (As := [vI 2, vL y12]) (st' := []) (z := 116) rfl rfl rfl (Nat.le_of_ble_eq_true rfl) h0.2 (Nat.le_of_ble_eq_true rfl) rfl (c_V (by decide +kernel) h (fun M13 h => ?_))
    refine g_7 (a := 0) (b := 0) (nx := 53) (by decide +kernel) rfl ?_
    refine g_13 (a := 0) (b := 0) (nx := 54) (by decide +kernel) rfl ?_
    refine g_50 (a := 8) (b := 4) (nx := 57) (by decide +kernel) h0 ?_
    refine g_1 (a := 1) (b := 0) (nx := 58) (by decide +kernel) ?_
    refine g_15 (a := 0) (b := 0) (nx := 59) (by decide +kernel) ?_
    refine g_53 (a := 8) (b := 4) (nx := 62) (by decide +kernel) h0 ?_
    refine g_11 (a := 1) (b := 1) (nx := 65) (by decide +kernel) rfl rfl (ls' := [some (vR x0), some (vI (x1 + 1))]) rfl ?_
    refine g_44 (a := 0) (b := 2) (nx := 68) (by decide +kernel) ?_
    exact h
-- 116 SyllableMaker$Tally.count(IJ)V
theorem t_116 {x0 x1 x2 : Int} {M : Mem} {Q : AV → Mem → Prop} (h0 : gO 8 x0) (h : WR 116 3 [some (vR x0), some (vI x1), some (vL x2), none, some (vI 0)] [] M Q) : WC 116 [vR x0, vI x1, vL x2] M Q := by
  show WR 116 0 [some (vR x0), some (vI x1), some (vL x2), none, none] [] M Q
  refine g_1 (a := 0) (b := 0) (nx := 1) (by decide +kernel) ?_
  refine g_8 (a := 4) (b := 0) (nx := 3) (by decide +kernel) rfl (ls' := [some (vR x0), some (vI x1), some (vL x2), none, some (vI 0)]) rfl ?_
  exact h
theorem t_116_3 {x0 x1 x2 x4 : Int} {M : Mem} {Q : AV → Mem → Prop} (h0 : gO 8 x0) (h : (gA 20 (M x0 3) x1) ∧ inR x4 ∧ (inR (M (M x0 3) x1) ∧ (if (M (M x0 3) x1) ≤ x4 then (if x4 < 240 then ((gA 20 (M x0 3) x1) ∧ if x4 = (M (M x0 3) x1) then ((gA 24 (M x0 1) x1 ∨ gA 25 (M x0 1) x1 ∨ gA 26 (M x0 1) x1) ∧ (gA 23 (M (M x0 1) x1) x4) ∧ (gA 24 ((upM M (M (M x0 1) x1) x4 x2) x0 2) x1 ∨ gA 25 ((upM M (M (M x0 1) x1) x4 x2) x0 2) x1 ∨ gA 26 ((upM M (M (M x0 1) x1) x4 x2) x0 2) x1) ∧ (gA 20 ((upM M (M (M x0 1) x1) x4 x2) ((upM M (M (M x0 1) x1) x4 x2) x0 2) x1) x4) ∧ (gA 20 ((upM (upM M (M (M x0 1) x1) x4 x2) ((upM M (M (M x0 1) x1) x4 x2) ((upM M (M (M x0 1) x1) x4 x2) x0 2) x1) x4 0) x0 3) x1) ∧ (gA 20 ((upM (upM M (M (M x0 1) x1) x4 x2) ((upM M (M (M x0 1) x1) x4 x2) ((upM M (M (M x0 1) x1) x4 x2) x0 2) x1) x4 0) x0 3) x1) ∧ (gA 24 ((upM (upM (upM M (M (M x0 1) x1) x4 x2) ((upM M (M (M x0 1) x1) x4 x2) ((upM M (M (M x0 1) x1) x4 x2) x0 2) x1) x4 0) ((upM (upM M (M (M x0 1) x1) x4 x2) ((upM M (M (M x0 1) x1) x4 x2) ((upM M (M (M x0 1) x1) x4 x2) x0 2) x1) x4 0) x0 3) x1 (((upM (upM M (M (M x0 1) x1) x4 x2) ((upM M (M (M x0 1) x1) x4 x2) ((upM M (M (M x0 1) x1) x4 x2) x0 2) x1) x4 0) ((upM (upM M (M (M x0 1) x1) x4 x2) ((upM M (M (M x0 1) x1) x4 x2) ((upM M (M (M x0 1) x1) x4 x2) x0 2) x1) x4 0) x0 3) x1) + 1)) x0 2) x1 ∨ gA 25 ((upM (upM (upM M (M (M x0 1) x1) x4 x2) ((upM M (M (M x0 1) x1) x4 x2) ((upM M (M (M x0 1) x1) x4 x2) x0 2) x1) x4 0) ((upM (upM M (M (M x0 1) x1) x4 x2) ((upM M (M (M x0 1) x1) x4 x2) ((upM M (M (M x0 1) x1) x4 x2) x0 2) x1) x4 0) x0 3) x1 (((upM (upM M (M (M x0 1) x1) x4 x2) ((upM M (M (M x0 1) x1) x4 x2) ((upM M (M (M x0 1) x1) x4 x2) x0 2) x1) x4 0) ((upM (upM M (M (M x0 1) x1) x4 x2) ((upM M (M (M x0 1) x1) x4 x2) ((upM M (M (M x0 1) x1) x4 x2) x0 2) x1) x4 0) x0 3) x1) + 1)) x0 2) x1 ∨ gA 26 ((upM (upM (upM M (M (M x0 1) x1) x4 x2) ((upM M (M (M x0 1) x1) x4 x2) ((upM M (M (M x0 1) x1) x4 x2) x0 2) x1) x4 0) ((upM (upM M (M (M x0 1) x1) x4 x2) ((upM M (M (M x0 1) x1) x4 x2) ((upM M (M (M x0 1) x1) x4 x2) x0 2) x1) x4 0) x0 3) x1 (((upM (upM M (M (M x0 1) x1) x4 x2) ((upM M (M (M x0 1) x1) x4 x2) ((upM M (M (M x0 1) x1) x4 x2) x0 2) x1) x4 0) ((upM (upM M (M (M x0 1) x1) x4 x2) ((upM M (M (M x0 1) x1) x4 x2) ((upM M (M (M x0 1) x1) x4 x2) x0 2) x1) x4 0) x0 3) x1) + 1)) x0 2) x1) ∧ (gA 20 ((upM (upM (upM M (M (M x0 1) x1) x4 x2) ((upM M (M (M x0 1) x1) x4 x2) ((upM M (M (M x0 1) x1) x4 x2) x0 2) x1) x4 0) ((upM (upM M (M (M x0 1) x1) x4 x2) ((upM M (M (M x0 1) x1) x4 x2) ((upM M (M (M x0 1) x1) x4 x2) x0 2) x1) x4 0) x0 3) x1 (((upM (upM M (M (M x0 1) x1) x4 x2) ((upM M (M (M x0 1) x1) x4 x2) ((upM M (M (M x0 1) x1) x4 x2) x0 2) x1) x4 0) ((upM (upM M (M (M x0 1) x1) x4 x2) ((upM M (M (M x0 1) x1) x4 x2) ((upM M (M (M x0 1) x1) x4 x2) x0 2) x1) x4 0) x0 3) x1) + 1)) ((upM (upM (upM M (M (M x0 1) x1) x4 x2) ((upM M (M (M x0 1) x1) x4 x2) ((upM M (M (M x0 1) x1) x4 x2) x0 2) x1) x4 0) ((upM (upM M (M (M x0 1) x1) x4 x2) ((upM M (M (M x0 1) x1) x4 x2) ((upM M (M (M x0 1) x1) x4 x2) x0 2) x1) x4 0) x0 3) x1 (((upM (upM M (M (M x0 1) x1) x4 x2) ((upM M (M (M x0 1) x1) x4 x2) ((upM M (M (M x0 1) x1) x4 x2) x0 2) x1) x4 0) ((upM (upM M (M (M x0 1) x1) x4 x2) ((upM M (M (M x0 1) x1) x4 x2) ((upM M (M (M x0 1) x1) x4 x2) x0 2) x1) x4 0) x0 3) x1) + 1)) x0 2) x1) x4) ∧ (gA 20 ((upM (upM (upM M (M (M x0 1) x1) x4 x2) ((upM M (M (M x0 1) x1) x4 x2) ((upM M (M (M x0 1) x1) x4 x2) x0 2) x1) x4 0) ((upM (upM M (M (M x0 1) x1) x4 x2) ((upM M (M (M x0 1) x1) x4 x2) ((upM M (M (M x0 1) x1) x4 x2) x0 2) x1) x4 0) x0 3) x1 (((upM (upM M (M (M x0 1) x1) x4 x2) ((upM M (M (M x0 1) x1) x4 x2) ((upM M (M (M x0 1) x1) x4 x2) x0 2) x1) x4 0) ((upM (upM M (M (M x0 1) x1) x4 x2) ((upM M (M (M x0 1) x1) x4 x2) ((upM M (M (M x0 1) x1) x4 x2) x0 2) x1) x4 0) x0 3) x1) + 1)) ((upM (upM (upM M (M (M x0 1) x1) x4 x2) ((upM M (M (M x0 1) x1) x4 x2) ((upM M (M (M x0 1) x1) x4 x2) x0 2) x1) x4 0) ((upM (upM M (M (M x0 1) x1) x4 x2) ((upM M (M (M x0 1) x1) x4 x2) ((upM M (M (M x0 1) x1) x4 x2) x0 2) x1) x4 0) x0 3) x1 (((upM (upM M (M (M x0 1) x1) x4 x2) ((upM M (M (M x0 1) x1) x4 x2) ((upM M (M (M x0 1) x1) x4 x2) x0 2) x1) x4 0) ((upM (upM M (M (M x0 1) x1) x4 x2) ((upM M (M (M x0 1) x1) x4 x2) ((upM M (M (M x0 1) x1) x4 x2) x0 2) x1) x4 0) x0 3) x1) + 1)) x0 2) x1) x4) ∧ Q (vI 0) (upM (upM (upM (upM M (M (M x0 1) x1) x4 x2) ((upM M (M (M x0 1) x1) x4 x2) ((upM M (M (M x0 1) x1) x4 x2) x0 2) x1) x4 0) ((upM (upM M (M (M x0 1) x1) x4 x2) ((upM M (M (M x0 1) x1) x4 x2) ((upM M (M (M x0 1) x1) x4 x2) x0 2) x1) x4 0) x0 3) x1 (((upM (upM M (M (M x0 1) x1) x4 x2) ((upM M (M (M x0 1) x1) x4 x2) ((upM M (M (M x0 1) x1) x4 x2) x0 2) x1) x4 0) ((upM (upM M (M (M x0 1) x1) x4 x2) ((upM M (M (M x0 1) x1) x4 x2) ((upM M (M (M x0 1) x1) x4 x2) x0 2) x1) x4 0) x0 3) x1) + 1)) ((upM (upM (upM M (M (M x0 1) x1) x4 x2) ((upM M (M (M x0 1) x1) x4 x2) ((upM M (M (M x0 1) x1) x4 x2) x0 2) x1) x4 0) ((upM (upM M (M (M x0 1) x1) x4 x2) ((upM M (M (M x0 1) x1) x4 x2) ((upM M (M (M x0 1) x1) x4 x2) x0 2) x1) x4 0) x0 3) x1 (((upM (upM M (M (M x0 1) x1) x4 x2) ((upM M (M (M x0 1) x1) x4 x2) ((upM M (M (M x0 1) x1) x4 x2) x0 2) x1) x4 0) ((upM (upM M (M (M x0 1) x1) x4 x2) ((upM M (M (M x0 1) x1) x4 x2) ((upM M (M (M x0 1) x1) x4 x2) x0 2) x1) x4 0) x0 3) x1) + 1)) ((upM (upM (upM M (M (M x0 1) x1) x4 x2) ((upM M (M (M x0 1) x1) x4 x2) ((upM M (M (M x0 1) x1) x4 x2) x0 2) x1) x4 0) ((upM (upM M (M (M x0 1) x1) x4 x2) ((upM M (M (M x0 1) x1) x4 x2) ((upM M (M (M x0 1) x1) x4 x2) x0 2) x1) x4 0) x0 3) x1 (((upM (upM M (M (M x0 1) x1) x4 x2) ((upM M (M (M x0 1) x1) x4 x2) ((upM M (M (M x0 1) x1) x4 x2) x0 2) x1) x4 0) ((upM (upM M (M (M x0 1) x1) x4 x2) ((upM M (M (M x0 1) x1) x4 x2) ((upM M (M (M x0 1) x1) x4 x2) x0 2) x1) x4 0) x0 3) x1) + 1)) x0 2) x1) x4 (((upM (upM (upM M (M (M x0 1) x1) x4 x2) ((upM M (M (M x0 1) x1) x4 x2) ((upM M (M (M x0 1) x1) x4 x2) x0 2) x1) x4 0) ((upM (upM M (M (M x0 1) x1) x4 x2) ((upM M (M (M x0 1) x1) x4 x2) ((upM M (M (M x0 1) x1) x4 x2) x0 2) x1) x4 0) x0 3) x1 (((upM (upM M (M (M x0 1) x1) x4 x2) ((upM M (M (M x0 1) x1) x4 x2) ((upM M (M (M x0 1) x1) x4 x2) x0 2) x1) x4 0) ((upM (upM M (M (M x0 1) x1) x4 x2) ((upM M (M (M x0 1) x1) x4 x2) ((upM M (M (M x0 1) x1) x4 x2) x0 2) x1) x4 0) x0 3) x1) + 1)) ((upM (upM (upM M (M (M x0 1) x1) x4 x2) ((upM M (M (M x0 1) x1) x4 x2) ((upM M (M (M x0 1) x1) x4 x2) x0 2) x1) x4 0) ((upM (upM M (M (M x0 1) x1) x4 x2) ((upM M (M (M x0 1) x1) x4 x2) ((upM M (M (M x0 1) x1) x4 x2) x0 2) x1) x4 0) x0 3) x1 (((upM (upM M (M (M x0 1) x1) x4 x2) ((upM M (M (M x0 1) x1) x4 x2) ((upM M (M (M x0 1) x1) x4 x2) x0 2) x1) x4 0) ((upM (upM M (M (M x0 1) x1) x4 x2) ((upM M (M (M x0 1) x1) x4 x2) ((upM M (M (M x0 1) x1) x4 x2) x0 2) x1) x4 0) x0 3) x1) + 1)) ((upM (upM (upM M (M (M x0 1) x1) x4 x2) ((upM M (M (M x0 1) x1) x4 x2) ((upM M (M (M x0 1) x1) x4 x2) x0 2) x1) x4 0) ((upM (upM M (M (M x0 1) x1) x4 x2) ((upM M (M (M x0 1) x1) x4 x2) ((upM M (M (M x0 1) x1) x4 x2) x0 2) x1) x4 0) x0 3) x1 (((upM (upM M (M (M x0 1) x1) x4 x2) ((upM M (M (M x0 1) x1) x4 x2) ((upM M (M (M x0 1) x1) x4 x2) x0 2) x1) x4 0) ((upM (upM M (M (M x0 1) x1) x4 x2) ((upM M (M (M x0 1) x1) x4 x2) ((upM M (M (M x0 1) x1) x4 x2) x0 2) x1) x4 0) x0 3) x1) + 1)) x0 2) x1) x4) + 1))) else ((gA 24 (M x0 2) x1 ∨ gA 25 (M x0 2) x1 ∨ gA 26 (M x0 2) x1) ∧ (gA 20 (M (M x0 2) x1) x4) ∧ (gA 20 (M (M x0 2) x1) x4) ∧ Q (vI 0) (upM M (M (M x0 2) x1) x4 ((M (M (M x0 2) x1) x4) + 1)))) else (Q (vI 0) M)) else ((gA 24 (M x0 1) x1 ∨ gA 25 (M x0 1) x1 ∨ gA 26 (M x0 1) x1) ∧ (gA 23 (M (M x0 1) x1) x4) ∧ (in64 (M (M (M x0 1) x1) x4) ∧ in64 x2) ∧ inR (if (M (M (M x0 1) x1) x4) < x2 then -1 else if (M (M (M x0 1) x1) x4) = x2 then 0 else 1) ∧ (if (if (M (M (M x0 1) x1) x4) < x2 then -1 else if (M (M (M x0 1) x1) x4) = x2 then 0 else 1) = 0 then (if x4 < 240 then ((gA 20 (M x0 3) x1) ∧ if x4 = (M (M x0 3) x1) then ((gA 24 (M x0 1) x1 ∨ gA 25 (M x0 1) x1 ∨ gA 26 (M x0 1) x1) ∧ (gA 23 (M (M x0 1) x1) x4) ∧ (gA 24 ((upM M (M (M x0 1) x1) x4 x2) x0 2) x1 ∨ gA 25 ((upM M (M (M x0 1) x1) x4 x2) x0 2) x1 ∨ gA 26 ((upM M (M (M x0 1) x1) x4 x2) x0 2) x1) ∧ (gA 20 ((upM M (M (M x0 1) x1) x4 x2) ((upM M (M (M x0 1) x1) x4 x2) x0 2) x1) x4) ∧ (gA 20 ((upM (upM M (M (M x0 1) x1) x4 x2) ((upM M (M (M x0 1) x1) x4 x2) ((upM M (M (M x0 1) x1) x4 x2) x0 2) x1) x4 0) x0 3) x1) ∧ (gA 20 ((upM (upM M (M (M x0 1) x1) x4 x2) ((upM M (M (M x0 1) x1) x4 x2) ((upM M (M (M x0 1) x1) x4 x2) x0 2) x1) x4 0) x0 3) x1) ∧ (gA 24 ((upM (upM (upM M (M (M x0 1) x1) x4 x2) ((upM M (M (M x0 1) x1) x4 x2) ((upM M (M (M x0 1) x1) x4 x2) x0 2) x1) x4 0) ((upM (upM M (M (M x0 1) x1) x4 x2) ((upM M (M (M x0 1) x1) x4 x2) ((upM M (M (M x0 1) x1) x4 x2) x0 2) x1) x4 0) x0 3) x1 (((upM (upM M (M (M x0 1) x1) x4 x2) ((upM M (M (M x0 1) x1) x4 x2) ((upM M (M (M x0 1) x1) x4 x2) x0 2) x1) x4 0) ((upM (upM M (M (M x0 1) x1) x4 x2) ((upM M (M (M x0 1) x1) x4 x2) ((upM M (M (M x0 1) x1) x4 x2) x0 2) x1) x4 0) x0 3) x1) + 1)) x0 2) x1 ∨ gA 25 ((upM (upM (upM M (M (M x0 1) x1) x4 x2) ((upM M (M (M x0 1) x1) x4 x2) ((upM M (M (M x0 1) x1) x4 x2) x0 2) x1) x4 0) ((upM (upM M (M (M x0 1) x1) x4 x2) ((upM M (M (M x0 1) x1) x4 x2) ((upM M (M (M x0 1) x1) x4 x2) x0 2) x1) x4 0) x0 3) x1 (((upM (upM M (M (M x0 1) x1) x4 x2) ((upM M (M (M x0 1) x1) x4 x2) ((upM M (M (M x0 1) x1) x4 x2) x0 2) x1) x4 0) ((upM (upM M (M (M x0 1) x1) x4 x2) ((upM M (M (M x0 1) x1) x4 x2) ((upM M (M (M x0 1) x1) x4 x2) x0 2) x1) x4 0) x0 3) x1) + 1)) x0 2) x1 ∨ gA 26 ((upM (upM (upM M (M (M x0 1) x1) x4 x2) ((upM M (M (M x0 1) x1) x4 x2) ((upM M (M (M x0 1) x1) x4 x2) x0 2) x1) x4 0) ((upM (upM M (M (M x0 1) x1) x4 x2) ((upM M (M (M x0 1) x1) x4 x2) ((upM M (M (M x0 1) x1) x4 x2) x0 2) x1) x4 0) x0 3) x1 (((upM (upM M (M (M x0 1) x1) x4 x2) ((upM M (M (M x0 1) x1) x4 x2) ((upM M (M (M x0 1) x1) x4 x2) x0 2) x1) x4 0) ((upM (upM M (M (M x0 1) x1) x4 x2) ((upM M (M (M x0 1) x1) x4 x2) ((upM M (M (M x0 1) x1) x4 x2) x0 2) x1) x4 0) x0 3) x1) + 1)) x0 2) x1) ∧ (gA 20 ((upM (upM (upM M (M (M x0 1) x1) x4 x2) ((upM M (M (M x0 1) x1) x4 x2) ((upM M (M (M x0 1) x1) x4 x2) x0 2) x1) x4 0) ((upM (upM M (M (M x0 1) x1) x4 x2) ((upM M (M (M x0 1) x1) x4 x2) ((upM M (M (M x0 1) x1) x4 x2) x0 2) x1) x4 0) x0 3) x1 (((upM (upM M (M (M x0 1) x1) x4 x2) ((upM M (M (M x0 1) x1) x4 x2) ((upM M (M (M x0 1) x1) x4 x2) x0 2) x1) x4 0) ((upM (upM M (M (M x0 1) x1) x4 x2) ((upM M (M (M x0 1) x1) x4 x2) ((upM M (M (M x0 1) x1) x4 x2) x0 2) x1) x4 0) x0 3) x1) + 1)) ((upM (upM (upM M (M (M x0 1) x1) x4 x2) ((upM M (M (M x0 1) x1) x4 x2) ((upM M (M (M x0 1) x1) x4 x2) x0 2) x1) x4 0) ((upM (upM M (M (M x0 1) x1) x4 x2) ((upM M (M (M x0 1) x1) x4 x2) ((upM M (M (M x0 1) x1) x4 x2) x0 2) x1) x4 0) x0 3) x1 (((upM (upM M (M (M x0 1) x1) x4 x2) ((upM M (M (M x0 1) x1) x4 x2) ((upM M (M (M x0 1) x1) x4 x2) x0 2) x1) x4 0) ((upM (upM M (M (M x0 1) x1) x4 x2) ((upM M (M (M x0 1) x1) x4 x2) ((upM M (M (M x0 1) x1) x4 x2) x0 2) x1) x4 0) x0 3) x1) + 1)) x0 2) x1) x4) ∧ (gA 20 ((upM (upM (upM M (M (M x0 1) x1) x4 x2) ((upM M (M (M x0 1) x1) x4 x2) ((upM M (M (M x0 1) x1) x4 x2) x0 2) x1) x4 0) ((upM (upM M (M (M x0 1) x1) x4 x2) ((upM M (M (M x0 1) x1) x4 x2) ((upM M (M (M x0 1) x1) x4 x2) x0 2) x1) x4 0) x0 3) x1 (((upM (upM M (M (M x0 1) x1) x4 x2) ((upM M (M (M x0 1) x1) x4 x2) ((upM M (M (M x0 1) x1) x4 x2) x0 2) x1) x4 0) ((upM (upM M (M (M x0 1) x1) x4 x2) ((upM M (M (M x0 1) x1) x4 x2) ((upM M (M (M x0 1) x1) x4 x2) x0 2) x1) x4 0) x0 3) x1) + 1)) ((upM (upM (upM M (M (M x0 1) x1) x4 x2) ((upM M (M (M x0 1) x1) x4 x2) ((upM M (M (M x0 1) x1) x4 x2) x0 2) x1) x4 0) ((upM (upM M (M (M x0 1) x1) x4 x2) ((upM M (M (M x0 1) x1) x4 x2) ((upM M (M (M x0 1) x1) x4 x2) x0 2) x1) x4 0) x0 3) x1 (((upM (upM M (M (M x0 1) x1) x4 x2) ((upM M (M (M x0 1) x1) x4 x2) ((upM M (M (M x0 1) x1) x4 x2) x0 2) x1) x4 0) ((upM (upM M (M (M x0 1) x1) x4 x2) ((upM M (M (M x0 1) x1) x4 x2) ((upM M (M (M x0 1) x1) x4 x2) x0 2) x1) x4 0) x0 3) x1) + 1)) x0 2) x1) x4) ∧ Q (vI 0) (upM (upM (upM (upM M (M (M x0 1) x1) x4 x2) ((upM M (M (M x0 1) x1) x4 x2) ((upM M (M (M x0 1) x1) x4 x2) x0 2) x1) x4 0) ((upM (upM M (M (M x0 1) x1) x4 x2) ((upM M (M (M x0 1) x1) x4 x2) ((upM M (M (M x0 1) x1) x4 x2) x0 2) x1) x4 0) x0 3) x1 (((upM (upM M (M (M x0 1) x1) x4 x2) ((upM M (M (M x0 1) x1) x4 x2) ((upM M (M (M x0 1) x1) x4 x2) x0 2) x1) x4 0) ((upM (upM M (M (M x0 1) x1) x4 x2) ((upM M (M (M x0 1) x1) x4 x2) ((upM M (M (M x0 1) x1) x4 x2) x0 2) x1) x4 0) x0 3) x1) + 1)) ((upM (upM (upM M (M (M x0 1) x1) x4 x2) ((upM M (M (M x0 1) x1) x4 x2) ((upM M (M (M x0 1) x1) x4 x2) x0 2) x1) x4 0) ((upM (upM M (M (M x0 1) x1) x4 x2) ((upM M (M (M x0 1) x1) x4 x2) ((upM M (M (M x0 1) x1) x4 x2) x0 2) x1) x4 0) x0 3) x1 (((upM (upM M (M (M x0 1) x1) x4 x2) ((upM M (M (M x0 1) x1) x4 x2) ((upM M (M (M x0 1) x1) x4 x2) x0 2) x1) x4 0) ((upM (upM M (M (M x0 1) x1) x4 x2) ((upM M (M (M x0 1) x1) x4 x2) ((upM M (M (M x0 1) x1) x4 x2) x0 2) x1) x4 0) x0 3) x1) + 1)) ((upM (upM (upM M (M (M x0 1) x1) x4 x2) ((upM M (M (M x0 1) x1) x4 x2) ((upM M (M (M x0 1) x1) x4 x2) x0 2) x1) x4 0) ((upM (upM M (M (M x0 1) x1) x4 x2) ((upM M (M (M x0 1) x1) x4 x2) ((upM M (M (M x0 1) x1) x4 x2) x0 2) x1) x4 0) x0 3) x1 (((upM (upM M (M (M x0 1) x1) x4 x2) ((upM M (M (M x0 1) x1) x4 x2) ((upM M (M (M x0 1) x1) x4 x2) x0 2) x1) x4 0) ((upM (upM M (M (M x0 1) x1) x4 x2) ((upM M (M (M x0 1) x1) x4 x2) ((upM M (M (M x0 1) x1) x4 x2) x0 2) x1) x4 0) x0 3) x1) + 1)) x0 2) x1) x4 (((upM (upM (upM M (M (M x0 1) x1) x4 x2) ((upM M (M (M x0 1) x1) x4 x2) ((upM M (M (M x0 1) x1) x4 x2) x0 2) x1) x4 0) ((upM (upM M (M (M x0 1) x1) x4 x2) ((upM M (M (M x0 1) x1) x4 x2) ((upM M (M (M x0 1) x1) x4 x2) x0 2) x1) x4 0) x0 3) x1 (((upM (upM M (M (M x0 1) x1) x4 x2) ((upM M (M (M x0 1) x1) x4 x2) ((upM M (M (M x0 1) x1) x4 x2) x0 2) x1) x4 0) ((upM (upM M (M (M x0 1) x1) x4 x2) ((upM M (M (M x0 1) x1) x4 x2) ((upM M (M (M x0 1) x1) x4 x2) x0 2) x1) x4 0) x0 3) x1) + 1)) ((upM (upM (upM M (M (M x0 1) x1) x4 x2) ((upM M (M (M x0 1) x1) x4 x2) ((upM M (M (M x0 1) x1) x4 x2) x0 2) x1) x4 0) ((upM (upM M (M (M x0 1) x1) x4 x2) ((upM M (M (M x0 1) x1) x4 x2) ((upM M (M (M x0 1) x1) x4 x2) x0 2) x1) x4 0) x0 3) x1 (((upM (upM M (M (M x0 1) x1) x4 x2) ((upM M (M (M x0 1) x1) x4 x2) ((upM M (M (M x0 1) x1) x4 x2) x0 2) x1) x4 0) ((upM (upM M (M (M x0 1) x1) x4 x2) ((upM M (M (M x0 1) x1) x4 x2) ((upM M (M (M x0 1) x1) x4 x2) x0 2) x1) x4 0) x0 3) x1) + 1)) ((upM (upM (upM M (M (M x0 1) x1) x4 x2) ((upM M (M (M x0 1) x1) x4 x2) ((upM M (M (M x0 1) x1) x4 x2) x0 2) x1) x4 0) ((upM (upM M (M (M x0 1) x1) x4 x2) ((upM M (M (M x0 1) x1) x4 x2) ((upM M (M (M x0 1) x1) x4 x2) x0 2) x1) x4 0) x0 3) x1 (((upM (upM M (M (M x0 1) x1) x4 x2) ((upM M (M (M x0 1) x1) x4 x2) ((upM M (M (M x0 1) x1) x4 x2) x0 2) x1) x4 0) ((upM (upM M (M (M x0 1) x1) x4 x2) ((upM M (M (M x0 1) x1) x4 x2) ((upM M (M (M x0 1) x1) x4 x2) x0 2) x1) x4 0) x0 3) x1) + 1)) x0 2) x1) x4) + 1))) else ((gA 24 (M x0 2) x1 ∨ gA 25 (M x0 2) x1 ∨ gA 26 (M x0 2) x1) ∧ (gA 20 (M (M x0 2) x1) x4) ∧ (gA 20 (M (M x0 2) x1) x4) ∧ Q (vI 0) (upM M (M (M x0 2) x1) x4 ((M (M (M x0 2) x1) x4) + 1)))) else (Q (vI 0) M)) else (WR 116 3 [some (vR x0), some (vI x1), some (vL x2), none, some (vI (x4 + 1))] [] M Q)))))) : WR 116 3 [some (vR x0), some (vI x1), some (vL x2), none, some (vI x4)] [] M Q := by
  refine g_5 (a := 4) (b := 0) (nx := 5) (by decide +kernel) rfl ?_
  refine g_7 (a := 0) (b := 0) (nx := 6) (by decide +kernel) rfl ?_
  refine g_52 (a := 8) (b := 3) (nx := 9) (by decide +kernel) h0 ?_
  refine g_5 (a := 1) (b := 0) (nx := 10) (by decide +kernel) rfl ?_
  refine g_61 (a := 0) (b := 0) (nx := 11) (by decide +kernel) h.1 ?_
  replace h := h.2
  obtain ⟨r1, h⟩ := h
  obtain ⟨r2, h⟩ := h
  by_cases c9 : (M (M x0 3) x1) ≤ x4
  · rw [if_pos c9] at h
    refine g_41t (a := 3) (b := 34) (nx := 14) (by decide +kernel) (by rw [wr_id r1, wr_id r2]; exact (cb_3 _ _).mpr c9) ?_
    refine g_5 (a := 4) (b := 0) (nx := 36) (by decide +kernel) rfl ?_
    refine g_1 (a := 240) (b := 0) (nx := 39) (by decide +kernel) ?_
    by_cases c4 : x4 < 240
    · rw [if_pos c4] at h
      refine g_41t (a := 2) (b := 43) (nx := 42) (by decide +kernel) (by rw [wr_id r1, wr_id (show inR 240 by decide)]; exact (cb_2 _ _).mpr c4) ?_
      refine g_5 (a := 4) (b := 0) (nx := 45) (by decide +kernel) rfl ?_
      refine g_7 (a := 0) (b := 0) (nx := 46) (by decide +kernel) rfl ?_
      refine g_52 (a := 8) (b := 3) (nx := 49) (by decide +kernel) h0 ?_
      refine g_5 (a := 1) (b := 0) (nx := 50) (by decide +kernel) rfl ?_
      refine g_61 (a := 0) (b := 0) (nx := 51) (by decide +kernel) h.1 ?_
      replace h := h.2
      by_cases c3 : x4 = (M (M x0 3) x1)
      · rw [if_pos c3] at h
        refine g_41f (a := 1) (b := 84) (nx := 54) (by decide +kernel) (by rw [wr_id r1, wr_id r2]; exact fun hz => ((cb_1 _ _).mp hz) c3) ?_
        refine g_7 (a := 0) (b := 0) (nx := 55) (by decide +kernel) rfl ?_
        refine g_52 (a := 8) (b := 1) (nx := 58) (by decide +kernel) h0 ?_
        refine g_5 (a := 1) (b := 0) (nx := 59) (by decide +kernel) rfl ?_
        refine g_69 (a := 0) (b := 0) (nx := 60) (by decide +kernel) h.1 ?_
        replace h := h.2
        refine g_5 (a := 4) (b := 0) (nx := 62) (by decide +kernel) rfl ?_
        refine g_6 (a := 2) (b := 0) (nx := 63) (by decide +kernel) rfl ?_
        refine g_68 (a := 0) (b := 0) (nx := 64) (by decide +kernel) h.1 ?_
        replace h := h.2
        refine g_7 (a := 0) (b := 0) (nx := 65) (by decide +kernel) rfl ?_
        refine g_52 (a := 8) (b := 2) (nx := 68) (by decide +kernel) h0 ?_
        refine g_5 (a := 1) (b := 0) (nx := 69) (by decide +kernel) rfl ?_
        refine g_69 (a := 0) (b := 0) (nx := 70) (by decide +kernel) h.1 ?_
        replace h := h.2
        refine g_5 (a := 4) (b := 0) (nx := 72) (by decide +kernel) rfl ?_
        refine g_1 (a := 0) (b := 0) (nx := 73) (by decide +kernel) ?_
        refine g_62 (a := 0) (b := 0) (nx := 74) (by decide +kernel) h.1 ?_
        replace h := h.2
        refine g_7 (a := 0) (b := 0) (nx := 75) (by decide +kernel) rfl ?_
        refine g_52 (a := 8) (b := 3) (nx := 78) (by decide +kernel) h0 ?_
        refine g_5 (a := 1) (b := 0) (nx := 79) (by decide +kernel) rfl ?_
        refine g_14 (a := 0) (b := 0) (nx := 80) (by decide +kernel) rfl rfl ?_
        refine g_61 (a := 0) (b := 0) (nx := 81) (by decide +kernel) h.1 ?_
        replace h := h.2
        refine g_1 (a := 1) (b := 0) (nx := 82) (by decide +kernel) ?_
        refine g_15 (a := 0) (b := 0) (nx := 83) (by decide +kernel) ?_
        refine g_62 (a := 0) (b := 0) (nx := 84) (by decide +kernel) h.1 ?_
        replace h := h.2
        refine g_7 (a := 0) (b := 0) (nx := 85) (by decide +kernel) rfl ?_
        refine g_52 (a := 8) (b := 2) (nx := 88) (by decide +kernel) h0 ?_
        refine g_5 (a := 1) (b := 0) (nx := 89) (by decide +kernel) rfl ?_
        refine g_69 (a := 0) (b := 0) (nx := 90) (by decide +kernel) h.1 ?_
        replace h := h.2
        refine g_5 (a := 4) (b := 0) (nx := 92) (by decide +kernel) rfl ?_
        refine g_14 (a := 0) (b := 0) (nx := 93) (by decide +kernel) rfl rfl ?_
        refine g_61 (a := 0) (b := 0) (nx := 94) (by decide +kernel) h.1 ?_
        replace h := h.2
        refine g_1 (a := 1) (b := 0) (nx := 95) (by decide +kernel) ?_
        refine g_15 (a := 0) (b := 0) (nx := 96) (by decide +kernel) ?_
        refine g_62 (a := 0) (b := 0) (nx := 97) (by decide +kernel) h.1 ?_
        replace h := h.2
        exact g_90 (a := 0) (b := 0) (nx := 98) (by decide +kernel) h
      · rw [if_neg c3] at h
        refine g_41t (a := 1) (b := 84) (nx := 54) (by decide +kernel) (by rw [wr_id r1, wr_id r2]; exact (cb_1 _ _).mpr c3) ?_
        refine g_7 (a := 0) (b := 0) (nx := 85) (by decide +kernel) rfl ?_
        refine g_52 (a := 8) (b := 2) (nx := 88) (by decide +kernel) h0 ?_
        refine g_5 (a := 1) (b := 0) (nx := 89) (by decide +kernel) rfl ?_
        refine g_69 (a := 0) (b := 0) (nx := 90) (by decide +kernel) h.1 ?_
        replace h := h.2
        refine g_5 (a := 4) (b := 0) (nx := 92) (by decide +kernel) rfl ?_
        refine g_14 (a := 0) (b := 0) (nx := 93) (by decide +kernel) rfl rfl ?_
        refine g_61 (a := 0) (b := 0) (nx := 94) (by decide +kernel) h.1 ?_
        replace h := h.2
        refine g_1 (a := 1) (b := 0) (nx := 95) (by decide +kernel) ?_
        refine g_15 (a := 0) (b := 0) (nx := 96) (by decide +kernel) ?_
        refine g_62 (a := 0) (b := 0) (nx := 97) (by decide +kernel) h.1 ?_
        replace h := h.2
        exact g_90 (a := 0) (b := 0) (nx := 98) (by decide +kernel) h
    · rw [if_neg c4] at h
      refine g_41f (a := 2) (b := 43) (nx := 42) (by decide +kernel) (by rw [wr_id r1, wr_id (show inR 240 by decide)]; exact fun hz => c4 ((cb_2 _ _).mp hz)) ?_
      exact g_90 (a := 0) (b := 0) (nx := 43) (by decide +kernel) h
  · rw [if_neg c9] at h
    refine g_41f (a := 3) (b := 34) (nx := 14) (by decide +kernel) (by rw [wr_id r1, wr_id r2]; exact fun hz => c9 ((cb_3 _ _).mp hz)) ?_
    refine g_7 (a := 0) (b := 0) (nx := 15) (by decide +kernel) rfl ?_
    refine g_52 (a := 8) (b := 1) (nx := 18) (by decide +kernel) h0 ?_
    refine g_5 (a := 1) (b := 0) (nx := 19) (by decide +kernel) rfl ?_
    refine g_69 (a := 0) (b := 0) (nx := 20) (by decide +kernel) h.1 ?_
    replace h := h.2
    refine g_5 (a := 4) (b := 0) (nx := 22) (by decide +kernel) rfl ?_
    refine g_67 (a := 0) (b := 0) (nx := 23) (by decide +kernel) h.1 ?_
    replace h := h.2
    refine g_6 (a := 2) (b := 0) (nx := 24) (by decide +kernel) rfl ?_
    refine g_34 (a := 0) (b := 0) (nx := 25) (by decide +kernel) h.1 ?_
    replace h := h.2
    obtain ⟨r5, h⟩ := h
    by_cases c8 : (if (M (M (M x0 1) x1) x4) < x2 then -1 else if (M (M (M x0 1) x1) x4) = x2 then 0 else 1) = 0
    · rw [if_pos c8] at h
      refine g_40t (a := 0) (b := 34) (nx := 28) (by decide +kernel) r5 (by exact (cb_0 _ _).mpr c8) ?_
      refine g_5 (a := 4) (b := 0) (nx := 36) (by decide +kernel) rfl ?_
      refine g_1 (a := 240) (b := 0) (nx := 39) (by decide +kernel) ?_
      by_cases c7 : x4 < 240
      · rw [if_pos c7] at h
        refine g_41t (a := 2) (b := 43) (nx := 42) (by decide +kernel) (by rw [wr_id r1, wr_id (show inR 240 by decide)]; exact (cb_2 _ _).mpr c7) ?_
        refine g_5 (a := 4) (b := 0) (nx := 45) (by decide +kernel) rfl ?_
        refine g_7 (a := 0) (b := 0) (nx := 46) (by decide +kernel) rfl ?_
        refine g_52 (a := 8) (b := 3) (nx := 49) (by decide +kernel) h0 ?_
        refine g_5 (a := 1) (b := 0) (nx := 50) (by decide +kernel) rfl ?_
        refine g_61 (a := 0) (b := 0) (nx := 51) (by decide +kernel) h.1 ?_
        replace h := h.2
        by_cases c6 : x4 = (M (M x0 3) x1)
        · rw [if_pos c6] at h
          refine g_41f (a := 1) (b := 84) (nx := 54) (by decide +kernel) (by rw [wr_id r1, wr_id r2]; exact fun hz => ((cb_1 _ _).mp hz) c6) ?_
          refine g_7 (a := 0) (b := 0) (nx := 55) (by decide +kernel) rfl ?_
          refine g_52 (a := 8) (b := 1) (nx := 58) (by decide +kernel) h0 ?_
          refine g_5 (a := 1) (b := 0) (nx := 59) (by decide +kernel) rfl ?_
          refine g_69 (a := 0) (b := 0) (nx := 60) (by decide +kernel) h.1 ?_
          replace h := h.2
          refine g_5 (a := 4) (b := 0) (nx := 62) (by decide +kernel) rfl ?_
          refine g_6 (a := 2) (b := 0) (nx := 63) (by decide +kernel) rfl ?_
          refine g_68 (a := 0) (b := 0) (nx := 64) (by decide +kernel) h.1 ?_
          replace h := h.2
          refine g_7 (a := 0) (b := 0) (nx := 65) (by decide +kernel) rfl ?_
          refine g_52 (a := 8) (b := 2) (nx := 68) (by decide +kernel) h0 ?_
          refine g_5 (a := 1) (b := 0) (nx := 69) (by decide +kernel) rfl ?_
          refine g_69 (a := 0) (b := 0) (nx := 70) (by decide +kernel) h.1 ?_
          replace h := h.2
          refine g_5 (a := 4) (b := 0) (nx := 72) (by decide +kernel) rfl ?_
          refine g_1 (a := 0) (b := 0) (nx := 73) (by decide +kernel) ?_
          refine g_62 (a := 0) (b := 0) (nx := 74) (by decide +kernel) h.1 ?_
          replace h := h.2
          refine g_7 (a := 0) (b := 0) (nx := 75) (by decide +kernel) rfl ?_
          refine g_52 (a := 8) (b := 3) (nx := 78) (by decide +kernel) h0 ?_
          refine g_5 (a := 1) (b := 0) (nx := 79) (by decide +kernel) rfl ?_
          refine g_14 (a := 0) (b := 0) (nx := 80) (by decide +kernel) rfl rfl ?_
          refine g_61 (a := 0) (b := 0) (nx := 81) (by decide +kernel) h.1 ?_
          replace h := h.2
          refine g_1 (a := 1) (b := 0) (nx := 82) (by decide +kernel) ?_
          refine g_15 (a := 0) (b := 0) (nx := 83) (by decide +kernel) ?_
          refine g_62 (a := 0) (b := 0) (nx := 84) (by decide +kernel) h.1 ?_
          replace h := h.2
          refine g_7 (a := 0) (b := 0) (nx := 85) (by decide +kernel) rfl ?_
          refine g_52 (a := 8) (b := 2) (nx := 88) (by decide +kernel) h0 ?_
          refine g_5 (a := 1) (b := 0) (nx := 89) (by decide +kernel) rfl ?_
          refine g_69 (a := 0) (b := 0) (nx := 90) (by decide +kernel) h.1 ?_
          replace h := h.2
          refine g_5 (a := 4) (b := 0) (nx := 92) (by decide +kernel) rfl ?_
          refine g_14 (a := 0) (b := 0) (nx := 93) (by decide +kernel) rfl rfl ?_
          refine g_61 (a := 0) (b := 0) (nx := 94) (by decide +kernel) h.1 ?_
          replace h := h.2
          refine g_1 (a := 1) (b := 0) (nx := 95) (by decide +kernel) ?_
          refine g_15 (a := 0) (b := 0) (nx := 96) (by decide +kernel) ?_
          refine g_62 (a := 0) (b := 0) (nx := 97) (by decide +kernel) h.1 ?_
          replace h := h.2
          exact g_90 (a := 0) (b := 0) (nx := 98) (by decide +kernel) h
        · rw [if_neg c6] at h
          refine g_41t (a := 1) (b := 84) (nx := 54) (by decide +kernel) (by rw [wr_id r1, wr_id r2]; exact (cb_1 _ _).mpr c6) ?_
          refine g_7 (a := 0) (b := 0) (nx := 85) (by decide +kernel) rfl ?_
          refine g_52 (a := 8) (b := 2) (nx := 88) (by decide +kernel) h0 ?_
          refine g_5 (a := 1) (b := 0) (nx := 89) (by decide +kernel) rfl ?_
          refine g_69 (a := 0) (b := 0) (nx := 90) (by decide +kernel) h.1 ?_
          replace h := h.2
          refine g_5 (a := 4) (b := 0) (nx := 92) (by decide +kernel) rfl ?_
          refine g_14 (a := 0) (b := 0) (nx := 93) (by decide +kernel) rfl rfl ?_
          refine g_61 (a := 0) (b := 0) (nx := 94) (by decide +kernel) h.1 ?_
          replace h := h.2
          refine g_1 (a := 1) (b := 0) (nx := 95) (by decide +kernel) ?_
          refine g_15 (a := 0) (b := 0) (nx := 96) (by decide +kernel) ?_
          refine g_62 (a := 0) (b := 0) (nx := 97) (by decide +kernel) h.1 ?_
          replace h := h.2
          exact g_90 (a := 0) (b := 0) (nx := 98) (by decide +kernel) h
      · rw [if_neg c7] at h
        refine g_41f (a := 2) (b := 43) (nx := 42) (by decide +kernel) (by rw [wr_id r1, wr_id (show inR 240 by decide)]; exact fun hz => c7 ((cb_2 _ _).mp hz)) ?_
        exact g_90 (a := 0) (b := 0) (nx := 43) (by decide +kernel) h
    · rw [if_neg c8] at h
      refine g_40f (a := 0) (b := 34) (nx := 28) (by decide +kernel) r5 (by exact fun hz => c8 ((cb_0 _ _).mp hz)) ?_
      refine g_11 (a := 4) (b := 1) (nx := 31) (by decide +kernel) rfl rfl (ls' := [some (vR x0), some (vI x1), some (vL x2), none, some (vI (x4 + 1))]) rfl ?_
      refine g_44 (a := 0) (b := 3) (nx := 34) (by decide +kernel) ?_
      exact h
-- 117 SyllableMaker$Tally.unlike(I)I
theorem t_117 {x0 x1 : Int} {M : Mem} {Q : AV → Mem → Prop} (h0 : gO 8 x0) (h : inR x1 ∧ (if x1 < 0 then (Q (vI (-1)) M) else (if 3 ≤ x1 then (Q (vI (-1)) M) else ((gA 20 (M x0 3) x1) ∧ Q (vI (M (M x0 3) x1)) M)))) : WC 117 [vR x0, vI x1] M Q := by
  show WR 117 0 [some (vR x0), some (vI x1)] [] M Q
  refine g_5 (a := 1) (b := 0) (nx := 1) (by decide +kernel) rfl ?_
  obtain ⟨r1, h⟩ := h
  by_cases c3 : x1 < 0
  · rw [if_pos c3] at h
    refine g_40t (a := 2) (b := 18) (nx := 4) (by decide +kernel) r1 (by exact (cb_2 _ _).mpr c3) ?_
    refine g_1 (a := (-1)) (b := 0) (nx := 19) (by decide +kernel) ?_
    exact g_91 (b := 0) (nx := 20) (by decide +kernel) h
  · rw [if_neg c3] at h
    refine g_40f (a := 2) (b := 18) (nx := 4) (by decide +kernel) r1 (by exact fun hz => c3 ((cb_2 _ _).mp hz)) ?_
    refine g_5 (a := 1) (b := 0) (nx := 5) (by decide +kernel) rfl ?_
    refine g_1 (a := 3) (b := 0) (nx := 6) (by decide +kernel) ?_
    by_cases c2 : 3 ≤ x1
    · rw [if_pos c2] at h
      refine g_41t (a := 3) (b := 18) (nx := 9) (by decide +kernel) (by rw [wr_id r1, wr_id (show inR 3 by decide)]; exact (cb_3 _ _).mpr c2) ?_
      refine g_1 (a := (-1)) (b := 0) (nx := 19) (by decide +kernel) ?_
      exact g_91 (b := 0) (nx := 20) (by decide +kernel) h
    · rw [if_neg c2] at h
      refine g_41f (a := 3) (b := 18) (nx := 9) (by decide +kernel) (by rw [wr_id r1, wr_id (show inR 3 by decide)]; exact fun hz => c2 ((cb_3 _ _).mp hz)) ?_
      refine g_7 (a := 0) (b := 0) (nx := 10) (by decide +kernel) rfl ?_
      refine g_52 (a := 8) (b := 3) (nx := 13) (by decide +kernel) h0 ?_
      refine g_5 (a := 1) (b := 0) (nx := 14) (by decide +kernel) rfl ?_
      refine g_61 (a := 0) (b := 0) (nx := 15) (by decide +kernel) h.1 ?_
      replace h := h.2
      refine g_44 (a := 0) (b := 19) (nx := 18) (by decide +kernel) ?_
      exact g_91 (b := 0) (nx := 20) (by decide +kernel) h
-- 118 SyllableMaker$Tally.tell(III)I
theorem t_118 {x0 x1 x2 x3 : Int} {M : Mem} {Q : AV → Mem → Prop} (h0 : gO 8 x0) (h : inR x2 ∧ (if x2 < 0 then (Q (vI (-1)) M) else (WI 117 [vR x0, vI x1] M (fun y3 M2 => inR y3 ∧ (if y3 ≤ x2 then (Q (vI (-1)) M2) else (inR x3 ∧ (if 0 ≤ x3 then ((gA 24 (M2 x0 1) x1 ∨ gA 25 (M2 x0 1) x1 ∨ gA 26 (M2 x0 1) x1) ∧ (gA 23 (M2 (M2 x0 1) x1) x2) ∧ if x3 = 0 then ((gA 24 (M2 x0 2) x1 ∨ gA 25 (M2 x0 2) x1 ∨ gA 26 (M2 x0 2) x1) ∧ (gA 20 (M2 (M2 x0 2) x1) x2) ∧ Q (vI (M2 (M2 (M2 x0 2) x1) x2)) M2) else (if x3 = 1 then (WI 85 [vL (M2 (M2 (M2 x0 1) x1) x2)] M2 (fun y9 M8 => Q (vI y9) M8)) else (WI 86 [vL (M2 (M2 (M2 x0 1) x1) x2), vI (x3 - 2)] M2 (fun y11 M10 => Q (vI y11) M10)))) else (Q (vI (-1)) M2)))))))) : WC 118 [vR x0, vI x1, vI x2, vI x3] M Q := by
  show WR 118 0 [some (vR x0), some (vI x1), some (vI x2), some (vI x3), none, none] [] M Q
  refine g_5 (a := 2) (b := 0) (nx := 1) (by decide +kernel) rfl ?_
  obtain ⟨r1, h⟩ := h
  by_cases c14 : x2 < 0
  · rw [if_pos c14] at h
    refine g_40t (a := 2) (b := 17) (nx := 4) (by decide +kernel) r1 (by exact (cb_2 _ _).mpr c14) ?_
    refine g_1 (a := (-1)) (b := 0) (nx := 18) (by decide +kernel) ?_
    exact g_91 (b := 0) (nx := 19) (by decide +kernel) h
  · rw [if_neg c14] at h
    refine g_40f (a := 2) (b := 17) (nx := 4) (by decide +kernel) r1 (by exact fun hz => c14 ((cb_2 _ _).mp hz)) ?_
    refine g_5 (a := 2) (b := 0) (nx := 5) (by decide +kernel) rfl ?_
    refine g_7 (a := 0) (b := 0) (nx := 6) (by decide +kernel) rfl ?_
    refine g_5 (a := 1) (b := 0) (nx := 7) (by decide +kernel) rfl ?_
    refine g_80 (a := 117) (b := 1) (nx := 10) (by decide +kernel) (r := x0) (As := [vI x1]) (st' := [vI x2]) (z := 117) rfl rfl rfl (Nat.le_of_ble_eq_true rfl) h0.2 (Nat.le_of_ble_eq_true rfl) rfl (c_I (by decide +kernel) h (fun y3 M2 h => ?_))
    obtain ⟨r4, h⟩ := h
    by_cases c13 : y3 ≤ x2
    · rw [if_pos c13] at h
      refine g_41t (a := 3) (b := 17) (nx := 13) (by decide +kernel) (by rw [wr_id r1, wr_id r4]; exact (cb_3 _ _).mpr c13) ?_
      refine g_1 (a := (-1)) (b := 0) (nx := 18) (by decide +kernel) ?_
      exact g_91 (b := 0) (nx := 19) (by decide +kernel) h
    · rw [if_neg c13] at h
      refine g_41f (a := 3) (b := 17) (nx := 13) (by decide +kernel) (by rw [wr_id r1, wr_id r4]; exact fun hz => c13 ((cb_3 _ _).mp hz)) ?_
      refine g_5 (a := 3) (b := 0) (nx := 14) (by decide +kernel) rfl ?_
      obtain ⟨r5, h⟩ := h
      by_cases c12 : 0 ≤ x3
      · rw [if_pos c12] at h
        refine g_40t (a := 3) (b := 19) (nx := 17) (by decide +kernel) r5 (by exact (cb_3 _ _).mpr c12) ?_
        refine g_7 (a := 0) (b := 0) (nx := 20) (by decide +kernel) rfl ?_
        refine g_52 (a := 8) (b := 1) (nx := 23) (by decide +kernel) h0 ?_
        refine g_5 (a := 1) (b := 0) (nx := 24) (by decide +kernel) rfl ?_
        refine g_69 (a := 0) (b := 0) (nx := 25) (by decide +kernel) h.1 ?_
        replace h := h.2
        refine g_5 (a := 2) (b := 0) (nx := 26) (by decide +kernel) rfl ?_
        refine g_67 (a := 0) (b := 0) (nx := 27) (by decide +kernel) h.1 ?_
        replace h := h.2
        refine g_9 (a := 4) (b := 0) (nx := 29) (by decide +kernel) ⟨rfl, Nat.le_of_ble_eq_true rfl⟩ (ls' := [some (vR x0), some (vI x1), some (vI x2), some (vI x3), some (vL (M2 (M2 (M2 x0 1) x1) x2)), none]) rfl ?_
        refine g_5 (a := 3) (b := 0) (nx := 30) (by decide +kernel) rfl ?_
        by_cases c6 : x3 = 0
        · rw [if_pos c6] at h
          refine g_45 (a := 0) (b := 71) (nx := 56) (by decide +kernel) r5 (t := 56) (by rw [(show sws 118 30 = [(0, 56), (1, 65)] from by decide +kernel)]; simp only [swL]; simp [c6]) ?_
          refine g_7 (a := 0) (b := 0) (nx := 57) (by decide +kernel) rfl ?_
          refine g_52 (a := 8) (b := 2) (nx := 60) (by decide +kernel) h0 ?_
          refine g_5 (a := 1) (b := 0) (nx := 61) (by decide +kernel) rfl ?_
          refine g_69 (a := 0) (b := 0) (nx := 62) (by decide +kernel) h.1 ?_
          replace h := h.2
          refine g_5 (a := 2) (b := 0) (nx := 63) (by decide +kernel) rfl ?_
          refine g_61 (a := 0) (b := 0) (nx := 64) (by decide +kernel) h.1 ?_
          replace h := h.2
          exact g_91 (b := 0) (nx := 65) (by decide +kernel) h
        · rw [if_neg c6] at h
          by_cases c7 : x3 = 1
          · rw [if_pos c7] at h
            refine g_45 (a := 0) (b := 71) (nx := 56) (by decide +kernel) r5 (t := 65) (by rw [(show sws 118 30 = [(0, 56), (1, 65)] from by decide +kernel)]; simp only [swL]; simp [c7]) ?_
            refine g_6 (a := 4) (b := 0) (nx := 67) (by decide +kernel) rfl ?_
            refine g_82 (a := 85) (b := 1) (nx := 70) (by decide +kernel) (As := [vL (M2 (M2 (M2 x0 1) x1) x2)]) (st' := []) (z := 85) rfl rfl rfl (Nat.le_of_ble_eq_true rfl) (Nat.le_of_ble_eq_true rfl) rfl (c_I (by decide +kernel) h (fun y9 M8 h => ?_))
            exact g_91 (b := 0) (nx := 71) (by decide +kernel) h
          · rw [if_neg c7] at h
            refine g_45 (a := 0) (b := 71) (nx := 56) (by decide +kernel) r5 (t := 71) (by rw [(show sws 118 30 = [(0, 56), (1, 65)] from by decide +kernel)]; simp only [swL]; first | rfl | (simp [c6, c7])) ?_
            refine g_6 (a := 4) (b := 0) (nx := 73) (by decide +kernel) rfl ?_
            refine g_5 (a := 3) (b := 0) (nx := 74) (by decide +kernel) rfl ?_
            refine g_1 (a := 2) (b := 0) (nx := 75) (by decide +kernel) ?_
            refine g_16 (a := 0) (b := 0) (nx := 76) (by decide +kernel) ?_
            refine g_82 (a := 86) (b := 2) (nx := 79) (by decide +kernel) (As := [vL (M2 (M2 (M2 x0 1) x1) x2), vI (x3 - 2)]) (st' := []) (z := 86) rfl rfl rfl (Nat.le_of_ble_eq_true rfl) (Nat.le_of_ble_eq_true rfl) rfl (c_I (by decide +kernel) h (fun y11 M10 h => ?_))
            exact g_91 (b := 0) (nx := 80) (by decide +kernel) h
      · rw [if_neg c12] at h
        refine g_40f (a := 3) (b := 19) (nx := 17) (by decide +kernel) r5 (by exact fun hz => c12 ((cb_3 _ _).mp hz)) ?_
        refine g_1 (a := (-1)) (b := 0) (nx := 18) (by decide +kernel) ?_
        exact g_91 (b := 0) (nx := 19) (by decide +kernel) h
-- 119 SyllableMaker$Tally.make(III)I
theorem t_119 {x0 x1 x2 x3 : Int} {M : Mem} {Q : AV → Mem → Prop} (h0 : gO 8 x0) (h : inR (M x0 4) ∧ (if 0 < (M x0 4) then (WR 119 18 [some (vR x0), some (vI x1), some (vI x2), some (vI x3), some (vI x1), some (vI 0), some (vI 0), none, none, none] [] M Q) else (Q (vI (-1)) M))) : WC 119 [vR x0, vI x1, vI x2, vI x3] M Q := by
  show WR 119 0 [some (vR x0), some (vI x1), some (vI x2), some (vI x3), none, none, none, none, none, none] [] M Q
  refine g_7 (a := 0) (b := 0) (nx := 1) (by decide +kernel) rfl ?_
  refine g_50 (a := 8) (b := 4) (nx := 4) (by decide +kernel) h0 ?_
  obtain ⟨r1, h⟩ := h
  by_cases c2 : 0 < (M x0 4)
  · rw [if_pos c2] at h
    refine g_40t (a := 4) (b := 9) (nx := 7) (by decide +kernel) r1 (by exact (cb_4 _ _).mpr c2) ?_
    refine g_5 (a := 1) (b := 0) (nx := 10) (by decide +kernel) rfl ?_
    refine g_8 (a := 4) (b := 0) (nx := 12) (by decide +kernel) rfl (ls' := [some (vR x0), some (vI x1), some (vI x2), some (vI x3), some (vI x1), none, none, none, none, none]) rfl ?_
    refine g_1 (a := 0) (b := 0) (nx := 13) (by decide +kernel) ?_
    refine g_8 (a := 5) (b := 0) (nx := 15) (by decide +kernel) rfl (ls' := [some (vR x0), some (vI x1), some (vI x2), some (vI x3), some (vI x1), some (vI 0), none, none, none, none]) rfl ?_
    refine g_1 (a := 0) (b := 0) (nx := 16) (by decide +kernel) ?_
    refine g_8 (a := 6) (b := 0) (nx := 18) (by decide +kernel) rfl (ls' := [some (vR x0), some (vI x1), some (vI x2), some (vI x3), some (vI x1), some (vI 0), some (vI 0), none, none, none]) rfl ?_
    exact h
  · rw [if_neg c2] at h
    refine g_40f (a := 4) (b := 9) (nx := 7) (by decide +kernel) r1 (by exact fun hz => c2 ((cb_4 _ _).mp hz)) ?_
    refine g_1 (a := (-1)) (b := 0) (nx := 8) (by decide +kernel) ?_
    exact g_91 (b := 0) (nx := 9) (by decide +kernel) h
theorem t_119_18 {x0 x1 x2 x3 x4 x5 x6 : Int} {l7 l9 : Option AV} {M : Mem} {Q : AV → Mem → Prop} (h0 : gO 8 x0) (h : inR x6 ∧ (inR (x2 * 3) ∧ (if (x2 * 3) ≤ x6 then (inR x3 ∧ (if x3 = (-1) then (Q (vI x5) M) else (Q (vI (-1)) M))) else ((0 < (3 : Int) ∧ -2147483648 ≤ x6 ∧ x6 < 2147483648 ∧ (3 : Int) < 2147483648) ∧ (0 < (M x0 4) ∧ -2147483648 ≤ (((x4 * 1103515245) + 12345) % 4294967296 / 65536) ∧ (((x4 * 1103515245) + 12345) % 4294967296 / 65536) < 2147483648 ∧ (M x0 4) < 2147483648) ∧ WL 120 [vR x0, vI ((x6).tmod 3), vI (((((x4 * 1103515245) + 12345) % 4294967296 / 65536)).tmod (M x0 4))] M (fun y6 M5 => WI 85 [vL y6] M5 (fun y8 M7 => inR x3 ∧ (inR x5 ∧ (if x3 < x5 then (WR 119 18 [some (vR x0), some (vI x1), some (vI x2), some (vI x3), some (vI ((x4 * 1103515245) + 12345)), some (vI (x5 + y8)), some (vI (x6 + 1)), some (vL y6), none, some (vI y8)] [] M7 Q) else (inR (x5 + y8) ∧ (if (x5 + y8) ≤ x3 then (WR 119 18 [some (vR x0), some (vI x1), some (vI x2), some (vI x3), some (vI ((x4 * 1103515245) + 12345)), some (vI (x5 + y8)), some (vI (x6 + 1)), some (vL y6), none, some (vI y8)] [] M7 Q) else (WI 86 [vL y6, vI (x3 - x5)] M7 (fun y13 M12 => Q (vI y13) M12)))))))))))) : WR 119 18 [some (vR x0), some (vI x1), some (vI x2), some (vI x3), some (vI x4), some (vI x5), some (vI x6), l7, none, l9] [] M Q := by
  refine g_5 (a := 6) (b := 0) (nx := 20) (by decide +kernel) rfl ?_
  refine g_5 (a := 2) (b := 0) (nx := 21) (by decide +kernel) rfl ?_
  refine g_1 (a := 3) (b := 0) (nx := 22) (by decide +kernel) ?_
  refine g_17 (a := 0) (b := 0) (nx := 23) (by decide +kernel) ?_
  obtain ⟨r1, h⟩ := h
  obtain ⟨r2, h⟩ := h
  by_cases c16 : (x2 * 3) ≤ x6
  · rw [if_pos c16] at h
    refine g_41t (a := 3) (b := 102) (nx := 26) (by decide +kernel) (by rw [wr_id r1, wr_id r2]; exact (cb_3 _ _).mpr c16) ?_
    refine g_5 (a := 3) (b := 0) (nx := 103) (by decide +kernel) rfl ?_
    refine g_1 (a := (-1)) (b := 0) (nx := 104) (by decide +kernel) ?_
    obtain ⟨r3, h⟩ := h
    by_cases c4 : x3 = (-1)
    · rw [if_pos c4] at h
      refine g_41f (a := 1) (b := 112) (nx := 107) (by decide +kernel) (by rw [wr_id r3, wr_id (show inR (-1) by decide)]; exact fun hz => ((cb_1 _ _).mp hz) c4) ?_
      refine g_5 (a := 5) (b := 0) (nx := 109) (by decide +kernel) rfl ?_
      refine g_44 (a := 0) (b := 113) (nx := 112) (by decide +kernel) ?_
      exact g_91 (b := 0) (nx := 114) (by decide +kernel) h
    · rw [if_neg c4] at h
      refine g_41t (a := 1) (b := 112) (nx := 107) (by decide +kernel) (by rw [wr_id r3, wr_id (show inR (-1) by decide)]; exact (cb_1 _ _).mpr c4) ?_
      refine g_1 (a := (-1)) (b := 0) (nx := 113) (by decide +kernel) ?_
      exact g_91 (b := 0) (nx := 114) (by decide +kernel) h
  · rw [if_neg c16] at h
    refine g_41f (a := 3) (b := 102) (nx := 26) (by decide +kernel) (by rw [wr_id r1, wr_id r2]; exact fun hz => c16 ((cb_3 _ _).mp hz)) ?_
    refine g_5 (a := 4) (b := 0) (nx := 28) (by decide +kernel) rfl ?_
    refine g_1 (a := 1103515245) (b := 0) (nx := 30) (by decide +kernel) ?_
    refine g_17 (a := 0) (b := 0) (nx := 31) (by decide +kernel) ?_
    refine g_1 (a := 12345) (b := 0) (nx := 34) (by decide +kernel) ?_
    refine g_15 (a := 0) (b := 0) (nx := 35) (by decide +kernel) ?_
    refine g_8 (a := 4) (b := 0) (nx := 37) (by decide +kernel) rfl (ls' := [some (vR x0), some (vI x1), some (vI x2), some (vI x3), some (vI ((x4 * 1103515245) + 12345)), some (vI x5), some (vI x6), l7, none, l9]) rfl ?_
    refine g_7 (a := 0) (b := 0) (nx := 38) (by decide +kernel) rfl ?_
    refine g_5 (a := 6) (b := 0) (nx := 40) (by decide +kernel) rfl ?_
    refine g_1 (a := 3) (b := 0) (nx := 41) (by decide +kernel) ?_
    refine g_19 (a := 0) (b := 0) (nx := 42) (by decide +kernel) h.1 ?_
    replace h := h.2
    refine g_5 (a := 4) (b := 0) (nx := 44) (by decide +kernel) rfl ?_
    refine g_1 (a := 16) (b := 0) (nx := 46) (by decide +kernel) ?_
    refine g_24 (a := 0) (b := 0) (nx := 47) (by decide +kernel) (by decide) ?_
    show WR 119 47 [some (vR x0), some (vI x1), some (vI x2), some (vI x3), some (vI ((x4 * 1103515245) + 12345)), some (vI x5), some (vI x6), l7, none, l9] [vI (((x4 * 1103515245) + 12345) % 4294967296 / 65536), vI ((x6).tmod 3), vR x0] M Q
    refine g_7 (a := 0) (b := 0) (nx := 48) (by decide +kernel) rfl ?_
    refine g_50 (a := 8) (b := 4) (nx := 51) (by decide +kernel) h0 ?_
    refine g_19 (a := 0) (b := 0) (nx := 52) (by decide +kernel) h.1 ?_
    replace h := h.2
    refine g_80 (a := 120) (b := 2) (nx := 55) (by decide +kernel) (r := x0) (As := [vI ((x6).tmod 3), vI (((((x4 * 1103515245) + 12345) % 4294967296 / 65536)).tmod (M x0 4))]) (st' := []) (z := 120) rfl rfl rfl (Nat.le_of_ble_eq_true rfl) h0.2 (Nat.le_of_ble_eq_true rfl) rfl (c_L (by decide +kernel) h (fun y6 M5 h => ?_))
    refine g_9 (a := 7) (b := 0) (nx := 57) (by decide +kernel) ⟨rfl, Nat.le_of_ble_eq_true rfl⟩ (ls' := [some (vR x0), some (vI x1), some (vI x2), some (vI x3), some (vI ((x4 * 1103515245) + 12345)), some (vI x5), some (vI x6), some (vL y6), none, l9]) rfl ?_
    refine g_6 (a := 7) (b := 0) (nx := 59) (by decide +kernel) rfl ?_
    refine g_82 (a := 85) (b := 1) (nx := 62) (by decide +kernel) (As := [vL y6]) (st' := []) (z := 85) rfl rfl rfl (Nat.le_of_ble_eq_true rfl) (Nat.le_of_ble_eq_true rfl) rfl (c_I (by decide +kernel) h (fun y8 M7 h => ?_))
    refine g_8 (a := 9) (b := 0) (nx := 64) (by decide +kernel) rfl (ls' := [some (vR x0), some (vI x1), some (vI x2), some (vI x3), some (vI ((x4 * 1103515245) + 12345)), some (vI x5), some (vI x6), some (vL y6), none, some (vI y8)]) rfl ?_
    refine g_5 (a := 3) (b := 0) (nx := 65) (by decide +kernel) rfl ?_
    refine g_5 (a := 5) (b := 0) (nx := 67) (by decide +kernel) rfl ?_
    obtain ⟨r9, h⟩ := h
    obtain ⟨r10, h⟩ := h
    by_cases c15 : x3 < x5
    · rw [if_pos c15] at h
      refine g_41t (a := 2) (b := 89) (nx := 70) (by decide +kernel) (by rw [wr_id r9, wr_id r10]; exact (cb_2 _ _).mpr c15) ?_
      refine g_5 (a := 5) (b := 0) (nx := 91) (by decide +kernel) rfl ?_
      refine g_5 (a := 9) (b := 0) (nx := 93) (by decide +kernel) rfl ?_
      refine g_15 (a := 0) (b := 0) (nx := 94) (by decide +kernel) ?_
      refine g_8 (a := 5) (b := 0) (nx := 96) (by decide +kernel) rfl (ls' := [some (vR x0), some (vI x1), some (vI x2), some (vI x3), some (vI ((x4 * 1103515245) + 12345)), some (vI (x5 + y8)), some (vI x6), some (vL y6), none, some (vI y8)]) rfl ?_
      refine g_11 (a := 6) (b := 1) (nx := 99) (by decide +kernel) rfl rfl (ls' := [some (vR x0), some (vI x1), some (vI x2), some (vI x3), some (vI ((x4 * 1103515245) + 12345)), some (vI (x5 + y8)), some (vI (x6 + 1)), some (vL y6), none, some (vI y8)]) rfl ?_
      refine g_44 (a := 0) (b := 18) (nx := 102) (by decide +kernel) ?_
      exact h
    · rw [if_neg c15] at h
      refine g_41f (a := 2) (b := 89) (nx := 70) (by decide +kernel) (by rw [wr_id r9, wr_id r10]; exact fun hz => c15 ((cb_2 _ _).mp hz)) ?_
      refine g_5 (a := 3) (b := 0) (nx := 71) (by decide +kernel) rfl ?_
      refine g_5 (a := 5) (b := 0) (nx := 73) (by decide +kernel) rfl ?_
      refine g_5 (a := 9) (b := 0) (nx := 75) (by decide +kernel) rfl ?_
      refine g_15 (a := 0) (b := 0) (nx := 76) (by decide +kernel) ?_
      obtain ⟨r11, h⟩ := h
      by_cases c14 : (x5 + y8) ≤ x3
      · rw [if_pos c14] at h
        refine g_41t (a := 3) (b := 89) (nx := 79) (by decide +kernel) (by rw [wr_id r9, wr_id r11]; exact (cb_3 _ _).mpr c14) ?_
        refine g_5 (a := 5) (b := 0) (nx := 91) (by decide +kernel) rfl ?_
        refine g_5 (a := 9) (b := 0) (nx := 93) (by decide +kernel) rfl ?_
        refine g_15 (a := 0) (b := 0) (nx := 94) (by decide +kernel) ?_
        refine g_8 (a := 5) (b := 0) (nx := 96) (by decide +kernel) rfl (ls' := [some (vR x0), some (vI x1), some (vI x2), some (vI x3), some (vI ((x4 * 1103515245) + 12345)), some (vI (x5 + y8)), some (vI x6), some (vL y6), none, some (vI y8)]) rfl ?_
        refine g_11 (a := 6) (b := 1) (nx := 99) (by decide +kernel) rfl rfl (ls' := [some (vR x0), some (vI x1), some (vI x2), some (vI x3), some (vI ((x4 * 1103515245) + 12345)), some (vI (x5 + y8)), some (vI (x6 + 1)), some (vL y6), none, some (vI y8)]) rfl ?_
        refine g_44 (a := 0) (b := 18) (nx := 102) (by decide +kernel) ?_
        exact h
      · rw [if_neg c14] at h
        refine g_41f (a := 3) (b := 89) (nx := 79) (by decide +kernel) (by rw [wr_id r9, wr_id r11]; exact fun hz => c14 ((cb_3 _ _).mp hz)) ?_
        refine g_6 (a := 7) (b := 0) (nx := 81) (by decide +kernel) rfl ?_
        refine g_5 (a := 3) (b := 0) (nx := 82) (by decide +kernel) rfl ?_
        refine g_5 (a := 5) (b := 0) (nx := 84) (by decide +kernel) rfl ?_
        refine g_16 (a := 0) (b := 0) (nx := 85) (by decide +kernel) ?_
        refine g_82 (a := 86) (b := 2) (nx := 88) (by decide +kernel) (As := [vL y6, vI (x3 - x5)]) (st' := []) (z := 86) rfl rfl rfl (Nat.le_of_ble_eq_true rfl) (Nat.le_of_ble_eq_true rfl) rfl (c_I (by decide +kernel) h (fun y13 M12 h => ?_))
        exact g_91 (b := 0) (nx := 89) (by decide +kernel) h
-- 120 SyllableMaker$Tally.drawn(II)J
theorem t_120 {x0 x1 x2 : Int} {M : Mem} {Q : AV → Mem → Prop} (h0 : gO 8 x0) (h : WR 120 5 [some (vR x0), some (vI x1), some (vI x2), some (vI 0), some (vI 0)] [] M Q) : WC 120 [vR x0, vI x1, vI x2] M Q := by
  show WR 120 0 [some (vR x0), some (vI x1), some (vI x2), none, none] [] M Q
  refine g_1 (a := 0) (b := 0) (nx := 1) (by decide +kernel) ?_
  refine g_8 (a := 3) (b := 0) (nx := 2) (by decide +kernel) rfl (ls' := [some (vR x0), some (vI x1), some (vI x2), some (vI 0), none]) rfl ?_
  refine g_1 (a := 0) (b := 0) (nx := 3) (by decide +kernel) ?_
  refine g_8 (a := 4) (b := 0) (nx := 5) (by decide +kernel) rfl (ls' := [some (vR x0), some (vI x1), some (vI x2), some (vI 0), some (vI 0)]) rfl ?_
  exact h
theorem t_120_5 {x0 x1 x2 x3 x4 : Int} {M : Mem} {Q : AV → Mem → Prop} (h0 : gO 8 x0) (h : (gA 20 (M x0 3) x1) ∧ inR x4 ∧ (inR (M (M x0 3) x1) ∧ (if (M (M x0 3) x1) ≤ x4 then (Q (vL 1) M) else ((gA 24 (M x0 2) x1 ∨ gA 25 (M x0 2) x1 ∨ gA 26 (M x0 2) x1) ∧ (gA 20 (M (M x0 2) x1) x4) ∧ inR x2 ∧ (inR (x3 + (M (M (M x0 2) x1) x4)) ∧ (if (x3 + (M (M (M x0 2) x1) x4)) ≤ x2 then (WR 120 5 [some (vR x0), some (vI x1), some (vI x2), some (vI (x3 + (M (M (M x0 2) x1) x4))), some (vI (x4 + 1))] [] M Q) else ((gA 24 (M x0 1) x1 ∨ gA 25 (M x0 1) x1 ∨ gA 26 (M x0 1) x1) ∧ (gA 23 (M (M x0 1) x1) x4) ∧ Q (vL (M (M (M x0 1) x1) x4)) M))))))) : WR 120 5 [some (vR x0), some (vI x1), some (vI x2), some (vI x3), some (vI x4)] [] M Q := by
  refine g_5 (a := 4) (b := 0) (nx := 7) (by decide +kernel) rfl ?_
  refine g_7 (a := 0) (b := 0) (nx := 8) (by decide +kernel) rfl ?_
  refine g_52 (a := 8) (b := 3) (nx := 11) (by decide +kernel) h0 ?_
  refine g_5 (a := 1) (b := 0) (nx := 12) (by decide +kernel) rfl ?_
  refine g_61 (a := 0) (b := 0) (nx := 13) (by decide +kernel) h.1 ?_
  replace h := h.2
  obtain ⟨r1, h⟩ := h
  obtain ⟨r2, h⟩ := h
  by_cases c6 : (M (M x0 3) x1) ≤ x4
  · rw [if_pos c6] at h
    refine g_41t (a := 3) (b := 49) (nx := 16) (by decide +kernel) (by rw [wr_id r1, wr_id r2]; exact (cb_3 _ _).mpr c6) ?_
    refine g_2 (a := 1) (b := 0) (nx := 50) (by decide +kernel) ?_
    exact g_92 (a := 0) (b := 0) (nx := 51) (by decide +kernel) h
  · rw [if_neg c6] at h
    refine g_41f (a := 3) (b := 49) (nx := 16) (by decide +kernel) (by rw [wr_id r1, wr_id r2]; exact fun hz => c6 ((cb_3 _ _).mp hz)) ?_
    refine g_5 (a := 3) (b := 0) (nx := 17) (by decide +kernel) rfl ?_
    refine g_7 (a := 0) (b := 0) (nx := 18) (by decide +kernel) rfl ?_
    refine g_52 (a := 8) (b := 2) (nx := 21) (by decide +kernel) h0 ?_
    refine g_5 (a := 1) (b := 0) (nx := 22) (by decide +kernel) rfl ?_
    refine g_69 (a := 0) (b := 0) (nx := 23) (by decide +kernel) h.1 ?_
    replace h := h.2
    refine g_5 (a := 4) (b := 0) (nx := 25) (by decide +kernel) rfl ?_
    refine g_61 (a := 0) (b := 0) (nx := 26) (by decide +kernel) h.1 ?_
    replace h := h.2
    refine g_15 (a := 0) (b := 0) (nx := 27) (by decide +kernel) ?_
    refine g_8 (a := 3) (b := 0) (nx := 28) (by decide +kernel) rfl (ls' := [some (vR x0), some (vI x1), some (vI x2), some (vI (x3 + (M (M (M x0 2) x1) x4))), some (vI x4)]) rfl ?_
    refine g_5 (a := 2) (b := 0) (nx := 29) (by decide +kernel) rfl ?_
    refine g_5 (a := 3) (b := 0) (nx := 30) (by decide +kernel) rfl ?_
    obtain ⟨r3, h⟩ := h
    obtain ⟨r4, h⟩ := h
    by_cases c5 : (x3 + (M (M (M x0 2) x1) x4)) ≤ x2
    · rw [if_pos c5] at h
      refine g_41t (a := 3) (b := 43) (nx := 33) (by decide +kernel) (by rw [wr_id r3, wr_id r4]; exact (cb_3 _ _).mpr c5) ?_
      refine g_11 (a := 4) (b := 1) (nx := 46) (by decide +kernel) rfl rfl (ls' := [some (vR x0), some (vI x1), some (vI x2), some (vI (x3 + (M (M (M x0 2) x1) x4))), some (vI (x4 + 1))]) rfl ?_
      refine g_44 (a := 0) (b := 5) (nx := 49) (by decide +kernel) ?_
      exact h
    · rw [if_neg c5] at h
      refine g_41f (a := 3) (b := 43) (nx := 33) (by decide +kernel) (by rw [wr_id r3, wr_id r4]; exact fun hz => c5 ((cb_3 _ _).mp hz)) ?_
      refine g_7 (a := 0) (b := 0) (nx := 34) (by decide +kernel) rfl ?_
      refine g_52 (a := 8) (b := 1) (nx := 37) (by decide +kernel) h0 ?_
      refine g_5 (a := 1) (b := 0) (nx := 38) (by decide +kernel) rfl ?_
      refine g_69 (a := 0) (b := 0) (nx := 39) (by decide +kernel) h.1 ?_
      replace h := h.2
      refine g_5 (a := 4) (b := 0) (nx := 41) (by decide +kernel) rfl ?_
      refine g_67 (a := 0) (b := 0) (nx := 42) (by decide +kernel) h.1 ?_
      replace h := h.2
      exact g_92 (a := 0) (b := 0) (nx := 43) (by decide +kernel) h
-- 122 SyllableMaker$Tape.hasRoomFor(I)Z
theorem t_122 {x0 x1 : Int} {M : Mem} {Q : AV → Mem → Prop} (h0 : gO 9 x0) (h : ((M x0 0) ≠ -2000 ∧ 20 ≤ (shA SH (M x0 0)).1 ∧ (shA SH (M x0 0)).1 ≤ 41 ∧ (shA SH (M x0 0)).1 ≠ 40) ∧ inR ((M x0 1) + x1) ∧ (inR ((shA SH (M x0 0)).2 : Int) ∧ (if ((shA SH (M x0 0)).2 : Int) < ((M x0 1) + x1) then (Q (vI 0) M) else (Q (vI 1) M)))) : WC 122 [vR x0, vI x1] M Q := by
  show WR 122 0 [some (vR x0), some (vI x1)] [] M Q
  refine g_7 (a := 0) (b := 0) (nx := 1) (by decide +kernel) rfl ?_
  refine g_50 (a := 9) (b := 1) (nx := 4) (by decide +kernel) h0 ?_
  refine g_5 (a := 1) (b := 0) (nx := 5) (by decide +kernel) rfl ?_
  refine g_15 (a := 0) (b := 0) (nx := 6) (by decide +kernel) ?_
  refine g_7 (a := 0) (b := 0) (nx := 7) (by decide +kernel) rfl ?_
  refine g_52 (a := 9) (b := 0) (nx := 10) (by decide +kernel) h0 ?_
  refine g_60 (a := 0) (b := 0) (nx := 11) (by decide +kernel) h.1.1 h.1.2 ?_
  replace h := h.2
  obtain ⟨r1, h⟩ := h
  obtain ⟨r2, h⟩ := h
  by_cases c3 : ((shA SH (M x0 0)).2 : Int) < ((M x0 1) + x1)
  · rw [if_pos c3] at h
    refine g_41t (a := 4) (b := 18) (nx := 14) (by decide +kernel) (by rw [wr_id r1, wr_id r2]; exact (cb_4 _ _).mpr c3) ?_
    refine g_1 (a := 0) (b := 0) (nx := 19) (by decide +kernel) ?_
    exact g_91z (b := 0) (nx := 20) (by decide +kernel) (by decide) h
  · rw [if_neg c3] at h
    refine g_41f (a := 4) (b := 18) (nx := 14) (by decide +kernel) (by rw [wr_id r1, wr_id r2]; exact fun hz => c3 ((cb_4 _ _).mp hz)) ?_
    refine g_1 (a := 1) (b := 0) (nx := 15) (by decide +kernel) ?_
    refine g_44 (a := 0) (b := 19) (nx := 18) (by decide +kernel) ?_
    exact g_91z (b := 0) (nx := 20) (by decide +kernel) (by decide) h
-- 123 SyllableMaker$Tape.put(I)V
theorem t_123 {x0 x1 : Int} {M : Mem} {Q : AV → Mem → Prop} (h0 : gO 9 x0) (h : WR 123 3 [some (vR x0), some (vI x1), some (vI 24)] [] M Q) : WC 123 [vR x0, vI x1] M Q := by
  show WR 123 0 [some (vR x0), some (vI x1), none] [] M Q
  refine g_1 (a := 24) (b := 0) (nx := 2) (by decide +kernel) ?_
  refine g_8 (a := 2) (b := 0) (nx := 3) (by decide +kernel) rfl (ls' := [some (vR x0), some (vI x1), some (vI 24)]) rfl ?_
  exact h
theorem t_123_3 {x0 x1 x2 : Int} {M : Mem} {Q : AV → Mem → Prop} (h0 : gO 9 x0) (h : inR x2 ∧ (if x2 < 0 then (Q (vI 0) M) else (((M x0 0) ≠ -2000 ∧ 20 ≤ (shA SH (M x0 0)).1 ∧ (shA SH (M x0 0)).1 ≤ 41 ∧ (shA SH (M x0 0)).1 ≠ 40) ∧ inR (M x0 1) ∧ (inR ((shA SH (M x0 0)).2 : Int) ∧ (if ((shA SH (M x0 0)).2 : Int) ≤ (M x0 1) then (WR 123 3 [some (vR x0), some (vI x1), some (vI (x2 + (-8)))] [] M Q) else ((0 ≤ x2 ∧ x2 < 32) ∧ ((gA 21 (M x0 0) (M x0 1) ∧ -128 ≤ (((x1 % 4294967296 / 2 ^ (x2).toNat) + 128) % 256 - 128) ∧ (((x1 % 4294967296 / 2 ^ (x2).toNat) + 128) % 256 - 128) < 128) ∨ (gA 22 (M x0 0) (M x0 1) ∧ 0 ≤ (((x1 % 4294967296 / 2 ^ (x2).toNat) + 128) % 256 - 128) ∧ (((x1 % 4294967296 / 2 ^ (x2).toNat) + 128) % 256 - 128) ≤ 1)) ∧ WR 123 3 [some (vR x0), some (vI x1), some (vI (x2 + (-8)))] [] (upM (upM M (M x0 0) (M x0 1) (((x1 % 4294967296 / 2 ^ (x2).toNat) + 128) % 256 - 128)) x0 1 (((upM M (M x0 0) (M x0 1) (((x1 % 4294967296 / 2 ^ (x2).toNat) + 128) % 256 - 128)) x0 1) + 1)) Q)))))) : WR 123 3 [some (vR x0), some (vI x1), some (vI x2)] [] M Q := by
  refine g_5 (a := 2) (b := 0) (nx := 4) (by decide +kernel) rfl ?_
  obtain ⟨r1, h⟩ := h
  by_cases c5 : x2 < 0
  · rw [if_pos c5] at h
    refine g_40t (a := 2) (b := 48) (nx := 7) (by decide +kernel) r1 (by exact (cb_2 _ _).mpr c5) ?_
    exact g_90 (a := 0) (b := 0) (nx := 49) (by decide +kernel) h
  · rw [if_neg c5] at h
    refine g_40f (a := 2) (b := 48) (nx := 7) (by decide +kernel) r1 (by exact fun hz => c5 ((cb_2 _ _).mp hz)) ?_
    refine g_7 (a := 0) (b := 0) (nx := 8) (by decide +kernel) rfl ?_
    refine g_50 (a := 9) (b := 1) (nx := 11) (by decide +kernel) h0 ?_
    refine g_7 (a := 0) (b := 0) (nx := 12) (by decide +kernel) rfl ?_
    refine g_52 (a := 9) (b := 0) (nx := 15) (by decide +kernel) h0 ?_
    refine g_60 (a := 0) (b := 0) (nx := 16) (by decide +kernel) h.1.1 h.1.2 ?_
    replace h := h.2
    obtain ⟨r2, h⟩ := h
    obtain ⟨r3, h⟩ := h
    by_cases c4 : ((shA SH (M x0 0)).2 : Int) ≤ (M x0 1)
    · rw [if_pos c4] at h
      refine g_41t (a := 3) (b := 42) (nx := 19) (by decide +kernel) (by rw [wr_id r2, wr_id r3]; exact (cb_3 _ _).mpr c4) ?_
      refine g_11 (a := 2) (b := (-8)) (nx := 45) (by decide +kernel) rfl rfl (ls' := [some (vR x0), some (vI x1), some (vI (x2 + (-8)))]) rfl ?_
      refine g_44 (a := 0) (b := 3) (nx := 48) (by decide +kernel) ?_
      exact h
    · rw [if_neg c4] at h
      refine g_41f (a := 3) (b := 42) (nx := 19) (by decide +kernel) (by rw [wr_id r2, wr_id r3]; exact fun hz => c4 ((cb_3 _ _).mp hz)) ?_
      refine g_7 (a := 0) (b := 0) (nx := 20) (by decide +kernel) rfl ?_
      refine g_52 (a := 9) (b := 0) (nx := 23) (by decide +kernel) h0 ?_
      refine g_7 (a := 0) (b := 0) (nx := 24) (by decide +kernel) rfl ?_
      refine g_50 (a := 9) (b := 1) (nx := 27) (by decide +kernel) h0 ?_
      refine g_5 (a := 1) (b := 0) (nx := 28) (by decide +kernel) rfl ?_
      refine g_5 (a := 2) (b := 0) (nx := 29) (by decide +kernel) rfl ?_
      refine g_24 (a := 0) (b := 0) (nx := 30) (by decide +kernel) h.1 ?_
      show WR 123 30 [some (vR x0), some (vI x1), some (vI x2)] [vI (x1 % 4294967296 / 2 ^ (x2).toNat), vI (M x0 1), vR (M x0 0)] M Q
      replace h := h.2
      refine g_37 (a := 0) (b := 0) (nx := 31) (by decide +kernel) ?_
      refine g_64 (a := 0) (b := 0) (nx := 32) (by decide +kernel) h.1 ?_
      replace h := h.2
      refine g_7 (a := 0) (b := 0) (nx := 33) (by decide +kernel) rfl ?_
      refine g_13 (a := 0) (b := 0) (nx := 34) (by decide +kernel) rfl ?_
      refine g_50 (a := 9) (b := 1) (nx := 37) (by decide +kernel) h0 ?_
      refine g_1 (a := 1) (b := 0) (nx := 38) (by decide +kernel) ?_
      refine g_15 (a := 0) (b := 0) (nx := 39) (by decide +kernel) ?_
      refine g_53 (a := 9) (b := 1) (nx := 42) (by decide +kernel) h0 ?_
      refine g_11 (a := 2) (b := (-8)) (nx := 45) (by decide +kernel) rfl rfl (ls' := [some (vR x0), some (vI x1), some (vI (x2 + (-8)))]) rfl ?_
      refine g_44 (a := 0) (b := 3) (nx := 48) (by decide +kernel) ?_
      exact h
-- 124 SyllableMaker$Tape.startReading()V
theorem t_124 {x0 : Int} {M : Mem} {Q : AV → Mem → Prop} (h0 : gO 9 x0) (h : WV 128 [vR x0] (upM (upM (upM (upM M x0 5 0) x0 6 (-1)) x0 3 0) x0 4 0) (fun M1 => Q (vI 0) M1)) : WC 124 [vR x0] M Q := by
  show WR 124 0 [some (vR x0)] [] M Q
  refine g_7 (a := 0) (b := 0) (nx := 1) (by decide +kernel) rfl ?_
  refine g_1 (a := 0) (b := 0) (nx := 2) (by decide +kernel) ?_
  refine g_53 (a := 9) (b := 5) (nx := 5) (by decide +kernel) h0 ?_
  refine g_7 (a := 0) (b := 0) (nx := 6) (by decide +kernel) rfl ?_
  refine g_1 (a := (-1)) (b := 0) (nx := 7) (by decide +kernel) ?_
  refine g_53 (a := 9) (b := 6) (nx := 10) (by decide +kernel) h0 ?_
  refine g_7 (a := 0) (b := 0) (nx := 11) (by decide +kernel) rfl ?_
  refine g_1 (a := 0) (b := 0) (nx := 12) (by decide +kernel) ?_
  refine g_53 (a := 9) (b := 3) (nx := 15) (by decide +kernel) h0 ?_
  refine g_7 (a := 0) (b := 0) (nx := 16) (by decide +kernel) rfl ?_
  refine g_1 (a := 0) (b := 0) (nx := 17) (by decide +kernel) ?_
  refine g_53 (a := 9) (b := 4) (nx := 20) (by decide +kernel) h0 ?_
  refine g_7 (a := 0) (b := 0) (nx := 21) (by decide +kernel) rfl ?_
  refine g_80 (a := 128) (b := 0) (nx := 24) (by decide +kernel) (r := x0) (As := []) (st' := []) (z := 128) rfl rfl rfl (Nat.le_of_ble_eq_true rfl) h0.2 (Nat.le_of_ble_eq_true rfl) rfl (c_V (by decide +kernel) h (fun M1 h => ?_))
  exact g_90 (a := 0) (b := 0) (nx := 25) (by decide +kernel) h
-- 125 SyllableMaker$Tape.fail(I)V
theorem t_125 {x0 x1 : Int} {M : Mem} {Q : AV → Mem → Prop} (h0 : gO 9 x0) (h : inR (M x0 5) ∧ (if (M x0 5) = 0 then (Q (vI 0) (upM (upM M x0 5 x1) x0 6 ((upM M x0 5 x1) x0 3))) else (Q (vI 0) M))) : WC 125 [vR x0, vI x1] M Q := by
  show WR 125 0 [some (vR x0), some (vI x1)] [] M Q
  refine g_7 (a := 0) (b := 0) (nx := 1) (by decide +kernel) rfl ?_
  refine g_50 (a := 9) (b := 5) (nx := 4) (by decide +kernel) h0 ?_
  obtain ⟨r1, h⟩ := h
  by_cases c2 : (M x0 5) = 0
  · rw [if_pos c2] at h
    refine g_40f (a := 1) (b := 20) (nx := 7) (by decide +kernel) r1 (by exact fun hz => ((cb_1 _ _).mp hz) c2) ?_
    refine g_7 (a := 0) (b := 0) (nx := 8) (by decide +kernel) rfl ?_
    refine g_5 (a := 1) (b := 0) (nx := 9) (by decide +kernel) rfl ?_
    refine g_53 (a := 9) (b := 5) (nx := 12) (by decide +kernel) h0 ?_
    refine g_7 (a := 0) (b := 0) (nx := 13) (by decide +kernel) rfl ?_
    refine g_7 (a := 0) (b := 0) (nx := 14) (by decide +kernel) rfl ?_
    refine g_50 (a := 9) (b := 3) (nx := 17) (by decide +kernel) h0 ?_
    refine g_53 (a := 9) (b := 6) (nx := 20) (by decide +kernel) h0 ?_
    exact g_90 (a := 0) (b := 0) (nx := 21) (by decide +kernel) h
  · rw [if_neg c2] at h
    refine g_40t (a := 1) (b := 20) (nx := 7) (by decide +kernel) r1 (by exact (cb_1 _ _).mpr c2) ?_
    exact g_90 (a := 0) (b := 0) (nx := 21) (by decide +kernel) h
-- 126 SyllableMaker$Tape.refuse()V
theorem t_126 {x0 : Int} {M : Mem} {Q : AV → Mem → Prop} (h0 : gO 9 x0) (h : inR (M x0 2) ∧ (if (M x0 2) = 4 then (WV 125 [vR x0, vI 1] M (fun M4 => Q (vI 0) M4)) else (WV 125 [vR x0, vI 2] M (fun M2 => Q (vI 0) M2)))) : WC 126 [vR x0] M Q := by
  show WR 126 0 [some (vR x0)] [] M Q
  refine g_7 (a := 0) (b := 0) (nx := 1) (by decide +kernel) rfl ?_
  refine g_7 (a := 0) (b := 0) (nx := 2) (by decide +kernel) rfl ?_
  refine g_50 (a := 9) (b := 2) (nx := 5) (by decide +kernel) h0 ?_
  refine g_1 (a := 4) (b := 0) (nx := 6) (by decide +kernel) ?_
  obtain ⟨r1, h⟩ := h
  by_cases c6 : (M x0 2) = 4
  · rw [if_pos c6] at h
    refine g_41f (a := 1) (b := 13) (nx := 9) (by decide +kernel) (by rw [wr_id r1, wr_id (show inR 4 by decide)]; exact fun hz => ((cb_1 _ _).mp hz) c6) ?_
    refine g_1 (a := 1) (b := 0) (nx := 10) (by decide +kernel) ?_
    refine g_44 (a := 0) (b := 14) (nx := 13) (by decide +kernel) ?_
    refine g_80 (a := 125) (b := 1) (nx := 17) (by decide +kernel) (r := x0) (As := [vI 1]) (st' := []) (z := 125) rfl rfl rfl (Nat.le_of_ble_eq_true rfl) h0.2 (Nat.le_of_ble_eq_true rfl) rfl (c_V (by decide +kernel) h (fun M4 h => ?_))
    exact g_90 (a := 0) (b := 0) (nx := 18) (by decide +kernel) h
  · rw [if_neg c6] at h
    refine g_41t (a := 1) (b := 13) (nx := 9) (by decide +kernel) (by rw [wr_id r1, wr_id (show inR 4 by decide)]; exact (cb_1 _ _).mpr c6) ?_
    refine g_1 (a := 2) (b := 0) (nx := 14) (by decide +kernel) ?_
    refine g_80 (a := 125) (b := 1) (nx := 17) (by decide +kernel) (r := x0) (As := [vI 2]) (st' := []) (z := 125) rfl rfl rfl (Nat.le_of_ble_eq_true rfl) h0.2 (Nat.le_of_ble_eq_true rfl) rfl (c_V (by decide +kernel) h (fun M2 h => ?_))
    exact g_90 (a := 0) (b := 0) (nx := 18) (by decide +kernel) h
-- 127 SyllableMaker$Tape.goesOn()Z
theorem t_127 {x0 : Int} {M : Mem} {Q : AV → Mem → Prop} (h0 : gO 9 x0) (h : inR (M x0 5) ∧ (if (M x0 5) = 0 then (inR (M x0 2) ∧ (if (M x0 2) = 0 then (Q (vI 0) M) else (Q (vI 1) M))) else (Q (vI 0) M))) : WC 127 [vR x0] M Q := by
  show WR 127 0 [some (vR x0)] [] M Q
  refine g_7 (a := 0) (b := 0) (nx := 1) (by decide +kernel) rfl ?_
  refine g_50 (a := 9) (b := 5) (nx := 4) (by decide +kernel) h0 ?_
  obtain ⟨r1, h⟩ := h
  by_cases c4 : (M x0 5) = 0
  · rw [if_pos c4] at h
    refine g_40f (a := 1) (b := 18) (nx := 7) (by decide +kernel) r1 (by exact fun hz => ((cb_1 _ _).mp hz) c4) ?_
    refine g_7 (a := 0) (b := 0) (nx := 8) (by decide +kernel) rfl ?_
    refine g_50 (a := 9) (b := 2) (nx := 11) (by decide +kernel) h0 ?_
    obtain ⟨r2, h⟩ := h
    by_cases c3 : (M x0 2) = 0
    · rw [if_pos c3] at h
      refine g_40t (a := 0) (b := 18) (nx := 14) (by decide +kernel) r2 (by exact (cb_0 _ _).mpr c3) ?_
      refine g_1 (a := 0) (b := 0) (nx := 19) (by decide +kernel) ?_
      exact g_91z (b := 0) (nx := 20) (by decide +kernel) (by decide) h
    · rw [if_neg c3] at h
      refine g_40f (a := 0) (b := 18) (nx := 14) (by decide +kernel) r2 (by exact fun hz => c3 ((cb_0 _ _).mp hz)) ?_
      refine g_1 (a := 1) (b := 0) (nx := 15) (by decide +kernel) ?_
      refine g_44 (a := 0) (b := 19) (nx := 18) (by decide +kernel) ?_
      exact g_91z (b := 0) (nx := 20) (by decide +kernel) (by decide) h
  · rw [if_neg c4] at h
    refine g_40t (a := 1) (b := 18) (nx := 7) (by decide +kernel) r1 (by exact (cb_1 _ _).mpr c4) ?_
    refine g_1 (a := 0) (b := 0) (nx := 19) (by decide +kernel) ?_
    exact g_91z (b := 0) (nx := 20) (by decide +kernel) (by decide) h
-- 128 SyllableMaker$Tape.advance()V
theorem t_128 {x0 : Int} {M : Mem} {Q : AV → Mem → Prop} (h0 : gO 9 x0) (h : WR 128 10 [some (vR x0), some (vI ((M x0 3) + (M x0 4))), none, none] [] M Q) : WC 128 [vR x0] M Q := by
  show WR 128 0 [some (vR x0), none, none, none] [] M Q
  refine g_7 (a := 0) (b := 0) (nx := 1) (by decide +kernel) rfl ?_
  refine g_50 (a := 9) (b := 3) (nx := 4) (by decide +kernel) h0 ?_
  refine g_7 (a := 0) (b := 0) (nx := 5) (by decide +kernel) rfl ?_
  refine g_50 (a := 9) (b := 4) (nx := 8) (by decide +kernel) h0 ?_
  refine g_15 (a := 0) (b := 0) (nx := 9) (by decide +kernel) ?_
  refine g_8 (a := 1) (b := 0) (nx := 10) (by decide +kernel) rfl (ls' := [some (vR x0), some (vI ((M x0 3) + (M x0 4))), none, none]) rfl ?_
  exact h
theorem t_128_10 {x0 x1 : Int} {M : Mem} {Q : AV → Mem → Prop} (h0 : gO 9 x0) (h : inR x1 ∧ (inR (M x0 1) ∧ (if (M x0 1) ≤ x1 then (inR ((upM (upM (upM M x0 3 x1) x0 4 0) x0 2 0) x0 1) ∧ (if x1 < ((upM (upM (upM M x0 3 x1) x0 4 0) x0 2 0) x0 1) then (WI 130 [vR x0, vI x1, vI 97, vI 122] (upM (upM (upM M x0 3 x1) x0 4 0) x0 2 0) (fun y5 M4 => WI 130 [vR x0, vI x1, vI 48, vI 57] M4 (fun y7 M6 => (inR y5 ∧ inR y7) ∧ (inR 1 ∧ inR (max y5 y7)) ∧ inR y5 ∧ (if y5 ≤ 0 then (inR y7 ∧ (if y7 ≤ 0 then (WI 132 [vR x0, vI 0] (upM M6 x0 4 (max 1 (max y5 y7))) (fun y11 M10 => inR y11 ∧ (if y11 = 59 then (Q (vI 0) (upM M10 x0 2 3)) else (Q (vI 0) (upM M10 x0 2 4))))) else (if 3 < y7 then (Q (vI 0) (upM (upM M6 x0 4 (max 1 (max y5 y7))) x0 2 4)) else (WI 130 [vR x0, vI (x1 + y7), vI 97, vI 122] (upM M6 x0 4 (max 1 (max y5 y7))) (fun y15 M14 => inR y15 ∧ (if y15 = 0 then (Q (vI 0) (upM M14 x0 2 2)) else (Q (vI 0) (upM M14 x0 2 4)))))))) else (if 12 < y5 then (Q (vI 0) (upM (upM M6 x0 4 (max 1 (max y5 y7))) x0 2 4)) else (Q (vI 0) (upM (upM M6 x0 4 (max 1 (max y5 y7))) x0 2 1))))))) else (Q (vI 0) (upM (upM (upM M x0 3 x1) x0 4 0) x0 2 0)))) else (WI 129 [vR x0, vI x1] M (fun y24 M23 => inR y24 ∧ (if y24 = 0 then (inR ((upM (upM (upM M23 x0 3 x1) x0 4 0) x0 2 0) x0 1) ∧ (if x1 < ((upM (upM (upM M23 x0 3 x1) x0 4 0) x0 2 0) x0 1) then (WI 130 [vR x0, vI x1, vI 97, vI 122] (upM (upM (upM M23 x0 3 x1) x0 4 0) x0 2 0) (fun y28 M27 => WI 130 [vR x0, vI x1, vI 48, vI 57] M27 (fun y30 M29 => (inR y28 ∧ inR y30) ∧ (inR 1 ∧ inR (max y28 y30)) ∧ inR y28 ∧ (if y28 ≤ 0 then (inR y30 ∧ (if y30 ≤ 0 then (WI 132 [vR x0, vI 0] (upM M29 x0 4 (max 1 (max y28 y30))) (fun y34 M33 => inR y34 ∧ (if y34 = 59 then (Q (vI 0) (upM M33 x0 2 3)) else (Q (vI 0) (upM M33 x0 2 4))))) else (if 3 < y30 then (Q (vI 0) (upM (upM M29 x0 4 (max 1 (max y28 y30))) x0 2 4)) else (WI 130 [vR x0, vI (x1 + y30), vI 97, vI 122] (upM M29 x0 4 (max 1 (max y28 y30))) (fun y38 M37 => inR y38 ∧ (if y38 = 0 then (Q (vI 0) (upM M37 x0 2 2)) else (Q (vI 0) (upM M37 x0 2 4)))))))) else (if 12 < y28 then (Q (vI 0) (upM (upM M29 x0 4 (max 1 (max y28 y30))) x0 2 4)) else (Q (vI 0) (upM (upM M29 x0 4 (max 1 (max y28 y30))) x0 2 1))))))) else (Q (vI 0) (upM (upM (upM M23 x0 3 x1) x0 4 0) x0 2 0)))) else (WR 128 10 [some (vR x0), some (vI (x1 + 1)), none, none] [] M23 Q))))))) : WR 128 10 [some (vR x0), some (vI x1), none, none] [] M Q := by
  refine g_5 (a := 1) (b := 0) (nx := 11) (by decide +kernel) rfl ?_
  refine g_7 (a := 0) (b := 0) (nx := 12) (by decide +kernel) rfl ?_
  refine g_50 (a := 9) (b := 1) (nx := 15) (by decide +kernel) h0 ?_
  obtain ⟨r1, h⟩ := h
  obtain ⟨r2, h⟩ := h
  by_cases c47 : (M x0 1) ≤ x1
  · rw [if_pos c47] at h
    refine g_41t (a := 3) (b := 32) (nx := 18) (by decide +kernel) (by rw [wr_id r1, wr_id r2]; exact (cb_3 _ _).mpr c47) ?_
    refine g_7 (a := 0) (b := 0) (nx := 33) (by decide +kernel) rfl ?_
    refine g_5 (a := 1) (b := 0) (nx := 34) (by decide +kernel) rfl ?_
    refine g_53 (a := 9) (b := 3) (nx := 37) (by decide +kernel) h0 ?_
    refine g_7 (a := 0) (b := 0) (nx := 38) (by decide +kernel) rfl ?_
    refine g_1 (a := 0) (b := 0) (nx := 39) (by decide +kernel) ?_
    refine g_53 (a := 9) (b := 4) (nx := 42) (by decide +kernel) h0 ?_
    refine g_7 (a := 0) (b := 0) (nx := 43) (by decide +kernel) rfl ?_
    refine g_1 (a := 0) (b := 0) (nx := 44) (by decide +kernel) ?_
    refine g_53 (a := 9) (b := 2) (nx := 47) (by decide +kernel) h0 ?_
    refine g_5 (a := 1) (b := 0) (nx := 48) (by decide +kernel) rfl ?_
    refine g_7 (a := 0) (b := 0) (nx := 49) (by decide +kernel) rfl ?_
    refine g_50 (a := 9) (b := 1) (nx := 52) (by decide +kernel) h0 ?_
    obtain ⟨r3, h⟩ := h
    by_cases c22 : x1 < ((upM (upM (upM M x0 3 x1) x0 4 0) x0 2 0) x0 1)
    · rw [if_pos c22] at h
      refine g_41t (a := 2) (b := 56) (nx := 55) (by decide +kernel) (by rw [wr_id r1, wr_id r3]; exact (cb_2 _ _).mpr c22) ?_
      refine g_7 (a := 0) (b := 0) (nx := 57) (by decide +kernel) rfl ?_
      refine g_5 (a := 1) (b := 0) (nx := 58) (by decide +kernel) rfl ?_
      refine g_1 (a := 97) (b := 0) (nx := 60) (by decide +kernel) ?_
      refine g_1 (a := 122) (b := 0) (nx := 62) (by decide +kernel) ?_
      refine g_80 (a := 130) (b := 3) (nx := 65) (by decide +kernel) (r := x0) (As := [vI x1, vI 97, vI 122]) (st' := []) (z := 130) rfl rfl rfl (Nat.le_of_ble_eq_true rfl) h0.2 (Nat.le_of_ble_eq_true rfl) rfl (c_I (by decide +kernel) h (fun y5 M4 h => ?_))
      refine g_8 (a := 2) (b := 0) (nx := 66) (by decide +kernel) rfl (ls' := [some (vR x0), some (vI x1), some (vI y5), none]) rfl ?_
      refine g_7 (a := 0) (b := 0) (nx := 67) (by decide +kernel) rfl ?_
      refine g_5 (a := 1) (b := 0) (nx := 68) (by decide +kernel) rfl ?_
      refine g_1 (a := 48) (b := 0) (nx := 70) (by decide +kernel) ?_
      refine g_1 (a := 57) (b := 0) (nx := 72) (by decide +kernel) ?_
      refine g_80 (a := 130) (b := 3) (nx := 75) (by decide +kernel) (r := x0) (As := [vI x1, vI 48, vI 57]) (st' := []) (z := 130) rfl rfl rfl (Nat.le_of_ble_eq_true rfl) h0.2 (Nat.le_of_ble_eq_true rfl) rfl (c_I (by decide +kernel) h (fun y7 M6 h => ?_))
      refine g_8 (a := 3) (b := 0) (nx := 76) (by decide +kernel) rfl (ls' := [some (vR x0), some (vI x1), some (vI y5), some (vI y7)]) rfl ?_
      refine g_7 (a := 0) (b := 0) (nx := 77) (by decide +kernel) rfl ?_
      refine g_1 (a := 1) (b := 0) (nx := 78) (by decide +kernel) ?_
      refine g_5 (a := 2) (b := 0) (nx := 79) (by decide +kernel) rfl ?_
      refine g_5 (a := 3) (b := 0) (nx := 80) (by decide +kernel) rfl ?_
      refine g_85 (a := 0) (b := 0) (nx := 83) (by decide +kernel) h.1.1 h.1.2 (Nat.le_of_ble_eq_true rfl) ?_
      replace h := h.2
      refine g_85 (a := 0) (b := 0) (nx := 86) (by decide +kernel) h.1.1 h.1.2 (Nat.le_of_ble_eq_true rfl) ?_
      replace h := h.2
      refine g_53 (a := 9) (b := 4) (nx := 89) (by decide +kernel) h0 ?_
      refine g_5 (a := 2) (b := 0) (nx := 90) (by decide +kernel) rfl ?_
      obtain ⟨r8, h⟩ := h
      by_cases c21 : y5 ≤ 0
      · rw [if_pos c21] at h
        refine g_40t (a := 5) (b := 111) (nx := 93) (by decide +kernel) r8 (by exact (cb_5 _ _).mpr c21) ?_
        refine g_5 (a := 3) (b := 0) (nx := 112) (by decide +kernel) rfl ?_
        obtain ⟨r9, h⟩ := h
        by_cases c19 : y7 ≤ 0
        · rw [if_pos c19] at h
          refine g_40t (a := 5) (b := 146) (nx := 115) (by decide +kernel) r9 (by exact (cb_5 _ _).mpr c19) ?_
          refine g_7 (a := 0) (b := 0) (nx := 147) (by decide +kernel) rfl ?_
          refine g_7 (a := 0) (b := 0) (nx := 148) (by decide +kernel) rfl ?_
          refine g_1 (a := 0) (b := 0) (nx := 149) (by decide +kernel) ?_
          refine g_80 (a := 132) (b := 1) (nx := 152) (by decide +kernel) (r := x0) (As := [vI 0]) (st' := [vR x0]) (z := 132) rfl rfl rfl (Nat.le_of_ble_eq_true rfl) h0.2 (Nat.le_of_ble_eq_true rfl) rfl (c_I (by decide +kernel) h (fun y11 M10 h => ?_))
          refine g_1 (a := 59) (b := 0) (nx := 154) (by decide +kernel) ?_
          obtain ⟨r12, h⟩ := h
          by_cases c13 : y11 = 59
          · rw [if_pos c13] at h
            refine g_41f (a := 1) (b := 161) (nx := 157) (by decide +kernel) (by rw [wr_id r12, wr_id (show inR 59 by decide)]; exact fun hz => ((cb_1 _ _).mp hz) c13) ?_
            refine g_1 (a := 3) (b := 0) (nx := 158) (by decide +kernel) ?_
            refine g_44 (a := 0) (b := 162) (nx := 161) (by decide +kernel) ?_
            refine g_53 (a := 9) (b := 2) (nx := 165) (by decide +kernel) h0 ?_
            exact g_90 (a := 0) (b := 0) (nx := 166) (by decide +kernel) h
          · rw [if_neg c13] at h
            refine g_41t (a := 1) (b := 161) (nx := 157) (by decide +kernel) (by rw [wr_id r12, wr_id (show inR 59 by decide)]; exact (cb_1 _ _).mpr c13) ?_
            refine g_1 (a := 4) (b := 0) (nx := 162) (by decide +kernel) ?_
            refine g_53 (a := 9) (b := 2) (nx := 165) (by decide +kernel) h0 ?_
            exact g_90 (a := 0) (b := 0) (nx := 166) (by decide +kernel) h
        · rw [if_neg c19] at h
          refine g_40f (a := 5) (b := 146) (nx := 115) (by decide +kernel) r9 (by exact fun hz => c19 ((cb_5 _ _).mp hz)) ?_
          refine g_7 (a := 0) (b := 0) (nx := 116) (by decide +kernel) rfl ?_
          refine g_5 (a := 3) (b := 0) (nx := 117) (by decide +kernel) rfl ?_
          refine g_1 (a := 3) (b := 0) (nx := 118) (by decide +kernel) ?_
          by_cases c18 : 3 < y7
          · rw [if_pos c18] at h
            refine g_41t (a := 4) (b := 139) (nx := 121) (by decide +kernel) (by rw [wr_id r9, wr_id (show inR 3 by decide)]; exact (cb_4 _ _).mpr c18) ?_
            refine g_1 (a := 4) (b := 0) (nx := 140) (by decide +kernel) ?_
            refine g_53 (a := 9) (b := 2) (nx := 143) (by decide +kernel) h0 ?_
            refine g_44 (a := 0) (b := 165) (nx := 146) (by decide +kernel) ?_
            exact g_90 (a := 0) (b := 0) (nx := 166) (by decide +kernel) h
          · rw [if_neg c18] at h
            refine g_41f (a := 4) (b := 139) (nx := 121) (by decide +kernel) (by rw [wr_id r9, wr_id (show inR 3 by decide)]; exact fun hz => c18 ((cb_4 _ _).mp hz)) ?_
            refine g_7 (a := 0) (b := 0) (nx := 122) (by decide +kernel) rfl ?_
            refine g_5 (a := 1) (b := 0) (nx := 123) (by decide +kernel) rfl ?_
            refine g_5 (a := 3) (b := 0) (nx := 124) (by decide +kernel) rfl ?_
            refine g_15 (a := 0) (b := 0) (nx := 125) (by decide +kernel) ?_
            refine g_1 (a := 97) (b := 0) (nx := 127) (by decide +kernel) ?_
            refine g_1 (a := 122) (b := 0) (nx := 129) (by decide +kernel) ?_
            refine g_80 (a := 130) (b := 3) (nx := 132) (by decide +kernel) (r := x0) (As := [vI (x1 + y7), vI 97, vI 122]) (st' := [vR x0]) (z := 130) rfl rfl rfl (Nat.le_of_ble_eq_true rfl) h0.2 (Nat.le_of_ble_eq_true rfl) rfl (c_I (by decide +kernel) h (fun y15 M14 h => ?_))
            obtain ⟨r16, h⟩ := h
            by_cases c17 : y15 = 0
            · rw [if_pos c17] at h
              refine g_40f (a := 1) (b := 139) (nx := 135) (by decide +kernel) r16 (by exact fun hz => ((cb_1 _ _).mp hz) c17) ?_
              refine g_1 (a := 2) (b := 0) (nx := 136) (by decide +kernel) ?_
              refine g_44 (a := 0) (b := 140) (nx := 139) (by decide +kernel) ?_
              refine g_53 (a := 9) (b := 2) (nx := 143) (by decide +kernel) h0 ?_
              refine g_44 (a := 0) (b := 165) (nx := 146) (by decide +kernel) ?_
              exact g_90 (a := 0) (b := 0) (nx := 166) (by decide +kernel) h
            · rw [if_neg c17] at h
              refine g_40t (a := 1) (b := 139) (nx := 135) (by decide +kernel) r16 (by exact (cb_1 _ _).mpr c17) ?_
              refine g_1 (a := 4) (b := 0) (nx := 140) (by decide +kernel) ?_
              refine g_53 (a := 9) (b := 2) (nx := 143) (by decide +kernel) h0 ?_
              refine g_44 (a := 0) (b := 165) (nx := 146) (by decide +kernel) ?_
              exact g_90 (a := 0) (b := 0) (nx := 166) (by decide +kernel) h
      · rw [if_neg c21] at h
        refine g_40f (a := 5) (b := 111) (nx := 93) (by decide +kernel) r8 (by exact fun hz => c21 ((cb_5 _ _).mp hz)) ?_
        refine g_7 (a := 0) (b := 0) (nx := 94) (by decide +kernel) rfl ?_
        refine g_5 (a := 2) (b := 0) (nx := 95) (by decide +kernel) rfl ?_
        refine g_1 (a := 12) (b := 0) (nx := 97) (by decide +kernel) ?_
        by_cases c20 : 12 < y5
        · rw [if_pos c20] at h
          refine g_41t (a := 4) (b := 104) (nx := 100) (by decide +kernel) (by rw [wr_id r8, wr_id (show inR 12 by decide)]; exact (cb_4 _ _).mpr c20) ?_
          refine g_1 (a := 4) (b := 0) (nx := 105) (by decide +kernel) ?_
          refine g_53 (a := 9) (b := 2) (nx := 108) (by decide +kernel) h0 ?_
          refine g_44 (a := 0) (b := 165) (nx := 111) (by decide +kernel) ?_
          exact g_90 (a := 0) (b := 0) (nx := 166) (by decide +kernel) h
        · rw [if_neg c20] at h
          refine g_41f (a := 4) (b := 104) (nx := 100) (by decide +kernel) (by rw [wr_id r8, wr_id (show inR 12 by decide)]; exact fun hz => c20 ((cb_4 _ _).mp hz)) ?_
          refine g_1 (a := 1) (b := 0) (nx := 101) (by decide +kernel) ?_
          refine g_44 (a := 0) (b := 105) (nx := 104) (by decide +kernel) ?_
          refine g_53 (a := 9) (b := 2) (nx := 108) (by decide +kernel) h0 ?_
          refine g_44 (a := 0) (b := 165) (nx := 111) (by decide +kernel) ?_
          exact g_90 (a := 0) (b := 0) (nx := 166) (by decide +kernel) h
    · rw [if_neg c22] at h
      refine g_41f (a := 2) (b := 56) (nx := 55) (by decide +kernel) (by rw [wr_id r1, wr_id r3]; exact fun hz => c22 ((cb_2 _ _).mp hz)) ?_
      exact g_90 (a := 0) (b := 0) (nx := 56) (by decide +kernel) h
  · rw [if_neg c47] at h
    refine g_41f (a := 3) (b := 32) (nx := 18) (by decide +kernel) (by rw [wr_id r1, wr_id r2]; exact fun hz => c47 ((cb_3 _ _).mp hz)) ?_
    refine g_7 (a := 0) (b := 0) (nx := 19) (by decide +kernel) rfl ?_
    refine g_5 (a := 1) (b := 0) (nx := 20) (by decide +kernel) rfl ?_
    refine g_80 (a := 129) (b := 1) (nx := 23) (by decide +kernel) (r := x0) (As := [vI x1]) (st' := []) (z := 129) rfl rfl rfl (Nat.le_of_ble_eq_true rfl) h0.2 (Nat.le_of_ble_eq_true rfl) rfl (c_I (by decide +kernel) h (fun y24 M23 h => ?_))
    obtain ⟨r25, h⟩ := h
    by_cases c46 : y24 = 0
    · rw [if_pos c46] at h
      refine g_40t (a := 0) (b := 32) (nx := 26) (by decide +kernel) r25 (by exact (cb_0 _ _).mpr c46) ?_
      refine g_7 (a := 0) (b := 0) (nx := 33) (by decide +kernel) rfl ?_
      refine g_5 (a := 1) (b := 0) (nx := 34) (by decide +kernel) rfl ?_
      refine g_53 (a := 9) (b := 3) (nx := 37) (by decide +kernel) h0 ?_
      refine g_7 (a := 0) (b := 0) (nx := 38) (by decide +kernel) rfl ?_
      refine g_1 (a := 0) (b := 0) (nx := 39) (by decide +kernel) ?_
      refine g_53 (a := 9) (b := 4) (nx := 42) (by decide +kernel) h0 ?_
      refine g_7 (a := 0) (b := 0) (nx := 43) (by decide +kernel) rfl ?_
      refine g_1 (a := 0) (b := 0) (nx := 44) (by decide +kernel) ?_
      refine g_53 (a := 9) (b := 2) (nx := 47) (by decide +kernel) h0 ?_
      refine g_5 (a := 1) (b := 0) (nx := 48) (by decide +kernel) rfl ?_
      refine g_7 (a := 0) (b := 0) (nx := 49) (by decide +kernel) rfl ?_
      refine g_50 (a := 9) (b := 1) (nx := 52) (by decide +kernel) h0 ?_
      obtain ⟨r26, h⟩ := h
      by_cases c45 : x1 < ((upM (upM (upM M23 x0 3 x1) x0 4 0) x0 2 0) x0 1)
      · rw [if_pos c45] at h
        refine g_41t (a := 2) (b := 56) (nx := 55) (by decide +kernel) (by rw [wr_id r1, wr_id r26]; exact (cb_2 _ _).mpr c45) ?_
        refine g_7 (a := 0) (b := 0) (nx := 57) (by decide +kernel) rfl ?_
        refine g_5 (a := 1) (b := 0) (nx := 58) (by decide +kernel) rfl ?_
        refine g_1 (a := 97) (b := 0) (nx := 60) (by decide +kernel) ?_
        refine g_1 (a := 122) (b := 0) (nx := 62) (by decide +kernel) ?_
        refine g_80 (a := 130) (b := 3) (nx := 65) (by decide +kernel) (r := x0) (As := [vI x1, vI 97, vI 122]) (st' := []) (z := 130) rfl rfl rfl (Nat.le_of_ble_eq_true rfl) h0.2 (Nat.le_of_ble_eq_true rfl) rfl (c_I (by decide +kernel) h (fun y28 M27 h => ?_))
        refine g_8 (a := 2) (b := 0) (nx := 66) (by decide +kernel) rfl (ls' := [some (vR x0), some (vI x1), some (vI y28), none]) rfl ?_
        refine g_7 (a := 0) (b := 0) (nx := 67) (by decide +kernel) rfl ?_
        refine g_5 (a := 1) (b := 0) (nx := 68) (by decide +kernel) rfl ?_
        refine g_1 (a := 48) (b := 0) (nx := 70) (by decide +kernel) ?_
        refine g_1 (a := 57) (b := 0) (nx := 72) (by decide +kernel) ?_
        refine g_80 (a := 130) (b := 3) (nx := 75) (by decide +kernel) (r := x0) (As := [vI x1, vI 48, vI 57]) (st' := []) (z := 130) rfl rfl rfl (Nat.le_of_ble_eq_true rfl) h0.2 (Nat.le_of_ble_eq_true rfl) rfl (c_I (by decide +kernel) h (fun y30 M29 h => ?_))
        refine g_8 (a := 3) (b := 0) (nx := 76) (by decide +kernel) rfl (ls' := [some (vR x0), some (vI x1), some (vI y28), some (vI y30)]) rfl ?_
        refine g_7 (a := 0) (b := 0) (nx := 77) (by decide +kernel) rfl ?_
        refine g_1 (a := 1) (b := 0) (nx := 78) (by decide +kernel) ?_
        refine g_5 (a := 2) (b := 0) (nx := 79) (by decide +kernel) rfl ?_
        refine g_5 (a := 3) (b := 0) (nx := 80) (by decide +kernel) rfl ?_
        refine g_85 (a := 0) (b := 0) (nx := 83) (by decide +kernel) h.1.1 h.1.2 (Nat.le_of_ble_eq_true rfl) ?_
        replace h := h.2
        refine g_85 (a := 0) (b := 0) (nx := 86) (by decide +kernel) h.1.1 h.1.2 (Nat.le_of_ble_eq_true rfl) ?_
        replace h := h.2
        refine g_53 (a := 9) (b := 4) (nx := 89) (by decide +kernel) h0 ?_
        refine g_5 (a := 2) (b := 0) (nx := 90) (by decide +kernel) rfl ?_
        obtain ⟨r31, h⟩ := h
        by_cases c44 : y28 ≤ 0
        · rw [if_pos c44] at h
          refine g_40t (a := 5) (b := 111) (nx := 93) (by decide +kernel) r31 (by exact (cb_5 _ _).mpr c44) ?_
          refine g_5 (a := 3) (b := 0) (nx := 112) (by decide +kernel) rfl ?_
          obtain ⟨r32, h⟩ := h
          by_cases c42 : y30 ≤ 0
          · rw [if_pos c42] at h
            refine g_40t (a := 5) (b := 146) (nx := 115) (by decide +kernel) r32 (by exact (cb_5 _ _).mpr c42) ?_
            refine g_7 (a := 0) (b := 0) (nx := 147) (by decide +kernel) rfl ?_
            refine g_7 (a := 0) (b := 0) (nx := 148) (by decide +kernel) rfl ?_
            refine g_1 (a := 0) (b := 0) (nx := 149) (by decide +kernel) ?_
            refine g_80 (a := 132) (b := 1) (nx := 152) (by decide +kernel) (r := x0) (As := [vI 0]) (st' := [vR x0]) (z := 132) rfl rfl rfl (Nat.le_of_ble_eq_true rfl) h0.2 (Nat.le_of_ble_eq_true rfl) rfl (c_I (by decide +kernel) h (fun y34 M33 h => ?_))
            refine g_1 (a := 59) (b := 0) (nx := 154) (by decide +kernel) ?_
            obtain ⟨r35, h⟩ := h
            by_cases c36 : y34 = 59
            · rw [if_pos c36] at h
              refine g_41f (a := 1) (b := 161) (nx := 157) (by decide +kernel) (by rw [wr_id r35, wr_id (show inR 59 by decide)]; exact fun hz => ((cb_1 _ _).mp hz) c36) ?_
              refine g_1 (a := 3) (b := 0) (nx := 158) (by decide +kernel) ?_
              refine g_44 (a := 0) (b := 162) (nx := 161) (by decide +kernel) ?_
              refine g_53 (a := 9) (b := 2) (nx := 165) (by decide +kernel) h0 ?_
              exact g_90 (a := 0) (b := 0) (nx := 166) (by decide +kernel) h
            · rw [if_neg c36] at h
              refine g_41t (a := 1) (b := 161) (nx := 157) (by decide +kernel) (by rw [wr_id r35, wr_id (show inR 59 by decide)]; exact (cb_1 _ _).mpr c36) ?_
              refine g_1 (a := 4) (b := 0) (nx := 162) (by decide +kernel) ?_
              refine g_53 (a := 9) (b := 2) (nx := 165) (by decide +kernel) h0 ?_
              exact g_90 (a := 0) (b := 0) (nx := 166) (by decide +kernel) h
          · rw [if_neg c42] at h
            refine g_40f (a := 5) (b := 146) (nx := 115) (by decide +kernel) r32 (by exact fun hz => c42 ((cb_5 _ _).mp hz)) ?_
            refine g_7 (a := 0) (b := 0) (nx := 116) (by decide +kernel) rfl ?_
            refine g_5 (a := 3) (b := 0) (nx := 117) (by decide +kernel) rfl ?_
            refine g_1 (a := 3) (b := 0) (nx := 118) (by decide +kernel) ?_
            by_cases c41 : 3 < y30
            · rw [if_pos c41] at h
              refine g_41t (a := 4) (b := 139) (nx := 121) (by decide +kernel) (by rw [wr_id r32, wr_id (show inR 3 by decide)]; exact (cb_4 _ _).mpr c41) ?_
              refine g_1 (a := 4) (b := 0) (nx := 140) (by decide +kernel) ?_
              refine g_53 (a := 9) (b := 2) (nx := 143) (by decide +kernel) h0 ?_
              refine g_44 (a := 0) (b := 165) (nx := 146) (by decide +kernel) ?_
              exact g_90 (a := 0) (b := 0) (nx := 166) (by decide +kernel) h
            · rw [if_neg c41] at h
              refine g_41f (a := 4) (b := 139) (nx := 121) (by decide +kernel) (by rw [wr_id r32, wr_id (show inR 3 by decide)]; exact fun hz => c41 ((cb_4 _ _).mp hz)) ?_
              refine g_7 (a := 0) (b := 0) (nx := 122) (by decide +kernel) rfl ?_
              refine g_5 (a := 1) (b := 0) (nx := 123) (by decide +kernel) rfl ?_
              refine g_5 (a := 3) (b := 0) (nx := 124) (by decide +kernel) rfl ?_
              refine g_15 (a := 0) (b := 0) (nx := 125) (by decide +kernel) ?_
              refine g_1 (a := 97) (b := 0) (nx := 127) (by decide +kernel) ?_
              refine g_1 (a := 122) (b := 0) (nx := 129) (by decide +kernel) ?_
              refine g_80 (a := 130) (b := 3) (nx := 132) (by decide +kernel) (r := x0) (As := [vI (x1 + y30), vI 97, vI 122]) (st' := [vR x0]) (z := 130) rfl rfl rfl (Nat.le_of_ble_eq_true rfl) h0.2 (Nat.le_of_ble_eq_true rfl) rfl (c_I (by decide +kernel) h (fun y38 M37 h => ?_))
              obtain ⟨r39, h⟩ := h
              by_cases c40 : y38 = 0
              · rw [if_pos c40] at h
                refine g_40f (a := 1) (b := 139) (nx := 135) (by decide +kernel) r39 (by exact fun hz => ((cb_1 _ _).mp hz) c40) ?_
                refine g_1 (a := 2) (b := 0) (nx := 136) (by decide +kernel) ?_
                refine g_44 (a := 0) (b := 140) (nx := 139) (by decide +kernel) ?_
                refine g_53 (a := 9) (b := 2) (nx := 143) (by decide +kernel) h0 ?_
                refine g_44 (a := 0) (b := 165) (nx := 146) (by decide +kernel) ?_
                exact g_90 (a := 0) (b := 0) (nx := 166) (by decide +kernel) h
              · rw [if_neg c40] at h
                refine g_40t (a := 1) (b := 139) (nx := 135) (by decide +kernel) r39 (by exact (cb_1 _ _).mpr c40) ?_
                refine g_1 (a := 4) (b := 0) (nx := 140) (by decide +kernel) ?_
                refine g_53 (a := 9) (b := 2) (nx := 143) (by decide +kernel) h0 ?_
                refine g_44 (a := 0) (b := 165) (nx := 146) (by decide +kernel) ?_
                exact g_90 (a := 0) (b := 0) (nx := 166) (by decide +kernel) h
        · rw [if_neg c44] at h
          refine g_40f (a := 5) (b := 111) (nx := 93) (by decide +kernel) r31 (by exact fun hz => c44 ((cb_5 _ _).mp hz)) ?_
          refine g_7 (a := 0) (b := 0) (nx := 94) (by decide +kernel) rfl ?_
          refine g_5 (a := 2) (b := 0) (nx := 95) (by decide +kernel) rfl ?_
          refine g_1 (a := 12) (b := 0) (nx := 97) (by decide +kernel) ?_
          by_cases c43 : 12 < y28
          · rw [if_pos c43] at h
            refine g_41t (a := 4) (b := 104) (nx := 100) (by decide +kernel) (by rw [wr_id r31, wr_id (show inR 12 by decide)]; exact (cb_4 _ _).mpr c43) ?_
            refine g_1 (a := 4) (b := 0) (nx := 105) (by decide +kernel) ?_
            refine g_53 (a := 9) (b := 2) (nx := 108) (by decide +kernel) h0 ?_
            refine g_44 (a := 0) (b := 165) (nx := 111) (by decide +kernel) ?_
            exact g_90 (a := 0) (b := 0) (nx := 166) (by decide +kernel) h
          · rw [if_neg c43] at h
            refine g_41f (a := 4) (b := 104) (nx := 100) (by decide +kernel) (by rw [wr_id r31, wr_id (show inR 12 by decide)]; exact fun hz => c43 ((cb_4 _ _).mp hz)) ?_
            refine g_1 (a := 1) (b := 0) (nx := 101) (by decide +kernel) ?_
            refine g_44 (a := 0) (b := 105) (nx := 104) (by decide +kernel) ?_
            refine g_53 (a := 9) (b := 2) (nx := 108) (by decide +kernel) h0 ?_
            refine g_44 (a := 0) (b := 165) (nx := 111) (by decide +kernel) ?_
            exact g_90 (a := 0) (b := 0) (nx := 166) (by decide +kernel) h
      · rw [if_neg c45] at h
        refine g_41f (a := 2) (b := 56) (nx := 55) (by decide +kernel) (by rw [wr_id r1, wr_id r26]; exact fun hz => c45 ((cb_2 _ _).mp hz)) ?_
        exact g_90 (a := 0) (b := 0) (nx := 56) (by decide +kernel) h
    · rw [if_neg c46] at h
      refine g_40f (a := 0) (b := 32) (nx := 26) (by decide +kernel) r25 (by exact fun hz => c46 ((cb_0 _ _).mp hz)) ?_
      refine g_11 (a := 1) (b := 1) (nx := 29) (by decide +kernel) rfl rfl (ls' := [some (vR x0), some (vI (x1 + 1)), none, none]) rfl ?_
      refine g_44 (a := 0) (b := 10) (nx := 32) (by decide +kernel) ?_
      exact h
-- 129 SyllableMaker$Tape.isBlank(I)Z
theorem t_129 {x0 x1 : Int} {M : Mem} {Q : AV → Mem → Prop} (h0 : gO 9 x0) (h : inR x1 ∧ (if x1 < 0 then (Q (vI 0) M) else (((M x0 0) ≠ -2000 ∧ 20 ≤ (shA SH (M x0 0)).1 ∧ (shA SH (M x0 0)).1 ≤ 41 ∧ (shA SH (M x0 0)).1 ≠ 40) ∧ inR ((shA SH (M x0 0)).2 : Int) ∧ (if ((shA SH (M x0 0)).2 : Int) ≤ x1 then (Q (vI 0) M) else ((gA 21 (M x0 0) x1 ∨ gA 22 (M x0 0) x1) ∧ inR (M (M x0 0) x1) ∧ (if (M (M x0 0) x1) = 32 then (Q (vI 1) M) else ((gA 21 (M x0 0) x1 ∨ gA 22 (M x0 0) x1) ∧ if (M (M x0 0) x1) = 10 then (Q (vI 1) M) else (Q (vI 0) M)))))))) : WC 129 [vR x0, vI x1] M Q := by
  show WR 129 0 [some (vR x0), some (vI x1)] [] M Q
  refine g_5 (a := 1) (b := 0) (nx := 1) (by decide +kernel) rfl ?_
  obtain ⟨r1, h⟩ := h
  by_cases c7 : x1 < 0
  · rw [if_pos c7] at h
    refine g_40t (a := 2) (b := 39) (nx := 4) (by decide +kernel) r1 (by exact (cb_2 _ _).mpr c7) ?_
    refine g_1 (a := 0) (b := 0) (nx := 40) (by decide +kernel) ?_
    exact g_91z (b := 0) (nx := 41) (by decide +kernel) (by decide) h
  · rw [if_neg c7] at h
    refine g_40f (a := 2) (b := 39) (nx := 4) (by decide +kernel) r1 (by exact fun hz => c7 ((cb_2 _ _).mp hz)) ?_
    refine g_5 (a := 1) (b := 0) (nx := 5) (by decide +kernel) rfl ?_
    refine g_7 (a := 0) (b := 0) (nx := 6) (by decide +kernel) rfl ?_
    refine g_52 (a := 9) (b := 0) (nx := 9) (by decide +kernel) h0 ?_
    refine g_60 (a := 0) (b := 0) (nx := 10) (by decide +kernel) h.1.1 h.1.2 ?_
    replace h := h.2
    obtain ⟨r2, h⟩ := h
    by_cases c6 : ((shA SH (M x0 0)).2 : Int) ≤ x1
    · rw [if_pos c6] at h
      refine g_41t (a := 3) (b := 39) (nx := 13) (by decide +kernel) (by rw [wr_id r1, wr_id r2]; exact (cb_3 _ _).mpr c6) ?_
      refine g_1 (a := 0) (b := 0) (nx := 40) (by decide +kernel) ?_
      exact g_91z (b := 0) (nx := 41) (by decide +kernel) (by decide) h
    · rw [if_neg c6] at h
      refine g_41f (a := 3) (b := 39) (nx := 13) (by decide +kernel) (by rw [wr_id r1, wr_id r2]; exact fun hz => c6 ((cb_3 _ _).mp hz)) ?_
      refine g_7 (a := 0) (b := 0) (nx := 14) (by decide +kernel) rfl ?_
      refine g_52 (a := 9) (b := 0) (nx := 17) (by decide +kernel) h0 ?_
      refine g_5 (a := 1) (b := 0) (nx := 18) (by decide +kernel) rfl ?_
      refine g_63 (a := 0) (b := 0) (nx := 19) (by decide +kernel) h.1 ?_
      replace h := h.2
      refine g_1 (a := 32) (b := 0) (nx := 21) (by decide +kernel) ?_
      obtain ⟨r3, h⟩ := h
      by_cases c5 : (M (M x0 0) x1) = 32
      · rw [if_pos c5] at h
        refine g_41t (a := 0) (b := 35) (nx := 24) (by decide +kernel) (by rw [wr_id r3, wr_id (show inR 32 by decide)]; exact (cb_0 _ _).mpr c5) ?_
        refine g_1 (a := 1) (b := 0) (nx := 36) (by decide +kernel) ?_
        refine g_44 (a := 0) (b := 40) (nx := 39) (by decide +kernel) ?_
        exact g_91z (b := 0) (nx := 41) (by decide +kernel) (by decide) h
      · rw [if_neg c5] at h
        refine g_41f (a := 0) (b := 35) (nx := 24) (by decide +kernel) (by rw [wr_id r3, wr_id (show inR 32 by decide)]; exact fun hz => c5 ((cb_0 _ _).mp hz)) ?_
        refine g_7 (a := 0) (b := 0) (nx := 25) (by decide +kernel) rfl ?_
        refine g_52 (a := 9) (b := 0) (nx := 28) (by decide +kernel) h0 ?_
        refine g_5 (a := 1) (b := 0) (nx := 29) (by decide +kernel) rfl ?_
        refine g_63 (a := 0) (b := 0) (nx := 30) (by decide +kernel) h.1 ?_
        replace h := h.2
        refine g_1 (a := 10) (b := 0) (nx := 32) (by decide +kernel) ?_
        by_cases c4 : (M (M x0 0) x1) = 10
        · rw [if_pos c4] at h
          refine g_41f (a := 1) (b := 39) (nx := 35) (by decide +kernel) (by rw [wr_id r3, wr_id (show inR 10 by decide)]; exact fun hz => ((cb_1 _ _).mp hz) c4) ?_
          refine g_1 (a := 1) (b := 0) (nx := 36) (by decide +kernel) ?_
          refine g_44 (a := 0) (b := 40) (nx := 39) (by decide +kernel) ?_
          exact g_91z (b := 0) (nx := 41) (by decide +kernel) (by decide) h
        · rw [if_neg c4] at h
          refine g_41t (a := 1) (b := 39) (nx := 35) (by decide +kernel) (by rw [wr_id r3, wr_id (show inR 10 by decide)]; exact (cb_1 _ _).mpr c4) ?_
          refine g_1 (a := 0) (b := 0) (nx := 40) (by decide +kernel) ?_
          exact g_91z (b := 0) (nx := 41) (by decide +kernel) (by decide) h
-- 130 SyllableMaker$Tape.countFrom(ICC)I
theorem t_130 {x0 x1 x2 x3 : Int} {M : Mem} {Q : AV → Mem → Prop} (h0 : gO 9 x0) (h : ((M x0 0) ≠ -2000 ∧ 20 ≤ (shA SH (M x0 0)).1 ∧ (shA SH (M x0 0)).1 ≤ 41 ∧ (shA SH (M x0 0)).1 ≠ 40) ∧ (inR (M x0 1) ∧ inR ((shA SH (M x0 0)).2 : Int)) ∧ (inR 0 ∧ inR x1) ∧ WR 130 21 [some (vR x0), some (vI x1), some (vI x2), some (vI x3), some (vI (min (M x0 1) ((shA SH (M x0 0)).2 : Int))), some (vI (max 0 x1))] [] M Q) : WC 130 [vR x0, vI x1, vI x2, vI x3] M Q := by
  show WR 130 0 [some (vR x0), some (vI x1), some (vI x2), some (vI x3), none, none] [] M Q
  refine g_7 (a := 0) (b := 0) (nx := 1) (by decide +kernel) rfl ?_
  refine g_50 (a := 9) (b := 1) (nx := 4) (by decide +kernel) h0 ?_
  refine g_7 (a := 0) (b := 0) (nx := 5) (by decide +kernel) rfl ?_
  refine g_52 (a := 9) (b := 0) (nx := 8) (by decide +kernel) h0 ?_
  refine g_60 (a := 0) (b := 0) (nx := 9) (by decide +kernel) h.1.1 h.1.2 ?_
  replace h := h.2
  refine g_84 (a := 0) (b := 0) (nx := 12) (by decide +kernel) h.1.1 h.1.2 (Nat.le_of_ble_eq_true rfl) ?_
  replace h := h.2
  refine g_8 (a := 4) (b := 0) (nx := 14) (by decide +kernel) rfl (ls' := [some (vR x0), some (vI x1), some (vI x2), some (vI x3), some (vI (min (M x0 1) ((shA SH (M x0 0)).2 : Int))), none]) rfl ?_
  refine g_1 (a := 0) (b := 0) (nx := 15) (by decide +kernel) ?_
  refine g_5 (a := 1) (b := 0) (nx := 16) (by decide +kernel) rfl ?_
  refine g_85 (a := 0) (b := 0) (nx := 19) (by decide +kernel) h.1.1 h.1.2 (Nat.le_of_ble_eq_true rfl) ?_
  replace h := h.2
  refine g_8 (a := 5) (b := 0) (nx := 21) (by decide +kernel) rfl (ls' := [some (vR x0), some (vI x1), some (vI x2), some (vI x3), some (vI (min (M x0 1) ((shA SH (M x0 0)).2 : Int))), some (vI (max 0 x1))]) rfl ?_
  exact h
theorem t_130_21 {x0 x1 x2 x3 x4 x5 : Int} {M : Mem} {Q : AV → Mem → Prop} (h0 : gO 9 x0) (h : inR x5 ∧ (inR x4 ∧ (if x4 ≤ x5 then (Q (vI (x5 - x1)) M) else ((gA 21 (M x0 0) x5 ∨ gA 22 (M x0 0) x5) ∧ inR (M (M x0 0) x5) ∧ (inR x2 ∧ (if (M (M x0 0) x5) < x2 then (Q (vI (x5 - x1)) M) else ((gA 21 (M x0 0) x5 ∨ gA 22 (M x0 0) x5) ∧ inR x3 ∧ (if x3 < (M (M x0 0) x5) then (Q (vI (x5 - x1)) M) else (WR 130 21 [some (vR x0), some (vI x1), some (vI x2), some (vI x3), some (vI x4), some (vI (x5 + 1))] [] M Q))))))))) : WR 130 21 [some (vR x0), some (vI x1), some (vI x2), some (vI x3), some (vI x4), some (vI x5)] [] M Q := by
  refine g_5 (a := 5) (b := 0) (nx := 23) (by decide +kernel) rfl ?_
  refine g_5 (a := 4) (b := 0) (nx := 25) (by decide +kernel) rfl ?_
  obtain ⟨r1, h⟩ := h
  obtain ⟨r2, h⟩ := h
  by_cases c8 : x4 ≤ x5
  · rw [if_pos c8] at h
    refine g_41t (a := 3) (b := 56) (nx := 28) (by decide +kernel) (by rw [wr_id r1, wr_id r2]; exact (cb_3 _ _).mpr c8) ?_
    refine g_5 (a := 5) (b := 0) (nx := 58) (by decide +kernel) rfl ?_
    refine g_5 (a := 1) (b := 0) (nx := 59) (by decide +kernel) rfl ?_
    refine g_16 (a := 0) (b := 0) (nx := 60) (by decide +kernel) ?_
    exact g_91 (b := 0) (nx := 61) (by decide +kernel) h
  · rw [if_neg c8] at h
    refine g_41f (a := 3) (b := 56) (nx := 28) (by decide +kernel) (by rw [wr_id r1, wr_id r2]; exact fun hz => c8 ((cb_3 _ _).mp hz)) ?_
    refine g_7 (a := 0) (b := 0) (nx := 29) (by decide +kernel) rfl ?_
    refine g_52 (a := 9) (b := 0) (nx := 32) (by decide +kernel) h0 ?_
    refine g_5 (a := 5) (b := 0) (nx := 34) (by decide +kernel) rfl ?_
    refine g_63 (a := 0) (b := 0) (nx := 35) (by decide +kernel) h.1 ?_
    replace h := h.2
    refine g_5 (a := 2) (b := 0) (nx := 36) (by decide +kernel) rfl ?_
    obtain ⟨r3, h⟩ := h
    obtain ⟨r4, h⟩ := h
    by_cases c7 : (M (M x0 0) x5) < x2
    · rw [if_pos c7] at h
      refine g_41t (a := 2) (b := 56) (nx := 39) (by decide +kernel) (by rw [wr_id r3, wr_id r4]; exact (cb_2 _ _).mpr c7) ?_
      refine g_5 (a := 5) (b := 0) (nx := 58) (by decide +kernel) rfl ?_
      refine g_5 (a := 1) (b := 0) (nx := 59) (by decide +kernel) rfl ?_
      refine g_16 (a := 0) (b := 0) (nx := 60) (by decide +kernel) ?_
      exact g_91 (b := 0) (nx := 61) (by decide +kernel) h
    · rw [if_neg c7] at h
      refine g_41f (a := 2) (b := 56) (nx := 39) (by decide +kernel) (by rw [wr_id r3, wr_id r4]; exact fun hz => c7 ((cb_2 _ _).mp hz)) ?_
      refine g_7 (a := 0) (b := 0) (nx := 40) (by decide +kernel) rfl ?_
      refine g_52 (a := 9) (b := 0) (nx := 43) (by decide +kernel) h0 ?_
      refine g_5 (a := 5) (b := 0) (nx := 45) (by decide +kernel) rfl ?_
      refine g_63 (a := 0) (b := 0) (nx := 46) (by decide +kernel) h.1 ?_
      replace h := h.2
      refine g_5 (a := 3) (b := 0) (nx := 47) (by decide +kernel) rfl ?_
      obtain ⟨r5, h⟩ := h
      by_cases c6 : x3 < (M (M x0 0) x5)
      · rw [if_pos c6] at h
        refine g_41t (a := 4) (b := 56) (nx := 50) (by decide +kernel) (by rw [wr_id r3, wr_id r5]; exact (cb_4 _ _).mpr c6) ?_
        refine g_5 (a := 5) (b := 0) (nx := 58) (by decide +kernel) rfl ?_
        refine g_5 (a := 1) (b := 0) (nx := 59) (by decide +kernel) rfl ?_
        refine g_16 (a := 0) (b := 0) (nx := 60) (by decide +kernel) ?_
        exact g_91 (b := 0) (nx := 61) (by decide +kernel) h
      · rw [if_neg c6] at h
        refine g_41f (a := 4) (b := 56) (nx := 50) (by decide +kernel) (by rw [wr_id r3, wr_id r5]; exact fun hz => c6 ((cb_4 _ _).mp hz)) ?_
        refine g_11 (a := 5) (b := 1) (nx := 53) (by decide +kernel) rfl rfl (ls' := [some (vR x0), some (vI x1), some (vI x2), some (vI x3), some (vI x4), some (vI (x5 + 1))]) rfl ?_
        refine g_44 (a := 0) (b := 21) (nx := 56) (by decide +kernel) ?_
        exact h
