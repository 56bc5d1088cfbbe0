/-! TREES, printed by a program: what each method's run comes to. -/
-- 52 SyllableMaker$Law.isNewLead(I)Z
theorem t_52 {x0 x1 : Int} {M : Mem} {Q : AV → Mem → Prop} (h0 : gO 2 x0) (h : WL 53 [vR x0, vI x1] M (fun y2 M1 => WI 85 [vL y2] M1 (fun y4 M3 => inR y4 ∧ (if y4 < 2 then (Q (vI 0) M3) else (if y4 ≤ 4 then (WR 52 29 [some (vR x0), some (vI x1), some (vL y2), none, some (vI y4), some (vI 0)] [] M3 Q) else (Q (vI 0) M3)))))) : WC 52 [vR x0, vI x1] M Q := by
  show WR 52 0 [some (vR x0), some (vI x1), none, none, none, none] [] M Q
  refine g_7 (a := 0) (b := 0) (nx := 1) (by decide +kernel) rfl ?_
  refine g_5 (a := 1) (b := 0) (nx := 2) (by decide +kernel) rfl ?_
  refine g_80 (a := 53) (b := 1) (nx := 5) (by decide +kernel) (r := x0) (As := [vI x1]) (st' := []) (z := 53) rfl rfl rfl (Nat.le_of_ble_eq_true rfl) h0.2 (Nat.le_of_ble_eq_true rfl) rfl (c_L (by decide +kernel) h (fun y2 M1 h => ?_))
  refine g_9 (a := 2) (b := 0) (nx := 6) (by decide +kernel) ⟨rfl, Nat.le_of_ble_eq_true rfl⟩ (ls' := [some (vR x0), some (vI x1), some (vL y2), none, none, none]) rfl ?_
  refine g_6 (a := 2) (b := 0) (nx := 7) (by decide +kernel) rfl ?_
  refine g_82 (a := 85) (b := 1) (nx := 10) (by decide +kernel) (As := [vL y2]) (st' := []) (z := 85) rfl rfl rfl (Nat.le_of_ble_eq_true rfl) (Nat.le_of_ble_eq_true rfl) rfl (c_I (by decide +kernel) h (fun y4 M3 h => ?_))
  refine g_8 (a := 4) (b := 0) (nx := 12) (by decide +kernel) rfl (ls' := [some (vR x0), some (vI x1), some (vL y2), none, some (vI y4), none]) rfl ?_
  refine g_5 (a := 4) (b := 0) (nx := 14) (by decide +kernel) rfl ?_
  refine g_1 (a := 2) (b := 0) (nx := 15) (by decide +kernel) ?_
  obtain ⟨r5, h⟩ := h
  by_cases c7 : y4 < 2
  · rw [if_pos c7] at h
    refine g_41t (a := 2) (b := 24) (nx := 18) (by decide +kernel) (by rw [wr_id r5, wr_id (show inR 2 by decide)]; exact (cb_2 _ _).mpr c7) ?_
    refine g_1 (a := 0) (b := 0) (nx := 25) (by decide +kernel) ?_
    exact g_91z (b := 0) (nx := 26) (by decide +kernel) (by decide) h
  · rw [if_neg c7] at h
    refine g_41f (a := 2) (b := 24) (nx := 18) (by decide +kernel) (by rw [wr_id r5, wr_id (show inR 2 by decide)]; exact fun hz => c7 ((cb_2 _ _).mp hz)) ?_
    refine g_5 (a := 4) (b := 0) (nx := 20) (by decide +kernel) rfl ?_
    refine g_1 (a := 4) (b := 0) (nx := 21) (by decide +kernel) ?_
    by_cases c6 : y4 ≤ 4
    · rw [if_pos c6] at h
      refine g_41t (a := 5) (b := 26) (nx := 24) (by decide +kernel) (by rw [wr_id r5, wr_id (show inR 4 by decide)]; exact (cb_5 _ _).mpr c6) ?_
      refine g_1 (a := 0) (b := 0) (nx := 27) (by decide +kernel) ?_
      refine g_8 (a := 5) (b := 0) (nx := 29) (by decide +kernel) rfl (ls' := [some (vR x0), some (vI x1), some (vL y2), none, some (vI y4), some (vI 0)]) rfl ?_
      exact h
    · rw [if_neg c6] at h
      refine g_41f (a := 5) (b := 26) (nx := 24) (by decide +kernel) (by rw [wr_id r5, wr_id (show inR 4 by decide)]; exact fun hz => c6 ((cb_5 _ _).mp hz)) ?_
      refine g_1 (a := 0) (b := 0) (nx := 25) (by decide +kernel) ?_
      exact g_91z (b := 0) (nx := 26) (by decide +kernel) (by decide) h
theorem t_52_29 {x0 x1 x2 x4 x5 : Int} {M : Mem} {Q : AV → Mem → Prop} (h0 : gO 2 x0) (h : inR x5 ∧ (inR x1 ∧ (if x1 ≤ x5 then (Q (vI 1) M) else (WL 53 [vR x0, vI x5] M (fun y4 M3 => (in64 y4 ∧ in64 x2) ∧ inR (if y4 < x2 then -1 else if y4 = x2 then 0 else 1) ∧ (if (if y4 < x2 then -1 else if y4 = x2 then 0 else 1) = 0 then (Q (vI 0) M3) else (WR 52 29 [some (vR x0), some (vI x1), some (vL x2), none, some (vI x4), some (vI (x5 + 1))] [] M3 Q))))))) : WR 52 29 [some (vR x0), some (vI x1), some (vL x2), none, some (vI x4), some (vI x5)] [] M Q := by
  refine g_5 (a := 5) (b := 0) (nx := 31) (by decide +kernel) rfl ?_
  refine g_5 (a := 1) (b := 0) (nx := 32) (by decide +kernel) rfl ?_
  obtain ⟨r1, h⟩ := h
  obtain ⟨r2, h⟩ := h
  by_cases c7 : x1 ≤ x5
  · rw [if_pos c7] at h
    refine g_41t (a := 3) (b := 54) (nx := 35) (by decide +kernel) (by rw [wr_id r1, wr_id r2]; exact (cb_3 _ _).mpr c7) ?_
    refine g_1 (a := 1) (b := 0) (nx := 55) (by decide +kernel) ?_
    exact g_91z (b := 0) (nx := 56) (by decide +kernel) (by decide) h
  · rw [if_neg c7] at h
    refine g_41f (a := 3) (b := 54) (nx := 35) (by decide +kernel) (by rw [wr_id r1, wr_id r2]; exact fun hz => c7 ((cb_3 _ _).mp hz)) ?_
    refine g_7 (a := 0) (b := 0) (nx := 36) (by decide +kernel) rfl ?_
    refine g_5 (a := 5) (b := 0) (nx := 38) (by decide +kernel) rfl ?_
    refine g_80 (a := 53) (b := 1) (nx := 41) (by decide +kernel) (r := x0) (As := [vI x5]) (st' := []) (z := 53) rfl rfl rfl (Nat.le_of_ble_eq_true rfl) h0.2 (Nat.le_of_ble_eq_true rfl) rfl (c_L (by decide +kernel) h (fun y4 M3 h => ?_))
    refine g_6 (a := 2) (b := 0) (nx := 42) (by decide +kernel) rfl ?_
    refine g_34 (a := 0) (b := 0) (nx := 43) (by decide +kernel) h.1 ?_
    replace h := h.2
    obtain ⟨r5, h⟩ := h
    by_cases c6 : (if y4 < x2 then -1 else if y4 = x2 then 0 else 1) = 0
    · rw [if_pos c6] at h
      refine g_40f (a := 1) (b := 48) (nx := 46) (by decide +kernel) r5 (by exact fun hz => ((cb_1 _ _).mp hz) c6) ?_
      refine g_1 (a := 0) (b := 0) (nx := 47) (by decide +kernel) ?_
      exact g_91z (b := 0) (nx := 48) (by decide +kernel) (by decide) h
    · rw [if_neg c6] at h
      refine g_40t (a := 1) (b := 48) (nx := 46) (by decide +kernel) r5 (by exact (cb_1 _ _).mpr c6) ?_
      refine g_11 (a := 5) (b := 1) (nx := 51) (by decide +kernel) rfl rfl (ls' := [some (vR x0), some (vI x1), some (vL x2), none, some (vI x4), some (vI (x5 + 1))]) rfl ?_
      refine g_44 (a := 0) (b := 29) (nx := 54) (by decide +kernel) ?_
      exact h
-- 53 SyllableMaker$Law.leadAt(I)J
theorem t_53 {x0 x1 : Int} {M : Mem} {Q : AV → Mem → Prop} (h0 : gO 2 x0) (h : ((shA SH (M x0 1)).1 = 10) ∧ WF 136 [vR (M x0 1), vI x1] M (fun y2 M1 => y2 ≠ -1000 ∧ (if y2 = 0 then (Q (vL 0) M1) else ((gO 5 y2) ∧ Q (vL (M1 y2 2)) M1)))) : WC 53 [vR x0, vI x1] M Q := by
  show WR 53 0 [some (vR x0), some (vI x1), none] [] M Q
  refine g_7 (a := 0) (b := 0) (nx := 1) (by decide +kernel) rfl ?_
  refine g_52 (a := 2) (b := 1) (nx := 4) (by decide +kernel) h0 ?_
  refine g_5 (a := 1) (b := 0) (nx := 5) (by decide +kernel) rfl ?_
  refine g_80 (a := 136) (b := 1) (nx := 8) (by decide +kernel) (r := (M x0 1)) (As := [vI x1]) (st' := []) (z := 136) rfl rfl rfl (Nat.le_of_ble_eq_true rfl) h.1 (Nat.le_of_ble_eq_true rfl) rfl (c_R (by decide +kernel) h.2 (fun y2 M1 h => ?_))
  refine g_10 (a := 2) (b := 0) (nx := 9) (by decide +kernel) rfl (ls' := [some (vR x0), some (vI x1), some (vR y2)]) rfl ?_
  refine g_7 (a := 2) (b := 0) (nx := 10) (by decide +kernel) rfl ?_
  obtain ⟨q0, h⟩ := h
  by_cases c3 : y2 = 0
  · rw [if_pos c3] at h
    refine g_43t (a := 0) (b := 17) (nx := 13) (by decide +kernel) c3 ?_
    refine g_2 (a := 0) (b := 0) (nx := 14) (by decide +kernel) ?_
    refine g_44 (a := 0) (b := 21) (nx := 17) (by decide +kernel) ?_
    exact g_92 (a := 0) (b := 0) (nx := 22) (by decide +kernel) h
  · rw [if_neg c3] at h
    refine g_43f (a := 0) (b := 17) (nx := 13) (by decide +kernel) q0 c3 ?_
    refine g_7 (a := 2) (b := 0) (nx := 18) (by decide +kernel) rfl ?_
    refine g_51 (a := 5) (b := 2) (nx := 21) (by decide +kernel) h.1 ?_
    replace h := h.2
    exact g_92 (a := 0) (b := 0) (nx := 22) (by decide +kernel) h
-- 54 SyllableMaker$Law.countOpenings(I)I
theorem t_54 {x0 x1 : Int} {M : Mem} {Q : AV → Mem → Prop} (h0 : gO 2 x0) (h : inR x1 ∧ (if x1 = 0 then (Q (vI 1) M) else (if x1 = 1 then ((gO 6 (M x0 0)) ∧ ((shA SH (M x0 0)).1 = 6) ∧ WI 95 [vR (M x0 0)] M (fun y8 M7 => Q (vI ((M (M x0 0) 6) - y8)) M7)) else (if x1 ≤ 4 then (inR (M x0 7) ∧ (if (M x0 7) = (-1) then (WR 54 61 [some (vR x0), some (vI x1), some (vI 0), some (vI 0), none, none] [] M Q) else (((shA SH (M x0 0)).1 = 6) ∧ WI 100 [vR (M x0 0), vI x1, vI (M x0 7)] M (fun y4 M3 => WR 54 61 [some (vR x0), some (vI x1), some (vI y4), some (vI 0), none, none] [] M3 Q)))) else (Q (vI 0) M))))) : WC 54 [vR x0, vI x1] M Q := by
  show WR 54 0 [some (vR x0), some (vI x1), none, none, none, none] [] M Q
  refine g_5 (a := 1) (b := 0) (nx := 1) (by decide +kernel) rfl ?_
  obtain ⟨r1, h⟩ := h
  by_cases c10 : x1 = 0
  · rw [if_pos c10] at h
    refine g_40f (a := 1) (b := 6) (nx := 4) (by decide +kernel) r1 (by exact fun hz => ((cb_1 _ _).mp hz) c10) ?_
    refine g_1 (a := 1) (b := 0) (nx := 5) (by decide +kernel) ?_
    exact g_91 (b := 0) (nx := 6) (by decide +kernel) h
  · rw [if_neg c10] at h
    refine g_40t (a := 1) (b := 6) (nx := 4) (by decide +kernel) r1 (by exact (cb_1 _ _).mpr c10) ?_
    refine g_5 (a := 1) (b := 0) (nx := 7) (by decide +kernel) rfl ?_
    refine g_1 (a := 1) (b := 0) (nx := 8) (by decide +kernel) ?_
    by_cases c9 : x1 = 1
    · rw [if_pos c9] at h
      refine g_41f (a := 1) (b := 27) (nx := 11) (by decide +kernel) (by rw [wr_id r1, wr_id (show inR 1 by decide)]; exact fun hz => ((cb_1 _ _).mp hz) c9) ?_
      refine g_7 (a := 0) (b := 0) (nx := 12) (by decide +kernel) rfl ?_
      refine g_52 (a := 2) (b := 0) (nx := 15) (by decide +kernel) h0 ?_
      refine g_50 (a := 6) (b := 6) (nx := 18) (by decide +kernel) h.1 ?_
      replace h := h.2
      refine g_7 (a := 0) (b := 0) (nx := 19) (by decide +kernel) rfl ?_
      refine g_52 (a := 2) (b := 0) (nx := 22) (by decide +kernel) h0 ?_
      refine g_80 (a := 95) (b := 0) (nx := 25) (by decide +kernel) (r := (M x0 0)) (As := []) (st' := [vI (M (M x0 0) 6)]) (z := 95) rfl rfl rfl (Nat.le_of_ble_eq_true rfl) h.1 (Nat.le_of_ble_eq_true rfl) rfl (c_I (by decide +kernel) h.2 (fun y8 M7 h => ?_))
      refine g_16 (a := 0) (b := 0) (nx := 26) (by decide +kernel) ?_
      exact g_91 (b := 0) (nx := 27) (by decide +kernel) h
    · rw [if_neg c9] at h
      refine g_41t (a := 1) (b := 27) (nx := 11) (by decide +kernel) (by rw [wr_id r1, wr_id (show inR 1 by decide)]; exact (cb_1 _ _).mpr c9) ?_
      refine g_5 (a := 1) (b := 0) (nx := 28) (by decide +kernel) rfl ?_
      refine g_1 (a := 4) (b := 0) (nx := 29) (by decide +kernel) ?_
      by_cases c6 : x1 ≤ 4
      · rw [if_pos c6] at h
        refine g_41t (a := 5) (b := 34) (nx := 32) (by decide +kernel) (by rw [wr_id r1, wr_id (show inR 4 by decide)]; exact (cb_5 _ _).mpr c6) ?_
        refine g_7 (a := 0) (b := 0) (nx := 35) (by decide +kernel) rfl ?_
        refine g_50 (a := 2) (b := 7) (nx := 38) (by decide +kernel) h0 ?_
        refine g_1 (a := (-1)) (b := 0) (nx := 39) (by decide +kernel) ?_
        obtain ⟨r2, h⟩ := h
        by_cases c5 : (M x0 7) = (-1)
        · rw [if_pos c5] at h
          refine g_41f (a := 1) (b := 46) (nx := 42) (by decide +kernel) (by rw [wr_id r2, wr_id (show inR (-1) by decide)]; exact fun hz => ((cb_1 _ _).mp hz) c5) ?_
          refine g_1 (a := 0) (b := 0) (nx := 43) (by decide +kernel) ?_
          refine g_44 (a := 0) (b := 58) (nx := 46) (by decide +kernel) ?_
          refine g_8 (a := 2) (b := 0) (nx := 59) (by decide +kernel) rfl (ls' := [some (vR x0), some (vI x1), some (vI 0), none, none, none]) rfl ?_
          refine g_1 (a := 0) (b := 0) (nx := 60) (by decide +kernel) ?_
          refine g_8 (a := 3) (b := 0) (nx := 61) (by decide +kernel) rfl (ls' := [some (vR x0), some (vI x1), some (vI 0), some (vI 0), none, none]) rfl ?_
          exact h
        · rw [if_neg c5] at h
          refine g_41t (a := 1) (b := 46) (nx := 42) (by decide +kernel) (by rw [wr_id r2, wr_id (show inR (-1) by decide)]; exact (cb_1 _ _).mpr c5) ?_
          refine g_7 (a := 0) (b := 0) (nx := 47) (by decide +kernel) rfl ?_
          refine g_52 (a := 2) (b := 0) (nx := 50) (by decide +kernel) h0 ?_
          refine g_5 (a := 1) (b := 0) (nx := 51) (by decide +kernel) rfl ?_
          refine g_7 (a := 0) (b := 0) (nx := 52) (by decide +kernel) rfl ?_
          refine g_50 (a := 2) (b := 7) (nx := 55) (by decide +kernel) h0 ?_
          refine g_80 (a := 100) (b := 2) (nx := 58) (by decide +kernel) (r := (M x0 0)) (As := [vI x1, vI (M x0 7)]) (st' := []) (z := 100) rfl rfl rfl (Nat.le_of_ble_eq_true rfl) h.1 (Nat.le_of_ble_eq_true rfl) rfl (c_I (by decide +kernel) h.2 (fun y4 M3 h => ?_))
          refine g_8 (a := 2) (b := 0) (nx := 59) (by decide +kernel) rfl (ls' := [some (vR x0), some (vI x1), some (vI y4), none, none, none]) rfl ?_
          refine g_1 (a := 0) (b := 0) (nx := 60) (by decide +kernel) ?_
          refine g_8 (a := 3) (b := 0) (nx := 61) (by decide +kernel) rfl (ls' := [some (vR x0), some (vI x1), some (vI y4), some (vI 0), none, none]) rfl ?_
          exact h
      · rw [if_neg c6] at h
        refine g_41f (a := 5) (b := 34) (nx := 32) (by decide +kernel) (by rw [wr_id r1, wr_id (show inR 4 by decide)]; exact fun hz => c6 ((cb_5 _ _).mp hz)) ?_
        refine g_1 (a := 0) (b := 0) (nx := 33) (by decide +kernel) ?_
        exact g_91 (b := 0) (nx := 34) (by decide +kernel) h
theorem t_54_61 {x0 x1 x2 x3 : Int} {M : Mem} {Q : AV → Mem → Prop} (h0 : gO 2 x0) (h : inR x3 ∧ (inR (M x0 5) ∧ (if (M x0 5) ≤ x3 then (WR 54 112 [some (vR x0), some (vI x1), some (vI x2), some (vI 0), none, none] [] M Q) else (if 12 ≤ x3 then (WR 54 112 [some (vR x0), some (vI x1), some (vI x2), some (vI 0), none, none] [] M Q) else ((gA 23 (M x0 2) x3) ∧ WI 85 [vL (M (M x0 2) x3)] M (fun y4 M3 => inR y4 ∧ (inR x1 ∧ (if y4 = x1 then ((gA 23 (M3 x0 2) x3) ∧ WI 49 [vR x0, vL (M3 (M3 x0 2) x3)] M3 (fun y8 M7 => inR y8 ∧ (if y8 = 0 then (WR 54 61 [some (vR x0), some (vI x1), some (vI (x2 + 1)), some (vI (x3 + 1)), none, none] [] M7 Q) else (WR 54 61 [some (vR x0), some (vI x1), some (vI x2), some (vI (x3 + 1)), none, none] [] M7 Q)))) else (WR 54 61 [some (vR x0), some (vI x1), some (vI x2), some (vI (x3 + 1)), none, none] [] M3 Q))))))))) : WR 54 61 [some (vR x0), some (vI x1), some (vI x2), some (vI x3), none, none] [] M Q := by
  refine g_5 (a := 3) (b := 0) (nx := 62) (by decide +kernel) rfl ?_
  refine g_7 (a := 0) (b := 0) (nx := 63) (by decide +kernel) rfl ?_
  refine g_50 (a := 2) (b := 5) (nx := 66) (by decide +kernel) h0 ?_
  obtain ⟨r1, h⟩ := h
  obtain ⟨r2, h⟩ := h
  by_cases c13 : (M x0 5) ≤ x3
  · rw [if_pos c13] at h
    refine g_41t (a := 3) (b := 110) (nx := 69) (by decide +kernel) (by rw [wr_id r1, wr_id r2]; exact (cb_3 _ _).mpr c13) ?_
    refine g_1 (a := 0) (b := 0) (nx := 111) (by decide +kernel) ?_
    refine g_8 (a := 3) (b := 0) (nx := 112) (by decide +kernel) rfl (ls' := [some (vR x0), some (vI x1), some (vI x2), some (vI 0), none, none]) rfl ?_
    exact h
  · rw [if_neg c13] at h
    refine g_41f (a := 3) (b := 110) (nx := 69) (by decide +kernel) (by rw [wr_id r1, wr_id r2]; exact fun hz => c13 ((cb_3 _ _).mp hz)) ?_
    refine g_5 (a := 3) (b := 0) (nx := 70) (by decide +kernel) rfl ?_
    refine g_1 (a := 12) (b := 0) (nx := 72) (by decide +kernel) ?_
    by_cases c12 : 12 ≤ x3
    · rw [if_pos c12] at h
      refine g_41t (a := 3) (b := 110) (nx := 75) (by decide +kernel) (by rw [wr_id r1, wr_id (show inR 12 by decide)]; exact (cb_3 _ _).mpr c12) ?_
      refine g_1 (a := 0) (b := 0) (nx := 111) (by decide +kernel) ?_
      refine g_8 (a := 3) (b := 0) (nx := 112) (by decide +kernel) rfl (ls' := [some (vR x0), some (vI x1), some (vI x2), some (vI 0), none, none]) rfl ?_
      exact h
    · rw [if_neg c12] at h
      refine g_41f (a := 3) (b := 110) (nx := 75) (by decide +kernel) (by rw [wr_id r1, wr_id (show inR 12 by decide)]; exact fun hz => c12 ((cb_3 _ _).mp hz)) ?_
      refine g_7 (a := 0) (b := 0) (nx := 76) (by decide +kernel) rfl ?_
      refine g_52 (a := 2) (b := 2) (nx := 79) (by decide +kernel) h0 ?_
      refine g_5 (a := 3) (b := 0) (nx := 80) (by decide +kernel) rfl ?_
      refine g_67 (a := 0) (b := 0) (nx := 81) (by decide +kernel) h.1 ?_
      replace h := h.2
      refine g_82 (a := 85) (b := 1) (nx := 84) (by decide +kernel) (As := [vL (M (M x0 2) x3)]) (st' := []) (z := 85) rfl rfl rfl (Nat.le_of_ble_eq_true rfl) (Nat.le_of_ble_eq_true rfl) rfl (c_I (by decide +kernel) h (fun y4 M3 h => ?_))
      refine g_5 (a := 1) (b := 0) (nx := 85) (by decide +kernel) rfl ?_
      obtain ⟨r5, h⟩ := h
      obtain ⟨r6, h⟩ := h
      by_cases c11 : y4 = x1
      · rw [if_pos c11] at h
        refine g_41f (a := 1) (b := 104) (nx := 88) (by decide +kernel) (by rw [wr_id r5, wr_id r6]; exact fun hz => ((cb_1 _ _).mp hz) c11) ?_
        refine g_7 (a := 0) (b := 0) (nx := 89) (by decide +kernel) rfl ?_
        refine g_7 (a := 0) (b := 0) (nx := 90) (by decide +kernel) rfl ?_
        refine g_52 (a := 2) (b := 2) (nx := 93) (by decide +kernel) h0 ?_
        refine g_5 (a := 3) (b := 0) (nx := 94) (by decide +kernel) rfl ?_
        refine g_67 (a := 0) (b := 0) (nx := 95) (by decide +kernel) h.1 ?_
        replace h := h.2
        refine g_80 (a := 49) (b := 1) (nx := 98) (by decide +kernel) (r := x0) (As := [vL (M3 (M3 x0 2) x3)]) (st' := []) (z := 49) rfl rfl rfl (Nat.le_of_ble_eq_true rfl) h0.2 (Nat.le_of_ble_eq_true rfl) rfl (c_I (by decide +kernel) h (fun y8 M7 h => ?_))
        obtain ⟨r9, h⟩ := h
        by_cases c10 : y8 = 0
        · rw [if_pos c10] at h
          refine g_40f (a := 1) (b := 104) (nx := 101) (by decide +kernel) r9 (by exact fun hz => ((cb_1 _ _).mp hz) c10) ?_
          refine g_11 (a := 2) (b := 1) (nx := 104) (by decide +kernel) rfl rfl (ls' := [some (vR x0), some (vI x1), some (vI (x2 + 1)), some (vI x3), none, none]) rfl ?_
          refine g_11 (a := 3) (b := 1) (nx := 107) (by decide +kernel) rfl rfl (ls' := [some (vR x0), some (vI x1), some (vI (x2 + 1)), some (vI (x3 + 1)), none, none]) rfl ?_
          refine g_44 (a := 0) (b := 61) (nx := 110) (by decide +kernel) ?_
          exact h
        · rw [if_neg c10] at h
          refine g_40t (a := 1) (b := 104) (nx := 101) (by decide +kernel) r9 (by exact (cb_1 _ _).mpr c10) ?_
          refine g_11 (a := 3) (b := 1) (nx := 107) (by decide +kernel) rfl rfl (ls' := [some (vR x0), some (vI x1), some (vI x2), some (vI (x3 + 1)), none, none]) rfl ?_
          refine g_44 (a := 0) (b := 61) (nx := 110) (by decide +kernel) ?_
          exact h
      · rw [if_neg c11] at h
        refine g_41t (a := 1) (b := 104) (nx := 88) (by decide +kernel) (by rw [wr_id r5, wr_id r6]; exact (cb_1 _ _).mpr c11) ?_
        refine g_11 (a := 3) (b := 1) (nx := 107) (by decide +kernel) rfl rfl (ls' := [some (vR x0), some (vI x1), some (vI x2), some (vI (x3 + 1)), none, none]) rfl ?_
        refine g_44 (a := 0) (b := 61) (nx := 110) (by decide +kernel) ?_
        exact h
theorem t_54_112 {x0 x1 x2 x3 : Int} {l4 : Option AV} {M : Mem} {Q : AV → Mem → Prop} (h0 : gO 2 x0) (h : (gO 10 (M x0 1)) ∧ inR x3 ∧ (inR (M (M x0 1) 2) ∧ (if (M (M x0 1) 2) ≤ x3 then (Q (vI x2) M) else (WL 53 [vR x0, vI x3] M (fun y4 M3 => WI 52 [vR x0, vI x3] M3 (fun y6 M5 => inR y6 ∧ (if y6 = 0 then (WR 54 112 [some (vR x0), some (vI x1), some (vI x2), some (vI (x3 + 1)), some (vL y4), none] [] M5 Q) else (WI 85 [vL y4] M5 (fun y9 M8 => inR y9 ∧ (inR x1 ∧ (if y9 = x1 then (WI 44 [vR x0, vL y4] M8 (fun y13 M12 => inR y13 ∧ (if y13 = 0 then (WI 49 [vR x0, vL y4] M12 (fun y16 M15 => inR y16 ∧ (if y16 = 0 then (WR 54 112 [some (vR x0), some (vI x1), some (vI (x2 + 1)), some (vI (x3 + 1)), some (vL y4), none] [] M15 Q) else (WR 54 112 [some (vR x0), some (vI x1), some (vI x2), some (vI (x3 + 1)), some (vL y4), none] [] M15 Q)))) else (WR 54 112 [some (vR x0), some (vI x1), some (vI x2), some (vI (x3 + 1)), some (vL y4), none] [] M12 Q)))) else (WR 54 112 [some (vR x0), some (vI x1), some (vI x2), some (vI (x3 + 1)), some (vL y4), none] [] M8 Q)))))))))))) : WR 54 112 [some (vR x0), some (vI x1), some (vI x2), some (vI x3), l4, none] [] M Q := by
  refine g_5 (a := 3) (b := 0) (nx := 113) (by decide +kernel) rfl ?_
  refine g_7 (a := 0) (b := 0) (nx := 114) (by decide +kernel) rfl ?_
  refine g_52 (a := 2) (b := 1) (nx := 117) (by decide +kernel) h0 ?_
  refine g_50 (a := 10) (b := 2) (nx := 120) (by decide +kernel) h.1 ?_
  replace h := h.2
  obtain ⟨r1, h⟩ := h
  obtain ⟨r2, h⟩ := h
  by_cases c22 : (M (M x0 1) 2) ≤ x3
  · rw [if_pos c22] at h
    refine g_41t (a := 3) (b := 174) (nx := 123) (by decide +kernel) (by rw [wr_id r1, wr_id r2]; exact (cb_3 _ _).mpr c22) ?_
    refine g_5 (a := 2) (b := 0) (nx := 175) (by decide +kernel) rfl ?_
    exact g_91 (b := 0) (nx := 176) (by decide +kernel) h
  · rw [if_neg c22] at h
    refine g_41f (a := 3) (b := 174) (nx := 123) (by decide +kernel) (by rw [wr_id r1, wr_id r2]; exact fun hz => c22 ((cb_3 _ _).mp hz)) ?_
    refine g_7 (a := 0) (b := 0) (nx := 124) (by decide +kernel) rfl ?_
    refine g_5 (a := 3) (b := 0) (nx := 125) (by decide +kernel) rfl ?_
    refine g_80 (a := 53) (b := 1) (nx := 128) (by decide +kernel) (r := x0) (As := [vI x3]) (st' := []) (z := 53) rfl rfl rfl (Nat.le_of_ble_eq_true rfl) h0.2 (Nat.le_of_ble_eq_true rfl) rfl (c_L (by decide +kernel) h (fun y4 M3 h => ?_))
    refine g_9 (a := 4) (b := 0) (nx := 130) (by decide +kernel) ⟨rfl, Nat.le_of_ble_eq_true rfl⟩ (ls' := [some (vR x0), some (vI x1), some (vI x2), some (vI x3), some (vL y4), none]) rfl ?_
    refine g_7 (a := 0) (b := 0) (nx := 131) (by decide +kernel) rfl ?_
    refine g_5 (a := 3) (b := 0) (nx := 132) (by decide +kernel) rfl ?_
    refine g_80 (a := 52) (b := 1) (nx := 135) (by decide +kernel) (r := x0) (As := [vI x3]) (st' := []) (z := 52) rfl rfl rfl (Nat.le_of_ble_eq_true rfl) h0.2 (Nat.le_of_ble_eq_true rfl) rfl (c_I (by decide +kernel) h (fun y6 M5 h => ?_))
    obtain ⟨r7, h⟩ := h
    by_cases c21 : y6 = 0
    · rw [if_pos c21] at h
      refine g_40t (a := 0) (b := 168) (nx := 138) (by decide +kernel) r7 (by exact (cb_0 _ _).mpr c21) ?_
      refine g_11 (a := 3) (b := 1) (nx := 171) (by decide +kernel) rfl rfl (ls' := [some (vR x0), some (vI x1), some (vI x2), some (vI (x3 + 1)), some (vL y4), none]) rfl ?_
      refine g_44 (a := 0) (b := 112) (nx := 174) (by decide +kernel) ?_
      exact h
    · rw [if_neg c21] at h
      refine g_40f (a := 0) (b := 168) (nx := 138) (by decide +kernel) r7 (by exact fun hz => c21 ((cb_0 _ _).mp hz)) ?_
      refine g_6 (a := 4) (b := 0) (nx := 140) (by decide +kernel) rfl ?_
      refine g_82 (a := 85) (b := 1) (nx := 143) (by decide +kernel) (As := [vL y4]) (st' := []) (z := 85) rfl rfl rfl (Nat.le_of_ble_eq_true rfl) (Nat.le_of_ble_eq_true rfl) rfl (c_I (by decide +kernel) h (fun y9 M8 h => ?_))
      refine g_5 (a := 1) (b := 0) (nx := 144) (by decide +kernel) rfl ?_
      obtain ⟨r10, h⟩ := h
      obtain ⟨r11, h⟩ := h
      by_cases c20 : y9 = x1
      · rw [if_pos c20] at h
        refine g_41f (a := 1) (b := 168) (nx := 147) (by decide +kernel) (by rw [wr_id r10, wr_id r11]; exact fun hz => ((cb_1 _ _).mp hz) c20) ?_
        refine g_7 (a := 0) (b := 0) (nx := 148) (by decide +kernel) rfl ?_
        refine g_6 (a := 4) (b := 0) (nx := 150) (by decide +kernel) rfl ?_
        refine g_80 (a := 44) (b := 1) (nx := 153) (by decide +kernel) (r := x0) (As := [vL y4]) (st' := []) (z := 44) rfl rfl rfl (Nat.le_of_ble_eq_true rfl) h0.2 (Nat.le_of_ble_eq_true rfl) rfl (c_I (by decide +kernel) h (fun y13 M12 h => ?_))
        obtain ⟨r14, h⟩ := h
        by_cases c19 : y13 = 0
        · rw [if_pos c19] at h
          refine g_40f (a := 1) (b := 168) (nx := 156) (by decide +kernel) r14 (by exact fun hz => ((cb_1 _ _).mp hz) c19) ?_
          refine g_7 (a := 0) (b := 0) (nx := 157) (by decide +kernel) rfl ?_
          refine g_6 (a := 4) (b := 0) (nx := 159) (by decide +kernel) rfl ?_
          refine g_80 (a := 49) (b := 1) (nx := 162) (by decide +kernel) (r := x0) (As := [vL y4]) (st' := []) (z := 49) rfl rfl rfl (Nat.le_of_ble_eq_true rfl) h0.2 (Nat.le_of_ble_eq_true rfl) rfl (c_I (by decide +kernel) h (fun y16 M15 h => ?_))
          obtain ⟨r17, h⟩ := h
          by_cases c18 : y16 = 0
          · rw [if_pos c18] at h
            refine g_40f (a := 1) (b := 168) (nx := 165) (by decide +kernel) r17 (by exact fun hz => ((cb_1 _ _).mp hz) c18) ?_
            refine g_11 (a := 2) (b := 1) (nx := 168) (by decide +kernel) rfl rfl (ls' := [some (vR x0), some (vI x1), some (vI (x2 + 1)), some (vI x3), some (vL y4), none]) rfl ?_
            refine g_11 (a := 3) (b := 1) (nx := 171) (by decide +kernel) rfl rfl (ls' := [some (vR x0), some (vI x1), some (vI (x2 + 1)), some (vI (x3 + 1)), some (vL y4), none]) rfl ?_
            refine g_44 (a := 0) (b := 112) (nx := 174) (by decide +kernel) ?_
            exact h
          · rw [if_neg c18] at h
            refine g_40t (a := 1) (b := 168) (nx := 165) (by decide +kernel) r17 (by exact (cb_1 _ _).mpr c18) ?_
            refine g_11 (a := 3) (b := 1) (nx := 171) (by decide +kernel) rfl rfl (ls' := [some (vR x0), some (vI x1), some (vI x2), some (vI (x3 + 1)), some (vL y4), none]) rfl ?_
            refine g_44 (a := 0) (b := 112) (nx := 174) (by decide +kernel) ?_
            exact h
        · rw [if_neg c19] at h
          refine g_40t (a := 1) (b := 168) (nx := 156) (by decide +kernel) r14 (by exact (cb_1 _ _).mpr c19) ?_
          refine g_11 (a := 3) (b := 1) (nx := 171) (by decide +kernel) rfl rfl (ls' := [some (vR x0), some (vI x1), some (vI x2), some (vI (x3 + 1)), some (vL y4), none]) rfl ?_
          refine g_44 (a := 0) (b := 112) (nx := 174) (by decide +kernel) ?_
          exact h
      · rw [if_neg c20] at h
        refine g_41t (a := 1) (b := 168) (nx := 147) (by decide +kernel) (by rw [wr_id r10, wr_id r11]; exact (cb_1 _ _).mpr c20) ?_
        refine g_11 (a := 3) (b := 1) (nx := 171) (by decide +kernel) rfl rfl (ls' := [some (vR x0), some (vI x1), some (vI x2), some (vI (x3 + 1)), some (vL y4), none]) rfl ?_
        refine g_44 (a := 0) (b := 112) (nx := 174) (by decide +kernel) ?_
        exact h
-- 55 SyllableMaker$Law.countHearts(I)I
theorem t_55 {x0 x1 : Int} {M : Mem} {Q : AV → Mem → Prop} (h0 : gO 2 x0) (h : ((shA SH (M x0 0)).1 = 6) ∧ WI 95 [vR (M x0 0)] M (fun y2 M1 => inR x1 ∧ (if x1 = 1 then (Q (vI y2) M1) else (Q (vI (y2 + (M1 x0 6))) M1)))) : WC 55 [vR x0, vI x1] M Q := by
  show WR 55 0 [some (vR x0), some (vI x1), none] [] M Q
  refine g_7 (a := 0) (b := 0) (nx := 1) (by decide +kernel) rfl ?_
  refine g_52 (a := 2) (b := 0) (nx := 4) (by decide +kernel) h0 ?_
  refine g_80 (a := 95) (b := 0) (nx := 7) (by decide +kernel) (r := (M x0 0)) (As := []) (st' := []) (z := 95) rfl rfl rfl (Nat.le_of_ble_eq_true rfl) h.1 (Nat.le_of_ble_eq_true rfl) rfl (c_I (by decide +kernel) h.2 (fun y2 M1 h => ?_))
  refine g_8 (a := 2) (b := 0) (nx := 8) (by decide +kernel) rfl (ls' := [some (vR x0), some (vI x1), some (vI y2)]) rfl ?_
  refine g_5 (a := 1) (b := 0) (nx := 9) (by decide +kernel) rfl ?_
  refine g_1 (a := 1) (b := 0) (nx := 10) (by decide +kernel) ?_
  obtain ⟨r3, h⟩ := h
  by_cases c4 : x1 = 1
  · rw [if_pos c4] at h
    refine g_41f (a := 1) (b := 17) (nx := 13) (by decide +kernel) (by rw [wr_id r3, wr_id (show inR 1 by decide)]; exact fun hz => ((cb_1 _ _).mp hz) c4) ?_
    refine g_5 (a := 2) (b := 0) (nx := 14) (by decide +kernel) rfl ?_
    refine g_44 (a := 0) (b := 23) (nx := 17) (by decide +kernel) ?_
    exact g_91 (b := 0) (nx := 24) (by decide +kernel) h
  · rw [if_neg c4] at h
    refine g_41t (a := 1) (b := 17) (nx := 13) (by decide +kernel) (by rw [wr_id r3, wr_id (show inR 1 by decide)]; exact (cb_1 _ _).mpr c4) ?_
    refine g_5 (a := 2) (b := 0) (nx := 18) (by decide +kernel) rfl ?_
    refine g_7 (a := 0) (b := 0) (nx := 19) (by decide +kernel) rfl ?_
    refine g_50 (a := 2) (b := 6) (nx := 22) (by decide +kernel) h0 ?_
    refine g_15 (a := 0) (b := 0) (nx := 23) (by decide +kernel) ?_
    exact g_91 (b := 0) (nx := 24) (by decide +kernel) h
-- 56 SyllableMaker$Law.countClosings(I)I
theorem t_56 {x0 x1 : Int} {M : Mem} {Q : AV → Mem → Prop} (h0 : gO 2 x0) (h : inR x1 ∧ (inR (M x0 8) ∧ (if x1 ≤ (M x0 8) then (if x1 = 0 then (Q (vI 1) M) else (((shA SH (M x0 0)).1 = 6) ∧ WI 100 [vR (M x0 0), vI x1, vI (M x0 9)] M (fun y4 M3 => Q (vI y4) M3))) else (Q (vI 0) M)))) : WC 56 [vR x0, vI x1] M Q := by
  show WR 56 0 [some (vR x0), some (vI x1)] [] M Q
  refine g_5 (a := 1) (b := 0) (nx := 1) (by decide +kernel) rfl ?_
  refine g_7 (a := 0) (b := 0) (nx := 2) (by decide +kernel) rfl ?_
  refine g_50 (a := 2) (b := 8) (nx := 5) (by decide +kernel) h0 ?_
  obtain ⟨r1, h⟩ := h
  obtain ⟨r2, h⟩ := h
  by_cases c6 : x1 ≤ (M x0 8)
  · rw [if_pos c6] at h
    refine g_41t (a := 5) (b := 10) (nx := 8) (by decide +kernel) (by rw [wr_id r1, wr_id r2]; exact (cb_5 _ _).mpr c6) ?_
    refine g_5 (a := 1) (b := 0) (nx := 11) (by decide +kernel) rfl ?_
    by_cases c5 : x1 = 0
    · rw [if_pos c5] at h
      refine g_40f (a := 1) (b := 18) (nx := 14) (by decide +kernel) r1 (by exact fun hz => ((cb_1 _ _).mp hz) c5) ?_
      refine g_1 (a := 1) (b := 0) (nx := 15) (by decide +kernel) ?_
      refine g_44 (a := 0) (b := 30) (nx := 18) (by decide +kernel) ?_
      exact g_91 (b := 0) (nx := 31) (by decide +kernel) h
    · rw [if_neg c5] at h
      refine g_40t (a := 1) (b := 18) (nx := 14) (by decide +kernel) r1 (by exact (cb_1 _ _).mpr c5) ?_
      refine g_7 (a := 0) (b := 0) (nx := 19) (by decide +kernel) rfl ?_
      refine g_52 (a := 2) (b := 0) (nx := 22) (by decide +kernel) h0 ?_
      refine g_5 (a := 1) (b := 0) (nx := 23) (by decide +kernel) rfl ?_
      refine g_7 (a := 0) (b := 0) (nx := 24) (by decide +kernel) rfl ?_
      refine g_50 (a := 2) (b := 9) (nx := 27) (by decide +kernel) h0 ?_
      refine g_80 (a := 100) (b := 2) (nx := 30) (by decide +kernel) (r := (M x0 0)) (As := [vI x1, vI (M x0 9)]) (st' := []) (z := 100) rfl rfl rfl (Nat.le_of_ble_eq_true rfl) h.1 (Nat.le_of_ble_eq_true rfl) rfl (c_I (by decide +kernel) h.2 (fun y4 M3 h => ?_))
      exact g_91 (b := 0) (nx := 31) (by decide +kernel) h
  · rw [if_neg c6] at h
    refine g_41f (a := 5) (b := 10) (nx := 8) (by decide +kernel) (by rw [wr_id r1, wr_id r2]; exact fun hz => c6 ((cb_5 _ _).mp hz)) ?_
    refine g_1 (a := 0) (b := 0) (nx := 9) (by decide +kernel) ?_
    exact g_91 (b := 0) (nx := 10) (by decide +kernel) h
-- 58 SyllableMaker$Mender.seek(LSyllableMaker$Law;LSyllableMaker$Row;)I
theorem t_58 {x0 x1 x2 : Int} {M : Mem} {Q : AV → Mem → Prop} (h0 : gO 3 x0) (h : (gO 2 x1) ∧ inR (M x1 16) ∧ (if (M x1 16) = (-1) then (Q (vI (-2)) M) else ((gO 5 x2) ∧ (gO 5 x2) ∧ (inR ((M x2 1) + 1) ∧ inR (12 - (M x2 1))) ∧ WR 58 31 [some (vR x0), some (vR x1), some (vR x2), some (vI (min ((M x2 1) + 1) (12 - (M x2 1)))), some (vI 0), none, none] [] M Q))) : WC 58 [vR x0, vR x1, vR x2] M Q := by
  show WR 58 0 [some (vR x0), some (vR x1), some (vR x2), none, none, none, none] [] M Q
  refine g_7 (a := 1) (b := 0) (nx := 1) (by decide +kernel) rfl ?_
  refine g_50 (a := 2) (b := 16) (nx := 4) (by decide +kernel) h.1 ?_
  replace h := h.2
  refine g_1 (a := (-1)) (b := 0) (nx := 5) (by decide +kernel) ?_
  obtain ⟨r1, h⟩ := h
  by_cases c2 : (M x1 16) = (-1)
  · rw [if_pos c2] at h
    refine g_41f (a := 1) (b := 11) (nx := 8) (by decide +kernel) (by rw [wr_id r1, wr_id (show inR (-1) by decide)]; exact fun hz => ((cb_1 _ _).mp hz) c2) ?_
    refine g_1 (a := (-2)) (b := 0) (nx := 10) (by decide +kernel) ?_
    exact g_91 (b := 0) (nx := 11) (by decide +kernel) h
  · rw [if_neg c2] at h
    refine g_41t (a := 1) (b := 11) (nx := 8) (by decide +kernel) (by rw [wr_id r1, wr_id (show inR (-1) by decide)]; exact (cb_1 _ _).mpr c2) ?_
    refine g_7 (a := 2) (b := 0) (nx := 12) (by decide +kernel) rfl ?_
    refine g_50 (a := 5) (b := 1) (nx := 15) (by decide +kernel) h.1 ?_
    replace h := h.2
    refine g_1 (a := 1) (b := 0) (nx := 16) (by decide +kernel) ?_
    refine g_15 (a := 0) (b := 0) (nx := 17) (by decide +kernel) ?_
    refine g_1 (a := 12) (b := 0) (nx := 19) (by decide +kernel) ?_
    refine g_7 (a := 2) (b := 0) (nx := 20) (by decide +kernel) rfl ?_
    refine g_50 (a := 5) (b := 1) (nx := 23) (by decide +kernel) h.1 ?_
    replace h := h.2
    refine g_16 (a := 0) (b := 0) (nx := 24) (by decide +kernel) ?_
    refine g_84 (a := 0) (b := 0) (nx := 27) (by decide +kernel) h.1.1 h.1.2 (Nat.le_of_ble_eq_true rfl) ?_
    replace h := h.2
    refine g_8 (a := 3) (b := 0) (nx := 28) (by decide +kernel) rfl (ls' := [some (vR x0), some (vR x1), some (vR x2), some (vI (min ((M x2 1) + 1) (12 - (M x2 1)))), none, none, none]) rfl ?_
    refine g_1 (a := 0) (b := 0) (nx := 29) (by decide +kernel) ?_
    refine g_8 (a := 4) (b := 0) (nx := 31) (by decide +kernel) rfl (ls' := [some (vR x0), some (vR x1), some (vR x2), some (vI (min ((M x2 1) + 1) (12 - (M x2 1)))), some (vI 0), none, none]) rfl ?_
    exact h
theorem t_58_31 {x0 x1 x2 x3 x4 : Int} {l5 l6 : Option AV} {M : Mem} {Q : AV → Mem → Prop} (h0 : gO 3 x0) (h : inR x4 ∧ (inR x3 ∧ (if x3 < x4 then (Q (vI (-2)) M) else (WR 58 40 [some (vR x0), some (vR x1), some (vR x2), some (vI x3), some (vI x4), some (vI 0), l6] [] M Q)))) : WR 58 31 [some (vR x0), some (vR x1), some (vR x2), some (vI x3), some (vI x4), l5, l6] [] M Q := by
  refine g_5 (a := 4) (b := 0) (nx := 33) (by decide +kernel) rfl ?_
  refine g_5 (a := 3) (b := 0) (nx := 34) (by decide +kernel) rfl ?_
  obtain ⟨r1, h⟩ := h
  obtain ⟨r2, h⟩ := h
  by_cases c3 : x3 < x4
  · rw [if_pos c3] at h
    refine g_41t (a := 4) (b := 118) (nx := 37) (by decide +kernel) (by rw [wr_id r1, wr_id r2]; exact (cb_4 _ _).mpr c3) ?_
    refine g_1 (a := (-2)) (b := 0) (nx := 120) (by decide +kernel) ?_
    exact g_91 (b := 0) (nx := 121) (by decide +kernel) h
  · rw [if_neg c3] at h
    refine g_41f (a := 4) (b := 118) (nx := 37) (by decide +kernel) (by rw [wr_id r1, wr_id r2]; exact fun hz => c3 ((cb_4 _ _).mp hz)) ?_
    refine g_1 (a := 0) (b := 0) (nx := 38) (by decide +kernel) ?_
    refine g_8 (a := 5) (b := 0) (nx := 40) (by decide +kernel) rfl (ls' := [some (vR x0), some (vR x1), some (vR x2), some (vI x3), some (vI x4), some (vI 0), l6]) rfl ?_
    exact h
theorem t_58_40 {x0 x1 x2 x3 x4 x5 : Int} {l6 : Option AV} {M : Mem} {Q : AV → Mem → Prop} (h0 : gO 3 x0) (h : inR x5 ∧ (inR x4 ∧ (if x4 ≤ x5 then (WR 58 68 [some (vR x0), some (vR x1), some (vR x2), some (vI x3), some (vI x4), some (vI 1), some (vI 0)] [] M Q) else ((gA 20 (M x0 2) x5) ∧ WR 58 40 [some (vR x0), some (vR x1), some (vR x2), some (vI x3), some (vI x4), some (vI (x5 + 1)), l6] [] (upM M (M x0 2) x5 x5) Q)))) : WR 58 40 [some (vR x0), some (vR x1), some (vR x2), some (vI x3), some (vI x4), some (vI x5), l6] [] M Q := by
  refine g_5 (a := 5) (b := 0) (nx := 42) (by decide +kernel) rfl ?_
  refine g_5 (a := 4) (b := 0) (nx := 44) (by decide +kernel) rfl ?_
  obtain ⟨r1, h⟩ := h
  obtain ⟨r2, h⟩ := h
  by_cases c3 : x4 ≤ x5
  · rw [if_pos c3] at h
    refine g_41t (a := 3) (b := 62) (nx := 47) (by decide +kernel) (by rw [wr_id r1, wr_id r2]; exact (cb_3 _ _).mpr c3) ?_
    refine g_1 (a := 1) (b := 0) (nx := 63) (by decide +kernel) ?_
    refine g_8 (a := 5) (b := 0) (nx := 65) (by decide +kernel) rfl (ls' := [some (vR x0), some (vR x1), some (vR x2), some (vI x3), some (vI x4), some (vI 1), l6]) rfl ?_
    refine g_1 (a := 0) (b := 0) (nx := 66) (by decide +kernel) ?_
    refine g_8 (a := 6) (b := 0) (nx := 68) (by decide +kernel) rfl (ls' := [some (vR x0), some (vR x1), some (vR x2), some (vI x3), some (vI x4), some (vI 1), some (vI 0)]) rfl ?_
    exact h
  · rw [if_neg c3] at h
    refine g_41f (a := 3) (b := 62) (nx := 47) (by decide +kernel) (by rw [wr_id r1, wr_id r2]; exact fun hz => c3 ((cb_3 _ _).mp hz)) ?_
    refine g_7 (a := 0) (b := 0) (nx := 48) (by decide +kernel) rfl ?_
    refine g_52 (a := 3) (b := 2) (nx := 51) (by decide +kernel) h0 ?_
    refine g_5 (a := 5) (b := 0) (nx := 53) (by decide +kernel) rfl ?_
    refine g_5 (a := 5) (b := 0) (nx := 55) (by decide +kernel) rfl ?_
    refine g_62 (a := 0) (b := 0) (nx := 56) (by decide +kernel) h.1 ?_
    replace h := h.2
    refine g_11 (a := 5) (b := 1) (nx := 59) (by decide +kernel) rfl rfl (ls' := [some (vR x0), some (vR x1), some (vR x2), some (vI x3), some (vI x4), some (vI (x5 + 1)), l6]) rfl ?_
    refine g_44 (a := 0) (b := 40) (nx := 62) (by decide +kernel) ?_
    exact h
theorem t_58_68 {x0 x1 x2 x3 x4 x5 x6 : Int} {M : Mem} {Q : AV → Mem → Prop} (h0 : gO 3 x0) (h : inR x5 ∧ (if x5 = 0 then (WR 58 31 [some (vR x0), some (vR x1), some (vR x2), some (vI x3), some (vI (x4 + 1)), some (vI x5), some (vI x6)] [] M Q) else (inR x6 ∧ (if 100000 ≤ x6 then (WR 58 31 [some (vR x0), some (vR x1), some (vR x2), some (vI x3), some (vI (x4 + 1)), some (vI x5), some (vI x6)] [] M Q) else (WI 60 [vR x0, vR x1, vR x2, vI x4] M (fun y4 M3 => inR y4 ∧ (if y4 = 0 then ((gO 5 x2) ∧ WI 59 [vR x0, vI x4, vI (M3 x2 1)] M3 (fun y7 M6 => WR 58 68 [some (vR x0), some (vR x1), some (vR x2), some (vI x3), some (vI x4), some (vI y7), some (vI (x6 + 1))] [] M6 Q)) else (Q (vI x4) M3)))))))) : WR 58 68 [some (vR x0), some (vR x1), some (vR x2), some (vI x3), some (vI x4), some (vI x5), some (vI x6)] [] M Q := by
  refine g_5 (a := 5) (b := 0) (nx := 70) (by decide +kernel) rfl ?_
  obtain ⟨r1, h⟩ := h
  by_cases c10 : x5 = 0
  · rw [if_pos c10] at h
    refine g_40t (a := 0) (b := 112) (nx := 73) (by decide +kernel) r1 (by exact (cb_0 _ _).mpr c10) ?_
    refine g_11 (a := 4) (b := 1) (nx := 115) (by decide +kernel) rfl rfl (ls' := [some (vR x0), some (vR x1), some (vR x2), some (vI x3), some (vI (x4 + 1)), some (vI x5), some (vI x6)]) rfl ?_
    refine g_44 (a := 0) (b := 31) (nx := 118) (by decide +kernel) ?_
    exact h
  · rw [if_neg c10] at h
    refine g_40f (a := 0) (b := 112) (nx := 73) (by decide +kernel) r1 (by exact fun hz => c10 ((cb_0 _ _).mp hz)) ?_
    refine g_5 (a := 6) (b := 0) (nx := 75) (by decide +kernel) rfl ?_
    refine g_1 (a := 100000) (b := 0) (nx := 77) (by decide +kernel) ?_
    obtain ⟨r2, h⟩ := h
    by_cases c9 : 100000 ≤ x6
    · rw [if_pos c9] at h
      refine g_41t (a := 3) (b := 112) (nx := 80) (by decide +kernel) (by rw [wr_id r2, wr_id (show inR 100000 by decide)]; exact (cb_3 _ _).mpr c9) ?_
      refine g_11 (a := 4) (b := 1) (nx := 115) (by decide +kernel) rfl rfl (ls' := [some (vR x0), some (vR x1), some (vR x2), some (vI x3), some (vI (x4 + 1)), some (vI x5), some (vI x6)]) rfl ?_
      refine g_44 (a := 0) (b := 31) (nx := 118) (by decide +kernel) ?_
      exact h
    · rw [if_neg c9] at h
      refine g_41f (a := 3) (b := 112) (nx := 80) (by decide +kernel) (by rw [wr_id r2, wr_id (show inR 100000 by decide)]; exact fun hz => c9 ((cb_3 _ _).mp hz)) ?_
      refine g_7 (a := 0) (b := 0) (nx := 81) (by decide +kernel) rfl ?_
      refine g_7 (a := 1) (b := 0) (nx := 82) (by decide +kernel) rfl ?_
      refine g_7 (a := 2) (b := 0) (nx := 83) (by decide +kernel) rfl ?_
      refine g_5 (a := 4) (b := 0) (nx := 85) (by decide +kernel) rfl ?_
      refine g_80 (a := 60) (b := 3) (nx := 88) (by decide +kernel) (r := x0) (As := [vR x1, vR x2, vI x4]) (st' := []) (z := 60) rfl rfl rfl (Nat.le_of_ble_eq_true rfl) h0.2 (Nat.le_of_ble_eq_true rfl) rfl (c_I (by decide +kernel) h (fun y4 M3 h => ?_))
      obtain ⟨r5, h⟩ := h
      by_cases c8 : y4 = 0
      · rw [if_pos c8] at h
        refine g_40t (a := 0) (b := 94) (nx := 91) (by decide +kernel) r5 (by exact (cb_0 _ _).mpr c8) ?_
        refine g_7 (a := 0) (b := 0) (nx := 95) (by decide +kernel) rfl ?_
        refine g_5 (a := 4) (b := 0) (nx := 97) (by decide +kernel) rfl ?_
        refine g_7 (a := 2) (b := 0) (nx := 98) (by decide +kernel) rfl ?_
        refine g_50 (a := 5) (b := 1) (nx := 101) (by decide +kernel) h.1 ?_
        replace h := h.2
        refine g_80 (a := 59) (b := 2) (nx := 104) (by decide +kernel) (r := x0) (As := [vI x4, vI (M3 x2 1)]) (st' := []) (z := 59) rfl rfl rfl (Nat.le_of_ble_eq_true rfl) h0.2 (Nat.le_of_ble_eq_true rfl) rfl (c_I (by decide +kernel) h (fun y7 M6 h => ?_))
        refine g_8 (a := 5) (b := 0) (nx := 106) (by decide +kernel) rfl (ls' := [some (vR x0), some (vR x1), some (vR x2), some (vI x3), some (vI x4), some (vI y7), some (vI x6)]) rfl ?_
        refine g_11 (a := 6) (b := 1) (nx := 109) (by decide +kernel) rfl rfl (ls' := [some (vR x0), some (vR x1), some (vR x2), some (vI x3), some (vI x4), some (vI y7), some (vI (x6 + 1))]) rfl ?_
        refine g_44 (a := 0) (b := 68) (nx := 112) (by decide +kernel) ?_
        exact h
      · rw [if_neg c8] at h
        refine g_40f (a := 0) (b := 94) (nx := 91) (by decide +kernel) r5 (by exact fun hz => c8 ((cb_0 _ _).mp hz)) ?_
        refine g_5 (a := 4) (b := 0) (nx := 93) (by decide +kernel) rfl ?_
        exact g_91 (b := 0) (nx := 94) (by decide +kernel) h
-- 59 SyllableMaker$Mender.takeNextPlaces(II)Z
theorem t_59 {x0 x1 x2 : Int} {M : Mem} {Q : AV → Mem → Prop} (h0 : gO 3 x0) (h : WR 59 4 [some (vR x0), some (vI x1), some (vI x2), some (vI (x1 - 1)), none] [] M Q) : WC 59 [vR x0, vI x1, vI x2] M Q := by
  show WR 59 0 [some (vR x0), some (vI x1), some (vI x2), none, none] [] M Q
  refine g_5 (a := 1) (b := 0) (nx := 1) (by decide +kernel) rfl ?_
  refine g_1 (a := 1) (b := 0) (nx := 2) (by decide +kernel) ?_
  refine g_16 (a := 0) (b := 0) (nx := 3) (by decide +kernel) ?_
  refine g_8 (a := 3) (b := 0) (nx := 4) (by decide +kernel) rfl (ls' := [some (vR x0), some (vI x1), some (vI x2), some (vI (x1 - 1)), none]) rfl ?_
  exact h
theorem t_59_4 {x0 x1 x2 x3 : Int} {M : Mem} {Q : AV → Mem → Prop} (h0 : gO 3 x0) (h : inR x3 ∧ (if x3 < 0 then (Q (vI 0) M) else ((gA 20 (M x0 2) x3) ∧ inR (M (M x0 2) x3) ∧ (inR (x2 - ((x1 - 1) - x3)) ∧ (if (x2 - ((x1 - 1) - x3)) ≤ (M (M x0 2) x3) then (WR 59 4 [some (vR x0), some (vI x1), some (vI x2), some (vI (x3 + (-1))), none] [] M Q) else ((gA 20 (M x0 2) x3) ∧ (gA 20 (M x0 2) x3) ∧ WR 59 39 [some (vR x0), some (vI x1), some (vI x2), some (vI x3), some (vI (x3 + 1))] [] (upM M (M x0 2) x3 ((M (M x0 2) x3) + 1)) Q)))))) : WR 59 4 [some (vR x0), some (vI x1), some (vI x2), some (vI x3), none] [] M Q := by
  refine g_5 (a := 3) (b := 0) (nx := 5) (by decide +kernel) rfl ?_
  obtain ⟨r1, h⟩ := h
  by_cases c5 : x3 < 0
  · rw [if_pos c5] at h
    refine g_40t (a := 2) (b := 77) (nx := 8) (by decide +kernel) r1 (by exact (cb_2 _ _).mpr c5) ?_
    refine g_1 (a := 0) (b := 0) (nx := 78) (by decide +kernel) ?_
    exact g_91z (b := 0) (nx := 79) (by decide +kernel) (by decide) h
  · rw [if_neg c5] at h
    refine g_40f (a := 2) (b := 77) (nx := 8) (by decide +kernel) r1 (by exact fun hz => c5 ((cb_2 _ _).mp hz)) ?_
    refine g_7 (a := 0) (b := 0) (nx := 9) (by decide +kernel) rfl ?_
    refine g_52 (a := 3) (b := 2) (nx := 12) (by decide +kernel) h0 ?_
    refine g_5 (a := 3) (b := 0) (nx := 13) (by decide +kernel) rfl ?_
    refine g_61 (a := 0) (b := 0) (nx := 14) (by decide +kernel) h.1 ?_
    replace h := h.2
    refine g_5 (a := 2) (b := 0) (nx := 15) (by decide +kernel) rfl ?_
    refine g_5 (a := 1) (b := 0) (nx := 16) (by decide +kernel) rfl ?_
    refine g_1 (a := 1) (b := 0) (nx := 17) (by decide +kernel) ?_
    refine g_16 (a := 0) (b := 0) (nx := 18) (by decide +kernel) ?_
    refine g_5 (a := 3) (b := 0) (nx := 19) (by decide +kernel) rfl ?_
    refine g_16 (a := 0) (b := 0) (nx := 20) (by decide +kernel) ?_
    refine g_16 (a := 0) (b := 0) (nx := 21) (by decide +kernel) ?_
    obtain ⟨r2, h⟩ := h
    obtain ⟨r3, h⟩ := h
    by_cases c4 : (x2 - ((x1 - 1) - x3)) ≤ (M (M x0 2) x3)
    · rw [if_pos c4] at h
      refine g_41t (a := 3) (b := 71) (nx := 24) (by decide +kernel) (by rw [wr_id r2, wr_id r3]; exact (cb_3 _ _).mpr c4) ?_
      refine g_11 (a := 3) (b := (-1)) (nx := 74) (by decide +kernel) rfl rfl (ls' := [some (vR x0), some (vI x1), some (vI x2), some (vI (x3 + (-1))), none]) rfl ?_
      refine g_44 (a := 0) (b := 4) (nx := 77) (by decide +kernel) ?_
      exact h
    · rw [if_neg c4] at h
      refine g_41f (a := 3) (b := 71) (nx := 24) (by decide +kernel) (by rw [wr_id r2, wr_id r3]; exact fun hz => c4 ((cb_3 _ _).mp hz)) ?_
      refine g_7 (a := 0) (b := 0) (nx := 25) (by decide +kernel) rfl ?_
      refine g_52 (a := 3) (b := 2) (nx := 28) (by decide +kernel) h0 ?_
      refine g_5 (a := 3) (b := 0) (nx := 29) (by decide +kernel) rfl ?_
      refine g_14 (a := 0) (b := 0) (nx := 30) (by decide +kernel) rfl rfl ?_
      refine g_61 (a := 0) (b := 0) (nx := 31) (by decide +kernel) h.1 ?_
      replace h := h.2
      refine g_1 (a := 1) (b := 0) (nx := 32) (by decide +kernel) ?_
      refine g_15 (a := 0) (b := 0) (nx := 33) (by decide +kernel) ?_
      refine g_62 (a := 0) (b := 0) (nx := 34) (by decide +kernel) h.1 ?_
      replace h := h.2
      refine g_5 (a := 3) (b := 0) (nx := 35) (by decide +kernel) rfl ?_
      refine g_1 (a := 1) (b := 0) (nx := 36) (by decide +kernel) ?_
      refine g_15 (a := 0) (b := 0) (nx := 37) (by decide +kernel) ?_
      refine g_8 (a := 4) (b := 0) (nx := 39) (by decide +kernel) rfl (ls' := [some (vR x0), some (vI x1), some (vI x2), some (vI x3), some (vI (x3 + 1))]) rfl ?_
      exact h
theorem t_59_39 {x0 x1 x2 x3 x4 : Int} {M : Mem} {Q : AV → Mem → Prop} (h0 : gO 3 x0) (h : inR x4 ∧ (inR x1 ∧ (if x1 ≤ x4 then (Q (vI 1) M) else ((gA 20 (M x0 2) (x4 - 1)) ∧ (gA 20 (M x0 2) x4) ∧ WR 59 39 [some (vR x0), some (vI x1), some (vI x2), some (vI x3), some (vI (x4 + 1))] [] (upM M (M x0 2) x4 ((M (M x0 2) (x4 - 1)) + 1)) Q)))) : WR 59 39 [some (vR x0), some (vI x1), some (vI x2), some (vI x3), some (vI x4)] [] M Q := by
  refine g_5 (a := 4) (b := 0) (nx := 41) (by decide +kernel) rfl ?_
  refine g_5 (a := 1) (b := 0) (nx := 42) (by decide +kernel) rfl ?_
  obtain ⟨r1, h⟩ := h
  obtain ⟨r2, h⟩ := h
  by_cases c3 : x1 ≤ x4
  · rw [if_pos c3] at h
    refine g_41t (a := 3) (b := 69) (nx := 45) (by decide +kernel) (by rw [wr_id r1, wr_id r2]; exact (cb_3 _ _).mpr c3) ?_
    refine g_1 (a := 1) (b := 0) (nx := 70) (by decide +kernel) ?_
    exact g_91z (b := 0) (nx := 71) (by decide +kernel) (by decide) h
  · rw [if_neg c3] at h
    refine g_41f (a := 3) (b := 69) (nx := 45) (by decide +kernel) (by rw [wr_id r1, wr_id r2]; exact fun hz => c3 ((cb_3 _ _).mp hz)) ?_
    refine g_7 (a := 0) (b := 0) (nx := 46) (by decide +kernel) rfl ?_
    refine g_52 (a := 3) (b := 2) (nx := 49) (by decide +kernel) h0 ?_
    refine g_5 (a := 4) (b := 0) (nx := 51) (by decide +kernel) rfl ?_
    refine g_7 (a := 0) (b := 0) (nx := 52) (by decide +kernel) rfl ?_
    refine g_52 (a := 3) (b := 2) (nx := 55) (by decide +kernel) h0 ?_
    refine g_5 (a := 4) (b := 0) (nx := 57) (by decide +kernel) rfl ?_
    refine g_1 (a := 1) (b := 0) (nx := 58) (by decide +kernel) ?_
    refine g_16 (a := 0) (b := 0) (nx := 59) (by decide +kernel) ?_
    refine g_61 (a := 0) (b := 0) (nx := 60) (by decide +kernel) h.1 ?_
    replace h := h.2
    refine g_1 (a := 1) (b := 0) (nx := 61) (by decide +kernel) ?_
    refine g_15 (a := 0) (b := 0) (nx := 62) (by decide +kernel) ?_
    refine g_62 (a := 0) (b := 0) (nx := 63) (by decide +kernel) h.1 ?_
    replace h := h.2
    refine g_11 (a := 4) (b := 1) (nx := 66) (by decide +kernel) rfl rfl (ls' := [some (vR x0), some (vI x1), some (vI x2), some (vI x3), some (vI (x4 + 1))]) rfl ?_
    refine g_44 (a := 0) (b := 39) (nx := 69) (by decide +kernel) ?_
    exact h
-- 60 SyllableMaker$Mender.fits(LSyllableMaker$Law;LSyllableMaker$Row;I)Z
theorem t_60 {x0 x1 x2 x3 : Int} {M : Mem} {Q : AV → Mem → Prop} (h0 : gO 3 x0) (h : ((shA SH (M x0 1)).1 = 5) ∧ WV 79 [vR (M x0 1)] M (fun M1 => WR 60 13 [some (vR x0), some (vR x1), some (vR x2), some (vI x3), some (vI 0), some (vI 0), none] [] M1 Q)) : WC 60 [vR x0, vR x1, vR x2, vI x3] M Q := by
  show WR 60 0 [some (vR x0), some (vR x1), some (vR x2), some (vI x3), none, none, none] [] M Q
  refine g_7 (a := 0) (b := 0) (nx := 1) (by decide +kernel) rfl ?_
  refine g_52 (a := 3) (b := 1) (nx := 4) (by decide +kernel) h0 ?_
  refine g_80 (a := 79) (b := 0) (nx := 7) (by decide +kernel) (r := (M x0 1)) (As := []) (st' := []) (z := 79) rfl rfl rfl (Nat.le_of_ble_eq_true rfl) h.1 (Nat.le_of_ble_eq_true rfl) rfl (c_V (by decide +kernel) h.2 (fun M1 h => ?_))
  refine g_1 (a := 0) (b := 0) (nx := 8) (by decide +kernel) ?_
  refine g_8 (a := 4) (b := 0) (nx := 10) (by decide +kernel) rfl (ls' := [some (vR x0), some (vR x1), some (vR x2), some (vI x3), some (vI 0), none, none]) rfl ?_
  refine g_1 (a := 0) (b := 0) (nx := 11) (by decide +kernel) ?_
  refine g_8 (a := 5) (b := 0) (nx := 13) (by decide +kernel) rfl (ls' := [some (vR x0), some (vR x1), some (vR x2), some (vI x3), some (vI 0), some (vI 0), none]) rfl ?_
  exact h
theorem t_60_13 {x0 x1 x2 x3 x4 x5 : Int} {l6 : Option AV} {M : Mem} {Q : AV → Mem → Prop} (h0 : gO 3 x0) (h : (gO 5 x2) ∧ inR x5 ∧ (inR (M x2 1) ∧ (if (M x2 1) < x5 then (((shA SH (M x0 0)).1 = 1) ∧ WV 11 [vR (M x0 0), vR x1, vR (M x0 1)] M (fun M3 => ((shA SH (M3 x0 0)).1 = 1) ∧ WV 17 [vR (M3 x0 0)] M3 (fun M5 => (gO 1 (M5 x0 0)) ∧ inR (M5 (M5 x0 0) 9) ∧ (if (M5 (M5 x0 0) 9) ≤ 0 then (Q (vI 0) M5) else (((shA SH (M5 x0 0)).1 = 1) ∧ WI 37 [vR (M5 x0 0)] M5 (fun y9 M8 => inR y9 ∧ (if y9 = (-1) then (Q (vI 1) M8) else (Q (vI 0) M8)))))))) else (inR x4 ∧ (inR x3 ∧ (if x3 ≤ x4 then ((gO 5 x2) ∧ if (M x2 1) ≤ x5 then (WR 60 13 [some (vR x0), some (vR x1), some (vR x2), some (vI x3), some (vI x4), some (vI (x5 + 1)), l6] [] M Q) else (((shA SH x2).1 = 5) ∧ WI 82 [vR x2, vI x5] M (fun y16 M15 => (gO 2 x1) ∧ ((shA SH (M15 x1 0)).1 = 6) ∧ WI 94 [vR (M15 x1 0), vI y16] M15 (fun y18 M17 => ((shA SH (M15 x0 1)).1 = 5) ∧ WV 80 [vR (M15 x0 1), vI y16, vI y18] M17 (fun M19 => WR 60 13 [some (vR x0), some (vR x1), some (vR x2), some (vI x3), some (vI x4), some (vI (x5 + 1)), some (vI y16)] [] M19 Q))))) else ((gA 20 (M x0 2) x4) ∧ inR (M (M x0 2) x4) ∧ (if (M (M x0 2) x4) = x5 then ((gO 2 x1) ∧ ((shA SH (M x0 1)).1 = 5) ∧ WV 80 [vR (M x0 1), vI (M x1 16), vI 1] M (fun M30 => (gO 5 x2) ∧ inR (M30 x2 1) ∧ (if (M30 x2 1) ≤ x5 then (WR 60 13 [some (vR x0), some (vR x1), some (vR x2), some (vI x3), some (vI (x4 + 1)), some (vI (x5 + 1)), l6] [] M30 Q) else (((shA SH x2).1 = 5) ∧ WI 82 [vR x2, vI x5] M30 (fun y34 M33 => (gO 2 x1) ∧ ((shA SH (M33 x1 0)).1 = 6) ∧ WI 94 [vR (M33 x1 0), vI y34] M33 (fun y36 M35 => ((shA SH (M33 x0 1)).1 = 5) ∧ WV 80 [vR (M33 x0 1), vI y34, vI y36] M35 (fun M37 => WR 60 13 [some (vR x0), some (vR x1), some (vR x2), some (vI x3), some (vI (x4 + 1)), some (vI (x5 + 1)), some (vI y34)] [] M37 Q))))))) else ((gO 5 x2) ∧ if (M x2 1) ≤ x5 then (WR 60 13 [some (vR x0), some (vR x1), some (vR x2), some (vI x3), some (vI x4), some (vI (x5 + 1)), l6] [] M Q) else (((shA SH x2).1 = 5) ∧ WI 82 [vR x2, vI x5] M (fun y24 M23 => (gO 2 x1) ∧ ((shA SH (M23 x1 0)).1 = 6) ∧ WI 94 [vR (M23 x1 0), vI y24] M23 (fun y26 M25 => ((shA SH (M23 x0 1)).1 = 5) ∧ WV 80 [vR (M23 x0 1), vI y24, vI y26] M25 (fun M27 => WR 60 13 [some (vR x0), some (vR x1), some (vR x2), some (vI x3), some (vI x4), some (vI (x5 + 1)), some (vI y24)] [] M27 Q))))))))))))) : WR 60 13 [some (vR x0), some (vR x1), some (vR x2), some (vI x3), some (vI x4), some (vI x5), l6] [] M Q := by
  refine g_5 (a := 5) (b := 0) (nx := 15) (by decide +kernel) rfl ?_
  refine g_7 (a := 2) (b := 0) (nx := 16) (by decide +kernel) rfl ?_
  refine g_50 (a := 5) (b := 1) (nx := 19) (by decide +kernel) h.1 ?_
  replace h := h.2
  obtain ⟨r1, h⟩ := h
  obtain ⟨r2, h⟩ := h
  by_cases c42 : (M x2 1) < x5
  · rw [if_pos c42] at h
    refine g_41t (a := 4) (b := 96) (nx := 22) (by decide +kernel) (by rw [wr_id r1, wr_id r2]; exact (cb_4 _ _).mpr c42) ?_
    refine g_7 (a := 0) (b := 0) (nx := 97) (by decide +kernel) rfl ?_
    refine g_52 (a := 3) (b := 0) (nx := 100) (by decide +kernel) h0 ?_
    refine g_7 (a := 1) (b := 0) (nx := 101) (by decide +kernel) rfl ?_
    refine g_7 (a := 0) (b := 0) (nx := 102) (by decide +kernel) rfl ?_
    refine g_52 (a := 3) (b := 1) (nx := 105) (by decide +kernel) h0 ?_
    refine g_80 (a := 11) (b := 2) (nx := 108) (by decide +kernel) (r := (M x0 0)) (As := [vR x1, vR (M x0 1)]) (st' := []) (z := 11) rfl rfl rfl (Nat.le_of_ble_eq_true rfl) h.1 (Nat.le_of_ble_eq_true rfl) rfl (c_V (by decide +kernel) h.2 (fun M3 h => ?_))
    refine g_7 (a := 0) (b := 0) (nx := 109) (by decide +kernel) rfl ?_
    refine g_52 (a := 3) (b := 0) (nx := 112) (by decide +kernel) h0 ?_
    refine g_80 (a := 17) (b := 0) (nx := 115) (by decide +kernel) (r := (M3 x0 0)) (As := []) (st' := []) (z := 17) rfl rfl rfl (Nat.le_of_ble_eq_true rfl) h.1 (Nat.le_of_ble_eq_true rfl) rfl (c_V (by decide +kernel) h.2 (fun M5 h => ?_))
    refine g_7 (a := 0) (b := 0) (nx := 116) (by decide +kernel) rfl ?_
    refine g_52 (a := 3) (b := 0) (nx := 119) (by decide +kernel) h0 ?_
    refine g_50 (a := 1) (b := 9) (nx := 122) (by decide +kernel) h.1 ?_
    replace h := h.2
    obtain ⟨r7, h⟩ := h
    by_cases c12 : (M5 (M5 x0 0) 9) ≤ 0
    · rw [if_pos c12] at h
      refine g_40t (a := 5) (b := 140) (nx := 125) (by decide +kernel) r7 (by exact (cb_5 _ _).mpr c12) ?_
      refine g_1 (a := 0) (b := 0) (nx := 141) (by decide +kernel) ?_
      exact g_91z (b := 0) (nx := 142) (by decide +kernel) (by decide) h
    · rw [if_neg c12] at h
      refine g_40f (a := 5) (b := 140) (nx := 125) (by decide +kernel) r7 (by exact fun hz => c12 ((cb_5 _ _).mp hz)) ?_
      refine g_7 (a := 0) (b := 0) (nx := 126) (by decide +kernel) rfl ?_
      refine g_52 (a := 3) (b := 0) (nx := 129) (by decide +kernel) h0 ?_
      refine g_80 (a := 37) (b := 0) (nx := 132) (by decide +kernel) (r := (M5 x0 0)) (As := []) (st' := []) (z := 37) rfl rfl rfl (Nat.le_of_ble_eq_true rfl) h.1 (Nat.le_of_ble_eq_true rfl) rfl (c_I (by decide +kernel) h.2 (fun y9 M8 h => ?_))
      refine g_1 (a := (-1)) (b := 0) (nx := 133) (by decide +kernel) ?_
      obtain ⟨r10, h⟩ := h
      by_cases c11 : y9 = (-1)
      · rw [if_pos c11] at h
        refine g_41f (a := 1) (b := 140) (nx := 136) (by decide +kernel) (by rw [wr_id r10, wr_id (show inR (-1) by decide)]; exact fun hz => ((cb_1 _ _).mp hz) c11) ?_
        refine g_1 (a := 1) (b := 0) (nx := 137) (by decide +kernel) ?_
        refine g_44 (a := 0) (b := 141) (nx := 140) (by decide +kernel) ?_
        exact g_91z (b := 0) (nx := 142) (by decide +kernel) (by decide) h
      · rw [if_neg c11] at h
        refine g_41t (a := 1) (b := 140) (nx := 136) (by decide +kernel) (by rw [wr_id r10, wr_id (show inR (-1) by decide)]; exact (cb_1 _ _).mpr c11) ?_
        refine g_1 (a := 0) (b := 0) (nx := 141) (by decide +kernel) ?_
        exact g_91z (b := 0) (nx := 142) (by decide +kernel) (by decide) h
  · rw [if_neg c42] at h
    refine g_41f (a := 4) (b := 96) (nx := 22) (by decide +kernel) (by rw [wr_id r1, wr_id r2]; exact fun hz => c42 ((cb_4 _ _).mp hz)) ?_
    refine g_5 (a := 4) (b := 0) (nx := 24) (by decide +kernel) rfl ?_
    refine g_5 (a := 3) (b := 0) (nx := 25) (by decide +kernel) rfl ?_
    obtain ⟨r13, h⟩ := h
    obtain ⟨r14, h⟩ := h
    by_cases c41 : x3 ≤ x4
    · rw [if_pos c41] at h
      refine g_41t (a := 3) (b := 55) (nx := 28) (by decide +kernel) (by rw [wr_id r13, wr_id r14]; exact (cb_3 _ _).mpr c41) ?_
      refine g_5 (a := 5) (b := 0) (nx := 57) (by decide +kernel) rfl ?_
      refine g_7 (a := 2) (b := 0) (nx := 58) (by decide +kernel) rfl ?_
      refine g_50 (a := 5) (b := 1) (nx := 61) (by decide +kernel) h.1 ?_
      replace h := h.2
      by_cases c21 : (M x2 1) ≤ x5
      · rw [if_pos c21] at h
        refine g_41t (a := 3) (b := 90) (nx := 64) (by decide +kernel) (by rw [wr_id r1, wr_id r2]; exact (cb_3 _ _).mpr c21) ?_
        refine g_11 (a := 5) (b := 1) (nx := 93) (by decide +kernel) rfl rfl (ls' := [some (vR x0), some (vR x1), some (vR x2), some (vI x3), some (vI x4), some (vI (x5 + 1)), l6]) rfl ?_
        refine g_44 (a := 0) (b := 13) (nx := 96) (by decide +kernel) ?_
        exact h
      · rw [if_neg c21] at h
        refine g_41f (a := 3) (b := 90) (nx := 64) (by decide +kernel) (by rw [wr_id r1, wr_id r2]; exact fun hz => c21 ((cb_3 _ _).mp hz)) ?_
        refine g_7 (a := 2) (b := 0) (nx := 65) (by decide +kernel) rfl ?_
        refine g_5 (a := 5) (b := 0) (nx := 67) (by decide +kernel) rfl ?_
        refine g_80 (a := 82) (b := 1) (nx := 70) (by decide +kernel) (r := x2) (As := [vI x5]) (st' := []) (z := 82) rfl rfl rfl (Nat.le_of_ble_eq_true rfl) h.1 (Nat.le_of_ble_eq_true rfl) rfl (c_I (by decide +kernel) h.2 (fun y16 M15 h => ?_))
        refine g_8 (a := 6) (b := 0) (nx := 72) (by decide +kernel) rfl (ls' := [some (vR x0), some (vR x1), some (vR x2), some (vI x3), some (vI x4), some (vI x5), some (vI y16)]) rfl ?_
        refine g_7 (a := 0) (b := 0) (nx := 73) (by decide +kernel) rfl ?_
        refine g_52 (a := 3) (b := 1) (nx := 76) (by decide +kernel) h0 ?_
        refine g_5 (a := 6) (b := 0) (nx := 78) (by decide +kernel) rfl ?_
        refine g_7 (a := 1) (b := 0) (nx := 79) (by decide +kernel) rfl ?_
        refine g_52 (a := 2) (b := 0) (nx := 82) (by decide +kernel) h.1 ?_
        replace h := h.2
        refine g_5 (a := 6) (b := 0) (nx := 84) (by decide +kernel) rfl ?_
        refine g_80 (a := 94) (b := 1) (nx := 87) (by decide +kernel) (r := (M15 x1 0)) (As := [vI y16]) (st' := [vI y16, vR (M15 x0 1)]) (z := 94) rfl rfl rfl (Nat.le_of_ble_eq_true rfl) h.1 (Nat.le_of_ble_eq_true rfl) rfl (c_I (by decide +kernel) h.2 (fun y18 M17 h => ?_))
        refine g_80 (a := 80) (b := 2) (nx := 90) (by decide +kernel) (r := (M15 x0 1)) (As := [vI y16, vI y18]) (st' := []) (z := 80) rfl rfl rfl (Nat.le_of_ble_eq_true rfl) h.1 (Nat.le_of_ble_eq_true rfl) rfl (c_V (by decide +kernel) h.2 (fun M19 h => ?_))
        refine g_11 (a := 5) (b := 1) (nx := 93) (by decide +kernel) rfl rfl (ls' := [some (vR x0), some (vR x1), some (vR x2), some (vI x3), some (vI x4), some (vI (x5 + 1)), some (vI y16)]) rfl ?_
        refine g_44 (a := 0) (b := 13) (nx := 96) (by decide +kernel) ?_
        exact h
    · rw [if_neg c41] at h
      refine g_41f (a := 3) (b := 55) (nx := 28) (by decide +kernel) (by rw [wr_id r13, wr_id r14]; exact fun hz => c41 ((cb_3 _ _).mp hz)) ?_
      refine g_7 (a := 0) (b := 0) (nx := 29) (by decide +kernel) rfl ?_
      refine g_52 (a := 3) (b := 2) (nx := 32) (by decide +kernel) h0 ?_
      refine g_5 (a := 4) (b := 0) (nx := 34) (by decide +kernel) rfl ?_
      refine g_61 (a := 0) (b := 0) (nx := 35) (by decide +kernel) h.1 ?_
      replace h := h.2
      refine g_5 (a := 5) (b := 0) (nx := 37) (by decide +kernel) rfl ?_
      obtain ⟨r22, h⟩ := h
      by_cases c40 : (M (M x0 2) x4) = x5
      · rw [if_pos c40] at h
        refine g_41f (a := 1) (b := 55) (nx := 40) (by decide +kernel) (by rw [wr_id r22, wr_id r1]; exact fun hz => ((cb_1 _ _).mp hz) c40) ?_
        refine g_7 (a := 0) (b := 0) (nx := 41) (by decide +kernel) rfl ?_
        refine g_52 (a := 3) (b := 1) (nx := 44) (by decide +kernel) h0 ?_
        refine g_7 (a := 1) (b := 0) (nx := 45) (by decide +kernel) rfl ?_
        refine g_50 (a := 2) (b := 16) (nx := 48) (by decide +kernel) h.1 ?_
        replace h := h.2
        refine g_1 (a := 1) (b := 0) (nx := 49) (by decide +kernel) ?_
        refine g_80 (a := 80) (b := 2) (nx := 52) (by decide +kernel) (r := (M x0 1)) (As := [vI (M x1 16), vI 1]) (st' := []) (z := 80) rfl rfl rfl (Nat.le_of_ble_eq_true rfl) h.1 (Nat.le_of_ble_eq_true rfl) rfl (c_V (by decide +kernel) h.2 (fun M30 h => ?_))
        refine g_11 (a := 4) (b := 1) (nx := 55) (by decide +kernel) rfl rfl (ls' := [some (vR x0), some (vR x1), some (vR x2), some (vI x3), some (vI (x4 + 1)), some (vI x5), l6]) rfl ?_
        refine g_5 (a := 5) (b := 0) (nx := 57) (by decide +kernel) rfl ?_
        refine g_7 (a := 2) (b := 0) (nx := 58) (by decide +kernel) rfl ?_
        refine g_50 (a := 5) (b := 1) (nx := 61) (by decide +kernel) h.1 ?_
        replace h := h.2
        obtain ⟨r32, h⟩ := h
        by_cases c39 : (M30 x2 1) ≤ x5
        · rw [if_pos c39] at h
          refine g_41t (a := 3) (b := 90) (nx := 64) (by decide +kernel) (by rw [wr_id r1, wr_id r32]; exact (cb_3 _ _).mpr c39) ?_
          refine g_11 (a := 5) (b := 1) (nx := 93) (by decide +kernel) rfl rfl (ls' := [some (vR x0), some (vR x1), some (vR x2), some (vI x3), some (vI (x4 + 1)), some (vI (x5 + 1)), l6]) rfl ?_
          refine g_44 (a := 0) (b := 13) (nx := 96) (by decide +kernel) ?_
          exact h
        · rw [if_neg c39] at h
          refine g_41f (a := 3) (b := 90) (nx := 64) (by decide +kernel) (by rw [wr_id r1, wr_id r32]; exact fun hz => c39 ((cb_3 _ _).mp hz)) ?_
          refine g_7 (a := 2) (b := 0) (nx := 65) (by decide +kernel) rfl ?_
          refine g_5 (a := 5) (b := 0) (nx := 67) (by decide +kernel) rfl ?_
          refine g_80 (a := 82) (b := 1) (nx := 70) (by decide +kernel) (r := x2) (As := [vI x5]) (st' := []) (z := 82) rfl rfl rfl (Nat.le_of_ble_eq_true rfl) h.1 (Nat.le_of_ble_eq_true rfl) rfl (c_I (by decide +kernel) h.2 (fun y34 M33 h => ?_))
          refine g_8 (a := 6) (b := 0) (nx := 72) (by decide +kernel) rfl (ls' := [some (vR x0), some (vR x1), some (vR x2), some (vI x3), some (vI (x4 + 1)), some (vI x5), some (vI y34)]) rfl ?_
          refine g_7 (a := 0) (b := 0) (nx := 73) (by decide +kernel) rfl ?_
          refine g_52 (a := 3) (b := 1) (nx := 76) (by decide +kernel) h0 ?_
          refine g_5 (a := 6) (b := 0) (nx := 78) (by decide +kernel) rfl ?_
          refine g_7 (a := 1) (b := 0) (nx := 79) (by decide +kernel) rfl ?_
          refine g_52 (a := 2) (b := 0) (nx := 82) (by decide +kernel) h.1 ?_
          replace h := h.2
          refine g_5 (a := 6) (b := 0) (nx := 84) (by decide +kernel) rfl ?_
          refine g_80 (a := 94) (b := 1) (nx := 87) (by decide +kernel) (r := (M33 x1 0)) (As := [vI y34]) (st' := [vI y34, vR (M33 x0 1)]) (z := 94) rfl rfl rfl (Nat.le_of_ble_eq_true rfl) h.1 (Nat.le_of_ble_eq_true rfl) rfl (c_I (by decide +kernel) h.2 (fun y36 M35 h => ?_))
          refine g_80 (a := 80) (b := 2) (nx := 90) (by decide +kernel) (r := (M33 x0 1)) (As := [vI y34, vI y36]) (st' := []) (z := 80) rfl rfl rfl (Nat.le_of_ble_eq_true rfl) h.1 (Nat.le_of_ble_eq_true rfl) rfl (c_V (by decide +kernel) h.2 (fun M37 h => ?_))
          refine g_11 (a := 5) (b := 1) (nx := 93) (by decide +kernel) rfl rfl (ls' := [some (vR x0), some (vR x1), some (vR x2), some (vI x3), some (vI (x4 + 1)), some (vI (x5 + 1)), some (vI y34)]) rfl ?_
          refine g_44 (a := 0) (b := 13) (nx := 96) (by decide +kernel) ?_
          exact h
      · rw [if_neg c40] at h
        refine g_41t (a := 1) (b := 55) (nx := 40) (by decide +kernel) (by rw [wr_id r22, wr_id r1]; exact (cb_1 _ _).mpr c40) ?_
        refine g_5 (a := 5) (b := 0) (nx := 57) (by decide +kernel) rfl ?_
        refine g_7 (a := 2) (b := 0) (nx := 58) (by decide +kernel) rfl ?_
        refine g_50 (a := 5) (b := 1) (nx := 61) (by decide +kernel) h.1 ?_
        replace h := h.2
        by_cases c29 : (M x2 1) ≤ x5
        · rw [if_pos c29] at h
          refine g_41t (a := 3) (b := 90) (nx := 64) (by decide +kernel) (by rw [wr_id r1, wr_id r2]; exact (cb_3 _ _).mpr c29) ?_
          refine g_11 (a := 5) (b := 1) (nx := 93) (by decide +kernel) rfl rfl (ls' := [some (vR x0), some (vR x1), some (vR x2), some (vI x3), some (vI x4), some (vI (x5 + 1)), l6]) rfl ?_
          refine g_44 (a := 0) (b := 13) (nx := 96) (by decide +kernel) ?_
          exact h
        · rw [if_neg c29] at h
          refine g_41f (a := 3) (b := 90) (nx := 64) (by decide +kernel) (by rw [wr_id r1, wr_id r2]; exact fun hz => c29 ((cb_3 _ _).mp hz)) ?_
          refine g_7 (a := 2) (b := 0) (nx := 65) (by decide +kernel) rfl ?_
          refine g_5 (a := 5) (b := 0) (nx := 67) (by decide +kernel) rfl ?_
          refine g_80 (a := 82) (b := 1) (nx := 70) (by decide +kernel) (r := x2) (As := [vI x5]) (st' := []) (z := 82) rfl rfl rfl (Nat.le_of_ble_eq_true rfl) h.1 (Nat.le_of_ble_eq_true rfl) rfl (c_I (by decide +kernel) h.2 (fun y24 M23 h => ?_))
          refine g_8 (a := 6) (b := 0) (nx := 72) (by decide +kernel) rfl (ls' := [some (vR x0), some (vR x1), some (vR x2), some (vI x3), some (vI x4), some (vI x5), some (vI y24)]) rfl ?_
          refine g_7 (a := 0) (b := 0) (nx := 73) (by decide +kernel) rfl ?_
          refine g_52 (a := 3) (b := 1) (nx := 76) (by decide +kernel) h0 ?_
          refine g_5 (a := 6) (b := 0) (nx := 78) (by decide +kernel) rfl ?_
          refine g_7 (a := 1) (b := 0) (nx := 79) (by decide +kernel) rfl ?_
          refine g_52 (a := 2) (b := 0) (nx := 82) (by decide +kernel) h.1 ?_
          replace h := h.2
          refine g_5 (a := 6) (b := 0) (nx := 84) (by decide +kernel) rfl ?_
          refine g_80 (a := 94) (b := 1) (nx := 87) (by decide +kernel) (r := (M23 x1 0)) (As := [vI y24]) (st' := [vI y24, vR (M23 x0 1)]) (z := 94) rfl rfl rfl (Nat.le_of_ble_eq_true rfl) h.1 (Nat.le_of_ble_eq_true rfl) rfl (c_I (by decide +kernel) h.2 (fun y26 M25 h => ?_))
          refine g_80 (a := 80) (b := 2) (nx := 90) (by decide +kernel) (r := (M23 x0 1)) (As := [vI y24, vI y26]) (st' := []) (z := 80) rfl rfl rfl (Nat.le_of_ble_eq_true rfl) h.1 (Nat.le_of_ble_eq_true rfl) rfl (c_V (by decide +kernel) h.2 (fun M27 h => ?_))
          refine g_11 (a := 5) (b := 1) (nx := 93) (by decide +kernel) rfl rfl (ls' := [some (vR x0), some (vR x1), some (vR x2), some (vI x3), some (vI x4), some (vI (x5 + 1)), some (vI y24)]) rfl ?_
          refine g_44 (a := 0) (b := 13) (nx := 96) (by decide +kernel) ?_
          exact h
-- 61 SyllableMaker$Mender.placeOf(I)I
theorem t_61 {x0 x1 : Int} {M : Mem} {Q : AV → Mem → Prop} (h0 : gO 3 x0) (h : inR x1 ∧ (if x1 < 0 then (Q (vI (-1)) M) else (((M x0 2) ≠ -2000 ∧ 20 ≤ (shA SH (M x0 2)).1 ∧ (shA SH (M x0 2)).1 ≤ 41 ∧ (shA SH (M x0 2)).1 ≠ 40) ∧ inR ((shA SH (M x0 2)).2 : Int) ∧ (if ((shA SH (M x0 2)).2 : Int) ≤ x1 then (Q (vI (-1)) M) else ((gA 20 (M x0 2) x1) ∧ Q (vI (M (M x0 2) x1)) M))))) : WC 61 [vR x0, vI x1] M Q := by
  show WR 61 0 [some (vR x0), some (vI x1)] [] M Q
  refine g_5 (a := 1) (b := 0) (nx := 1) (by decide +kernel) rfl ?_
  obtain ⟨r1, h⟩ := h
  by_cases c4 : x1 < 0
  · rw [if_pos c4] at h
    refine g_40t (a := 2) (b := 22) (nx := 4) (by decide +kernel) r1 (by exact (cb_2 _ _).mpr c4) ?_
    refine g_1 (a := (-1)) (b := 0) (nx := 23) (by decide +kernel) ?_
    exact g_91 (b := 0) (nx := 24) (by decide +kernel) h
  · rw [if_neg c4] at h
    refine g_40f (a := 2) (b := 22) (nx := 4) (by decide +kernel) r1 (by exact fun hz => c4 ((cb_2 _ _).mp hz)) ?_
    refine g_5 (a := 1) (b := 0) (nx := 5) (by decide +kernel) rfl ?_
    refine g_7 (a := 0) (b := 0) (nx := 6) (by decide +kernel) rfl ?_
    refine g_52 (a := 3) (b := 2) (nx := 9) (by decide +kernel) h0 ?_
    refine g_60 (a := 0) (b := 0) (nx := 10) (by decide +kernel) h.1.1 h.1.2 ?_
    replace h := h.2
    obtain ⟨r2, h⟩ := h
    by_cases c3 : ((shA SH (M x0 2)).2 : Int) ≤ x1
    · rw [if_pos c3] at h
      refine g_41t (a := 3) (b := 22) (nx := 13) (by decide +kernel) (by rw [wr_id r1, wr_id r2]; exact (cb_3 _ _).mpr c3) ?_
      refine g_1 (a := (-1)) (b := 0) (nx := 23) (by decide +kernel) ?_
      exact g_91 (b := 0) (nx := 24) (by decide +kernel) h
    · rw [if_neg c3] at h
      refine g_41f (a := 3) (b := 22) (nx := 13) (by decide +kernel) (by rw [wr_id r1, wr_id r2]; exact fun hz => c3 ((cb_3 _ _).mp hz)) ?_
      refine g_7 (a := 0) (b := 0) (nx := 14) (by decide +kernel) rfl ?_
      refine g_52 (a := 3) (b := 2) (nx := 17) (by decide +kernel) h0 ?_
      refine g_5 (a := 1) (b := 0) (nx := 18) (by decide +kernel) rfl ?_
      refine g_61 (a := 0) (b := 0) (nx := 19) (by decide +kernel) h.1 ?_
      replace h := h.2
      refine g_44 (a := 0) (b := 23) (nx := 22) (by decide +kernel) ?_
      exact g_91 (b := 0) (nx := 24) (by decide +kernel) h
-- 63 SyllableMaker$Reader.readLaw(LSyllableMaker$Law;)Z
theorem t_63 {x0 x1 : Int} {M : Mem} {Q : AV → Mem → Prop} (h0 : gO 4 x0) (h : (0 ≤ x1) ∧ ((shA SH ((upM M x0 4 x1) x0 4)).1 = 2) ∧ WV 40 [vR ((upM M x0 4 x1) x0 4)] (upM M x0 4 x1) (fun M1 => WR 63 14 [some (vR x0), some (vR x1), some (vI 0)] [] M1 Q)) : WC 63 [vR x0, vR x1] M Q := by
  show WR 63 0 [some (vR x0), some (vR x1), none] [] M Q
  refine g_7 (a := 0) (b := 0) (nx := 1) (by decide +kernel) rfl ?_
  refine g_7 (a := 1) (b := 0) (nx := 2) (by decide +kernel) rfl ?_
  refine g_55 (a := 4) (b := 4) (nx := 5) (by decide +kernel) h0 h.1 ?_
  replace h := h.2
  refine g_7 (a := 0) (b := 0) (nx := 6) (by decide +kernel) rfl ?_
  refine g_52 (a := 4) (b := 4) (nx := 9) (by decide +kernel) h0 ?_
  refine g_80 (a := 40) (b := 0) (nx := 12) (by decide +kernel) (r := ((upM M x0 4 x1) x0 4)) (As := []) (st' := []) (z := 40) rfl rfl rfl (Nat.le_of_ble_eq_true rfl) h.1 (Nat.le_of_ble_eq_true rfl) rfl (c_V (by decide +kernel) h.2 (fun M1 h => ?_))
  refine g_1 (a := 0) (b := 0) (nx := 13) (by decide +kernel) ?_
  refine g_8 (a := 2) (b := 0) (nx := 14) (by decide +kernel) rfl (ls' := [some (vR x0), some (vR x1), some (vI 0)]) rfl ?_
  exact h
theorem t_63_14 {x0 x1 x2 : Int} {M : Mem} {Q : AV → Mem → Prop} (h0 : gO 4 x0) (h : ((M x0 2) ≠ -2000 ∧ 20 ≤ (shA SH (M x0 2)).1 ∧ (shA SH (M x0 2)).1 ≤ 41 ∧ (shA SH (M x0 2)).1 ≠ 40) ∧ inR x2 ∧ (inR ((shA SH (M x0 2)).2 : Int) ∧ (if ((shA SH (M x0 2)).2 : Int) ≤ x2 then (WR 63 38 [some (vR x0), some (vR x1), some (vI 0)] [] M Q) else ((gA 20 (M x0 2) x2) ∧ WR 63 14 [some (vR x0), some (vR x1), some (vI (x2 + 1))] [] (upM M (M x0 2) x2 0) Q)))) : WR 63 14 [some (vR x0), some (vR x1), some (vI x2)] [] M Q := by
  refine g_5 (a := 2) (b := 0) (nx := 15) (by decide +kernel) rfl ?_
  refine g_7 (a := 0) (b := 0) (nx := 16) (by decide +kernel) rfl ?_
  refine g_52 (a := 4) (b := 2) (nx := 19) (by decide +kernel) h0 ?_
  refine g_60 (a := 0) (b := 0) (nx := 20) (by decide +kernel) h.1.1 h.1.2 ?_
  replace h := h.2
  obtain ⟨r1, h⟩ := h
  obtain ⟨r2, h⟩ := h
  by_cases c3 : ((shA SH (M x0 2)).2 : Int) ≤ x2
  · rw [if_pos c3] at h
    refine g_41t (a := 3) (b := 36) (nx := 23) (by decide +kernel) (by rw [wr_id r1, wr_id r2]; exact (cb_3 _ _).mpr c3) ?_
    refine g_1 (a := 0) (b := 0) (nx := 37) (by decide +kernel) ?_
    refine g_8 (a := 2) (b := 0) (nx := 38) (by decide +kernel) rfl (ls' := [some (vR x0), some (vR x1), some (vI 0)]) rfl ?_
    exact h
  · rw [if_neg c3] at h
    refine g_41f (a := 3) (b := 36) (nx := 23) (by decide +kernel) (by rw [wr_id r1, wr_id r2]; exact fun hz => c3 ((cb_3 _ _).mp hz)) ?_
    refine g_7 (a := 0) (b := 0) (nx := 24) (by decide +kernel) rfl ?_
    refine g_52 (a := 4) (b := 2) (nx := 27) (by decide +kernel) h0 ?_
    refine g_5 (a := 2) (b := 0) (nx := 28) (by decide +kernel) rfl ?_
    refine g_1 (a := 0) (b := 0) (nx := 29) (by decide +kernel) ?_
    refine g_62 (a := 0) (b := 0) (nx := 30) (by decide +kernel) h.1 ?_
    replace h := h.2
    refine g_11 (a := 2) (b := 1) (nx := 33) (by decide +kernel) rfl rfl (ls' := [some (vR x0), some (vR x1), some (vI (x2 + 1))]) rfl ?_
    refine g_44 (a := 0) (b := 14) (nx := 36) (by decide +kernel) ?_
    exact h
theorem t_63_38 {x0 x1 x2 : Int} {M : Mem} {Q : AV → Mem → Prop} (h0 : gO 4 x0) (h : ((M x0 3) ≠ -2000 ∧ 20 ≤ (shA SH (M x0 3)).1 ∧ (shA SH (M x0 3)).1 ≤ 41 ∧ (shA SH (M x0 3)).1 ≠ 40) ∧ inR x2 ∧ (inR ((shA SH (M x0 3)).2 : Int) ∧ (if ((shA SH (M x0 3)).2 : Int) ≤ x2 then (((shA SH (M x0 0)).1 = 9) ∧ WV 124 [vR (M x0 0)] M (fun M3 => WR 63 69 [some (vR x0), some (vR x1), some (vI 0)] [] M3 Q)) else ((gA 21 (M x0 3) x2 ∨ gA 22 (M x0 3) x2) ∧ WR 63 38 [some (vR x0), some (vR x1), some (vI (x2 + 1))] [] (upM M (M x0 3) x2 0) Q)))) : WR 63 38 [some (vR x0), some (vR x1), some (vI x2)] [] M Q := by
  refine g_5 (a := 2) (b := 0) (nx := 39) (by decide +kernel) rfl ?_
  refine g_7 (a := 0) (b := 0) (nx := 40) (by decide +kernel) rfl ?_
  refine g_52 (a := 4) (b := 3) (nx := 43) (by decide +kernel) h0 ?_
  refine g_60 (a := 0) (b := 0) (nx := 44) (by decide +kernel) h.1.1 h.1.2 ?_
  replace h := h.2
  obtain ⟨r1, h⟩ := h
  obtain ⟨r2, h⟩ := h
  by_cases c5 : ((shA SH (M x0 3)).2 : Int) ≤ x2
  · rw [if_pos c5] at h
    refine g_41t (a := 3) (b := 60) (nx := 47) (by decide +kernel) (by rw [wr_id r1, wr_id r2]; exact (cb_3 _ _).mpr c5) ?_
    refine g_7 (a := 0) (b := 0) (nx := 61) (by decide +kernel) rfl ?_
    refine g_52 (a := 4) (b := 0) (nx := 64) (by decide +kernel) h0 ?_
    refine g_80 (a := 124) (b := 0) (nx := 67) (by decide +kernel) (r := (M x0 0)) (As := []) (st' := []) (z := 124) rfl rfl rfl (Nat.le_of_ble_eq_true rfl) h.1 (Nat.le_of_ble_eq_true rfl) rfl (c_V (by decide +kernel) h.2 (fun M3 h => ?_))
    refine g_1 (a := 0) (b := 0) (nx := 68) (by decide +kernel) ?_
    refine g_8 (a := 2) (b := 0) (nx := 69) (by decide +kernel) rfl (ls' := [some (vR x0), some (vR x1), some (vI 0)]) rfl ?_
    exact h
  · rw [if_neg c5] at h
    refine g_41f (a := 3) (b := 60) (nx := 47) (by decide +kernel) (by rw [wr_id r1, wr_id r2]; exact fun hz => c5 ((cb_3 _ _).mp hz)) ?_
    refine g_7 (a := 0) (b := 0) (nx := 48) (by decide +kernel) rfl ?_
    refine g_52 (a := 4) (b := 3) (nx := 51) (by decide +kernel) h0 ?_
    refine g_5 (a := 2) (b := 0) (nx := 52) (by decide +kernel) rfl ?_
    refine g_1 (a := 0) (b := 0) (nx := 53) (by decide +kernel) ?_
    refine g_64 (a := 0) (b := 0) (nx := 54) (by decide +kernel) (h.1.imp (fun q => ⟨q, by decide⟩) (fun q => ⟨q, by decide⟩)) ?_
    replace h := h.2
    refine g_11 (a := 2) (b := 1) (nx := 57) (by decide +kernel) rfl rfl (ls' := [some (vR x0), some (vR x1), some (vI (x2 + 1))]) rfl ?_
    refine g_44 (a := 0) (b := 38) (nx := 60) (by decide +kernel) ?_
    exact h
theorem t_63_69 {x0 x1 x2 : Int} {M : Mem} {Q : AV → Mem → Prop} (h0 : gO 4 x0) (h : inR x2 ∧ (if 900 ≤ x2 then ((gO 9 (M x0 0)) ∧ inR (M (M x0 0) 5) ∧ (if (M (M x0 0) 5) = 0 then (Q (vI 1) M) else (Q (vI 0) M))) else (((shA SH (M x0 0)).1 = 9) ∧ WI 127 [vR (M x0 0)] M (fun y5 M4 => inR y5 ∧ (if y5 = 0 then ((gO 9 (M4 x0 0)) ∧ inR (M4 (M4 x0 0) 5) ∧ (if (M4 (M4 x0 0) 5) = 0 then (Q (vI 1) M4) else (Q (vI 0) M4))) else (WV 65 [vR x0] M4 (fun M9 => WR 63 69 [some (vR x0), some (vR x1), some (vI (x2 + 1))] [] M9 Q))))))) : WR 63 69 [some (vR x0), some (vR x1), some (vI x2)] [] M Q := by
  refine g_5 (a := 2) (b := 0) (nx := 70) (by decide +kernel) rfl ?_
  refine g_1 (a := 900) (b := 0) (nx := 73) (by decide +kernel) ?_
  obtain ⟨r1, h⟩ := h
  by_cases c12 : 900 ≤ x2
  · rw [if_pos c12] at h
    refine g_41t (a := 3) (b := 96) (nx := 76) (by decide +kernel) (by rw [wr_id r1, wr_id (show inR 900 by decide)]; exact (cb_3 _ _).mpr c12) ?_
    refine g_7 (a := 0) (b := 0) (nx := 97) (by decide +kernel) rfl ?_
    refine g_52 (a := 4) (b := 0) (nx := 100) (by decide +kernel) h0 ?_
    refine g_50 (a := 9) (b := 5) (nx := 103) (by decide +kernel) h.1 ?_
    replace h := h.2
    obtain ⟨r2, h⟩ := h
    by_cases c3 : (M (M x0 0) 5) = 0
    · rw [if_pos c3] at h
      refine g_40f (a := 1) (b := 110) (nx := 106) (by decide +kernel) r2 (by exact fun hz => ((cb_1 _ _).mp hz) c3) ?_
      refine g_1 (a := 1) (b := 0) (nx := 107) (by decide +kernel) ?_
      refine g_44 (a := 0) (b := 111) (nx := 110) (by decide +kernel) ?_
      exact g_91z (b := 0) (nx := 112) (by decide +kernel) (by decide) h
    · rw [if_neg c3] at h
      refine g_40t (a := 1) (b := 110) (nx := 106) (by decide +kernel) r2 (by exact (cb_1 _ _).mpr c3) ?_
      refine g_1 (a := 0) (b := 0) (nx := 111) (by decide +kernel) ?_
      exact g_91z (b := 0) (nx := 112) (by decide +kernel) (by decide) h
  · rw [if_neg c12] at h
    refine g_41f (a := 3) (b := 96) (nx := 76) (by decide +kernel) (by rw [wr_id r1, wr_id (show inR 900 by decide)]; exact fun hz => c12 ((cb_3 _ _).mp hz)) ?_
    refine g_7 (a := 0) (b := 0) (nx := 77) (by decide +kernel) rfl ?_
    refine g_52 (a := 4) (b := 0) (nx := 80) (by decide +kernel) h0 ?_
    refine g_80 (a := 127) (b := 0) (nx := 83) (by decide +kernel) (r := (M x0 0)) (As := []) (st' := []) (z := 127) rfl rfl rfl (Nat.le_of_ble_eq_true rfl) h.1 (Nat.le_of_ble_eq_true rfl) rfl (c_I (by decide +kernel) h.2 (fun y5 M4 h => ?_))
    obtain ⟨r6, h⟩ := h
    by_cases c11 : y5 = 0
    · rw [if_pos c11] at h
      refine g_40t (a := 0) (b := 96) (nx := 86) (by decide +kernel) r6 (by exact (cb_0 _ _).mpr c11) ?_
      refine g_7 (a := 0) (b := 0) (nx := 97) (by decide +kernel) rfl ?_
      refine g_52 (a := 4) (b := 0) (nx := 100) (by decide +kernel) h0 ?_
      refine g_50 (a := 9) (b := 5) (nx := 103) (by decide +kernel) h.1 ?_
      replace h := h.2
      obtain ⟨r7, h⟩ := h
      by_cases c8 : (M4 (M4 x0 0) 5) = 0
      · rw [if_pos c8] at h
        refine g_40f (a := 1) (b := 110) (nx := 106) (by decide +kernel) r7 (by exact fun hz => ((cb_1 _ _).mp hz) c8) ?_
        refine g_1 (a := 1) (b := 0) (nx := 107) (by decide +kernel) ?_
        refine g_44 (a := 0) (b := 111) (nx := 110) (by decide +kernel) ?_
        exact g_91z (b := 0) (nx := 112) (by decide +kernel) (by decide) h
      · rw [if_neg c8] at h
        refine g_40t (a := 1) (b := 110) (nx := 106) (by decide +kernel) r7 (by exact (cb_1 _ _).mpr c8) ?_
        refine g_1 (a := 0) (b := 0) (nx := 111) (by decide +kernel) ?_
        exact g_91z (b := 0) (nx := 112) (by decide +kernel) (by decide) h
    · rw [if_neg c11] at h
      refine g_40f (a := 0) (b := 96) (nx := 86) (by decide +kernel) r6 (by exact fun hz => c11 ((cb_0 _ _).mp hz)) ?_
      refine g_7 (a := 0) (b := 0) (nx := 87) (by decide +kernel) rfl ?_
      refine g_80 (a := 65) (b := 0) (nx := 90) (by decide +kernel) (r := x0) (As := []) (st' := []) (z := 65) rfl rfl rfl (Nat.le_of_ble_eq_true rfl) h0.2 (Nat.le_of_ble_eq_true rfl) rfl (c_V (by decide +kernel) h (fun M9 h => ?_))
      refine g_11 (a := 2) (b := 1) (nx := 93) (by decide +kernel) rfl rfl (ls' := [some (vR x0), some (vR x1), some (vI (x2 + 1))]) rfl ?_
      refine g_44 (a := 0) (b := 69) (nx := 96) (by decide +kernel) ?_
      exact h
-- 64 SyllableMaker$Reader.readSpeech(LSyllableMaker$Words;LSyllableMaker$Law;)Z
theorem t_64 {x0 x1 x2 : Int} {M : Mem} {Q : AV → Mem → Prop} (h0 : gO 4 x0) (h : (0 ≤ x2) ∧ ((shA SH x1).1 = 10) ∧ WV 135 [vR x1] (upM M x0 4 x2) (fun M1 => ((shA SH (M1 x0 0)).1 = 9) ∧ WV 124 [vR (M1 x0 0)] M1 (fun M3 => (gO 9 (M3 x0 0)) ∧ inR (M3 (M3 x0 0) 2) ∧ (if (M3 (M3 x0 0) 2) = 0 then (((shA SH (M3 x0 0)).1 = 9) ∧ WV 126 [vR (M3 x0 0)] M3 (fun M6 => WR 64 35 [some (vR x0), some (vR x1), some (vR x2), some (vI 0)] [] M6 Q)) else (WR 64 35 [some (vR x0), some (vR x1), some (vR x2), some (vI 0)] [] M3 Q))))) : WC 64 [vR x0, vR x1, vR x2] M Q := by
  show WR 64 0 [some (vR x0), some (vR x1), some (vR x2), none] [] M Q
  refine g_7 (a := 0) (b := 0) (nx := 1) (by decide +kernel) rfl ?_
  refine g_7 (a := 2) (b := 0) (nx := 2) (by decide +kernel) rfl ?_
  refine g_55 (a := 4) (b := 4) (nx := 5) (by decide +kernel) h0 h.1 ?_
  replace h := h.2
  refine g_7 (a := 1) (b := 0) (nx := 6) (by decide +kernel) rfl ?_
  refine g_80 (a := 135) (b := 0) (nx := 9) (by decide +kernel) (r := x1) (As := []) (st' := []) (z := 135) rfl rfl rfl (Nat.le_of_ble_eq_true rfl) h.1 (Nat.le_of_ble_eq_true rfl) rfl (c_V (by decide +kernel) h.2 (fun M1 h => ?_))
  refine g_7 (a := 0) (b := 0) (nx := 10) (by decide +kernel) rfl ?_
  refine g_52 (a := 4) (b := 0) (nx := 13) (by decide +kernel) h0 ?_
  refine g_80 (a := 124) (b := 0) (nx := 16) (by decide +kernel) (r := (M1 x0 0)) (As := []) (st' := []) (z := 124) rfl rfl rfl (Nat.le_of_ble_eq_true rfl) h.1 (Nat.le_of_ble_eq_true rfl) rfl (c_V (by decide +kernel) h.2 (fun M3 h => ?_))
  refine g_7 (a := 0) (b := 0) (nx := 17) (by decide +kernel) rfl ?_
  refine g_52 (a := 4) (b := 0) (nx := 20) (by decide +kernel) h0 ?_
  refine g_50 (a := 9) (b := 2) (nx := 23) (by decide +kernel) h.1 ?_
  replace h := h.2
  obtain ⟨r5, h⟩ := h
  by_cases c8 : (M3 (M3 x0 0) 2) = 0
  · rw [if_pos c8] at h
    refine g_40f (a := 1) (b := 33) (nx := 26) (by decide +kernel) r5 (by exact fun hz => ((cb_1 _ _).mp hz) c8) ?_
    refine g_7 (a := 0) (b := 0) (nx := 27) (by decide +kernel) rfl ?_
    refine g_52 (a := 4) (b := 0) (nx := 30) (by decide +kernel) h0 ?_
    refine g_80 (a := 126) (b := 0) (nx := 33) (by decide +kernel) (r := (M3 x0 0)) (As := []) (st' := []) (z := 126) rfl rfl rfl (Nat.le_of_ble_eq_true rfl) h.1 (Nat.le_of_ble_eq_true rfl) rfl (c_V (by decide +kernel) h.2 (fun M6 h => ?_))
    refine g_1 (a := 0) (b := 0) (nx := 34) (by decide +kernel) ?_
    refine g_8 (a := 3) (b := 0) (nx := 35) (by decide +kernel) rfl (ls' := [some (vR x0), some (vR x1), some (vR x2), some (vI 0)]) rfl ?_
    exact h
  · rw [if_neg c8] at h
    refine g_40t (a := 1) (b := 33) (nx := 26) (by decide +kernel) r5 (by exact (cb_1 _ _).mpr c8) ?_
    refine g_1 (a := 0) (b := 0) (nx := 34) (by decide +kernel) ?_
    refine g_8 (a := 3) (b := 0) (nx := 35) (by decide +kernel) rfl (ls' := [some (vR x0), some (vR x1), some (vR x2), some (vI 0)]) rfl ?_
    exact h
theorem t_64_35 {x0 x1 x2 x3 : Int} {M : Mem} {Q : AV → Mem → Prop} (h0 : gO 4 x0) (h : inR x3 ∧ (if 900 ≤ x3 then ((gO 9 (M x0 0)) ∧ inR (M (M x0 0) 5) ∧ (if (M (M x0 0) 5) = 0 then (Q (vI 1) M) else (Q (vI 0) M))) else (((shA SH (M x0 0)).1 = 9) ∧ WI 127 [vR (M x0 0)] M (fun y5 M4 => inR y5 ∧ (if y5 = 0 then ((gO 9 (M4 x0 0)) ∧ inR (M4 (M4 x0 0) 5) ∧ (if (M4 (M4 x0 0) 5) = 0 then (Q (vI 1) M4) else (Q (vI 0) M4))) else (WI 75 [vR x0, vI 0, vI 1, vI 12] M4 (fun y10 M9 => inR y10 ∧ (if y10 = 0 then (WR 64 35 [some (vR x0), some (vR x1), some (vR x2), some (vI (x3 + 1))] [] M9 Q) else (((shA SH x1).1 = 10) ∧ WI 137 [vR x1, vR (M9 x0 1)] M9 (fun y13 M12 => inR y13 ∧ (if y13 = 0 then (((shA SH (M12 x0 0)).1 = 9) ∧ WV 125 [vR (M12 x0 0), vI 5] M12 (fun M17 => ((shA SH (M17 x0 0)).1 = 9) ∧ WV 128 [vR (M17 x0 0)] M17 (fun M19 => WR 64 35 [some (vR x0), some (vR x1), some (vR x2), some (vI (x3 + 1))] [] M19 Q))) else (((shA SH (M12 x0 0)).1 = 9) ∧ WV 128 [vR (M12 x0 0)] M12 (fun M15 => WR 64 35 [some (vR x0), some (vR x1), some (vR x2), some (vI (x3 + 1))] [] M15 Q))))))))))))) : WR 64 35 [some (vR x0), some (vR x1), some (vR x2), some (vI x3)] [] M Q := by
  refine g_5 (a := 3) (b := 0) (nx := 36) (by decide +kernel) rfl ?_
  refine g_1 (a := 900) (b := 0) (nx := 39) (by decide +kernel) ?_
  obtain ⟨r1, h⟩ := h
  by_cases c24 : 900 ≤ x3
  · rw [if_pos c24] at h
    refine g_41t (a := 3) (b := 95) (nx := 42) (by decide +kernel) (by rw [wr_id r1, wr_id (show inR 900 by decide)]; exact (cb_3 _ _).mpr c24) ?_
    refine g_7 (a := 0) (b := 0) (nx := 96) (by decide +kernel) rfl ?_
    refine g_52 (a := 4) (b := 0) (nx := 99) (by decide +kernel) h0 ?_
    refine g_50 (a := 9) (b := 5) (nx := 102) (by decide +kernel) h.1 ?_
    replace h := h.2
    obtain ⟨r2, h⟩ := h
    by_cases c3 : (M (M x0 0) 5) = 0
    · rw [if_pos c3] at h
      refine g_40f (a := 1) (b := 109) (nx := 105) (by decide +kernel) r2 (by exact fun hz => ((cb_1 _ _).mp hz) c3) ?_
      refine g_1 (a := 1) (b := 0) (nx := 106) (by decide +kernel) ?_
      refine g_44 (a := 0) (b := 110) (nx := 109) (by decide +kernel) ?_
      exact g_91z (b := 0) (nx := 111) (by decide +kernel) (by decide) h
    · rw [if_neg c3] at h
      refine g_40t (a := 1) (b := 109) (nx := 105) (by decide +kernel) r2 (by exact (cb_1 _ _).mpr c3) ?_
      refine g_1 (a := 0) (b := 0) (nx := 110) (by decide +kernel) ?_
      exact g_91z (b := 0) (nx := 111) (by decide +kernel) (by decide) h
  · rw [if_neg c24] at h
    refine g_41f (a := 3) (b := 95) (nx := 42) (by decide +kernel) (by rw [wr_id r1, wr_id (show inR 900 by decide)]; exact fun hz => c24 ((cb_3 _ _).mp hz)) ?_
    refine g_7 (a := 0) (b := 0) (nx := 43) (by decide +kernel) rfl ?_
    refine g_52 (a := 4) (b := 0) (nx := 46) (by decide +kernel) h0 ?_
    refine g_80 (a := 127) (b := 0) (nx := 49) (by decide +kernel) (r := (M x0 0)) (As := []) (st' := []) (z := 127) rfl rfl rfl (Nat.le_of_ble_eq_true rfl) h.1 (Nat.le_of_ble_eq_true rfl) rfl (c_I (by decide +kernel) h.2 (fun y5 M4 h => ?_))
    obtain ⟨r6, h⟩ := h
    by_cases c23 : y5 = 0
    · rw [if_pos c23] at h
      refine g_40t (a := 0) (b := 95) (nx := 52) (by decide +kernel) r6 (by exact (cb_0 _ _).mpr c23) ?_
      refine g_7 (a := 0) (b := 0) (nx := 96) (by decide +kernel) rfl ?_
      refine g_52 (a := 4) (b := 0) (nx := 99) (by decide +kernel) h0 ?_
      refine g_50 (a := 9) (b := 5) (nx := 102) (by decide +kernel) h.1 ?_
      replace h := h.2
      obtain ⟨r7, h⟩ := h
      by_cases c8 : (M4 (M4 x0 0) 5) = 0
      · rw [if_pos c8] at h
        refine g_40f (a := 1) (b := 109) (nx := 105) (by decide +kernel) r7 (by exact fun hz => ((cb_1 _ _).mp hz) c8) ?_
        refine g_1 (a := 1) (b := 0) (nx := 106) (by decide +kernel) ?_
        refine g_44 (a := 0) (b := 110) (nx := 109) (by decide +kernel) ?_
        exact g_91z (b := 0) (nx := 111) (by decide +kernel) (by decide) h
      · rw [if_neg c8] at h
        refine g_40t (a := 1) (b := 109) (nx := 105) (by decide +kernel) r7 (by exact (cb_1 _ _).mpr c8) ?_
        refine g_1 (a := 0) (b := 0) (nx := 110) (by decide +kernel) ?_
        exact g_91z (b := 0) (nx := 111) (by decide +kernel) (by decide) h
    · rw [if_neg c23] at h
      refine g_40f (a := 0) (b := 95) (nx := 52) (by decide +kernel) r6 (by exact fun hz => c23 ((cb_0 _ _).mp hz)) ?_
      refine g_7 (a := 0) (b := 0) (nx := 53) (by decide +kernel) rfl ?_
      refine g_1 (a := 0) (b := 0) (nx := 54) (by decide +kernel) ?_
      refine g_1 (a := 1) (b := 0) (nx := 55) (by decide +kernel) ?_
      refine g_1 (a := 12) (b := 0) (nx := 57) (by decide +kernel) ?_
      refine g_80 (a := 75) (b := 3) (nx := 60) (by decide +kernel) (r := x0) (As := [vI 0, vI 1, vI 12]) (st' := []) (z := 75) rfl rfl rfl (Nat.le_of_ble_eq_true rfl) h0.2 (Nat.le_of_ble_eq_true rfl) rfl (c_I (by decide +kernel) h (fun y10 M9 h => ?_))
      obtain ⟨r11, h⟩ := h
      by_cases c22 : y10 = 0
      · rw [if_pos c22] at h
        refine g_40t (a := 0) (b := 89) (nx := 63) (by decide +kernel) r11 (by exact (cb_0 _ _).mpr c22) ?_
        refine g_11 (a := 3) (b := 1) (nx := 92) (by decide +kernel) rfl rfl (ls' := [some (vR x0), some (vR x1), some (vR x2), some (vI (x3 + 1))]) rfl ?_
        refine g_44 (a := 0) (b := 35) (nx := 95) (by decide +kernel) ?_
        exact h
      · rw [if_neg c22] at h
        refine g_40f (a := 0) (b := 89) (nx := 63) (by decide +kernel) r11 (by exact fun hz => c22 ((cb_0 _ _).mp hz)) ?_
        refine g_7 (a := 1) (b := 0) (nx := 64) (by decide +kernel) rfl ?_
        refine g_7 (a := 0) (b := 0) (nx := 65) (by decide +kernel) rfl ?_
        refine g_52 (a := 4) (b := 1) (nx := 68) (by decide +kernel) h0 ?_
        refine g_80 (a := 137) (b := 1) (nx := 71) (by decide +kernel) (r := x1) (As := [vR (M9 x0 1)]) (st' := []) (z := 137) rfl rfl rfl (Nat.le_of_ble_eq_true rfl) h.1 (Nat.le_of_ble_eq_true rfl) rfl (c_I (by decide +kernel) h.2 (fun y13 M12 h => ?_))
        obtain ⟨r14, h⟩ := h
        by_cases c21 : y13 = 0
        · rw [if_pos c21] at h
          refine g_40f (a := 1) (b := 82) (nx := 74) (by decide +kernel) r14 (by exact fun hz => ((cb_1 _ _).mp hz) c21) ?_
          refine g_7 (a := 0) (b := 0) (nx := 75) (by decide +kernel) rfl ?_
          refine g_52 (a := 4) (b := 0) (nx := 78) (by decide +kernel) h0 ?_
          refine g_1 (a := 5) (b := 0) (nx := 79) (by decide +kernel) ?_
          refine g_80 (a := 125) (b := 1) (nx := 82) (by decide +kernel) (r := (M12 x0 0)) (As := [vI 5]) (st' := []) (z := 125) rfl rfl rfl (Nat.le_of_ble_eq_true rfl) h.1 (Nat.le_of_ble_eq_true rfl) rfl (c_V (by decide +kernel) h.2 (fun M17 h => ?_))
          refine g_7 (a := 0) (b := 0) (nx := 83) (by decide +kernel) rfl ?_
          refine g_52 (a := 4) (b := 0) (nx := 86) (by decide +kernel) h0 ?_
          refine g_80 (a := 128) (b := 0) (nx := 89) (by decide +kernel) (r := (M17 x0 0)) (As := []) (st' := []) (z := 128) rfl rfl rfl (Nat.le_of_ble_eq_true rfl) h.1 (Nat.le_of_ble_eq_true rfl) rfl (c_V (by decide +kernel) h.2 (fun M19 h => ?_))
          refine g_11 (a := 3) (b := 1) (nx := 92) (by decide +kernel) rfl rfl (ls' := [some (vR x0), some (vR x1), some (vR x2), some (vI (x3 + 1))]) rfl ?_
          refine g_44 (a := 0) (b := 35) (nx := 95) (by decide +kernel) ?_
          exact h
        · rw [if_neg c21] at h
          refine g_40t (a := 1) (b := 82) (nx := 74) (by decide +kernel) r14 (by exact (cb_1 _ _).mpr c21) ?_
          refine g_7 (a := 0) (b := 0) (nx := 83) (by decide +kernel) rfl ?_
          refine g_52 (a := 4) (b := 0) (nx := 86) (by decide +kernel) h0 ?_
          refine g_80 (a := 128) (b := 0) (nx := 89) (by decide +kernel) (r := (M12 x0 0)) (As := []) (st' := []) (z := 128) rfl rfl rfl (Nat.le_of_ble_eq_true rfl) h.1 (Nat.le_of_ble_eq_true rfl) rfl (c_V (by decide +kernel) h.2 (fun M15 h => ?_))
          refine g_11 (a := 3) (b := 1) (nx := 92) (by decide +kernel) rfl rfl (ls' := [some (vR x0), some (vR x1), some (vR x2), some (vI (x3 + 1))]) rfl ?_
          refine g_44 (a := 0) (b := 35) (nx := 95) (by decide +kernel) ?_
          exact h
-- 65 SyllableMaker$Reader.readLine()V
theorem t_65 {x0 : Int} {M : Mem} {Q : AV → Mem → Prop} (h0 : gO 4 x0) (h : WI 66 [vR x0] M (fun y2 M1 => inR y2 ∧ (if y2 < 0 then (((shA SH (M1 x0 0)).1 = 9) ∧ WV 126 [vR (M1 x0 0)] M1 (fun M4 => Q (vI 0) M4)) else (if y2 < 11 then ((gA 20 (M1 x0 2) y2) ∧ WI 67 [vR x0, vI y2] M1 (fun y7 M6 => inR (M1 (M1 x0 2) y2) ∧ (inR y7 ∧ (if (M1 (M1 x0 2) y2) < y7 then ((gA 20 (M6 x0 2) y2) ∧ (gA 20 (M6 x0 2) y2) ∧ ((shA SH ((upM M6 (M6 x0 2) y2 ((M6 (M6 x0 2) y2) + 1)) x0 0)).1 = 9) ∧ WV 128 [vR ((upM M6 (M6 x0 2) y2 ((M6 (M6 x0 2) y2) + 1)) x0 0)] (upM M6 (M6 x0 2) y2 ((M6 (M6 x0 2) y2) + 1)) (fun M10 => if y2 ≤ 3 then (WV 68 [vR x0, vI y2] M10 (fun M12 => WV 77 [vR x0] M12 (fun M14 => Q (vI 0) M14))) else (if y2 = 9 then (WV 68 [vR x0, vI y2] M10 (fun M20 => WV 77 [vR x0] M20 (fun M22 => Q (vI 0) M22))) else (WV 69 [vR x0, vI y2] M10 (fun M16 => WV 77 [vR x0] M16 (fun M18 => Q (vI 0) M18)))))) else (if 3 < y2 then (((shA SH (M6 x0 0)).1 = 9) ∧ WV 125 [vR (M6 x0 0), vI 2] M6 (fun M26 => Q (vI 0) M26)) else (((shA SH (M6 x0 0)).1 = 9) ∧ WV 125 [vR (M6 x0 0), vI 5] M6 (fun M28 => Q (vI 0) M28))))))) else (((shA SH (M1 x0 0)).1 = 9) ∧ WV 126 [vR (M1 x0 0)] M1 (fun M32 => Q (vI 0) M32)))))) : WC 65 [vR x0] M Q := by
  show WR 65 0 [some (vR x0), none] [] M Q
  refine g_7 (a := 0) (b := 0) (nx := 1) (by decide +kernel) rfl ?_
  refine g_80 (a := 66) (b := 0) (nx := 4) (by decide +kernel) (r := x0) (As := []) (st' := []) (z := 66) rfl rfl rfl (Nat.le_of_ble_eq_true rfl) h0.2 (Nat.le_of_ble_eq_true rfl) rfl (c_I (by decide +kernel) h (fun y2 M1 h => ?_))
  refine g_8 (a := 1) (b := 0) (nx := 5) (by decide +kernel) rfl (ls' := [some (vR x0), some (vI y2)]) rfl ?_
  refine g_5 (a := 1) (b := 0) (nx := 6) (by decide +kernel) rfl ?_
  obtain ⟨r3, h⟩ := h
  by_cases c35 : y2 < 0
  · rw [if_pos c35] at h
    refine g_40t (a := 2) (b := 15) (nx := 9) (by decide +kernel) r3 (by exact (cb_2 _ _).mpr c35) ?_
    refine g_7 (a := 0) (b := 0) (nx := 16) (by decide +kernel) rfl ?_
    refine g_52 (a := 4) (b := 0) (nx := 19) (by decide +kernel) h0 ?_
    refine g_80 (a := 126) (b := 0) (nx := 22) (by decide +kernel) (r := (M1 x0 0)) (As := []) (st' := []) (z := 126) rfl rfl rfl (Nat.le_of_ble_eq_true rfl) h.1 (Nat.le_of_ble_eq_true rfl) rfl (c_V (by decide +kernel) h.2 (fun M4 h => ?_))
    exact g_90 (a := 0) (b := 0) (nx := 23) (by decide +kernel) h
  · rw [if_neg c35] at h
    refine g_40f (a := 2) (b := 15) (nx := 9) (by decide +kernel) r3 (by exact fun hz => c35 ((cb_2 _ _).mp hz)) ?_
    refine g_5 (a := 1) (b := 0) (nx := 10) (by decide +kernel) rfl ?_
    refine g_1 (a := 11) (b := 0) (nx := 12) (by decide +kernel) ?_
    by_cases c34 : y2 < 11
    · rw [if_pos c34] at h
      refine g_41t (a := 2) (b := 23) (nx := 15) (by decide +kernel) (by rw [wr_id r3, wr_id (show inR 11 by decide)]; exact (cb_2 _ _).mpr c34) ?_
      refine g_7 (a := 0) (b := 0) (nx := 24) (by decide +kernel) rfl ?_
      refine g_52 (a := 4) (b := 2) (nx := 27) (by decide +kernel) h0 ?_
      refine g_5 (a := 1) (b := 0) (nx := 28) (by decide +kernel) rfl ?_
      refine g_61 (a := 0) (b := 0) (nx := 29) (by decide +kernel) h.1 ?_
      replace h := h.2
      refine g_7 (a := 0) (b := 0) (nx := 30) (by decide +kernel) rfl ?_
      refine g_5 (a := 1) (b := 0) (nx := 31) (by decide +kernel) rfl ?_
      refine g_80 (a := 67) (b := 1) (nx := 34) (by decide +kernel) (r := x0) (As := [vI y2]) (st' := [vI (M1 (M1 x0 2) y2)]) (z := 67) rfl rfl rfl (Nat.le_of_ble_eq_true rfl) h0.2 (Nat.le_of_ble_eq_true rfl) rfl (c_I (by decide +kernel) h (fun y7 M6 h => ?_))
      obtain ⟨r8, h⟩ := h
      obtain ⟨r9, h⟩ := h
      by_cases c31 : (M1 (M1 x0 2) y2) < y7
      · rw [if_pos c31] at h
        refine g_41t (a := 2) (b := 55) (nx := 37) (by decide +kernel) (by rw [wr_id r8, wr_id r9]; exact (cb_2 _ _).mpr c31) ?_
        refine g_7 (a := 0) (b := 0) (nx := 56) (by decide +kernel) rfl ?_
        refine g_52 (a := 4) (b := 2) (nx := 59) (by decide +kernel) h0 ?_
        refine g_5 (a := 1) (b := 0) (nx := 60) (by decide +kernel) rfl ?_
        refine g_14 (a := 0) (b := 0) (nx := 61) (by decide +kernel) rfl rfl ?_
        refine g_61 (a := 0) (b := 0) (nx := 62) (by decide +kernel) h.1 ?_
        replace h := h.2
        refine g_1 (a := 1) (b := 0) (nx := 63) (by decide +kernel) ?_
        refine g_15 (a := 0) (b := 0) (nx := 64) (by decide +kernel) ?_
        refine g_62 (a := 0) (b := 0) (nx := 65) (by decide +kernel) h.1 ?_
        replace h := h.2
        refine g_7 (a := 0) (b := 0) (nx := 66) (by decide +kernel) rfl ?_
        refine g_52 (a := 4) (b := 0) (nx := 69) (by decide +kernel) h0 ?_
        refine g_80 (a := 128) (b := 0) (nx := 72) (by decide +kernel) (r := ((upM M6 (M6 x0 2) y2 ((M6 (M6 x0 2) y2) + 1)) x0 0)) (As := []) (st' := []) (z := 128) rfl rfl rfl (Nat.le_of_ble_eq_true rfl) h.1 (Nat.le_of_ble_eq_true rfl) rfl (c_V (by decide +kernel) h.2 (fun M10 h => ?_))
        refine g_5 (a := 1) (b := 0) (nx := 73) (by decide +kernel) rfl ?_
        refine g_1 (a := 3) (b := 0) (nx := 74) (by decide +kernel) ?_
        by_cases c25 : y2 ≤ 3
        · rw [if_pos c25] at h
          refine g_41t (a := 5) (b := 83) (nx := 77) (by decide +kernel) (by rw [wr_id r3, wr_id (show inR 3 by decide)]; exact (cb_5 _ _).mpr c25) ?_
          refine g_7 (a := 0) (b := 0) (nx := 84) (by decide +kernel) rfl ?_
          refine g_5 (a := 1) (b := 0) (nx := 85) (by decide +kernel) rfl ?_
          refine g_80 (a := 68) (b := 1) (nx := 88) (by decide +kernel) (r := x0) (As := [vI y2]) (st' := []) (z := 68) rfl rfl rfl (Nat.le_of_ble_eq_true rfl) h0.2 (Nat.le_of_ble_eq_true rfl) rfl (c_V (by decide +kernel) h (fun M12 h => ?_))
          refine g_44 (a := 0) (b := 96) (nx := 91) (by decide +kernel) ?_
          refine g_7 (a := 0) (b := 0) (nx := 97) (by decide +kernel) rfl ?_
          refine g_80 (a := 77) (b := 0) (nx := 100) (by decide +kernel) (r := x0) (As := []) (st' := []) (z := 77) rfl rfl rfl (Nat.le_of_ble_eq_true rfl) h0.2 (Nat.le_of_ble_eq_true rfl) rfl (c_V (by decide +kernel) h (fun M14 h => ?_))
          exact g_90 (a := 0) (b := 0) (nx := 101) (by decide +kernel) h
        · rw [if_neg c25] at h
          refine g_41f (a := 5) (b := 83) (nx := 77) (by decide +kernel) (by rw [wr_id r3, wr_id (show inR 3 by decide)]; exact fun hz => c25 ((cb_5 _ _).mp hz)) ?_
          refine g_5 (a := 1) (b := 0) (nx := 78) (by decide +kernel) rfl ?_
          refine g_1 (a := 9) (b := 0) (nx := 80) (by decide +kernel) ?_
          by_cases c24 : y2 = 9
          · rw [if_pos c24] at h
            refine g_41f (a := 1) (b := 91) (nx := 83) (by decide +kernel) (by rw [wr_id r3, wr_id (show inR 9 by decide)]; exact fun hz => ((cb_1 _ _).mp hz) c24) ?_
            refine g_7 (a := 0) (b := 0) (nx := 84) (by decide +kernel) rfl ?_
            refine g_5 (a := 1) (b := 0) (nx := 85) (by decide +kernel) rfl ?_
            refine g_80 (a := 68) (b := 1) (nx := 88) (by decide +kernel) (r := x0) (As := [vI y2]) (st' := []) (z := 68) rfl rfl rfl (Nat.le_of_ble_eq_true rfl) h0.2 (Nat.le_of_ble_eq_true rfl) rfl (c_V (by decide +kernel) h (fun M20 h => ?_))
            refine g_44 (a := 0) (b := 96) (nx := 91) (by decide +kernel) ?_
            refine g_7 (a := 0) (b := 0) (nx := 97) (by decide +kernel) rfl ?_
            refine g_80 (a := 77) (b := 0) (nx := 100) (by decide +kernel) (r := x0) (As := []) (st' := []) (z := 77) rfl rfl rfl (Nat.le_of_ble_eq_true rfl) h0.2 (Nat.le_of_ble_eq_true rfl) rfl (c_V (by decide +kernel) h (fun M22 h => ?_))
            exact g_90 (a := 0) (b := 0) (nx := 101) (by decide +kernel) h
          · rw [if_neg c24] at h
            refine g_41t (a := 1) (b := 91) (nx := 83) (by decide +kernel) (by rw [wr_id r3, wr_id (show inR 9 by decide)]; exact (cb_1 _ _).mpr c24) ?_
            refine g_7 (a := 0) (b := 0) (nx := 92) (by decide +kernel) rfl ?_
            refine g_5 (a := 1) (b := 0) (nx := 93) (by decide +kernel) rfl ?_
            refine g_80 (a := 69) (b := 1) (nx := 96) (by decide +kernel) (r := x0) (As := [vI y2]) (st' := []) (z := 69) rfl rfl rfl (Nat.le_of_ble_eq_true rfl) h0.2 (Nat.le_of_ble_eq_true rfl) rfl (c_V (by decide +kernel) h (fun M16 h => ?_))
            refine g_7 (a := 0) (b := 0) (nx := 97) (by decide +kernel) rfl ?_
            refine g_80 (a := 77) (b := 0) (nx := 100) (by decide +kernel) (r := x0) (As := []) (st' := []) (z := 77) rfl rfl rfl (Nat.le_of_ble_eq_true rfl) h0.2 (Nat.le_of_ble_eq_true rfl) rfl (c_V (by decide +kernel) h (fun M18 h => ?_))
            exact g_90 (a := 0) (b := 0) (nx := 101) (by decide +kernel) h
      · rw [if_neg c31] at h
        refine g_41f (a := 2) (b := 55) (nx := 37) (by decide +kernel) (by rw [wr_id r8, wr_id r9]; exact fun hz => c31 ((cb_2 _ _).mp hz)) ?_
        refine g_7 (a := 0) (b := 0) (nx := 38) (by decide +kernel) rfl ?_
        refine g_52 (a := 4) (b := 0) (nx := 41) (by decide +kernel) h0 ?_
        refine g_5 (a := 1) (b := 0) (nx := 42) (by decide +kernel) rfl ?_
        refine g_1 (a := 3) (b := 0) (nx := 43) (by decide +kernel) ?_
        by_cases c30 : 3 < y2
        · rw [if_pos c30] at h
          refine g_41t (a := 4) (b := 50) (nx := 46) (by decide +kernel) (by rw [wr_id r3, wr_id (show inR 3 by decide)]; exact (cb_4 _ _).mpr c30) ?_
          refine g_1 (a := 2) (b := 0) (nx := 51) (by decide +kernel) ?_
          refine g_80 (a := 125) (b := 1) (nx := 54) (by decide +kernel) (r := (M6 x0 0)) (As := [vI 2]) (st' := []) (z := 125) rfl rfl rfl (Nat.le_of_ble_eq_true rfl) h.1 (Nat.le_of_ble_eq_true rfl) rfl (c_V (by decide +kernel) h.2 (fun M26 h => ?_))
          exact g_90 (a := 0) (b := 0) (nx := 55) (by decide +kernel) h
        · rw [if_neg c30] at h
          refine g_41f (a := 4) (b := 50) (nx := 46) (by decide +kernel) (by rw [wr_id r3, wr_id (show inR 3 by decide)]; exact fun hz => c30 ((cb_4 _ _).mp hz)) ?_
          refine g_1 (a := 5) (b := 0) (nx := 47) (by decide +kernel) ?_
          refine g_44 (a := 0) (b := 51) (nx := 50) (by decide +kernel) ?_
          refine g_80 (a := 125) (b := 1) (nx := 54) (by decide +kernel) (r := (M6 x0 0)) (As := [vI 5]) (st' := []) (z := 125) rfl rfl rfl (Nat.le_of_ble_eq_true rfl) h.1 (Nat.le_of_ble_eq_true rfl) rfl (c_V (by decide +kernel) h.2 (fun M28 h => ?_))
          exact g_90 (a := 0) (b := 0) (nx := 55) (by decide +kernel) h
    · rw [if_neg c34] at h
      refine g_41f (a := 2) (b := 23) (nx := 15) (by decide +kernel) (by rw [wr_id r3, wr_id (show inR 11 by decide)]; exact fun hz => c34 ((cb_2 _ _).mp hz)) ?_
      refine g_7 (a := 0) (b := 0) (nx := 16) (by decide +kernel) rfl ?_
      refine g_52 (a := 4) (b := 0) (nx := 19) (by decide +kernel) h0 ?_
      refine g_80 (a := 126) (b := 0) (nx := 22) (by decide +kernel) (r := (M1 x0 0)) (As := []) (st' := []) (z := 126) rfl rfl rfl (Nat.le_of_ble_eq_true rfl) h.1 (Nat.le_of_ble_eq_true rfl) rfl (c_V (by decide +kernel) h.2 (fun M32 h => ?_))
      exact g_90 (a := 0) (b := 0) (nx := 23) (by decide +kernel) h
-- 66 SyllableMaker$Reader.lineHere()I
theorem t_66 {x0 : Int} {M : Mem} {Q : AV → Mem → Prop} (h0 : gO 4 x0) (h : ((shA SH (M x0 0)).1 = 9) ∧ WI 133 [vR (M x0 0), vR (-1)] M (fun y2 M1 => inR y2 ∧ (if y2 = 0 then (((shA SH (M1 x0 0)).1 = 9) ∧ WI 133 [vR (M1 x0 0), vR (-2)] M1 (fun y5 M4 => inR y5 ∧ (if y5 = 0 then (((shA SH (M4 x0 0)).1 = 9) ∧ WI 133 [vR (M4 x0 0), vR (-3)] M4 (fun y8 M7 => inR y8 ∧ (if y8 = 0 then (((shA SH (M7 x0 0)).1 = 9) ∧ WI 133 [vR (M7 x0 0), vR (-4)] M7 (fun y11 M10 => inR y11 ∧ (if y11 = 0 then (((shA SH (M10 x0 0)).1 = 9) ∧ WI 133 [vR (M10 x0 0), vR (-5)] M10 (fun y14 M13 => inR y14 ∧ (if y14 = 0 then (((shA SH (M13 x0 0)).1 = 9) ∧ WI 133 [vR (M13 x0 0), vR (-6)] M13 (fun y17 M16 => inR y17 ∧ (if y17 = 0 then (((shA SH (M16 x0 0)).1 = 9) ∧ WI 133 [vR (M16 x0 0), vR (-7)] M16 (fun y20 M19 => inR y20 ∧ (if y20 = 0 then (((shA SH (M19 x0 0)).1 = 9) ∧ WI 133 [vR (M19 x0 0), vR (-8)] M19 (fun y23 M22 => inR y23 ∧ (if y23 = 0 then (((shA SH (M22 x0 0)).1 = 9) ∧ WI 133 [vR (M22 x0 0), vR (-9)] M22 (fun y26 M25 => inR y26 ∧ (if y26 = 0 then (((shA SH (M25 x0 0)).1 = 9) ∧ WI 133 [vR (M25 x0 0), vR (-10)] M25 (fun y29 M28 => inR y29 ∧ (if y29 = 0 then (((shA SH (M28 x0 0)).1 = 9) ∧ WI 133 [vR (M28 x0 0), vR (-11)] M28 (fun y32 M31 => inR y32 ∧ (if y32 = 0 then (Q (vI (-1)) M31) else (Q (vI 10) M31)))) else (Q (vI 9) M28)))) else (Q (vI 8) M25)))) else (Q (vI 7) M22)))) else (Q (vI 6) M19)))) else (Q (vI 5) M16)))) else (Q (vI 4) M13)))) else (Q (vI 3) M10)))) else (Q (vI 2) M7)))) else (Q (vI 1) M4)))) else (Q (vI 0) M1)))) : WC 66 [vR x0] M Q := by
  show WR 66 0 [some (vR x0)] [] M Q
  refine g_7 (a := 0) (b := 0) (nx := 1) (by decide +kernel) rfl ?_
  refine g_52 (a := 4) (b := 0) (nx := 4) (by decide +kernel) h0 ?_
  refine g_4 (a := (-1)) (b := 0) (nx := 6) (by decide +kernel) ?_
  refine g_80 (a := 133) (b := 1) (nx := 9) (by decide +kernel) (r := (M x0 0)) (As := [vR (-1)]) (st' := []) (z := 133) rfl rfl rfl (Nat.le_of_ble_eq_true rfl) h.1 (Nat.le_of_ble_eq_true rfl) rfl (c_I (by decide +kernel) h.2 (fun y2 M1 h => ?_))
  obtain ⟨r3, h⟩ := h
  by_cases c44 : y2 = 0
  · rw [if_pos c44] at h
    refine g_40t (a := 0) (b := 14) (nx := 12) (by decide +kernel) r3 (by exact (cb_0 _ _).mpr c44) ?_
    refine g_7 (a := 0) (b := 0) (nx := 15) (by decide +kernel) rfl ?_
    refine g_52 (a := 4) (b := 0) (nx := 18) (by decide +kernel) h0 ?_
    refine g_4 (a := (-2)) (b := 0) (nx := 20) (by decide +kernel) ?_
    refine g_80 (a := 133) (b := 1) (nx := 23) (by decide +kernel) (r := (M1 x0 0)) (As := [vR (-2)]) (st' := []) (z := 133) rfl rfl rfl (Nat.le_of_ble_eq_true rfl) h.1 (Nat.le_of_ble_eq_true rfl) rfl (c_I (by decide +kernel) h.2 (fun y5 M4 h => ?_))
    obtain ⟨r6, h⟩ := h
    by_cases c43 : y5 = 0
    · rw [if_pos c43] at h
      refine g_40t (a := 0) (b := 28) (nx := 26) (by decide +kernel) r6 (by exact (cb_0 _ _).mpr c43) ?_
      refine g_7 (a := 0) (b := 0) (nx := 29) (by decide +kernel) rfl ?_
      refine g_52 (a := 4) (b := 0) (nx := 32) (by decide +kernel) h0 ?_
      refine g_4 (a := (-3)) (b := 0) (nx := 34) (by decide +kernel) ?_
      refine g_80 (a := 133) (b := 1) (nx := 37) (by decide +kernel) (r := (M4 x0 0)) (As := [vR (-3)]) (st' := []) (z := 133) rfl rfl rfl (Nat.le_of_ble_eq_true rfl) h.1 (Nat.le_of_ble_eq_true rfl) rfl (c_I (by decide +kernel) h.2 (fun y8 M7 h => ?_))
      obtain ⟨r9, h⟩ := h
      by_cases c42 : y8 = 0
      · rw [if_pos c42] at h
        refine g_40t (a := 0) (b := 42) (nx := 40) (by decide +kernel) r9 (by exact (cb_0 _ _).mpr c42) ?_
        refine g_7 (a := 0) (b := 0) (nx := 43) (by decide +kernel) rfl ?_
        refine g_52 (a := 4) (b := 0) (nx := 46) (by decide +kernel) h0 ?_
        refine g_4 (a := (-4)) (b := 0) (nx := 48) (by decide +kernel) ?_
        refine g_80 (a := 133) (b := 1) (nx := 51) (by decide +kernel) (r := (M7 x0 0)) (As := [vR (-4)]) (st' := []) (z := 133) rfl rfl rfl (Nat.le_of_ble_eq_true rfl) h.1 (Nat.le_of_ble_eq_true rfl) rfl (c_I (by decide +kernel) h.2 (fun y11 M10 h => ?_))
        obtain ⟨r12, h⟩ := h
        by_cases c41 : y11 = 0
        · rw [if_pos c41] at h
          refine g_40t (a := 0) (b := 56) (nx := 54) (by decide +kernel) r12 (by exact (cb_0 _ _).mpr c41) ?_
          refine g_7 (a := 0) (b := 0) (nx := 57) (by decide +kernel) rfl ?_
          refine g_52 (a := 4) (b := 0) (nx := 60) (by decide +kernel) h0 ?_
          refine g_4 (a := (-5)) (b := 0) (nx := 62) (by decide +kernel) ?_
          refine g_80 (a := 133) (b := 1) (nx := 65) (by decide +kernel) (r := (M10 x0 0)) (As := [vR (-5)]) (st' := []) (z := 133) rfl rfl rfl (Nat.le_of_ble_eq_true rfl) h.1 (Nat.le_of_ble_eq_true rfl) rfl (c_I (by decide +kernel) h.2 (fun y14 M13 h => ?_))
          obtain ⟨r15, h⟩ := h
          by_cases c40 : y14 = 0
          · rw [if_pos c40] at h
            refine g_40t (a := 0) (b := 70) (nx := 68) (by decide +kernel) r15 (by exact (cb_0 _ _).mpr c40) ?_
            refine g_7 (a := 0) (b := 0) (nx := 71) (by decide +kernel) rfl ?_
            refine g_52 (a := 4) (b := 0) (nx := 74) (by decide +kernel) h0 ?_
            refine g_4 (a := (-6)) (b := 0) (nx := 76) (by decide +kernel) ?_
            refine g_80 (a := 133) (b := 1) (nx := 79) (by decide +kernel) (r := (M13 x0 0)) (As := [vR (-6)]) (st' := []) (z := 133) rfl rfl rfl (Nat.le_of_ble_eq_true rfl) h.1 (Nat.le_of_ble_eq_true rfl) rfl (c_I (by decide +kernel) h.2 (fun y17 M16 h => ?_))
            obtain ⟨r18, h⟩ := h
            by_cases c39 : y17 = 0
            · rw [if_pos c39] at h
              refine g_40t (a := 0) (b := 84) (nx := 82) (by decide +kernel) r18 (by exact (cb_0 _ _).mpr c39) ?_
              refine g_7 (a := 0) (b := 0) (nx := 85) (by decide +kernel) rfl ?_
              refine g_52 (a := 4) (b := 0) (nx := 88) (by decide +kernel) h0 ?_
              refine g_4 (a := (-7)) (b := 0) (nx := 90) (by decide +kernel) ?_
              refine g_80 (a := 133) (b := 1) (nx := 93) (by decide +kernel) (r := (M16 x0 0)) (As := [vR (-7)]) (st' := []) (z := 133) rfl rfl rfl (Nat.le_of_ble_eq_true rfl) h.1 (Nat.le_of_ble_eq_true rfl) rfl (c_I (by decide +kernel) h.2 (fun y20 M19 h => ?_))
              obtain ⟨r21, h⟩ := h
              by_cases c38 : y20 = 0
              · rw [if_pos c38] at h
                refine g_40t (a := 0) (b := 99) (nx := 96) (by decide +kernel) r21 (by exact (cb_0 _ _).mpr c38) ?_
                refine g_7 (a := 0) (b := 0) (nx := 100) (by decide +kernel) rfl ?_
                refine g_52 (a := 4) (b := 0) (nx := 103) (by decide +kernel) h0 ?_
                refine g_4 (a := (-8)) (b := 0) (nx := 105) (by decide +kernel) ?_
                refine g_80 (a := 133) (b := 1) (nx := 108) (by decide +kernel) (r := (M19 x0 0)) (As := [vR (-8)]) (st' := []) (z := 133) rfl rfl rfl (Nat.le_of_ble_eq_true rfl) h.1 (Nat.le_of_ble_eq_true rfl) rfl (c_I (by decide +kernel) h.2 (fun y23 M22 h => ?_))
                obtain ⟨r24, h⟩ := h
                by_cases c37 : y23 = 0
                · rw [if_pos c37] at h
                  refine g_40t (a := 0) (b := 114) (nx := 111) (by decide +kernel) r24 (by exact (cb_0 _ _).mpr c37) ?_
                  refine g_7 (a := 0) (b := 0) (nx := 115) (by decide +kernel) rfl ?_
                  refine g_52 (a := 4) (b := 0) (nx := 118) (by decide +kernel) h0 ?_
                  refine g_4 (a := (-9)) (b := 0) (nx := 120) (by decide +kernel) ?_
                  refine g_80 (a := 133) (b := 1) (nx := 123) (by decide +kernel) (r := (M22 x0 0)) (As := [vR (-9)]) (st' := []) (z := 133) rfl rfl rfl (Nat.le_of_ble_eq_true rfl) h.1 (Nat.le_of_ble_eq_true rfl) rfl (c_I (by decide +kernel) h.2 (fun y26 M25 h => ?_))
                  obtain ⟨r27, h⟩ := h
                  by_cases c36 : y26 = 0
                  · rw [if_pos c36] at h
                    refine g_40t (a := 0) (b := 129) (nx := 126) (by decide +kernel) r27 (by exact (cb_0 _ _).mpr c36) ?_
                    refine g_7 (a := 0) (b := 0) (nx := 130) (by decide +kernel) rfl ?_
                    refine g_52 (a := 4) (b := 0) (nx := 133) (by decide +kernel) h0 ?_
                    refine g_4 (a := (-10)) (b := 0) (nx := 135) (by decide +kernel) ?_
                    refine g_80 (a := 133) (b := 1) (nx := 138) (by decide +kernel) (r := (M25 x0 0)) (As := [vR (-10)]) (st' := []) (z := 133) rfl rfl rfl (Nat.le_of_ble_eq_true rfl) h.1 (Nat.le_of_ble_eq_true rfl) rfl (c_I (by decide +kernel) h.2 (fun y29 M28 h => ?_))
                    obtain ⟨r30, h⟩ := h
                    by_cases c35 : y29 = 0
                    · rw [if_pos c35] at h
                      refine g_40t (a := 0) (b := 144) (nx := 141) (by decide +kernel) r30 (by exact (cb_0 _ _).mpr c35) ?_
                      refine g_7 (a := 0) (b := 0) (nx := 145) (by decide +kernel) rfl ?_
                      refine g_52 (a := 4) (b := 0) (nx := 148) (by decide +kernel) h0 ?_
                      refine g_4 (a := (-11)) (b := 0) (nx := 150) (by decide +kernel) ?_
                      refine g_80 (a := 133) (b := 1) (nx := 153) (by decide +kernel) (r := (M28 x0 0)) (As := [vR (-11)]) (st' := []) (z := 133) rfl rfl rfl (Nat.le_of_ble_eq_true rfl) h.1 (Nat.le_of_ble_eq_true rfl) rfl (c_I (by decide +kernel) h.2 (fun y32 M31 h => ?_))
                      obtain ⟨r33, h⟩ := h
                      by_cases c34 : y32 = 0
                      · rw [if_pos c34] at h
                        refine g_40t (a := 0) (b := 159) (nx := 156) (by decide +kernel) r33 (by exact (cb_0 _ _).mpr c34) ?_
                        refine g_1 (a := (-1)) (b := 0) (nx := 160) (by decide +kernel) ?_
                        exact g_91 (b := 0) (nx := 161) (by decide +kernel) h
                      · rw [if_neg c34] at h
                        refine g_40f (a := 0) (b := 159) (nx := 156) (by decide +kernel) r33 (by exact fun hz => c34 ((cb_0 _ _).mp hz)) ?_
                        refine g_1 (a := 10) (b := 0) (nx := 158) (by decide +kernel) ?_
                        exact g_91 (b := 0) (nx := 159) (by decide +kernel) h
                    · rw [if_neg c35] at h
                      refine g_40f (a := 0) (b := 144) (nx := 141) (by decide +kernel) r30 (by exact fun hz => c35 ((cb_0 _ _).mp hz)) ?_
                      refine g_1 (a := 9) (b := 0) (nx := 143) (by decide +kernel) ?_
                      exact g_91 (b := 0) (nx := 144) (by decide +kernel) h
                  · rw [if_neg c36] at h
                    refine g_40f (a := 0) (b := 129) (nx := 126) (by decide +kernel) r27 (by exact fun hz => c36 ((cb_0 _ _).mp hz)) ?_
                    refine g_1 (a := 8) (b := 0) (nx := 128) (by decide +kernel) ?_
                    exact g_91 (b := 0) (nx := 129) (by decide +kernel) h
                · rw [if_neg c37] at h
                  refine g_40f (a := 0) (b := 114) (nx := 111) (by decide +kernel) r24 (by exact fun hz => c37 ((cb_0 _ _).mp hz)) ?_
                  refine g_1 (a := 7) (b := 0) (nx := 113) (by decide +kernel) ?_
                  exact g_91 (b := 0) (nx := 114) (by decide +kernel) h
              · rw [if_neg c38] at h
                refine g_40f (a := 0) (b := 99) (nx := 96) (by decide +kernel) r21 (by exact fun hz => c38 ((cb_0 _ _).mp hz)) ?_
                refine g_1 (a := 6) (b := 0) (nx := 98) (by decide +kernel) ?_
                exact g_91 (b := 0) (nx := 99) (by decide +kernel) h
            · rw [if_neg c39] at h
              refine g_40f (a := 0) (b := 84) (nx := 82) (by decide +kernel) r18 (by exact fun hz => c39 ((cb_0 _ _).mp hz)) ?_
              refine g_1 (a := 5) (b := 0) (nx := 83) (by decide +kernel) ?_
              exact g_91 (b := 0) (nx := 84) (by decide +kernel) h
          · rw [if_neg c40] at h
            refine g_40f (a := 0) (b := 70) (nx := 68) (by decide +kernel) r15 (by exact fun hz => c40 ((cb_0 _ _).mp hz)) ?_
            refine g_1 (a := 4) (b := 0) (nx := 69) (by decide +kernel) ?_
            exact g_91 (b := 0) (nx := 70) (by decide +kernel) h
        · rw [if_neg c41] at h
          refine g_40f (a := 0) (b := 56) (nx := 54) (by decide +kernel) r12 (by exact fun hz => c41 ((cb_0 _ _).mp hz)) ?_
          refine g_1 (a := 3) (b := 0) (nx := 55) (by decide +kernel) ?_
          exact g_91 (b := 0) (nx := 56) (by decide +kernel) h
      · rw [if_neg c42] at h
        refine g_40f (a := 0) (b := 42) (nx := 40) (by decide +kernel) r9 (by exact fun hz => c42 ((cb_0 _ _).mp hz)) ?_
        refine g_1 (a := 2) (b := 0) (nx := 41) (by decide +kernel) ?_
        exact g_91 (b := 0) (nx := 42) (by decide +kernel) h
    · rw [if_neg c43] at h
      refine g_40f (a := 0) (b := 28) (nx := 26) (by decide +kernel) r6 (by exact fun hz => c43 ((cb_0 _ _).mp hz)) ?_
      refine g_1 (a := 1) (b := 0) (nx := 27) (by decide +kernel) ?_
      exact g_91 (b := 0) (nx := 28) (by decide +kernel) h
  · rw [if_neg c44] at h
    refine g_40f (a := 0) (b := 14) (nx := 12) (by decide +kernel) r3 (by exact fun hz => c44 ((cb_0 _ _).mp hz)) ?_
    refine g_1 (a := 0) (b := 0) (nx := 13) (by decide +kernel) ?_
    exact g_91 (b := 0) (nx := 14) (by decide +kernel) h
-- 67 SyllableMaker$Reader.mostOf(I)I
theorem t_67 {x0 x1 : Int} {M : Mem} {Q : AV → Mem → Prop} (h0 : gO 4 x0) (h : inR x1 ∧ (if x1 = 0 then (Q (vI 16) M) else (if x1 = 1 then (Q (vI 12) M) else (if x1 = 2 then (Q (vI 6) M) else (if x1 = 3 then (Q (vI 20) M) else (if x1 = 4 then (Q (vI 900) M) else (Q (vI 1) M))))))) : WC 67 [vR x0, vI x1] M Q := by
  show WR 67 0 [some (vR x0), some (vI x1)] [] M Q
  refine g_5 (a := 1) (b := 0) (nx := 1) (by decide +kernel) rfl ?_
  obtain ⟨r1, h⟩ := h
  by_cases c2 : x1 = 0
  · rw [if_pos c2] at h
    refine g_45 (a := 0) (b := 52) (nx := 36) (by decide +kernel) r1 (t := 36) (by rw [(show sws 67 1 = [(0, 36), (1, 39), (2, 42), (3, 45), (4, 48)] from by decide +kernel)]; simp only [swL]; simp [c2]) ?_
    refine g_1 (a := 16) (b := 0) (nx := 38) (by decide +kernel) ?_
    exact g_91 (b := 0) (nx := 39) (by decide +kernel) h
  · rw [if_neg c2] at h
    by_cases c3 : x1 = 1
    · rw [if_pos c3] at h
      refine g_45 (a := 0) (b := 52) (nx := 36) (by decide +kernel) r1 (t := 39) (by rw [(show sws 67 1 = [(0, 36), (1, 39), (2, 42), (3, 45), (4, 48)] from by decide +kernel)]; simp only [swL]; simp [c3]) ?_
      refine g_1 (a := 12) (b := 0) (nx := 41) (by decide +kernel) ?_
      exact g_91 (b := 0) (nx := 42) (by decide +kernel) h
    · rw [if_neg c3] at h
      by_cases c4 : x1 = 2
      · rw [if_pos c4] at h
        refine g_45 (a := 0) (b := 52) (nx := 36) (by decide +kernel) r1 (t := 42) (by rw [(show sws 67 1 = [(0, 36), (1, 39), (2, 42), (3, 45), (4, 48)] from by decide +kernel)]; simp only [swL]; simp [c4]) ?_
        refine g_1 (a := 6) (b := 0) (nx := 44) (by decide +kernel) ?_
        exact g_91 (b := 0) (nx := 45) (by decide +kernel) h
      · rw [if_neg c4] at h
        by_cases c5 : x1 = 3
        · rw [if_pos c5] at h
          refine g_45 (a := 0) (b := 52) (nx := 36) (by decide +kernel) r1 (t := 45) (by rw [(show sws 67 1 = [(0, 36), (1, 39), (2, 42), (3, 45), (4, 48)] from by decide +kernel)]; simp only [swL]; simp [c5]) ?_
          refine g_1 (a := 20) (b := 0) (nx := 47) (by decide +kernel) ?_
          exact g_91 (b := 0) (nx := 48) (by decide +kernel) h
        · rw [if_neg c5] at h
          by_cases c6 : x1 = 4
          · rw [if_pos c6] at h
            refine g_45 (a := 0) (b := 52) (nx := 36) (by decide +kernel) r1 (t := 48) (by rw [(show sws 67 1 = [(0, 36), (1, 39), (2, 42), (3, 45), (4, 48)] from by decide +kernel)]; simp only [swL]; simp [c6]) ?_
            refine g_1 (a := 900) (b := 0) (nx := 51) (by decide +kernel) ?_
            exact g_91 (b := 0) (nx := 52) (by decide +kernel) h
          · rw [if_neg c6] at h
            refine g_45 (a := 0) (b := 52) (nx := 36) (by decide +kernel) r1 (t := 52) (by rw [(show sws 67 1 = [(0, 36), (1, 39), (2, 42), (3, 45), (4, 48)] from by decide +kernel)]; simp only [swL]; first | rfl | (simp [c2, c3, c4, c5, c6])) ?_
            refine g_1 (a := 1) (b := 0) (nx := 53) (by decide +kernel) ?_
            exact g_91 (b := 0) (nx := 54) (by decide +kernel) h
-- 68 SyllableMaker$Reader.readRowLine(I)V
theorem t_68 {x0 x1 : Int} {M : Mem} {Q : AV → Mem → Prop} (h0 : gO 4 x0) (h : inR x1 ∧ (if x1 = 0 then (WV 70 [vR x0] M (fun M3 => Q (vI 0) M3)) else (if x1 = 1 then (WV 71 [vR x0] M (fun M6 => Q (vI 0) M6)) else (if x1 = 2 then (WV 72 [vR x0] M (fun M9 => Q (vI 0) M9)) else (if x1 = 9 then (WI 75 [vR x0, vI 2, vI 1, vI 1] M (fun y13 M12 => inR y13 ∧ (if y13 = 0 then (Q (vI 0) M12) else (((shA SH (M12 x0 1)).1 = 5) ∧ WI 82 [vR (M12 x0 1), vI 0] M12 (fun y16 M15 => (gO 2 (M12 x0 4)) ∧ ((shA SH ((upM M15 (M12 x0 4) 16 y16) x0 0)).1 = 9) ∧ WV 128 [vR ((upM M15 (M12 x0 4) 16 y16) x0 0)] (upM M15 (M12 x0 4) 16 y16) (fun M17 => Q (vI 0) M17)))))) else (WI 75 [vR x0, vI 0, vI 1, vI 12] M (fun y21 M20 => inR y21 ∧ (if y21 = 0 then (Q (vI 0) M20) else ((gO 2 (M20 x0 4)) ∧ ((shA SH (M20 (M20 x0 4) 1)).1 = 10) ∧ WI 137 [vR (M20 (M20 x0 4) 1), vR (M20 x0 1)] M20 (fun y24 M23 => ((shA SH (M23 x0 0)).1 = 9) ∧ WV 128 [vR (M23 x0 0)] M23 (fun M25 => Q (vI 0) M25))))))))))) : WC 68 [vR x0, vI x1] M Q := by
  show WR 68 0 [some (vR x0), some (vI x1)] [] M Q
  refine g_5 (a := 1) (b := 0) (nx := 1) (by decide +kernel) rfl ?_
  obtain ⟨r1, h⟩ := h
  by_cases c2 : x1 = 0
  · rw [if_pos c2] at h
    refine g_45 (a := 0) (b := 112) (nx := 56) (by decide +kernel) r1 (t := 56) (by rw [(show sws 68 1 = [(0, 56), (1, 63), (2, 70), (3, 112), (4, 112), (5, 112), (6, 112), (7, 112), (8, 112), (9, 77)] from by decide +kernel)]; simp only [swL]; simp [c2]) ?_
    refine g_7 (a := 0) (b := 0) (nx := 57) (by decide +kernel) rfl ?_
    refine g_80 (a := 70) (b := 0) (nx := 60) (by decide +kernel) (r := x0) (As := []) (st' := []) (z := 70) rfl rfl rfl (Nat.le_of_ble_eq_true rfl) h0.2 (Nat.le_of_ble_eq_true rfl) rfl (c_V (by decide +kernel) h (fun M3 h => ?_))
    refine g_44 (a := 0) (b := 145) (nx := 63) (by decide +kernel) ?_
    exact g_90 (a := 0) (b := 0) (nx := 146) (by decide +kernel) h
  · rw [if_neg c2] at h
    by_cases c5 : x1 = 1
    · rw [if_pos c5] at h
      refine g_45 (a := 0) (b := 112) (nx := 56) (by decide +kernel) r1 (t := 63) (by rw [(show sws 68 1 = [(0, 56), (1, 63), (2, 70), (3, 112), (4, 112), (5, 112), (6, 112), (7, 112), (8, 112), (9, 77)] from by decide +kernel)]; simp only [swL]; simp [c5]) ?_
      refine g_7 (a := 0) (b := 0) (nx := 64) (by decide +kernel) rfl ?_
      refine g_80 (a := 71) (b := 0) (nx := 67) (by decide +kernel) (r := x0) (As := []) (st' := []) (z := 71) rfl rfl rfl (Nat.le_of_ble_eq_true rfl) h0.2 (Nat.le_of_ble_eq_true rfl) rfl (c_V (by decide +kernel) h (fun M6 h => ?_))
      refine g_44 (a := 0) (b := 145) (nx := 70) (by decide +kernel) ?_
      exact g_90 (a := 0) (b := 0) (nx := 146) (by decide +kernel) h
    · rw [if_neg c5] at h
      by_cases c8 : x1 = 2
      · rw [if_pos c8] at h
        refine g_45 (a := 0) (b := 112) (nx := 56) (by decide +kernel) r1 (t := 70) (by rw [(show sws 68 1 = [(0, 56), (1, 63), (2, 70), (3, 112), (4, 112), (5, 112), (6, 112), (7, 112), (8, 112), (9, 77)] from by decide +kernel)]; simp only [swL]; simp [c8]) ?_
        refine g_7 (a := 0) (b := 0) (nx := 71) (by decide +kernel) rfl ?_
        refine g_80 (a := 72) (b := 0) (nx := 74) (by decide +kernel) (r := x0) (As := []) (st' := []) (z := 72) rfl rfl rfl (Nat.le_of_ble_eq_true rfl) h0.2 (Nat.le_of_ble_eq_true rfl) rfl (c_V (by decide +kernel) h (fun M9 h => ?_))
        refine g_44 (a := 0) (b := 145) (nx := 77) (by decide +kernel) ?_
        exact g_90 (a := 0) (b := 0) (nx := 146) (by decide +kernel) h
      · rw [if_neg c8] at h
        by_cases c11 : x1 = 9
        · rw [if_pos c11] at h
          refine g_45 (a := 0) (b := 112) (nx := 56) (by decide +kernel) r1 (t := 77) (by rw [(show sws 68 1 = [(0, 56), (1, 63), (2, 70), (3, 112), (4, 112), (5, 112), (6, 112), (7, 112), (8, 112), (9, 77)] from by decide +kernel)]; simp only [swL]; simp [c11]) ?_
          refine g_7 (a := 0) (b := 0) (nx := 78) (by decide +kernel) rfl ?_
          refine g_1 (a := 2) (b := 0) (nx := 79) (by decide +kernel) ?_
          refine g_1 (a := 1) (b := 0) (nx := 80) (by decide +kernel) ?_
          refine g_1 (a := 1) (b := 0) (nx := 81) (by decide +kernel) ?_
          refine g_80 (a := 75) (b := 3) (nx := 84) (by decide +kernel) (r := x0) (As := [vI 2, vI 1, vI 1]) (st' := []) (z := 75) rfl rfl rfl (Nat.le_of_ble_eq_true rfl) h0.2 (Nat.le_of_ble_eq_true rfl) rfl (c_I (by decide +kernel) h (fun y13 M12 h => ?_))
          obtain ⟨r14, h⟩ := h
          by_cases c19 : y13 = 0
          · rw [if_pos c19] at h
            refine g_40t (a := 0) (b := 145) (nx := 87) (by decide +kernel) r14 (by exact (cb_0 _ _).mpr c19) ?_
            exact g_90 (a := 0) (b := 0) (nx := 146) (by decide +kernel) h
          · rw [if_neg c19] at h
            refine g_40f (a := 0) (b := 145) (nx := 87) (by decide +kernel) r14 (by exact fun hz => c19 ((cb_0 _ _).mp hz)) ?_
            refine g_7 (a := 0) (b := 0) (nx := 88) (by decide +kernel) rfl ?_
            refine g_52 (a := 4) (b := 4) (nx := 91) (by decide +kernel) h0 ?_
            refine g_7 (a := 0) (b := 0) (nx := 92) (by decide +kernel) rfl ?_
            refine g_52 (a := 4) (b := 1) (nx := 95) (by decide +kernel) h0 ?_
            refine g_1 (a := 0) (b := 0) (nx := 96) (by decide +kernel) ?_
            refine g_80 (a := 82) (b := 1) (nx := 99) (by decide +kernel) (r := (M12 x0 1)) (As := [vI 0]) (st' := [vR (M12 x0 4)]) (z := 82) rfl rfl rfl (Nat.le_of_ble_eq_true rfl) h.1 (Nat.le_of_ble_eq_true rfl) rfl (c_I (by decide +kernel) h.2 (fun y16 M15 h => ?_))
            refine g_53 (a := 2) (b := 16) (nx := 102) (by decide +kernel) h.1 ?_
            replace h := h.2
            refine g_7 (a := 0) (b := 0) (nx := 103) (by decide +kernel) rfl ?_
            refine g_52 (a := 4) (b := 0) (nx := 106) (by decide +kernel) h0 ?_
            refine g_80 (a := 128) (b := 0) (nx := 109) (by decide +kernel) (r := ((upM M15 (M12 x0 4) 16 y16) x0 0)) (As := []) (st' := []) (z := 128) rfl rfl rfl (Nat.le_of_ble_eq_true rfl) h.1 (Nat.le_of_ble_eq_true rfl) rfl (c_V (by decide +kernel) h.2 (fun M17 h => ?_))
            refine g_44 (a := 0) (b := 145) (nx := 112) (by decide +kernel) ?_
            exact g_90 (a := 0) (b := 0) (nx := 146) (by decide +kernel) h
        · rw [if_neg c11] at h
          refine g_45 (a := 0) (b := 112) (nx := 56) (by decide +kernel) r1 (t := 112) (by rw [(show sws 68 1 = [(0, 56), (1, 63), (2, 70), (3, 112), (4, 112), (5, 112), (6, 112), (7, 112), (8, 112), (9, 77)] from by decide +kernel)]; simp only [swL]; first | rfl | (simp [c2, c5, c8, c11])) ?_
          refine g_7 (a := 0) (b := 0) (nx := 113) (by decide +kernel) rfl ?_
          refine g_1 (a := 0) (b := 0) (nx := 114) (by decide +kernel) ?_
          refine g_1 (a := 1) (b := 0) (nx := 115) (by decide +kernel) ?_
          refine g_1 (a := 12) (b := 0) (nx := 117) (by decide +kernel) ?_
          refine g_80 (a := 75) (b := 3) (nx := 120) (by decide +kernel) (r := x0) (As := [vI 0, vI 1, vI 12]) (st' := []) (z := 75) rfl rfl rfl (Nat.le_of_ble_eq_true rfl) h0.2 (Nat.le_of_ble_eq_true rfl) rfl (c_I (by decide +kernel) h (fun y21 M20 h => ?_))
          obtain ⟨r22, h⟩ := h
          by_cases c27 : y21 = 0
          · rw [if_pos c27] at h
            refine g_40t (a := 0) (b := 145) (nx := 123) (by decide +kernel) r22 (by exact (cb_0 _ _).mpr c27) ?_
            exact g_90 (a := 0) (b := 0) (nx := 146) (by decide +kernel) h
          · rw [if_neg c27] at h
            refine g_40f (a := 0) (b := 145) (nx := 123) (by decide +kernel) r22 (by exact fun hz => c27 ((cb_0 _ _).mp hz)) ?_
            refine g_7 (a := 0) (b := 0) (nx := 124) (by decide +kernel) rfl ?_
            refine g_52 (a := 4) (b := 4) (nx := 127) (by decide +kernel) h0 ?_
            refine g_52 (a := 2) (b := 1) (nx := 130) (by decide +kernel) h.1 ?_
            replace h := h.2
            refine g_7 (a := 0) (b := 0) (nx := 131) (by decide +kernel) rfl ?_
            refine g_52 (a := 4) (b := 1) (nx := 134) (by decide +kernel) h0 ?_
            refine g_80 (a := 137) (b := 1) (nx := 137) (by decide +kernel) (r := (M20 (M20 x0 4) 1)) (As := [vR (M20 x0 1)]) (st' := []) (z := 137) rfl rfl rfl (Nat.le_of_ble_eq_true rfl) h.1 (Nat.le_of_ble_eq_true rfl) rfl (c_I (by decide +kernel) h.2 (fun y24 M23 h => ?_))
            refine g_12 (a := 0) (b := 0) (nx := 138) (by decide +kernel) rfl ?_
            refine g_7 (a := 0) (b := 0) (nx := 139) (by decide +kernel) rfl ?_
            refine g_52 (a := 4) (b := 0) (nx := 142) (by decide +kernel) h0 ?_
            refine g_80 (a := 128) (b := 0) (nx := 145) (by decide +kernel) (r := (M23 x0 0)) (As := []) (st' := []) (z := 128) rfl rfl rfl (Nat.le_of_ble_eq_true rfl) h.1 (Nat.le_of_ble_eq_true rfl) rfl (c_V (by decide +kernel) h.2 (fun M25 h => ?_))
            exact g_90 (a := 0) (b := 0) (nx := 146) (by decide +kernel) h
-- 69 SyllableMaker$Reader.readNumbersLine(I)V
theorem t_69 {x0 x1 : Int} {M : Mem} {Q : AV → Mem → Prop} (h0 : gO 4 x0) (h : inR x1 ∧ (if x1 = 4 then (WV 73 [vR x0] M (fun M3 => Q (vI 0) M3)) else (if x1 = 5 then (WI 76 [vR x0, vI 0, vI 9] M (fun y7 M6 => (gO 2 (M x0 4)) ∧ Q (vI 0) (upM M6 (M x0 4) 7 y7))) else (if x1 = 6 then (WI 76 [vR x0, vI 0, vI 4] M (fun y10 M9 => (gO 2 (M x0 4)) ∧ WI 76 [vR x0, vI 0, vI 9] (upM M9 (M x0 4) 8 y10) (fun y12 M11 => (gO 2 ((upM M9 (M x0 4) 8 y10) x0 4)) ∧ Q (vI 0) (upM M11 ((upM M9 (M x0 4) 8 y10) x0 4) 9 y12)))) else (if x1 = 7 then (WI 76 [vR x0, vI 0, vI 9] M (fun y15 M14 => (gO 2 (M x0 4)) ∧ WI 76 [vR x0, vI 0, vI 9] (upM M14 (M x0 4) 10 y15) (fun y17 M16 => (gO 2 ((upM M14 (M x0 4) 10 y15) x0 4)) ∧ WI 76 [vR x0, vI 0, vI 9] (upM M16 ((upM M14 (M x0 4) 10 y15) x0 4) 11 y17) (fun y19 M18 => (gO 2 ((upM M16 ((upM M14 (M x0 4) 10 y15) x0 4) 11 y17) x0 4)) ∧ WI 76 [vR x0, vI 1, vI 99] (upM M18 ((upM M16 ((upM M14 (M x0 4) 10 y15) x0 4) 11 y17) x0 4) 12 y19) (fun y21 M20 => (gO 2 ((upM M18 ((upM M16 ((upM M14 (M x0 4) 10 y15) x0 4) 11 y17) x0 4) 12 y19) x0 4)) ∧ Q (vI 0) (upM M20 ((upM M18 ((upM M16 ((upM M14 (M x0 4) 10 y15) x0 4) 11 y17) x0 4) 12 y19) x0 4) 13 y21)))))) else (if x1 = 8 then (WI 76 [vR x0, vI 1, vI 4] M (fun y24 M23 => (gO 2 (M x0 4)) ∧ (gO 9 ((upM M23 (M x0 4) 14 y24) x0 0)) ∧ inR ((upM M23 (M x0 4) 14 y24) ((upM M23 (M x0 4) 14 y24) x0 0) 2) ∧ (if ((upM M23 (M x0 4) 14 y24) ((upM M23 (M x0 4) 14 y24) x0 0) 2) = 2 then (WI 76 [vR x0, vI 0, vI 9] (upM M23 (M x0 4) 14 y24) (fun y27 M26 => (gO 2 ((upM M23 (M x0 4) 14 y24) x0 4)) ∧ Q (vI 0) (upM M26 ((upM M23 (M x0 4) 14 y24) x0 4) 15 y27))) else ((gO 2 ((upM M23 (M x0 4) 14 y24) x0 4)) ∧ Q (vI 0) (upM (upM M23 (M x0 4) 14 y24) ((upM M23 (M x0 4) 14 y24) x0 4) 15 0))))) else (WI 76 [vR x0, vI 0, vI 4] M (fun y30 M29 => (gO 2 (M x0 4)) ∧ Q (vI 0) (upM M29 (M x0 4) 17 y30))))))))) : WC 69 [vR x0, vI x1] M Q := by
  show WR 69 0 [some (vR x0), some (vI x1)] [] M Q
  refine g_5 (a := 1) (b := 0) (nx := 1) (by decide +kernel) rfl ?_
  obtain ⟨r1, h⟩ := h
  by_cases c2 : x1 = 4
  · rw [if_pos c2] at h
    refine g_45 (a := 0) (b := 194) (nx := 36) (by decide +kernel) r1 (t := 36) (by rw [(show sws 69 1 = [(4, 36), (5, 43), (6, 60), (7, 90), (8, 149)] from by decide +kernel)]; simp only [swL]; simp [c2]) ?_
    refine g_7 (a := 0) (b := 0) (nx := 37) (by decide +kernel) rfl ?_
    refine g_80 (a := 73) (b := 0) (nx := 40) (by decide +kernel) (r := x0) (As := []) (st' := []) (z := 73) rfl rfl rfl (Nat.le_of_ble_eq_true rfl) h0.2 (Nat.le_of_ble_eq_true rfl) rfl (c_V (by decide +kernel) h (fun M3 h => ?_))
    refine g_44 (a := 0) (b := 207) (nx := 43) (by decide +kernel) ?_
    exact g_90 (a := 0) (b := 0) (nx := 208) (by decide +kernel) h
  · rw [if_neg c2] at h
    by_cases c5 : x1 = 5
    · rw [if_pos c5] at h
      refine g_45 (a := 0) (b := 194) (nx := 36) (by decide +kernel) r1 (t := 43) (by rw [(show sws 69 1 = [(4, 36), (5, 43), (6, 60), (7, 90), (8, 149)] from by decide +kernel)]; simp only [swL]; simp [c5]) ?_
      refine g_7 (a := 0) (b := 0) (nx := 44) (by decide +kernel) rfl ?_
      refine g_52 (a := 4) (b := 4) (nx := 47) (by decide +kernel) h0 ?_
      refine g_7 (a := 0) (b := 0) (nx := 48) (by decide +kernel) rfl ?_
      refine g_1 (a := 0) (b := 0) (nx := 49) (by decide +kernel) ?_
      refine g_1 (a := 9) (b := 0) (nx := 51) (by decide +kernel) ?_
      refine g_80 (a := 76) (b := 2) (nx := 54) (by decide +kernel) (r := x0) (As := [vI 0, vI 9]) (st' := [vR (M x0 4)]) (z := 76) rfl rfl rfl (Nat.le_of_ble_eq_true rfl) h0.2 (Nat.le_of_ble_eq_true rfl) rfl (c_I (by decide +kernel) h (fun y7 M6 h => ?_))
      refine g_53 (a := 2) (b := 7) (nx := 57) (by decide +kernel) h.1 ?_
      replace h := h.2
      refine g_44 (a := 0) (b := 207) (nx := 60) (by decide +kernel) ?_
      exact g_90 (a := 0) (b := 0) (nx := 208) (by decide +kernel) h
    · rw [if_neg c5] at h
      by_cases c8 : x1 = 6
      · rw [if_pos c8] at h
        refine g_45 (a := 0) (b := 194) (nx := 36) (by decide +kernel) r1 (t := 60) (by rw [(show sws 69 1 = [(4, 36), (5, 43), (6, 60), (7, 90), (8, 149)] from by decide +kernel)]; simp only [swL]; simp [c8]) ?_
        refine g_7 (a := 0) (b := 0) (nx := 61) (by decide +kernel) rfl ?_
        refine g_52 (a := 4) (b := 4) (nx := 64) (by decide +kernel) h0 ?_
        refine g_7 (a := 0) (b := 0) (nx := 65) (by decide +kernel) rfl ?_
        refine g_1 (a := 0) (b := 0) (nx := 66) (by decide +kernel) ?_
        refine g_1 (a := 4) (b := 0) (nx := 67) (by decide +kernel) ?_
        refine g_80 (a := 76) (b := 2) (nx := 70) (by decide +kernel) (r := x0) (As := [vI 0, vI 4]) (st' := [vR (M x0 4)]) (z := 76) rfl rfl rfl (Nat.le_of_ble_eq_true rfl) h0.2 (Nat.le_of_ble_eq_true rfl) rfl (c_I (by decide +kernel) h (fun y10 M9 h => ?_))
        refine g_53 (a := 2) (b := 8) (nx := 73) (by decide +kernel) h.1 ?_
        replace h := h.2
        refine g_7 (a := 0) (b := 0) (nx := 74) (by decide +kernel) rfl ?_
        refine g_52 (a := 4) (b := 4) (nx := 77) (by decide +kernel) h0 ?_
        refine g_7 (a := 0) (b := 0) (nx := 78) (by decide +kernel) rfl ?_
        refine g_1 (a := 0) (b := 0) (nx := 79) (by decide +kernel) ?_
        refine g_1 (a := 9) (b := 0) (nx := 81) (by decide +kernel) ?_
        refine g_80 (a := 76) (b := 2) (nx := 84) (by decide +kernel) (r := x0) (As := [vI 0, vI 9]) (st' := [vR ((upM M9 (M x0 4) 8 y10) x0 4)]) (z := 76) rfl rfl rfl (Nat.le_of_ble_eq_true rfl) h0.2 (Nat.le_of_ble_eq_true rfl) rfl (c_I (by decide +kernel) h (fun y12 M11 h => ?_))
        refine g_53 (a := 2) (b := 9) (nx := 87) (by decide +kernel) h.1 ?_
        replace h := h.2
        refine g_44 (a := 0) (b := 207) (nx := 90) (by decide +kernel) ?_
        exact g_90 (a := 0) (b := 0) (nx := 208) (by decide +kernel) h
      · rw [if_neg c8] at h
        by_cases c13 : x1 = 7
        · rw [if_pos c13] at h
          refine g_45 (a := 0) (b := 194) (nx := 36) (by decide +kernel) r1 (t := 90) (by rw [(show sws 69 1 = [(4, 36), (5, 43), (6, 60), (7, 90), (8, 149)] from by decide +kernel)]; simp only [swL]; simp [c13]) ?_
          refine g_7 (a := 0) (b := 0) (nx := 91) (by decide +kernel) rfl ?_
          refine g_52 (a := 4) (b := 4) (nx := 94) (by decide +kernel) h0 ?_
          refine g_7 (a := 0) (b := 0) (nx := 95) (by decide +kernel) rfl ?_
          refine g_1 (a := 0) (b := 0) (nx := 96) (by decide +kernel) ?_
          refine g_1 (a := 9) (b := 0) (nx := 98) (by decide +kernel) ?_
          refine g_80 (a := 76) (b := 2) (nx := 101) (by decide +kernel) (r := x0) (As := [vI 0, vI 9]) (st' := [vR (M x0 4)]) (z := 76) rfl rfl rfl (Nat.le_of_ble_eq_true rfl) h0.2 (Nat.le_of_ble_eq_true rfl) rfl (c_I (by decide +kernel) h (fun y15 M14 h => ?_))
          refine g_53 (a := 2) (b := 10) (nx := 104) (by decide +kernel) h.1 ?_
          replace h := h.2
          refine g_7 (a := 0) (b := 0) (nx := 105) (by decide +kernel) rfl ?_
          refine g_52 (a := 4) (b := 4) (nx := 108) (by decide +kernel) h0 ?_
          refine g_7 (a := 0) (b := 0) (nx := 109) (by decide +kernel) rfl ?_
          refine g_1 (a := 0) (b := 0) (nx := 110) (by decide +kernel) ?_
          refine g_1 (a := 9) (b := 0) (nx := 112) (by decide +kernel) ?_
          refine g_80 (a := 76) (b := 2) (nx := 115) (by decide +kernel) (r := x0) (As := [vI 0, vI 9]) (st' := [vR ((upM M14 (M x0 4) 10 y15) x0 4)]) (z := 76) rfl rfl rfl (Nat.le_of_ble_eq_true rfl) h0.2 (Nat.le_of_ble_eq_true rfl) rfl (c_I (by decide +kernel) h (fun y17 M16 h => ?_))
          refine g_53 (a := 2) (b := 11) (nx := 118) (by decide +kernel) h.1 ?_
          replace h := h.2
          refine g_7 (a := 0) (b := 0) (nx := 119) (by decide +kernel) rfl ?_
          refine g_52 (a := 4) (b := 4) (nx := 122) (by decide +kernel) h0 ?_
          refine g_7 (a := 0) (b := 0) (nx := 123) (by decide +kernel) rfl ?_
          refine g_1 (a := 0) (b := 0) (nx := 124) (by decide +kernel) ?_
          refine g_1 (a := 9) (b := 0) (nx := 126) (by decide +kernel) ?_
          refine g_80 (a := 76) (b := 2) (nx := 129) (by decide +kernel) (r := x0) (As := [vI 0, vI 9]) (st' := [vR ((upM M16 ((upM M14 (M x0 4) 10 y15) x0 4) 11 y17) x0 4)]) (z := 76) rfl rfl rfl (Nat.le_of_ble_eq_true rfl) h0.2 (Nat.le_of_ble_eq_true rfl) rfl (c_I (by decide +kernel) h (fun y19 M18 h => ?_))
          refine g_53 (a := 2) (b := 12) (nx := 132) (by decide +kernel) h.1 ?_
          replace h := h.2
          refine g_7 (a := 0) (b := 0) (nx := 133) (by decide +kernel) rfl ?_
          refine g_52 (a := 4) (b := 4) (nx := 136) (by decide +kernel) h0 ?_
          refine g_7 (a := 0) (b := 0) (nx := 137) (by decide +kernel) rfl ?_
          refine g_1 (a := 1) (b := 0) (nx := 138) (by decide +kernel) ?_
          refine g_1 (a := 99) (b := 0) (nx := 140) (by decide +kernel) ?_
          refine g_80 (a := 76) (b := 2) (nx := 143) (by decide +kernel) (r := x0) (As := [vI 1, vI 99]) (st' := [vR ((upM M18 ((upM M16 ((upM M14 (M x0 4) 10 y15) x0 4) 11 y17) x0 4) 12 y19) x0 4)]) (z := 76) rfl rfl rfl (Nat.le_of_ble_eq_true rfl) h0.2 (Nat.le_of_ble_eq_true rfl) rfl (c_I (by decide +kernel) h (fun y21 M20 h => ?_))
          refine g_53 (a := 2) (b := 13) (nx := 146) (by decide +kernel) h.1 ?_
          replace h := h.2
          refine g_44 (a := 0) (b := 207) (nx := 149) (by decide +kernel) ?_
          exact g_90 (a := 0) (b := 0) (nx := 208) (by decide +kernel) h
        · rw [if_neg c13] at h
          by_cases c22 : x1 = 8
          · rw [if_pos c22] at h
            refine g_45 (a := 0) (b := 194) (nx := 36) (by decide +kernel) r1 (t := 149) (by rw [(show sws 69 1 = [(4, 36), (5, 43), (6, 60), (7, 90), (8, 149)] from by decide +kernel)]; simp only [swL]; simp [c22]) ?_
            refine g_7 (a := 0) (b := 0) (nx := 150) (by decide +kernel) rfl ?_
            refine g_52 (a := 4) (b := 4) (nx := 153) (by decide +kernel) h0 ?_
            refine g_7 (a := 0) (b := 0) (nx := 154) (by decide +kernel) rfl ?_
            refine g_1 (a := 1) (b := 0) (nx := 155) (by decide +kernel) ?_
            refine g_1 (a := 4) (b := 0) (nx := 156) (by decide +kernel) ?_
            refine g_80 (a := 76) (b := 2) (nx := 159) (by decide +kernel) (r := x0) (As := [vI 1, vI 4]) (st' := [vR (M x0 4)]) (z := 76) rfl rfl rfl (Nat.le_of_ble_eq_true rfl) h0.2 (Nat.le_of_ble_eq_true rfl) rfl (c_I (by decide +kernel) h (fun y24 M23 h => ?_))
            refine g_53 (a := 2) (b := 14) (nx := 162) (by decide +kernel) h.1 ?_
            replace h := h.2
            refine g_7 (a := 0) (b := 0) (nx := 163) (by decide +kernel) rfl ?_
            refine g_52 (a := 4) (b := 4) (nx := 166) (by decide +kernel) h0 ?_
            refine g_7 (a := 0) (b := 0) (nx := 167) (by decide +kernel) rfl ?_
            refine g_52 (a := 4) (b := 0) (nx := 170) (by decide +kernel) h0 ?_
            refine g_50 (a := 9) (b := 2) (nx := 173) (by decide +kernel) h.1 ?_
            replace h := h.2
            refine g_1 (a := 2) (b := 0) (nx := 174) (by decide +kernel) ?_
            obtain ⟨r25, h⟩ := h
            by_cases c28 : ((upM M23 (M x0 4) 14 y24) ((upM M23 (M x0 4) 14 y24) x0 0) 2) = 2
            · rw [if_pos c28] at h
              refine g_41f (a := 1) (b := 187) (nx := 177) (by decide +kernel) (by rw [wr_id r25, wr_id (show inR 2 by decide)]; exact fun hz => ((cb_1 _ _).mp hz) c28) ?_
              refine g_7 (a := 0) (b := 0) (nx := 178) (by decide +kernel) rfl ?_
              refine g_1 (a := 0) (b := 0) (nx := 179) (by decide +kernel) ?_
              refine g_1 (a := 9) (b := 0) (nx := 181) (by decide +kernel) ?_
              refine g_80 (a := 76) (b := 2) (nx := 184) (by decide +kernel) (r := x0) (As := [vI 0, vI 9]) (st' := [vR ((upM M23 (M x0 4) 14 y24) x0 4)]) (z := 76) rfl rfl rfl (Nat.le_of_ble_eq_true rfl) h0.2 (Nat.le_of_ble_eq_true rfl) rfl (c_I (by decide +kernel) h (fun y27 M26 h => ?_))
              refine g_44 (a := 0) (b := 188) (nx := 187) (by decide +kernel) ?_
              refine g_53 (a := 2) (b := 15) (nx := 191) (by decide +kernel) h.1 ?_
              replace h := h.2
              refine g_44 (a := 0) (b := 207) (nx := 194) (by decide +kernel) ?_
              exact g_90 (a := 0) (b := 0) (nx := 208) (by decide +kernel) h
            · rw [if_neg c28] at h
              refine g_41t (a := 1) (b := 187) (nx := 177) (by decide +kernel) (by rw [wr_id r25, wr_id (show inR 2 by decide)]; exact (cb_1 _ _).mpr c28) ?_
              refine g_1 (a := 0) (b := 0) (nx := 188) (by decide +kernel) ?_
              refine g_53 (a := 2) (b := 15) (nx := 191) (by decide +kernel) h.1 ?_
              replace h := h.2
              refine g_44 (a := 0) (b := 207) (nx := 194) (by decide +kernel) ?_
              exact g_90 (a := 0) (b := 0) (nx := 208) (by decide +kernel) h
          · rw [if_neg c22] at h
            refine g_45 (a := 0) (b := 194) (nx := 36) (by decide +kernel) r1 (t := 194) (by rw [(show sws 69 1 = [(4, 36), (5, 43), (6, 60), (7, 90), (8, 149)] from by decide +kernel)]; simp only [swL]; first | rfl | (simp [c2, c5, c8, c13, c22])) ?_
            refine g_7 (a := 0) (b := 0) (nx := 195) (by decide +kernel) rfl ?_
            refine g_52 (a := 4) (b := 4) (nx := 198) (by decide +kernel) h0 ?_
            refine g_7 (a := 0) (b := 0) (nx := 199) (by decide +kernel) rfl ?_
            refine g_1 (a := 0) (b := 0) (nx := 200) (by decide +kernel) ?_
            refine g_1 (a := 4) (b := 0) (nx := 201) (by decide +kernel) ?_
            refine g_80 (a := 76) (b := 2) (nx := 204) (by decide +kernel) (r := x0) (As := [vI 0, vI 4]) (st' := [vR (M x0 4)]) (z := 76) rfl rfl rfl (Nat.le_of_ble_eq_true rfl) h0.2 (Nat.le_of_ble_eq_true rfl) rfl (c_I (by decide +kernel) h (fun y30 M29 h => ?_))
            refine g_53 (a := 2) (b := 17) (nx := 207) (by decide +kernel) h.1 ?_
            replace h := h.2
            exact g_90 (a := 0) (b := 0) (nx := 208) (by decide +kernel) h
-- 70 SyllableMaker$Reader.readSound()V
theorem t_70 {x0 : Int} {M : Mem} {Q : AV → Mem → Prop} (h0 : gO 4 x0) (h : (gO 9 (M x0 0)) ∧ inR (M (M x0 0) 2) ∧ (if (M (M x0 0) 2) = 1 then (((shA SH (M x0 0)).1 = 9) ∧ WI 132 [vR (M x0 0), vI 0] M (fun y3 M2 => (gO 9 (M2 x0 0)) ∧ inR (M2 (M2 x0 0) 4) ∧ (if (M2 (M2 x0 0) 4) = 1 then ((gO 2 (M2 x0 4)) ∧ ((shA SH (M2 (M2 x0 4) 0)).1 = 6) ∧ WI 91 [vR (M2 (M2 x0 4) 0), vI y3] M2 (fun y6 M5 => inR y6 ∧ (if y6 = (-1) then (((shA SH (M5 x0 0)).1 = 9) ∧ WV 128 [vR (M5 x0 0)] M5 (fun M8 => WI 76 [vR x0, vI 0, vI 9] M8 (fun y11 M10 => ((shA SH (M10 x0 0)).1 = 9) ∧ WI 133 [vR (M10 x0 0), vR (-12)] M10 (fun y13 M12 => inR y13 ∧ (if y13 = 0 then ((gO 2 (M12 x0 4)) ∧ ((shA SH (M12 (M12 x0 4) 0)).1 = 6) ∧ WV 89 [vR (M12 (M12 x0 4) 0), vI y3, vI y11, vI y13] M12 (fun M15 => Q (vI 0) M15)) else (((shA SH (M12 x0 0)).1 = 9) ∧ WV 128 [vR (M12 x0 0)] M12 (fun M17 => (gO 2 (M17 x0 4)) ∧ ((shA SH (M17 (M17 x0 4) 0)).1 = 6) ∧ WV 89 [vR (M17 (M17 x0 4) 0), vI y3, vI y11, vI y13] M17 (fun M19 => Q (vI 0) M19)))))))) else (((shA SH (M5 x0 0)).1 = 9) ∧ WV 125 [vR (M5 x0 0), vI 3] M5 (fun M22 => ((shA SH (M22 x0 0)).1 = 9) ∧ WV 128 [vR (M22 x0 0)] M22 (fun M24 => WI 76 [vR x0, vI 0, vI 9] M24 (fun y27 M26 => ((shA SH (M26 x0 0)).1 = 9) ∧ WI 133 [vR (M26 x0 0), vR (-12)] M26 (fun y29 M28 => inR y29 ∧ (if y29 = 0 then ((gO 2 (M28 x0 4)) ∧ ((shA SH (M28 (M28 x0 4) 0)).1 = 6) ∧ WV 89 [vR (M28 (M28 x0 4) 0), vI y3, vI y27, vI y29] M28 (fun M31 => Q (vI 0) M31)) else (((shA SH (M28 x0 0)).1 = 9) ∧ WV 128 [vR (M28 x0 0)] M28 (fun M33 => (gO 2 (M33 x0 4)) ∧ ((shA SH (M33 (M33 x0 4) 0)).1 = 6) ∧ WV 89 [vR (M33 (M33 x0 4) 0), vI y3, vI y27, vI y29] M33 (fun M35 => Q (vI 0) M35)))))))))))) else (((shA SH (M2 x0 0)).1 = 9) ∧ WV 125 [vR (M2 x0 0), vI 4] M2 (fun M39 => ((shA SH (M39 x0 0)).1 = 9) ∧ WV 128 [vR (M39 x0 0)] M39 (fun M41 => WI 76 [vR x0, vI 0, vI 9] M41 (fun y44 M43 => ((shA SH (M43 x0 0)).1 = 9) ∧ WI 133 [vR (M43 x0 0), vR (-12)] M43 (fun y46 M45 => inR y46 ∧ (if y46 = 0 then ((gO 2 (M45 x0 4)) ∧ ((shA SH (M45 (M45 x0 4) 0)).1 = 6) ∧ WV 89 [vR (M45 (M45 x0 4) 0), vI y3, vI y44, vI y46] M45 (fun M48 => Q (vI 0) M48)) else (((shA SH (M45 x0 0)).1 = 9) ∧ WV 128 [vR (M45 x0 0)] M45 (fun M50 => (gO 2 (M50 x0 4)) ∧ ((shA SH (M50 (M50 x0 4) 0)).1 = 6) ∧ WV 89 [vR (M50 (M50 x0 4) 0), vI y3, vI y44, vI y46] M50 (fun M52 => Q (vI 0) M52)))))))))))) else (((shA SH (M x0 0)).1 = 9) ∧ WV 126 [vR (M x0 0)] M (fun M56 => Q (vI 0) M56)))) : WC 70 [vR x0] M Q := by
  show WR 70 0 [some (vR x0), none, none, none] [] M Q
  refine g_7 (a := 0) (b := 0) (nx := 1) (by decide +kernel) rfl ?_
  refine g_52 (a := 4) (b := 0) (nx := 4) (by decide +kernel) h0 ?_
  refine g_50 (a := 9) (b := 2) (nx := 7) (by decide +kernel) h.1 ?_
  replace h := h.2
  refine g_1 (a := 1) (b := 0) (nx := 8) (by decide +kernel) ?_
  obtain ⟨r1, h⟩ := h
  by_cases c58 : (M (M x0 0) 2) = 1
  · rw [if_pos c58] at h
    refine g_41t (a := 0) (b := 19) (nx := 11) (by decide +kernel) (by rw [wr_id r1, wr_id (show inR 1 by decide)]; exact (cb_0 _ _).mpr c58) ?_
    refine g_7 (a := 0) (b := 0) (nx := 20) (by decide +kernel) rfl ?_
    refine g_52 (a := 4) (b := 0) (nx := 23) (by decide +kernel) h0 ?_
    refine g_1 (a := 0) (b := 0) (nx := 24) (by decide +kernel) ?_
    refine g_80 (a := 132) (b := 1) (nx := 27) (by decide +kernel) (r := (M x0 0)) (As := [vI 0]) (st' := []) (z := 132) rfl rfl rfl (Nat.le_of_ble_eq_true rfl) h.1 (Nat.le_of_ble_eq_true rfl) rfl (c_I (by decide +kernel) h.2 (fun y3 M2 h => ?_))
    refine g_8 (a := 1) (b := 0) (nx := 28) (by decide +kernel) rfl (ls' := [some (vR x0), some (vI y3), none, none]) rfl ?_
    refine g_7 (a := 0) (b := 0) (nx := 29) (by decide +kernel) rfl ?_
    refine g_52 (a := 4) (b := 0) (nx := 32) (by decide +kernel) h0 ?_
    refine g_50 (a := 9) (b := 4) (nx := 35) (by decide +kernel) h.1 ?_
    replace h := h.2
    refine g_1 (a := 1) (b := 0) (nx := 36) (by decide +kernel) ?_
    obtain ⟨r4, h⟩ := h
    by_cases c55 : (M2 (M2 x0 0) 4) = 1
    · rw [if_pos c55] at h
      refine g_41t (a := 0) (b := 50) (nx := 39) (by decide +kernel) (by rw [wr_id r4, wr_id (show inR 1 by decide)]; exact (cb_0 _ _).mpr c55) ?_
      refine g_7 (a := 0) (b := 0) (nx := 51) (by decide +kernel) rfl ?_
      refine g_52 (a := 4) (b := 4) (nx := 54) (by decide +kernel) h0 ?_
      refine g_52 (a := 2) (b := 0) (nx := 57) (by decide +kernel) h.1 ?_
      replace h := h.2
      refine g_5 (a := 1) (b := 0) (nx := 58) (by decide +kernel) rfl ?_
      refine g_80 (a := 91) (b := 1) (nx := 61) (by decide +kernel) (r := (M2 (M2 x0 4) 0)) (As := [vI y3]) (st' := []) (z := 91) rfl rfl rfl (Nat.le_of_ble_eq_true rfl) h.1 (Nat.le_of_ble_eq_true rfl) rfl (c_I (by decide +kernel) h.2 (fun y6 M5 h => ?_))
      refine g_1 (a := (-1)) (b := 0) (nx := 62) (by decide +kernel) ?_
      obtain ⟨r7, h⟩ := h
      by_cases c38 : y6 = (-1)
      · rw [if_pos c38] at h
        refine g_41t (a := 0) (b := 73) (nx := 65) (by decide +kernel) (by rw [wr_id r7, wr_id (show inR (-1) by decide)]; exact (cb_0 _ _).mpr c38) ?_
        refine g_7 (a := 0) (b := 0) (nx := 74) (by decide +kernel) rfl ?_
        refine g_52 (a := 4) (b := 0) (nx := 77) (by decide +kernel) h0 ?_
        refine g_80 (a := 128) (b := 0) (nx := 80) (by decide +kernel) (r := (M5 x0 0)) (As := []) (st' := []) (z := 128) rfl rfl rfl (Nat.le_of_ble_eq_true rfl) h.1 (Nat.le_of_ble_eq_true rfl) rfl (c_V (by decide +kernel) h.2 (fun M8 h => ?_))
        refine g_7 (a := 0) (b := 0) (nx := 81) (by decide +kernel) rfl ?_
        refine g_1 (a := 0) (b := 0) (nx := 82) (by decide +kernel) ?_
        refine g_1 (a := 9) (b := 0) (nx := 84) (by decide +kernel) ?_
        refine g_80 (a := 76) (b := 2) (nx := 87) (by decide +kernel) (r := x0) (As := [vI 0, vI 9]) (st' := []) (z := 76) rfl rfl rfl (Nat.le_of_ble_eq_true rfl) h0.2 (Nat.le_of_ble_eq_true rfl) rfl (c_I (by decide +kernel) h (fun y11 M10 h => ?_))
        refine g_8 (a := 2) (b := 0) (nx := 88) (by decide +kernel) rfl (ls' := [some (vR x0), some (vI y3), some (vI y11), none]) rfl ?_
        refine g_7 (a := 0) (b := 0) (nx := 89) (by decide +kernel) rfl ?_
        refine g_52 (a := 4) (b := 0) (nx := 92) (by decide +kernel) h0 ?_
        refine g_4 (a := (-12)) (b := 0) (nx := 94) (by decide +kernel) ?_
        refine g_80 (a := 133) (b := 1) (nx := 97) (by decide +kernel) (r := (M10 x0 0)) (As := [vR (-12)]) (st' := []) (z := 133) rfl rfl rfl (Nat.le_of_ble_eq_true rfl) h.1 (Nat.le_of_ble_eq_true rfl) rfl (c_I (by decide +kernel) h.2 (fun y13 M12 h => ?_))
        refine g_8 (a := 3) (b := 0) (nx := 98) (by decide +kernel) rfl (ls' := [some (vR x0), some (vI y3), some (vI y11), some (vI y13)]) rfl ?_
        refine g_5 (a := 3) (b := 0) (nx := 99) (by decide +kernel) rfl ?_
        obtain ⟨r14, h⟩ := h
        by_cases c21 : y13 = 0
        · rw [if_pos c21] at h
          refine g_40t (a := 0) (b := 109) (nx := 102) (by decide +kernel) r14 (by exact (cb_0 _ _).mpr c21) ?_
          refine g_7 (a := 0) (b := 0) (nx := 110) (by decide +kernel) rfl ?_
          refine g_52 (a := 4) (b := 4) (nx := 113) (by decide +kernel) h0 ?_
          refine g_52 (a := 2) (b := 0) (nx := 116) (by decide +kernel) h.1 ?_
          replace h := h.2
          refine g_5 (a := 1) (b := 0) (nx := 117) (by decide +kernel) rfl ?_
          refine g_5 (a := 2) (b := 0) (nx := 118) (by decide +kernel) rfl ?_
          refine g_5 (a := 3) (b := 0) (nx := 119) (by decide +kernel) rfl ?_
          refine g_80 (a := 89) (b := 3) (nx := 122) (by decide +kernel) (r := (M12 (M12 x0 4) 0)) (As := [vI y3, vI y11, vI y13]) (st' := []) (z := 89) rfl rfl rfl (Nat.le_of_ble_eq_true rfl) h.1 (Nat.le_of_ble_eq_true rfl) rfl (c_V (by decide +kernel) h.2 (fun M15 h => ?_))
          exact g_90 (a := 0) (b := 0) (nx := 123) (by decide +kernel) h
        · rw [if_neg c21] at h
          refine g_40f (a := 0) (b := 109) (nx := 102) (by decide +kernel) r14 (by exact fun hz => c21 ((cb_0 _ _).mp hz)) ?_
          refine g_7 (a := 0) (b := 0) (nx := 103) (by decide +kernel) rfl ?_
          refine g_52 (a := 4) (b := 0) (nx := 106) (by decide +kernel) h0 ?_
          refine g_80 (a := 128) (b := 0) (nx := 109) (by decide +kernel) (r := (M12 x0 0)) (As := []) (st' := []) (z := 128) rfl rfl rfl (Nat.le_of_ble_eq_true rfl) h.1 (Nat.le_of_ble_eq_true rfl) rfl (c_V (by decide +kernel) h.2 (fun M17 h => ?_))
          refine g_7 (a := 0) (b := 0) (nx := 110) (by decide +kernel) rfl ?_
          refine g_52 (a := 4) (b := 4) (nx := 113) (by decide +kernel) h0 ?_
          refine g_52 (a := 2) (b := 0) (nx := 116) (by decide +kernel) h.1 ?_
          replace h := h.2
          refine g_5 (a := 1) (b := 0) (nx := 117) (by decide +kernel) rfl ?_
          refine g_5 (a := 2) (b := 0) (nx := 118) (by decide +kernel) rfl ?_
          refine g_5 (a := 3) (b := 0) (nx := 119) (by decide +kernel) rfl ?_
          refine g_80 (a := 89) (b := 3) (nx := 122) (by decide +kernel) (r := (M17 (M17 x0 4) 0)) (As := [vI y3, vI y11, vI y13]) (st' := []) (z := 89) rfl rfl rfl (Nat.le_of_ble_eq_true rfl) h.1 (Nat.le_of_ble_eq_true rfl) rfl (c_V (by decide +kernel) h.2 (fun M19 h => ?_))
          exact g_90 (a := 0) (b := 0) (nx := 123) (by decide +kernel) h
      · rw [if_neg c38] at h
        refine g_41f (a := 0) (b := 73) (nx := 65) (by decide +kernel) (by rw [wr_id r7, wr_id (show inR (-1) by decide)]; exact fun hz => c38 ((cb_0 _ _).mp hz)) ?_
        refine g_7 (a := 0) (b := 0) (nx := 66) (by decide +kernel) rfl ?_
        refine g_52 (a := 4) (b := 0) (nx := 69) (by decide +kernel) h0 ?_
        refine g_1 (a := 3) (b := 0) (nx := 70) (by decide +kernel) ?_
        refine g_80 (a := 125) (b := 1) (nx := 73) (by decide +kernel) (r := (M5 x0 0)) (As := [vI 3]) (st' := []) (z := 125) rfl rfl rfl (Nat.le_of_ble_eq_true rfl) h.1 (Nat.le_of_ble_eq_true rfl) rfl (c_V (by decide +kernel) h.2 (fun M22 h => ?_))
        refine g_7 (a := 0) (b := 0) (nx := 74) (by decide +kernel) rfl ?_
        refine g_52 (a := 4) (b := 0) (nx := 77) (by decide +kernel) h0 ?_
        refine g_80 (a := 128) (b := 0) (nx := 80) (by decide +kernel) (r := (M22 x0 0)) (As := []) (st' := []) (z := 128) rfl rfl rfl (Nat.le_of_ble_eq_true rfl) h.1 (Nat.le_of_ble_eq_true rfl) rfl (c_V (by decide +kernel) h.2 (fun M24 h => ?_))
        refine g_7 (a := 0) (b := 0) (nx := 81) (by decide +kernel) rfl ?_
        refine g_1 (a := 0) (b := 0) (nx := 82) (by decide +kernel) ?_
        refine g_1 (a := 9) (b := 0) (nx := 84) (by decide +kernel) ?_
        refine g_80 (a := 76) (b := 2) (nx := 87) (by decide +kernel) (r := x0) (As := [vI 0, vI 9]) (st' := []) (z := 76) rfl rfl rfl (Nat.le_of_ble_eq_true rfl) h0.2 (Nat.le_of_ble_eq_true rfl) rfl (c_I (by decide +kernel) h (fun y27 M26 h => ?_))
        refine g_8 (a := 2) (b := 0) (nx := 88) (by decide +kernel) rfl (ls' := [some (vR x0), some (vI y3), some (vI y27), none]) rfl ?_
        refine g_7 (a := 0) (b := 0) (nx := 89) (by decide +kernel) rfl ?_
        refine g_52 (a := 4) (b := 0) (nx := 92) (by decide +kernel) h0 ?_
        refine g_4 (a := (-12)) (b := 0) (nx := 94) (by decide +kernel) ?_
        refine g_80 (a := 133) (b := 1) (nx := 97) (by decide +kernel) (r := (M26 x0 0)) (As := [vR (-12)]) (st' := []) (z := 133) rfl rfl rfl (Nat.le_of_ble_eq_true rfl) h.1 (Nat.le_of_ble_eq_true rfl) rfl (c_I (by decide +kernel) h.2 (fun y29 M28 h => ?_))
        refine g_8 (a := 3) (b := 0) (nx := 98) (by decide +kernel) rfl (ls' := [some (vR x0), some (vI y3), some (vI y27), some (vI y29)]) rfl ?_
        refine g_5 (a := 3) (b := 0) (nx := 99) (by decide +kernel) rfl ?_
        obtain ⟨r30, h⟩ := h
        by_cases c37 : y29 = 0
        · rw [if_pos c37] at h
          refine g_40t (a := 0) (b := 109) (nx := 102) (by decide +kernel) r30 (by exact (cb_0 _ _).mpr c37) ?_
          refine g_7 (a := 0) (b := 0) (nx := 110) (by decide +kernel) rfl ?_
          refine g_52 (a := 4) (b := 4) (nx := 113) (by decide +kernel) h0 ?_
          refine g_52 (a := 2) (b := 0) (nx := 116) (by decide +kernel) h.1 ?_
          replace h := h.2
          refine g_5 (a := 1) (b := 0) (nx := 117) (by decide +kernel) rfl ?_
          refine g_5 (a := 2) (b := 0) (nx := 118) (by decide +kernel) rfl ?_
          refine g_5 (a := 3) (b := 0) (nx := 119) (by decide +kernel) rfl ?_
          refine g_80 (a := 89) (b := 3) (nx := 122) (by decide +kernel) (r := (M28 (M28 x0 4) 0)) (As := [vI y3, vI y27, vI y29]) (st' := []) (z := 89) rfl rfl rfl (Nat.le_of_ble_eq_true rfl) h.1 (Nat.le_of_ble_eq_true rfl) rfl (c_V (by decide +kernel) h.2 (fun M31 h => ?_))
          exact g_90 (a := 0) (b := 0) (nx := 123) (by decide +kernel) h
        · rw [if_neg c37] at h
          refine g_40f (a := 0) (b := 109) (nx := 102) (by decide +kernel) r30 (by exact fun hz => c37 ((cb_0 _ _).mp hz)) ?_
          refine g_7 (a := 0) (b := 0) (nx := 103) (by decide +kernel) rfl ?_
          refine g_52 (a := 4) (b := 0) (nx := 106) (by decide +kernel) h0 ?_
          refine g_80 (a := 128) (b := 0) (nx := 109) (by decide +kernel) (r := (M28 x0 0)) (As := []) (st' := []) (z := 128) rfl rfl rfl (Nat.le_of_ble_eq_true rfl) h.1 (Nat.le_of_ble_eq_true rfl) rfl (c_V (by decide +kernel) h.2 (fun M33 h => ?_))
          refine g_7 (a := 0) (b := 0) (nx := 110) (by decide +kernel) rfl ?_
          refine g_52 (a := 4) (b := 4) (nx := 113) (by decide +kernel) h0 ?_
          refine g_52 (a := 2) (b := 0) (nx := 116) (by decide +kernel) h.1 ?_
          replace h := h.2
          refine g_5 (a := 1) (b := 0) (nx := 117) (by decide +kernel) rfl ?_
          refine g_5 (a := 2) (b := 0) (nx := 118) (by decide +kernel) rfl ?_
          refine g_5 (a := 3) (b := 0) (nx := 119) (by decide +kernel) rfl ?_
          refine g_80 (a := 89) (b := 3) (nx := 122) (by decide +kernel) (r := (M33 (M33 x0 4) 0)) (As := [vI y3, vI y27, vI y29]) (st' := []) (z := 89) rfl rfl rfl (Nat.le_of_ble_eq_true rfl) h.1 (Nat.le_of_ble_eq_true rfl) rfl (c_V (by decide +kernel) h.2 (fun M35 h => ?_))
          exact g_90 (a := 0) (b := 0) (nx := 123) (by decide +kernel) h
    · rw [if_neg c55] at h
      refine g_41f (a := 0) (b := 50) (nx := 39) (by decide +kernel) (by rw [wr_id r4, wr_id (show inR 1 by decide)]; exact fun hz => c55 ((cb_0 _ _).mp hz)) ?_
      refine g_7 (a := 0) (b := 0) (nx := 40) (by decide +kernel) rfl ?_
      refine g_52 (a := 4) (b := 0) (nx := 43) (by decide +kernel) h0 ?_
      refine g_1 (a := 4) (b := 0) (nx := 44) (by decide +kernel) ?_
      refine g_80 (a := 125) (b := 1) (nx := 47) (by decide +kernel) (r := (M2 x0 0)) (As := [vI 4]) (st' := []) (z := 125) rfl rfl rfl (Nat.le_of_ble_eq_true rfl) h.1 (Nat.le_of_ble_eq_true rfl) rfl (c_V (by decide +kernel) h.2 (fun M39 h => ?_))
      refine g_44 (a := 0) (b := 73) (nx := 50) (by decide +kernel) ?_
      refine g_7 (a := 0) (b := 0) (nx := 74) (by decide +kernel) rfl ?_
      refine g_52 (a := 4) (b := 0) (nx := 77) (by decide +kernel) h0 ?_
      refine g_80 (a := 128) (b := 0) (nx := 80) (by decide +kernel) (r := (M39 x0 0)) (As := []) (st' := []) (z := 128) rfl rfl rfl (Nat.le_of_ble_eq_true rfl) h.1 (Nat.le_of_ble_eq_true rfl) rfl (c_V (by decide +kernel) h.2 (fun M41 h => ?_))
      refine g_7 (a := 0) (b := 0) (nx := 81) (by decide +kernel) rfl ?_
      refine g_1 (a := 0) (b := 0) (nx := 82) (by decide +kernel) ?_
      refine g_1 (a := 9) (b := 0) (nx := 84) (by decide +kernel) ?_
      refine g_80 (a := 76) (b := 2) (nx := 87) (by decide +kernel) (r := x0) (As := [vI 0, vI 9]) (st' := []) (z := 76) rfl rfl rfl (Nat.le_of_ble_eq_true rfl) h0.2 (Nat.le_of_ble_eq_true rfl) rfl (c_I (by decide +kernel) h (fun y44 M43 h => ?_))
      refine g_8 (a := 2) (b := 0) (nx := 88) (by decide +kernel) rfl (ls' := [some (vR x0), some (vI y3), some (vI y44), none]) rfl ?_
      refine g_7 (a := 0) (b := 0) (nx := 89) (by decide +kernel) rfl ?_
      refine g_52 (a := 4) (b := 0) (nx := 92) (by decide +kernel) h0 ?_
      refine g_4 (a := (-12)) (b := 0) (nx := 94) (by decide +kernel) ?_
      refine g_80 (a := 133) (b := 1) (nx := 97) (by decide +kernel) (r := (M43 x0 0)) (As := [vR (-12)]) (st' := []) (z := 133) rfl rfl rfl (Nat.le_of_ble_eq_true rfl) h.1 (Nat.le_of_ble_eq_true rfl) rfl (c_I (by decide +kernel) h.2 (fun y46 M45 h => ?_))
      refine g_8 (a := 3) (b := 0) (nx := 98) (by decide +kernel) rfl (ls' := [some (vR x0), some (vI y3), some (vI y44), some (vI y46)]) rfl ?_
      refine g_5 (a := 3) (b := 0) (nx := 99) (by decide +kernel) rfl ?_
      obtain ⟨r47, h⟩ := h
      by_cases c54 : y46 = 0
      · rw [if_pos c54] at h
        refine g_40t (a := 0) (b := 109) (nx := 102) (by decide +kernel) r47 (by exact (cb_0 _ _).mpr c54) ?_
        refine g_7 (a := 0) (b := 0) (nx := 110) (by decide +kernel) rfl ?_
        refine g_52 (a := 4) (b := 4) (nx := 113) (by decide +kernel) h0 ?_
        refine g_52 (a := 2) (b := 0) (nx := 116) (by decide +kernel) h.1 ?_
        replace h := h.2
        refine g_5 (a := 1) (b := 0) (nx := 117) (by decide +kernel) rfl ?_
        refine g_5 (a := 2) (b := 0) (nx := 118) (by decide +kernel) rfl ?_
        refine g_5 (a := 3) (b := 0) (nx := 119) (by decide +kernel) rfl ?_
        refine g_80 (a := 89) (b := 3) (nx := 122) (by decide +kernel) (r := (M45 (M45 x0 4) 0)) (As := [vI y3, vI y44, vI y46]) (st' := []) (z := 89) rfl rfl rfl (Nat.le_of_ble_eq_true rfl) h.1 (Nat.le_of_ble_eq_true rfl) rfl (c_V (by decide +kernel) h.2 (fun M48 h => ?_))
        exact g_90 (a := 0) (b := 0) (nx := 123) (by decide +kernel) h
      · rw [if_neg c54] at h
        refine g_40f (a := 0) (b := 109) (nx := 102) (by decide +kernel) r47 (by exact fun hz => c54 ((cb_0 _ _).mp hz)) ?_
        refine g_7 (a := 0) (b := 0) (nx := 103) (by decide +kernel) rfl ?_
        refine g_52 (a := 4) (b := 0) (nx := 106) (by decide +kernel) h0 ?_
        refine g_80 (a := 128) (b := 0) (nx := 109) (by decide +kernel) (r := (M45 x0 0)) (As := []) (st' := []) (z := 128) rfl rfl rfl (Nat.le_of_ble_eq_true rfl) h.1 (Nat.le_of_ble_eq_true rfl) rfl (c_V (by decide +kernel) h.2 (fun M50 h => ?_))
        refine g_7 (a := 0) (b := 0) (nx := 110) (by decide +kernel) rfl ?_
        refine g_52 (a := 4) (b := 4) (nx := 113) (by decide +kernel) h0 ?_
        refine g_52 (a := 2) (b := 0) (nx := 116) (by decide +kernel) h.1 ?_
        replace h := h.2
        refine g_5 (a := 1) (b := 0) (nx := 117) (by decide +kernel) rfl ?_
        refine g_5 (a := 2) (b := 0) (nx := 118) (by decide +kernel) rfl ?_
        refine g_5 (a := 3) (b := 0) (nx := 119) (by decide +kernel) rfl ?_
        refine g_80 (a := 89) (b := 3) (nx := 122) (by decide +kernel) (r := (M50 (M50 x0 4) 0)) (As := [vI y3, vI y44, vI y46]) (st' := []) (z := 89) rfl rfl rfl (Nat.le_of_ble_eq_true rfl) h.1 (Nat.le_of_ble_eq_true rfl) rfl (c_V (by decide +kernel) h.2 (fun M52 h => ?_))
        exact g_90 (a := 0) (b := 0) (nx := 123) (by decide +kernel) h
  · rw [if_neg c58] at h
    refine g_41f (a := 0) (b := 19) (nx := 11) (by decide +kernel) (by rw [wr_id r1, wr_id (show inR 1 by decide)]; exact fun hz => c58 ((cb_0 _ _).mp hz)) ?_
    refine g_7 (a := 0) (b := 0) (nx := 12) (by decide +kernel) rfl ?_
    refine g_52 (a := 4) (b := 0) (nx := 15) (by decide +kernel) h0 ?_
    refine g_80 (a := 126) (b := 0) (nx := 18) (by decide +kernel) (r := (M x0 0)) (As := []) (st' := []) (z := 126) rfl rfl rfl (Nat.le_of_ble_eq_true rfl) h.1 (Nat.le_of_ble_eq_true rfl) rfl (c_V (by decide +kernel) h.2 (fun M56 h => ?_))
    exact g_90 (a := 0) (b := 0) (nx := 19) (by decide +kernel) h
-- 71 SyllableMaker$Reader.readOpen()V
theorem t_71 {x0 : Int} {M : Mem} {Q : AV → Mem → Prop} (h0 : gO 4 x0) (h : WI 75 [vR x0, vI 1, vI 2, vI 4] M (fun y2 M1 => inR y2 ∧ (if y2 = 0 then (Q (vI 0) M1) else ((gO 5 (M1 x0 1)) ∧ ((shA SH (M1 x0 1)).1 = 5) ∧ WL 83 [vR (M1 x0 1), vI 0, vI (M1 (M1 x0 1) 1)] M1 (fun y5 M4 => ((shA SH (M4 x0 4)).1 = 2) ∧ WI 44 [vR (M4 x0 4), vL y5] M4 (fun y7 M6 => inR y7 ∧ (if y7 = 0 then (((shA SH (M6 x0 4)).1 = 2) ∧ WV 43 [vR (M6 x0 4), vL y5] M6 (fun M9 => ((shA SH (M9 x0 0)).1 = 9) ∧ WV 128 [vR (M9 x0 0)] M9 (fun M11 => Q (vI 0) M11))) else (((shA SH (M6 x0 0)).1 = 9) ∧ WV 125 [vR (M6 x0 0), vI 4] M6 (fun M13 => ((shA SH (M13 x0 4)).1 = 2) ∧ WV 43 [vR (M13 x0 4), vL y5] M13 (fun M15 => ((shA SH (M15 x0 0)).1 = 9) ∧ WV 128 [vR (M15 x0 0)] M15 (fun M17 => Q (vI 0) M17))))))))))) : WC 71 [vR x0] M Q := by
  show WR 71 0 [some (vR x0), none, none] [] M Q
  refine g_7 (a := 0) (b := 0) (nx := 1) (by decide +kernel) rfl ?_
  refine g_1 (a := 1) (b := 0) (nx := 2) (by decide +kernel) ?_
  refine g_1 (a := 2) (b := 0) (nx := 3) (by decide +kernel) ?_
  refine g_1 (a := 4) (b := 0) (nx := 4) (by decide +kernel) ?_
  refine g_80 (a := 75) (b := 3) (nx := 7) (by decide +kernel) (r := x0) (As := [vI 1, vI 2, vI 4]) (st' := []) (z := 75) rfl rfl rfl (Nat.le_of_ble_eq_true rfl) h0.2 (Nat.le_of_ble_eq_true rfl) rfl (c_I (by decide +kernel) h (fun y2 M1 h => ?_))
  obtain ⟨r3, h⟩ := h
  by_cases c20 : y2 = 0
  · rw [if_pos c20] at h
    refine g_40f (a := 1) (b := 11) (nx := 10) (by decide +kernel) r3 (by exact fun hz => ((cb_1 _ _).mp hz) c20) ?_
    exact g_90 (a := 0) (b := 0) (nx := 11) (by decide +kernel) h
  · rw [if_neg c20] at h
    refine g_40t (a := 1) (b := 11) (nx := 10) (by decide +kernel) r3 (by exact (cb_1 _ _).mpr c20) ?_
    refine g_7 (a := 0) (b := 0) (nx := 12) (by decide +kernel) rfl ?_
    refine g_52 (a := 4) (b := 1) (nx := 15) (by decide +kernel) h0 ?_
    refine g_1 (a := 0) (b := 0) (nx := 16) (by decide +kernel) ?_
    refine g_7 (a := 0) (b := 0) (nx := 17) (by decide +kernel) rfl ?_
    refine g_52 (a := 4) (b := 1) (nx := 20) (by decide +kernel) h0 ?_
    refine g_50 (a := 5) (b := 1) (nx := 23) (by decide +kernel) h.1 ?_
    replace h := h.2
    refine g_80 (a := 83) (b := 2) (nx := 26) (by decide +kernel) (r := (M1 x0 1)) (As := [vI 0, vI (M1 (M1 x0 1) 1)]) (st' := []) (z := 83) rfl rfl rfl (Nat.le_of_ble_eq_true rfl) h.1 (Nat.le_of_ble_eq_true rfl) rfl (c_L (by decide +kernel) h.2 (fun y5 M4 h => ?_))
    refine g_9 (a := 1) (b := 0) (nx := 27) (by decide +kernel) ⟨rfl, Nat.le_of_ble_eq_true rfl⟩ (ls' := [some (vR x0), some (vL y5), none]) rfl ?_
    refine g_7 (a := 0) (b := 0) (nx := 28) (by decide +kernel) rfl ?_
    refine g_52 (a := 4) (b := 4) (nx := 31) (by decide +kernel) h0 ?_
    refine g_6 (a := 1) (b := 0) (nx := 32) (by decide +kernel) rfl ?_
    refine g_80 (a := 44) (b := 1) (nx := 35) (by decide +kernel) (r := (M4 x0 4)) (As := [vL y5]) (st' := []) (z := 44) rfl rfl rfl (Nat.le_of_ble_eq_true rfl) h.1 (Nat.le_of_ble_eq_true rfl) rfl (c_I (by decide +kernel) h.2 (fun y7 M6 h => ?_))
    obtain ⟨r8, h⟩ := h
    by_cases c19 : y7 = 0
    · rw [if_pos c19] at h
      refine g_40t (a := 0) (b := 46) (nx := 38) (by decide +kernel) r8 (by exact (cb_0 _ _).mpr c19) ?_
      refine g_7 (a := 0) (b := 0) (nx := 47) (by decide +kernel) rfl ?_
      refine g_52 (a := 4) (b := 4) (nx := 50) (by decide +kernel) h0 ?_
      refine g_6 (a := 1) (b := 0) (nx := 51) (by decide +kernel) rfl ?_
      refine g_80 (a := 43) (b := 1) (nx := 54) (by decide +kernel) (r := (M6 x0 4)) (As := [vL y5]) (st' := []) (z := 43) rfl rfl rfl (Nat.le_of_ble_eq_true rfl) h.1 (Nat.le_of_ble_eq_true rfl) rfl (c_V (by decide +kernel) h.2 (fun M9 h => ?_))
      refine g_7 (a := 0) (b := 0) (nx := 55) (by decide +kernel) rfl ?_
      refine g_52 (a := 4) (b := 0) (nx := 58) (by decide +kernel) h0 ?_
      refine g_80 (a := 128) (b := 0) (nx := 61) (by decide +kernel) (r := (M9 x0 0)) (As := []) (st' := []) (z := 128) rfl rfl rfl (Nat.le_of_ble_eq_true rfl) h.1 (Nat.le_of_ble_eq_true rfl) rfl (c_V (by decide +kernel) h.2 (fun M11 h => ?_))
      exact g_90 (a := 0) (b := 0) (nx := 62) (by decide +kernel) h
    · rw [if_neg c19] at h
      refine g_40f (a := 0) (b := 46) (nx := 38) (by decide +kernel) r8 (by exact fun hz => c19 ((cb_0 _ _).mp hz)) ?_
      refine g_7 (a := 0) (b := 0) (nx := 39) (by decide +kernel) rfl ?_
      refine g_52 (a := 4) (b := 0) (nx := 42) (by decide +kernel) h0 ?_
      refine g_1 (a := 4) (b := 0) (nx := 43) (by decide +kernel) ?_
      refine g_80 (a := 125) (b := 1) (nx := 46) (by decide +kernel) (r := (M6 x0 0)) (As := [vI 4]) (st' := []) (z := 125) rfl rfl rfl (Nat.le_of_ble_eq_true rfl) h.1 (Nat.le_of_ble_eq_true rfl) rfl (c_V (by decide +kernel) h.2 (fun M13 h => ?_))
      refine g_7 (a := 0) (b := 0) (nx := 47) (by decide +kernel) rfl ?_
      refine g_52 (a := 4) (b := 4) (nx := 50) (by decide +kernel) h0 ?_
      refine g_6 (a := 1) (b := 0) (nx := 51) (by decide +kernel) rfl ?_
      refine g_80 (a := 43) (b := 1) (nx := 54) (by decide +kernel) (r := (M13 x0 4)) (As := [vL y5]) (st' := []) (z := 43) rfl rfl rfl (Nat.le_of_ble_eq_true rfl) h.1 (Nat.le_of_ble_eq_true rfl) rfl (c_V (by decide +kernel) h.2 (fun M15 h => ?_))
      refine g_7 (a := 0) (b := 0) (nx := 55) (by decide +kernel) rfl ?_
      refine g_52 (a := 4) (b := 0) (nx := 58) (by decide +kernel) h0 ?_
      refine g_80 (a := 128) (b := 0) (nx := 61) (by decide +kernel) (r := (M15 x0 0)) (As := []) (st' := []) (z := 128) rfl rfl rfl (Nat.le_of_ble_eq_true rfl) h.1 (Nat.le_of_ble_eq_true rfl) rfl (c_V (by decide +kernel) h.2 (fun M17 h => ?_))
      exact g_90 (a := 0) (b := 0) (nx := 62) (by decide +kernel) h
-- 72 SyllableMaker$Reader.readGlide()V
theorem t_72 {x0 : Int} {M : Mem} {Q : AV → Mem → Prop} (h0 : gO 4 x0) (h : WI 75 [vR x0, vI 2, vI 2, vI 2] M (fun y2 M1 => inR y2 ∧ (if y2 = 0 then (Q (vI 0) M1) else (((shA SH (M1 x0 1)).1 = 5) ∧ WI 82 [vR (M1 x0 1), vI 0] M1 (fun y5 M4 => ((shA SH (M4 x0 1)).1 = 5) ∧ WI 82 [vR (M4 x0 1), vI 1] M4 (fun y7 M6 => inR y5 ∧ (inR y7 ∧ (if y5 = y7 then (((shA SH (M6 x0 0)).1 = 9) ∧ WV 125 [vR (M6 x0 0), vI 4] M6 (fun M10 => ((shA SH (M10 x0 4)).1 = 2) ∧ WV 45 [vR (M10 x0 4), vI y5, vI y7] M10 (fun M12 => ((shA SH (M12 x0 0)).1 = 9) ∧ WV 128 [vR (M12 x0 0)] M12 (fun M14 => Q (vI 0) M14)))) else (((shA SH (M6 x0 4)).1 = 2) ∧ WI 46 [vR (M6 x0 4), vI y5, vI y7] M6 (fun y17 M16 => inR y17 ∧ (if y17 = 0 then (((shA SH (M16 x0 4)).1 = 2) ∧ WV 45 [vR (M16 x0 4), vI y5, vI y7] M16 (fun M19 => ((shA SH (M19 x0 0)).1 = 9) ∧ WV 128 [vR (M19 x0 0)] M19 (fun M21 => Q (vI 0) M21))) else (((shA SH (M16 x0 0)).1 = 9) ∧ WV 125 [vR (M16 x0 0), vI 4] M16 (fun M23 => ((shA SH (M23 x0 4)).1 = 2) ∧ WV 45 [vR (M23 x0 4), vI y5, vI y7] M23 (fun M25 => ((shA SH (M25 x0 0)).1 = 9) ∧ WV 128 [vR (M25 x0 0)] M25 (fun M27 => Q (vI 0) M27))))))))))))))) : WC 72 [vR x0] M Q := by
  show WR 72 0 [some (vR x0), none, none] [] M Q
  refine g_7 (a := 0) (b := 0) (nx := 1) (by decide +kernel) rfl ?_
  refine g_1 (a := 2) (b := 0) (nx := 2) (by decide +kernel) ?_
  refine g_1 (a := 2) (b := 0) (nx := 3) (by decide +kernel) ?_
  refine g_1 (a := 2) (b := 0) (nx := 4) (by decide +kernel) ?_
  refine g_80 (a := 75) (b := 3) (nx := 7) (by decide +kernel) (r := x0) (As := [vI 2, vI 2, vI 2]) (st' := []) (z := 75) rfl rfl rfl (Nat.le_of_ble_eq_true rfl) h0.2 (Nat.le_of_ble_eq_true rfl) rfl (c_I (by decide +kernel) h (fun y2 M1 h => ?_))
  obtain ⟨r3, h⟩ := h
  by_cases c31 : y2 = 0
  · rw [if_pos c31] at h
    refine g_40f (a := 1) (b := 11) (nx := 10) (by decide +kernel) r3 (by exact fun hz => ((cb_1 _ _).mp hz) c31) ?_
    exact g_90 (a := 0) (b := 0) (nx := 11) (by decide +kernel) h
  · rw [if_neg c31] at h
    refine g_40t (a := 1) (b := 11) (nx := 10) (by decide +kernel) r3 (by exact (cb_1 _ _).mpr c31) ?_
    refine g_7 (a := 0) (b := 0) (nx := 12) (by decide +kernel) rfl ?_
    refine g_52 (a := 4) (b := 1) (nx := 15) (by decide +kernel) h0 ?_
    refine g_1 (a := 0) (b := 0) (nx := 16) (by decide +kernel) ?_
    refine g_80 (a := 82) (b := 1) (nx := 19) (by decide +kernel) (r := (M1 x0 1)) (As := [vI 0]) (st' := []) (z := 82) rfl rfl rfl (Nat.le_of_ble_eq_true rfl) h.1 (Nat.le_of_ble_eq_true rfl) rfl (c_I (by decide +kernel) h.2 (fun y5 M4 h => ?_))
    refine g_8 (a := 1) (b := 0) (nx := 20) (by decide +kernel) rfl (ls' := [some (vR x0), some (vI y5), none]) rfl ?_
    refine g_7 (a := 0) (b := 0) (nx := 21) (by decide +kernel) rfl ?_
    refine g_52 (a := 4) (b := 1) (nx := 24) (by decide +kernel) h0 ?_
    refine g_1 (a := 1) (b := 0) (nx := 25) (by decide +kernel) ?_
    refine g_80 (a := 82) (b := 1) (nx := 28) (by decide +kernel) (r := (M4 x0 1)) (As := [vI 1]) (st' := []) (z := 82) rfl rfl rfl (Nat.le_of_ble_eq_true rfl) h.1 (Nat.le_of_ble_eq_true rfl) rfl (c_I (by decide +kernel) h.2 (fun y7 M6 h => ?_))
    refine g_8 (a := 2) (b := 0) (nx := 29) (by decide +kernel) rfl (ls' := [some (vR x0), some (vI y5), some (vI y7)]) rfl ?_
    refine g_5 (a := 1) (b := 0) (nx := 30) (by decide +kernel) rfl ?_
    refine g_5 (a := 2) (b := 0) (nx := 31) (by decide +kernel) rfl ?_
    obtain ⟨r8, h⟩ := h
    obtain ⟨r9, h⟩ := h
    by_cases c30 : y5 = y7
    · rw [if_pos c30] at h
      refine g_41t (a := 0) (b := 46) (nx := 34) (by decide +kernel) (by rw [wr_id r8, wr_id r9]; exact (cb_0 _ _).mpr c30) ?_
      refine g_7 (a := 0) (b := 0) (nx := 47) (by decide +kernel) rfl ?_
      refine g_52 (a := 4) (b := 0) (nx := 50) (by decide +kernel) h0 ?_
      refine g_1 (a := 4) (b := 0) (nx := 51) (by decide +kernel) ?_
      refine g_80 (a := 125) (b := 1) (nx := 54) (by decide +kernel) (r := (M6 x0 0)) (As := [vI 4]) (st' := []) (z := 125) rfl rfl rfl (Nat.le_of_ble_eq_true rfl) h.1 (Nat.le_of_ble_eq_true rfl) rfl (c_V (by decide +kernel) h.2 (fun M10 h => ?_))
      refine g_7 (a := 0) (b := 0) (nx := 55) (by decide +kernel) rfl ?_
      refine g_52 (a := 4) (b := 4) (nx := 58) (by decide +kernel) h0 ?_
      refine g_5 (a := 1) (b := 0) (nx := 59) (by decide +kernel) rfl ?_
      refine g_5 (a := 2) (b := 0) (nx := 60) (by decide +kernel) rfl ?_
      refine g_80 (a := 45) (b := 2) (nx := 63) (by decide +kernel) (r := (M10 x0 4)) (As := [vI y5, vI y7]) (st' := []) (z := 45) rfl rfl rfl (Nat.le_of_ble_eq_true rfl) h.1 (Nat.le_of_ble_eq_true rfl) rfl (c_V (by decide +kernel) h.2 (fun M12 h => ?_))
      refine g_7 (a := 0) (b := 0) (nx := 64) (by decide +kernel) rfl ?_
      refine g_52 (a := 4) (b := 0) (nx := 67) (by decide +kernel) h0 ?_
      refine g_80 (a := 128) (b := 0) (nx := 70) (by decide +kernel) (r := (M12 x0 0)) (As := []) (st' := []) (z := 128) rfl rfl rfl (Nat.le_of_ble_eq_true rfl) h.1 (Nat.le_of_ble_eq_true rfl) rfl (c_V (by decide +kernel) h.2 (fun M14 h => ?_))
      exact g_90 (a := 0) (b := 0) (nx := 71) (by decide +kernel) h
    · rw [if_neg c30] at h
      refine g_41f (a := 0) (b := 46) (nx := 34) (by decide +kernel) (by rw [wr_id r8, wr_id r9]; exact fun hz => c30 ((cb_0 _ _).mp hz)) ?_
      refine g_7 (a := 0) (b := 0) (nx := 35) (by decide +kernel) rfl ?_
      refine g_52 (a := 4) (b := 4) (nx := 38) (by decide +kernel) h0 ?_
      refine g_5 (a := 1) (b := 0) (nx := 39) (by decide +kernel) rfl ?_
      refine g_5 (a := 2) (b := 0) (nx := 40) (by decide +kernel) rfl ?_
      refine g_80 (a := 46) (b := 2) (nx := 43) (by decide +kernel) (r := (M6 x0 4)) (As := [vI y5, vI y7]) (st' := []) (z := 46) rfl rfl rfl (Nat.le_of_ble_eq_true rfl) h.1 (Nat.le_of_ble_eq_true rfl) rfl (c_I (by decide +kernel) h.2 (fun y17 M16 h => ?_))
      obtain ⟨r18, h⟩ := h
      by_cases c29 : y17 = 0
      · rw [if_pos c29] at h
        refine g_40t (a := 0) (b := 54) (nx := 46) (by decide +kernel) r18 (by exact (cb_0 _ _).mpr c29) ?_
        refine g_7 (a := 0) (b := 0) (nx := 55) (by decide +kernel) rfl ?_
        refine g_52 (a := 4) (b := 4) (nx := 58) (by decide +kernel) h0 ?_
        refine g_5 (a := 1) (b := 0) (nx := 59) (by decide +kernel) rfl ?_
        refine g_5 (a := 2) (b := 0) (nx := 60) (by decide +kernel) rfl ?_
        refine g_80 (a := 45) (b := 2) (nx := 63) (by decide +kernel) (r := (M16 x0 4)) (As := [vI y5, vI y7]) (st' := []) (z := 45) rfl rfl rfl (Nat.le_of_ble_eq_true rfl) h.1 (Nat.le_of_ble_eq_true rfl) rfl (c_V (by decide +kernel) h.2 (fun M19 h => ?_))
        refine g_7 (a := 0) (b := 0) (nx := 64) (by decide +kernel) rfl ?_
        refine g_52 (a := 4) (b := 0) (nx := 67) (by decide +kernel) h0 ?_
        refine g_80 (a := 128) (b := 0) (nx := 70) (by decide +kernel) (r := (M19 x0 0)) (As := []) (st' := []) (z := 128) rfl rfl rfl (Nat.le_of_ble_eq_true rfl) h.1 (Nat.le_of_ble_eq_true rfl) rfl (c_V (by decide +kernel) h.2 (fun M21 h => ?_))
        exact g_90 (a := 0) (b := 0) (nx := 71) (by decide +kernel) h
      · rw [if_neg c29] at h
        refine g_40f (a := 0) (b := 54) (nx := 46) (by decide +kernel) r18 (by exact fun hz => c29 ((cb_0 _ _).mp hz)) ?_
        refine g_7 (a := 0) (b := 0) (nx := 47) (by decide +kernel) rfl ?_
        refine g_52 (a := 4) (b := 0) (nx := 50) (by decide +kernel) h0 ?_
        refine g_1 (a := 4) (b := 0) (nx := 51) (by decide +kernel) ?_
        refine g_80 (a := 125) (b := 1) (nx := 54) (by decide +kernel) (r := (M16 x0 0)) (As := [vI 4]) (st' := []) (z := 125) rfl rfl rfl (Nat.le_of_ble_eq_true rfl) h.1 (Nat.le_of_ble_eq_true rfl) rfl (c_V (by decide +kernel) h.2 (fun M23 h => ?_))
        refine g_7 (a := 0) (b := 0) (nx := 55) (by decide +kernel) rfl ?_
        refine g_52 (a := 4) (b := 4) (nx := 58) (by decide +kernel) h0 ?_
        refine g_5 (a := 1) (b := 0) (nx := 59) (by decide +kernel) rfl ?_
        refine g_5 (a := 2) (b := 0) (nx := 60) (by decide +kernel) rfl ?_
        refine g_80 (a := 45) (b := 2) (nx := 63) (by decide +kernel) (r := (M23 x0 4)) (As := [vI y5, vI y7]) (st' := []) (z := 45) rfl rfl rfl (Nat.le_of_ble_eq_true rfl) h.1 (Nat.le_of_ble_eq_true rfl) rfl (c_V (by decide +kernel) h.2 (fun M25 h => ?_))
        refine g_7 (a := 0) (b := 0) (nx := 64) (by decide +kernel) rfl ?_
        refine g_52 (a := 4) (b := 0) (nx := 67) (by decide +kernel) h0 ?_
        refine g_80 (a := 128) (b := 0) (nx := 70) (by decide +kernel) (r := (M25 x0 0)) (As := []) (st' := []) (z := 128) rfl rfl rfl (Nat.le_of_ble_eq_true rfl) h.1 (Nat.le_of_ble_eq_true rfl) rfl (c_V (by decide +kernel) h.2 (fun M27 h => ?_))
        exact g_90 (a := 0) (b := 0) (nx := 71) (by decide +kernel) h
-- 73 SyllableMaker$Reader.readCost()V
theorem t_73 {x0 : Int} {M : Mem} {Q : AV → Mem → Prop} (h0 : gO 4 x0) (h : WI 74 [vR x0] M (fun y2 M1 => inR y2 ∧ (if y2 < 0 then (((shA SH (M1 x0 0)).1 = 9) ∧ WV 126 [vR (M1 x0 0)] M1 (fun M4 => Q (vI 0) M4)) else (((M1 x0 3) ≠ -2000 ∧ 20 ≤ (shA SH (M1 x0 3)).1 ∧ (shA SH (M1 x0 3)).1 ≤ 41 ∧ (shA SH (M1 x0 3)).1 ≠ 40) ∧ inR ((shA SH (M1 x0 3)).2 : Int) ∧ (if ((shA SH (M1 x0 3)).2 : Int) ≤ y2 then (((shA SH (M1 x0 0)).1 = 9) ∧ WV 126 [vR (M1 x0 0)] M1 (fun M7 => Q (vI 0) M7)) else ((gA 21 (M1 x0 3) y2 ∨ gA 22 (M1 x0 3) y2) ∧ inR (M1 (M1 x0 3) y2) ∧ (if (M1 (M1 x0 3) y2) = 0 then ((gA 21 (M1 x0 3) y2 ∨ gA 22 (M1 x0 3) y2) ∧ ((shA SH ((upM M1 (M1 x0 3) y2 1) x0 0)).1 = 9) ∧ WV 128 [vR ((upM M1 (M1 x0 3) y2 1) x0 0)] (upM M1 (M1 x0 3) y2 1) (fun M10 => WI 76 [vR x0, vI 0, vI 999] M10 (fun y13 M12 => ((shA SH (M10 x0 4)).1 = 2) ∧ WV 42 [vR (M10 x0 4), vI y2, vI y13] M12 (fun M14 => Q (vI 0) M14)))) else (((shA SH (M1 x0 0)).1 = 9) ∧ WV 126 [vR (M1 x0 0)] M1 (fun M16 => Q (vI 0) M16))))))))) : WC 73 [vR x0] M Q := by
  show WR 73 0 [some (vR x0), none] [] M Q
  refine g_7 (a := 0) (b := 0) (nx := 1) (by decide +kernel) rfl ?_
  refine g_80 (a := 74) (b := 0) (nx := 4) (by decide +kernel) (r := x0) (As := []) (st' := []) (z := 74) rfl rfl rfl (Nat.le_of_ble_eq_true rfl) h0.2 (Nat.le_of_ble_eq_true rfl) rfl (c_I (by decide +kernel) h (fun y2 M1 h => ?_))
  refine g_8 (a := 1) (b := 0) (nx := 5) (by decide +kernel) rfl (ls' := [some (vR x0), some (vI y2)]) rfl ?_
  refine g_5 (a := 1) (b := 0) (nx := 6) (by decide +kernel) rfl ?_
  obtain ⟨r3, h⟩ := h
  by_cases c20 : y2 < 0
  · rw [if_pos c20] at h
    refine g_40t (a := 2) (b := 27) (nx := 9) (by decide +kernel) r3 (by exact (cb_2 _ _).mpr c20) ?_
    refine g_7 (a := 0) (b := 0) (nx := 28) (by decide +kernel) rfl ?_
    refine g_52 (a := 4) (b := 0) (nx := 31) (by decide +kernel) h0 ?_
    refine g_80 (a := 126) (b := 0) (nx := 34) (by decide +kernel) (r := (M1 x0 0)) (As := []) (st' := []) (z := 126) rfl rfl rfl (Nat.le_of_ble_eq_true rfl) h.1 (Nat.le_of_ble_eq_true rfl) rfl (c_V (by decide +kernel) h.2 (fun M4 h => ?_))
    exact g_90 (a := 0) (b := 0) (nx := 35) (by decide +kernel) h
  · rw [if_neg c20] at h
    refine g_40f (a := 2) (b := 27) (nx := 9) (by decide +kernel) r3 (by exact fun hz => c20 ((cb_2 _ _).mp hz)) ?_
    refine g_5 (a := 1) (b := 0) (nx := 10) (by decide +kernel) rfl ?_
    refine g_7 (a := 0) (b := 0) (nx := 11) (by decide +kernel) rfl ?_
    refine g_52 (a := 4) (b := 3) (nx := 14) (by decide +kernel) h0 ?_
    refine g_60 (a := 0) (b := 0) (nx := 15) (by decide +kernel) h.1.1 h.1.2 ?_
    replace h := h.2
    obtain ⟨r6, h⟩ := h
    by_cases c19 : ((shA SH (M1 x0 3)).2 : Int) ≤ y2
    · rw [if_pos c19] at h
      refine g_41t (a := 3) (b := 27) (nx := 18) (by decide +kernel) (by rw [wr_id r3, wr_id r6]; exact (cb_3 _ _).mpr c19) ?_
      refine g_7 (a := 0) (b := 0) (nx := 28) (by decide +kernel) rfl ?_
      refine g_52 (a := 4) (b := 0) (nx := 31) (by decide +kernel) h0 ?_
      refine g_80 (a := 126) (b := 0) (nx := 34) (by decide +kernel) (r := (M1 x0 0)) (As := []) (st' := []) (z := 126) rfl rfl rfl (Nat.le_of_ble_eq_true rfl) h.1 (Nat.le_of_ble_eq_true rfl) rfl (c_V (by decide +kernel) h.2 (fun M7 h => ?_))
      exact g_90 (a := 0) (b := 0) (nx := 35) (by decide +kernel) h
    · rw [if_neg c19] at h
      refine g_41f (a := 3) (b := 27) (nx := 18) (by decide +kernel) (by rw [wr_id r3, wr_id r6]; exact fun hz => c19 ((cb_3 _ _).mp hz)) ?_
      refine g_7 (a := 0) (b := 0) (nx := 19) (by decide +kernel) rfl ?_
      refine g_52 (a := 4) (b := 3) (nx := 22) (by decide +kernel) h0 ?_
      refine g_5 (a := 1) (b := 0) (nx := 23) (by decide +kernel) rfl ?_
      refine g_63 (a := 0) (b := 0) (nx := 24) (by decide +kernel) h.1 ?_
      replace h := h.2
      obtain ⟨r9, h⟩ := h
      by_cases c18 : (M1 (M1 x0 3) y2) = 0
      · rw [if_pos c18] at h
        refine g_40t (a := 0) (b := 35) (nx := 27) (by decide +kernel) r9 (by exact (cb_0 _ _).mpr c18) ?_
        refine g_7 (a := 0) (b := 0) (nx := 36) (by decide +kernel) rfl ?_
        refine g_52 (a := 4) (b := 3) (nx := 39) (by decide +kernel) h0 ?_
        refine g_5 (a := 1) (b := 0) (nx := 40) (by decide +kernel) rfl ?_
        refine g_1 (a := 1) (b := 0) (nx := 41) (by decide +kernel) ?_
        refine g_64 (a := 0) (b := 0) (nx := 42) (by decide +kernel) (h.1.imp (fun q => ⟨q, by decide⟩) (fun q => ⟨q, by decide⟩)) ?_
        replace h := h.2
        refine g_7 (a := 0) (b := 0) (nx := 43) (by decide +kernel) rfl ?_
        refine g_52 (a := 4) (b := 0) (nx := 46) (by decide +kernel) h0 ?_
        refine g_80 (a := 128) (b := 0) (nx := 49) (by decide +kernel) (r := ((upM M1 (M1 x0 3) y2 1) x0 0)) (As := []) (st' := []) (z := 128) rfl rfl rfl (Nat.le_of_ble_eq_true rfl) h.1 (Nat.le_of_ble_eq_true rfl) rfl (c_V (by decide +kernel) h.2 (fun M10 h => ?_))
        refine g_7 (a := 0) (b := 0) (nx := 50) (by decide +kernel) rfl ?_
        refine g_52 (a := 4) (b := 4) (nx := 53) (by decide +kernel) h0 ?_
        refine g_5 (a := 1) (b := 0) (nx := 54) (by decide +kernel) rfl ?_
        refine g_7 (a := 0) (b := 0) (nx := 55) (by decide +kernel) rfl ?_
        refine g_1 (a := 0) (b := 0) (nx := 56) (by decide +kernel) ?_
        refine g_1 (a := 999) (b := 0) (nx := 59) (by decide +kernel) ?_
        refine g_80 (a := 76) (b := 2) (nx := 62) (by decide +kernel) (r := x0) (As := [vI 0, vI 999]) (st' := [vI y2, vR (M10 x0 4)]) (z := 76) rfl rfl rfl (Nat.le_of_ble_eq_true rfl) h0.2 (Nat.le_of_ble_eq_true rfl) rfl (c_I (by decide +kernel) h (fun y13 M12 h => ?_))
        refine g_80 (a := 42) (b := 2) (nx := 65) (by decide +kernel) (r := (M10 x0 4)) (As := [vI y2, vI y13]) (st' := []) (z := 42) rfl rfl rfl (Nat.le_of_ble_eq_true rfl) h.1 (Nat.le_of_ble_eq_true rfl) rfl (c_V (by decide +kernel) h.2 (fun M14 h => ?_))
        exact g_90 (a := 0) (b := 0) (nx := 66) (by decide +kernel) h
      · rw [if_neg c18] at h
        refine g_40f (a := 0) (b := 35) (nx := 27) (by decide +kernel) r9 (by exact fun hz => c18 ((cb_0 _ _).mp hz)) ?_
        refine g_7 (a := 0) (b := 0) (nx := 28) (by decide +kernel) rfl ?_
        refine g_52 (a := 4) (b := 0) (nx := 31) (by decide +kernel) h0 ?_
        refine g_80 (a := 126) (b := 0) (nx := 34) (by decide +kernel) (r := (M1 x0 0)) (As := []) (st' := []) (z := 126) rfl rfl rfl (Nat.le_of_ble_eq_true rfl) h.1 (Nat.le_of_ble_eq_true rfl) rfl (c_V (by decide +kernel) h.2 (fun M16 h => ?_))
        exact g_90 (a := 0) (b := 0) (nx := 35) (by decide +kernel) h
-- 74 SyllableMaker$Reader.costHere()I
theorem t_74 {x0 : Int} {M : Mem} {Q : AV → Mem → Prop} (h0 : gO 4 x0) (h : ((shA SH (M x0 0)).1 = 9) ∧ WI 133 [vR (M x0 0), vR (-13)] M (fun y2 M1 => inR y2 ∧ (if y2 = 0 then (((shA SH (M1 x0 0)).1 = 9) ∧ WI 133 [vR (M1 x0 0), vR (-14)] M1 (fun y5 M4 => inR y5 ∧ (if y5 = 0 then (((shA SH (M4 x0 0)).1 = 9) ∧ WI 133 [vR (M4 x0 0), vR (-15)] M4 (fun y8 M7 => inR y8 ∧ (if y8 = 0 then (((shA SH (M7 x0 0)).1 = 9) ∧ WI 133 [vR (M7 x0 0), vR (-16)] M7 (fun y11 M10 => inR y11 ∧ (if y11 = 0 then (((shA SH (M10 x0 0)).1 = 9) ∧ WI 133 [vR (M10 x0 0), vR (-17)] M10 (fun y14 M13 => inR y14 ∧ (if y14 = 0 then (((shA SH (M13 x0 0)).1 = 9) ∧ WI 133 [vR (M13 x0 0), vR (-18)] M13 (fun y17 M16 => inR y17 ∧ (if y17 = 0 then (Q (vI (-1)) M16) else (Q (vI 5) M16)))) else (Q (vI 4) M13)))) else (Q (vI 3) M10)))) else (Q (vI 2) M7)))) else (Q (vI 1) M4)))) else (Q (vI 0) M1)))) : WC 74 [vR x0] M Q := by
  show WR 74 0 [some (vR x0)] [] M Q
  refine g_7 (a := 0) (b := 0) (nx := 1) (by decide +kernel) rfl ?_
  refine g_52 (a := 4) (b := 0) (nx := 4) (by decide +kernel) h0 ?_
  refine g_4 (a := (-13)) (b := 0) (nx := 6) (by decide +kernel) ?_
  refine g_80 (a := 133) (b := 1) (nx := 9) (by decide +kernel) (r := (M x0 0)) (As := [vR (-13)]) (st' := []) (z := 133) rfl rfl rfl (Nat.le_of_ble_eq_true rfl) h.1 (Nat.le_of_ble_eq_true rfl) rfl (c_I (by decide +kernel) h.2 (fun y2 M1 h => ?_))
  obtain ⟨r3, h⟩ := h
  by_cases c24 : y2 = 0
  · rw [if_pos c24] at h
    refine g_40t (a := 0) (b := 14) (nx := 12) (by decide +kernel) r3 (by exact (cb_0 _ _).mpr c24) ?_
    refine g_7 (a := 0) (b := 0) (nx := 15) (by decide +kernel) rfl ?_
    refine g_52 (a := 4) (b := 0) (nx := 18) (by decide +kernel) h0 ?_
    refine g_4 (a := (-14)) (b := 0) (nx := 20) (by decide +kernel) ?_
    refine g_80 (a := 133) (b := 1) (nx := 23) (by decide +kernel) (r := (M1 x0 0)) (As := [vR (-14)]) (st' := []) (z := 133) rfl rfl rfl (Nat.le_of_ble_eq_true rfl) h.1 (Nat.le_of_ble_eq_true rfl) rfl (c_I (by decide +kernel) h.2 (fun y5 M4 h => ?_))
    obtain ⟨r6, h⟩ := h
    by_cases c23 : y5 = 0
    · rw [if_pos c23] at h
      refine g_40t (a := 0) (b := 28) (nx := 26) (by decide +kernel) r6 (by exact (cb_0 _ _).mpr c23) ?_
      refine g_7 (a := 0) (b := 0) (nx := 29) (by decide +kernel) rfl ?_
      refine g_52 (a := 4) (b := 0) (nx := 32) (by decide +kernel) h0 ?_
      refine g_4 (a := (-15)) (b := 0) (nx := 34) (by decide +kernel) ?_
      refine g_80 (a := 133) (b := 1) (nx := 37) (by decide +kernel) (r := (M4 x0 0)) (As := [vR (-15)]) (st' := []) (z := 133) rfl rfl rfl (Nat.le_of_ble_eq_true rfl) h.1 (Nat.le_of_ble_eq_true rfl) rfl (c_I (by decide +kernel) h.2 (fun y8 M7 h => ?_))
      obtain ⟨r9, h⟩ := h
      by_cases c22 : y8 = 0
      · rw [if_pos c22] at h
        refine g_40t (a := 0) (b := 42) (nx := 40) (by decide +kernel) r9 (by exact (cb_0 _ _).mpr c22) ?_
        refine g_7 (a := 0) (b := 0) (nx := 43) (by decide +kernel) rfl ?_
        refine g_52 (a := 4) (b := 0) (nx := 46) (by decide +kernel) h0 ?_
        refine g_4 (a := (-16)) (b := 0) (nx := 48) (by decide +kernel) ?_
        refine g_80 (a := 133) (b := 1) (nx := 51) (by decide +kernel) (r := (M7 x0 0)) (As := [vR (-16)]) (st' := []) (z := 133) rfl rfl rfl (Nat.le_of_ble_eq_true rfl) h.1 (Nat.le_of_ble_eq_true rfl) rfl (c_I (by decide +kernel) h.2 (fun y11 M10 h => ?_))
        obtain ⟨r12, h⟩ := h
        by_cases c21 : y11 = 0
        · rw [if_pos c21] at h
          refine g_40t (a := 0) (b := 56) (nx := 54) (by decide +kernel) r12 (by exact (cb_0 _ _).mpr c21) ?_
          refine g_7 (a := 0) (b := 0) (nx := 57) (by decide +kernel) rfl ?_
          refine g_52 (a := 4) (b := 0) (nx := 60) (by decide +kernel) h0 ?_
          refine g_4 (a := (-17)) (b := 0) (nx := 62) (by decide +kernel) ?_
          refine g_80 (a := 133) (b := 1) (nx := 65) (by decide +kernel) (r := (M10 x0 0)) (As := [vR (-17)]) (st' := []) (z := 133) rfl rfl rfl (Nat.le_of_ble_eq_true rfl) h.1 (Nat.le_of_ble_eq_true rfl) rfl (c_I (by decide +kernel) h.2 (fun y14 M13 h => ?_))
          obtain ⟨r15, h⟩ := h
          by_cases c20 : y14 = 0
          · rw [if_pos c20] at h
            refine g_40t (a := 0) (b := 70) (nx := 68) (by decide +kernel) r15 (by exact (cb_0 _ _).mpr c20) ?_
            refine g_7 (a := 0) (b := 0) (nx := 71) (by decide +kernel) rfl ?_
            refine g_52 (a := 4) (b := 0) (nx := 74) (by decide +kernel) h0 ?_
            refine g_4 (a := (-18)) (b := 0) (nx := 76) (by decide +kernel) ?_
            refine g_80 (a := 133) (b := 1) (nx := 79) (by decide +kernel) (r := (M13 x0 0)) (As := [vR (-18)]) (st' := []) (z := 133) rfl rfl rfl (Nat.le_of_ble_eq_true rfl) h.1 (Nat.le_of_ble_eq_true rfl) rfl (c_I (by decide +kernel) h.2 (fun y17 M16 h => ?_))
            obtain ⟨r18, h⟩ := h
            by_cases c19 : y17 = 0
            · rw [if_pos c19] at h
              refine g_40t (a := 0) (b := 84) (nx := 82) (by decide +kernel) r18 (by exact (cb_0 _ _).mpr c19) ?_
              refine g_1 (a := (-1)) (b := 0) (nx := 85) (by decide +kernel) ?_
              exact g_91 (b := 0) (nx := 86) (by decide +kernel) h
            · rw [if_neg c19] at h
              refine g_40f (a := 0) (b := 84) (nx := 82) (by decide +kernel) r18 (by exact fun hz => c19 ((cb_0 _ _).mp hz)) ?_
              refine g_1 (a := 5) (b := 0) (nx := 83) (by decide +kernel) ?_
              exact g_91 (b := 0) (nx := 84) (by decide +kernel) h
          · rw [if_neg c20] at h
            refine g_40f (a := 0) (b := 70) (nx := 68) (by decide +kernel) r15 (by exact fun hz => c20 ((cb_0 _ _).mp hz)) ?_
            refine g_1 (a := 4) (b := 0) (nx := 69) (by decide +kernel) ?_
            exact g_91 (b := 0) (nx := 70) (by decide +kernel) h
        · rw [if_neg c21] at h
          refine g_40f (a := 0) (b := 56) (nx := 54) (by decide +kernel) r12 (by exact fun hz => c21 ((cb_0 _ _).mp hz)) ?_
          refine g_1 (a := 3) (b := 0) (nx := 55) (by decide +kernel) ?_
          exact g_91 (b := 0) (nx := 56) (by decide +kernel) h
      · rw [if_neg c22] at h
        refine g_40f (a := 0) (b := 42) (nx := 40) (by decide +kernel) r9 (by exact fun hz => c22 ((cb_0 _ _).mp hz)) ?_
        refine g_1 (a := 2) (b := 0) (nx := 41) (by decide +kernel) ?_
        exact g_91 (b := 0) (nx := 42) (by decide +kernel) h
    · rw [if_neg c23] at h
      refine g_40f (a := 0) (b := 28) (nx := 26) (by decide +kernel) r6 (by exact fun hz => c23 ((cb_0 _ _).mp hz)) ?_
      refine g_1 (a := 1) (b := 0) (nx := 27) (by decide +kernel) ?_
      exact g_91 (b := 0) (nx := 28) (by decide +kernel) h
  · rw [if_neg c24] at h
    refine g_40f (a := 0) (b := 14) (nx := 12) (by decide +kernel) r3 (by exact fun hz => c24 ((cb_0 _ _).mp hz)) ?_
    refine g_1 (a := 0) (b := 0) (nx := 13) (by decide +kernel) ?_
    exact g_91 (b := 0) (nx := 14) (by decide +kernel) h
-- 75 SyllableMaker$Reader.readRow(III)Z
theorem t_75 {x0 x1 x2 x3 : Int} {M : Mem} {Q : AV → Mem → Prop} (h0 : gO 4 x0) (h : (gO 9 (M x0 0)) ∧ inR (M (M x0 0) 2) ∧ (if (M (M x0 0) 2) = 1 then (((shA SH (M x0 1)).1 = 5) ∧ WV 79 [vR (M x0 1)] M (fun M2 => WR 75 30 [some (vR x0), some (vI x1), some (vI x2), some (vI x3), some (vI 0), none, none] [] M2 Q)) else (((shA SH (M x0 0)).1 = 9) ∧ WV 126 [vR (M x0 0)] M (fun M4 => Q (vI 0) M4)))) : WC 75 [vR x0, vI x1, vI x2, vI x3] M Q := by
  show WR 75 0 [some (vR x0), some (vI x1), some (vI x2), some (vI x3), none, none, none] [] M Q
  refine g_7 (a := 0) (b := 0) (nx := 1) (by decide +kernel) rfl ?_
  refine g_52 (a := 4) (b := 0) (nx := 4) (by decide +kernel) h0 ?_
  refine g_50 (a := 9) (b := 2) (nx := 7) (by decide +kernel) h.1 ?_
  replace h := h.2
  refine g_1 (a := 1) (b := 0) (nx := 8) (by decide +kernel) ?_
  obtain ⟨r1, h⟩ := h
  by_cases c6 : (M (M x0 0) 2) = 1
  · rw [if_pos c6] at h
    refine g_41t (a := 0) (b := 20) (nx := 11) (by decide +kernel) (by rw [wr_id r1, wr_id (show inR 1 by decide)]; exact (cb_0 _ _).mpr c6) ?_
    refine g_7 (a := 0) (b := 0) (nx := 21) (by decide +kernel) rfl ?_
    refine g_52 (a := 4) (b := 1) (nx := 24) (by decide +kernel) h0 ?_
    refine g_80 (a := 79) (b := 0) (nx := 27) (by decide +kernel) (r := (M x0 1)) (As := []) (st' := []) (z := 79) rfl rfl rfl (Nat.le_of_ble_eq_true rfl) h.1 (Nat.le_of_ble_eq_true rfl) rfl (c_V (by decide +kernel) h.2 (fun M2 h => ?_))
    refine g_1 (a := 0) (b := 0) (nx := 28) (by decide +kernel) ?_
    refine g_8 (a := 4) (b := 0) (nx := 30) (by decide +kernel) rfl (ls' := [some (vR x0), some (vI x1), some (vI x2), some (vI x3), some (vI 0), none, none]) rfl ?_
    exact h
  · rw [if_neg c6] at h
    refine g_41f (a := 0) (b := 20) (nx := 11) (by decide +kernel) (by rw [wr_id r1, wr_id (show inR 1 by decide)]; exact fun hz => c6 ((cb_0 _ _).mp hz)) ?_
    refine g_7 (a := 0) (b := 0) (nx := 12) (by decide +kernel) rfl ?_
    refine g_52 (a := 4) (b := 0) (nx := 15) (by decide +kernel) h0 ?_
    refine g_80 (a := 126) (b := 0) (nx := 18) (by decide +kernel) (r := (M x0 0)) (As := []) (st' := []) (z := 126) rfl rfl rfl (Nat.le_of_ble_eq_true rfl) h.1 (Nat.le_of_ble_eq_true rfl) rfl (c_V (by decide +kernel) h.2 (fun M4 h => ?_))
    refine g_1 (a := 0) (b := 0) (nx := 19) (by decide +kernel) ?_
    exact g_91z (b := 0) (nx := 20) (by decide +kernel) (by decide) h
theorem t_75_30 {x0 x1 x2 x3 x4 : Int} {l5 l6 : Option AV} {M : Mem} {Q : AV → Mem → Prop} (h0 : gO 4 x0) (h : (gO 9 (M x0 0)) ∧ inR x4 ∧ (inR (M (M x0 0) 4) ∧ (if (M (M x0 0) 4) ≤ x4 then ((gO 5 (M x0 1)) ∧ inR (M (M x0 1) 1) ∧ (inR x2 ∧ (if (M (M x0 1) 1) < x2 then (((shA SH (M x0 0)).1 = 9) ∧ WV 125 [vR (M x0 0), vI 4] M (fun M5 => Q (vI 0) M5)) else ((gO 5 (M x0 1)) ∧ inR x3 ∧ (if (M (M x0 1) 1) ≤ x3 then (Q (vI 1) M) else (((shA SH (M x0 0)).1 = 9) ∧ WV 125 [vR (M x0 0), vI 4] M (fun M8 => Q (vI 0) M8))))))) else ((gO 2 (M x0 4)) ∧ ((shA SH (M x0 0)).1 = 9) ∧ WI 132 [vR (M x0 0), vI x4] M (fun y13 M12 => ((shA SH (M (M x0 4) 0)).1 = 6) ∧ WI 91 [vR (M (M x0 4) 0), vI y13] M12 (fun y15 M14 => (gO 2 (M14 x0 4)) ∧ ((shA SH (M14 (M14 x0 4) 0)).1 = 6) ∧ WI 94 [vR (M14 (M14 x0 4) 0), vI y15] M14 (fun y17 M16 => inR y15 ∧ (if y15 = (-1) then (((shA SH (M16 x0 0)).1 = 9) ∧ WV 125 [vR (M16 x0 0), vI 3] M16 (fun M19 => Q (vI 0) M19)) else (inR x1 ∧ (if x1 = 1 then (inR y17 ∧ (if y17 = 0 then (if x1 = 2 then (if y17 = 0 then (((shA SH (M16 x0 0)).1 = 9) ∧ WV 125 [vR (M16 x0 0), vI 3] M16 (fun M38 => Q (vI 0) M38)) else (((shA SH (M16 x0 1)).1 = 5) ∧ WV 80 [vR (M16 x0 1), vI y15, vI y17] M16 (fun M36 => WR 75 30 [some (vR x0), some (vI x1), some (vI x2), some (vI x3), some (vI (x4 + 1)), some (vI y15), some (vI y17)] [] M36 Q))) else (((shA SH (M16 x0 1)).1 = 5) ∧ WV 80 [vR (M16 x0 1), vI y15, vI y17] M16 (fun M34 => WR 75 30 [some (vR x0), some (vI x1), some (vI x2), some (vI x3), some (vI (x4 + 1)), some (vI y15), some (vI y17)] [] M34 Q))) else (((shA SH (M16 x0 0)).1 = 9) ∧ WV 125 [vR (M16 x0 0), vI 3] M16 (fun M32 => Q (vI 0) M32)))) else (if x1 = 2 then (inR y17 ∧ (if y17 = 0 then (((shA SH (M16 x0 0)).1 = 9) ∧ WV 125 [vR (M16 x0 0), vI 3] M16 (fun M27 => Q (vI 0) M27)) else (((shA SH (M16 x0 1)).1 = 5) ∧ WV 80 [vR (M16 x0 1), vI y15, vI y17] M16 (fun M25 => WR 75 30 [some (vR x0), some (vI x1), some (vI x2), some (vI x3), some (vI (x4 + 1)), some (vI y15), some (vI y17)] [] M25 Q)))) else (((shA SH (M16 x0 1)).1 = 5) ∧ WV 80 [vR (M16 x0 1), vI y15, vI y17] M16 (fun M22 => WR 75 30 [some (vR x0), some (vI x1), some (vI x2), some (vI x3), some (vI (x4 + 1)), some (vI y15), some (vI y17)] [] M22 Q))))))))))))) : WR 75 30 [some (vR x0), some (vI x1), some (vI x2), some (vI x3), some (vI x4), l5, l6] [] M Q := by
  refine g_5 (a := 4) (b := 0) (nx := 32) (by decide +kernel) rfl ?_
  refine g_7 (a := 0) (b := 0) (nx := 33) (by decide +kernel) rfl ?_
  refine g_52 (a := 4) (b := 0) (nx := 36) (by decide +kernel) h0 ?_
  refine g_50 (a := 9) (b := 4) (nx := 39) (by decide +kernel) h.1 ?_
  replace h := h.2
  obtain ⟨r1, h⟩ := h
  obtain ⟨r2, h⟩ := h
  by_cases c45 : (M (M x0 0) 4) ≤ x4
  · rw [if_pos c45] at h
    refine g_41t (a := 3) (b := 130) (nx := 42) (by decide +kernel) (by rw [wr_id r1, wr_id r2]; exact (cb_3 _ _).mpr c45) ?_
    refine g_7 (a := 0) (b := 0) (nx := 131) (by decide +kernel) rfl ?_
    refine g_52 (a := 4) (b := 1) (nx := 134) (by decide +kernel) h0 ?_
    refine g_50 (a := 5) (b := 1) (nx := 137) (by decide +kernel) h.1 ?_
    replace h := h.2
    refine g_5 (a := 2) (b := 0) (nx := 138) (by decide +kernel) rfl ?_
    obtain ⟨r3, h⟩ := h
    obtain ⟨r4, h⟩ := h
    by_cases c11 : (M (M x0 1) 1) < x2
    · rw [if_pos c11] at h
      refine g_41t (a := 2) (b := 152) (nx := 141) (by decide +kernel) (by rw [wr_id r3, wr_id r4]; exact (cb_2 _ _).mpr c11) ?_
      refine g_7 (a := 0) (b := 0) (nx := 153) (by decide +kernel) rfl ?_
      refine g_52 (a := 4) (b := 0) (nx := 156) (by decide +kernel) h0 ?_
      refine g_1 (a := 4) (b := 0) (nx := 157) (by decide +kernel) ?_
      refine g_80 (a := 125) (b := 1) (nx := 160) (by decide +kernel) (r := (M x0 0)) (As := [vI 4]) (st' := []) (z := 125) rfl rfl rfl (Nat.le_of_ble_eq_true rfl) h.1 (Nat.le_of_ble_eq_true rfl) rfl (c_V (by decide +kernel) h.2 (fun M5 h => ?_))
      refine g_1 (a := 0) (b := 0) (nx := 161) (by decide +kernel) ?_
      exact g_91z (b := 0) (nx := 162) (by decide +kernel) (by decide) h
    · rw [if_neg c11] at h
      refine g_41f (a := 2) (b := 152) (nx := 141) (by decide +kernel) (by rw [wr_id r3, wr_id r4]; exact fun hz => c11 ((cb_2 _ _).mp hz)) ?_
      refine g_7 (a := 0) (b := 0) (nx := 142) (by decide +kernel) rfl ?_
      refine g_52 (a := 4) (b := 1) (nx := 145) (by decide +kernel) h0 ?_
      refine g_50 (a := 5) (b := 1) (nx := 148) (by decide +kernel) h.1 ?_
      replace h := h.2
      refine g_5 (a := 3) (b := 0) (nx := 149) (by decide +kernel) rfl ?_
      obtain ⟨r7, h⟩ := h
      by_cases c10 : (M (M x0 1) 1) ≤ x3
      · rw [if_pos c10] at h
        refine g_41t (a := 5) (b := 162) (nx := 152) (by decide +kernel) (by rw [wr_id r3, wr_id r7]; exact (cb_5 _ _).mpr c10) ?_
        refine g_1 (a := 1) (b := 0) (nx := 163) (by decide +kernel) ?_
        exact g_91z (b := 0) (nx := 164) (by decide +kernel) (by decide) h
      · rw [if_neg c10] at h
        refine g_41f (a := 5) (b := 162) (nx := 152) (by decide +kernel) (by rw [wr_id r3, wr_id r7]; exact fun hz => c10 ((cb_5 _ _).mp hz)) ?_
        refine g_7 (a := 0) (b := 0) (nx := 153) (by decide +kernel) rfl ?_
        refine g_52 (a := 4) (b := 0) (nx := 156) (by decide +kernel) h0 ?_
        refine g_1 (a := 4) (b := 0) (nx := 157) (by decide +kernel) ?_
        refine g_80 (a := 125) (b := 1) (nx := 160) (by decide +kernel) (r := (M x0 0)) (As := [vI 4]) (st' := []) (z := 125) rfl rfl rfl (Nat.le_of_ble_eq_true rfl) h.1 (Nat.le_of_ble_eq_true rfl) rfl (c_V (by decide +kernel) h.2 (fun M8 h => ?_))
        refine g_1 (a := 0) (b := 0) (nx := 161) (by decide +kernel) ?_
        exact g_91z (b := 0) (nx := 162) (by decide +kernel) (by decide) h
  · rw [if_neg c45] at h
    refine g_41f (a := 3) (b := 130) (nx := 42) (by decide +kernel) (by rw [wr_id r1, wr_id r2]; exact fun hz => c45 ((cb_3 _ _).mp hz)) ?_
    refine g_7 (a := 0) (b := 0) (nx := 43) (by decide +kernel) rfl ?_
    refine g_52 (a := 4) (b := 4) (nx := 46) (by decide +kernel) h0 ?_
    refine g_52 (a := 2) (b := 0) (nx := 49) (by decide +kernel) h.1 ?_
    replace h := h.2
    refine g_7 (a := 0) (b := 0) (nx := 50) (by decide +kernel) rfl ?_
    refine g_52 (a := 4) (b := 0) (nx := 53) (by decide +kernel) h0 ?_
    refine g_5 (a := 4) (b := 0) (nx := 55) (by decide +kernel) rfl ?_
    refine g_80 (a := 132) (b := 1) (nx := 58) (by decide +kernel) (r := (M x0 0)) (As := [vI x4]) (st' := [vR (M (M x0 4) 0)]) (z := 132) rfl rfl rfl (Nat.le_of_ble_eq_true rfl) h.1 (Nat.le_of_ble_eq_true rfl) rfl (c_I (by decide +kernel) h.2 (fun y13 M12 h => ?_))
    refine g_80 (a := 91) (b := 1) (nx := 61) (by decide +kernel) (r := (M (M x0 4) 0)) (As := [vI y13]) (st' := []) (z := 91) rfl rfl rfl (Nat.le_of_ble_eq_true rfl) h.1 (Nat.le_of_ble_eq_true rfl) rfl (c_I (by decide +kernel) h.2 (fun y15 M14 h => ?_))
    refine g_8 (a := 5) (b := 0) (nx := 63) (by decide +kernel) rfl (ls' := [some (vR x0), some (vI x1), some (vI x2), some (vI x3), some (vI x4), some (vI y15), l6]) rfl ?_
    refine g_7 (a := 0) (b := 0) (nx := 64) (by decide +kernel) rfl ?_
    refine g_52 (a := 4) (b := 4) (nx := 67) (by decide +kernel) h0 ?_
    refine g_52 (a := 2) (b := 0) (nx := 70) (by decide +kernel) h.1 ?_
    replace h := h.2
    refine g_5 (a := 5) (b := 0) (nx := 72) (by decide +kernel) rfl ?_
    refine g_80 (a := 94) (b := 1) (nx := 75) (by decide +kernel) (r := (M14 (M14 x0 4) 0)) (As := [vI y15]) (st' := []) (z := 94) rfl rfl rfl (Nat.le_of_ble_eq_true rfl) h.1 (Nat.le_of_ble_eq_true rfl) rfl (c_I (by decide +kernel) h.2 (fun y17 M16 h => ?_))
    refine g_8 (a := 6) (b := 0) (nx := 77) (by decide +kernel) rfl (ls' := [some (vR x0), some (vI x1), some (vI x2), some (vI x3), some (vI x4), some (vI y15), some (vI y17)]) rfl ?_
    refine g_5 (a := 5) (b := 0) (nx := 79) (by decide +kernel) rfl ?_
    refine g_1 (a := (-1)) (b := 0) (nx := 80) (by decide +kernel) ?_
    obtain ⟨r18, h⟩ := h
    by_cases c44 : y15 = (-1)
    · rw [if_pos c44] at h
      refine g_41t (a := 0) (b := 103) (nx := 83) (by decide +kernel) (by rw [wr_id r18, wr_id (show inR (-1) by decide)]; exact (cb_0 _ _).mpr c44) ?_
      refine g_7 (a := 0) (b := 0) (nx := 104) (by decide +kernel) rfl ?_
      refine g_52 (a := 4) (b := 0) (nx := 107) (by decide +kernel) h0 ?_
      refine g_1 (a := 3) (b := 0) (nx := 108) (by decide +kernel) ?_
      refine g_80 (a := 125) (b := 1) (nx := 111) (by decide +kernel) (r := (M16 x0 0)) (As := [vI 3]) (st' := []) (z := 125) rfl rfl rfl (Nat.le_of_ble_eq_true rfl) h.1 (Nat.le_of_ble_eq_true rfl) rfl (c_V (by decide +kernel) h.2 (fun M19 h => ?_))
      refine g_1 (a := 0) (b := 0) (nx := 112) (by decide +kernel) ?_
      exact g_91z (b := 0) (nx := 113) (by decide +kernel) (by decide) h
    · rw [if_neg c44] at h
      refine g_41f (a := 0) (b := 103) (nx := 83) (by decide +kernel) (by rw [wr_id r18, wr_id (show inR (-1) by decide)]; exact fun hz => c44 ((cb_0 _ _).mp hz)) ?_
      refine g_5 (a := 1) (b := 0) (nx := 84) (by decide +kernel) rfl ?_
      refine g_1 (a := 1) (b := 0) (nx := 85) (by decide +kernel) ?_
      obtain ⟨r21, h⟩ := h
      by_cases c43 : x1 = 1
      · rw [if_pos c43] at h
        refine g_41f (a := 1) (b := 93) (nx := 88) (by decide +kernel) (by rw [wr_id r21, wr_id (show inR 1 by decide)]; exact fun hz => ((cb_1 _ _).mp hz) c43) ?_
        refine g_5 (a := 6) (b := 0) (nx := 90) (by decide +kernel) rfl ?_
        obtain ⟨r31, h⟩ := h
        by_cases c42 : y17 = 0
        · rw [if_pos c42] at h
          refine g_40f (a := 1) (b := 103) (nx := 93) (by decide +kernel) r31 (by exact fun hz => ((cb_1 _ _).mp hz) c42) ?_
          refine g_5 (a := 1) (b := 0) (nx := 94) (by decide +kernel) rfl ?_
          refine g_1 (a := 2) (b := 0) (nx := 95) (by decide +kernel) ?_
          by_cases c41 : x1 = 2
          · rw [if_pos c41] at h
            refine g_41f (a := 1) (b := 113) (nx := 98) (by decide +kernel) (by rw [wr_id r21, wr_id (show inR 2 by decide)]; exact fun hz => ((cb_1 _ _).mp hz) c41) ?_
            refine g_5 (a := 6) (b := 0) (nx := 100) (by decide +kernel) rfl ?_
            by_cases c40 : y17 = 0
            · rw [if_pos c40] at h
              refine g_40f (a := 1) (b := 113) (nx := 103) (by decide +kernel) r31 (by exact fun hz => ((cb_1 _ _).mp hz) c40) ?_
              refine g_7 (a := 0) (b := 0) (nx := 104) (by decide +kernel) rfl ?_
              refine g_52 (a := 4) (b := 0) (nx := 107) (by decide +kernel) h0 ?_
              refine g_1 (a := 3) (b := 0) (nx := 108) (by decide +kernel) ?_
              refine g_80 (a := 125) (b := 1) (nx := 111) (by decide +kernel) (r := (M16 x0 0)) (As := [vI 3]) (st' := []) (z := 125) rfl rfl rfl (Nat.le_of_ble_eq_true rfl) h.1 (Nat.le_of_ble_eq_true rfl) rfl (c_V (by decide +kernel) h.2 (fun M38 h => ?_))
              refine g_1 (a := 0) (b := 0) (nx := 112) (by decide +kernel) ?_
              exact g_91z (b := 0) (nx := 113) (by decide +kernel) (by decide) h
            · rw [if_neg c40] at h
              refine g_40t (a := 1) (b := 113) (nx := 103) (by decide +kernel) r31 (by exact (cb_1 _ _).mpr c40) ?_
              refine g_7 (a := 0) (b := 0) (nx := 114) (by decide +kernel) rfl ?_
              refine g_52 (a := 4) (b := 1) (nx := 117) (by decide +kernel) h0 ?_
              refine g_5 (a := 5) (b := 0) (nx := 119) (by decide +kernel) rfl ?_
              refine g_5 (a := 6) (b := 0) (nx := 121) (by decide +kernel) rfl ?_
              refine g_80 (a := 80) (b := 2) (nx := 124) (by decide +kernel) (r := (M16 x0 1)) (As := [vI y15, vI y17]) (st' := []) (z := 80) rfl rfl rfl (Nat.le_of_ble_eq_true rfl) h.1 (Nat.le_of_ble_eq_true rfl) rfl (c_V (by decide +kernel) h.2 (fun M36 h => ?_))
              refine g_11 (a := 4) (b := 1) (nx := 127) (by decide +kernel) rfl rfl (ls' := [some (vR x0), some (vI x1), some (vI x2), some (vI x3), some (vI (x4 + 1)), some (vI y15), some (vI y17)]) rfl ?_
              refine g_44 (a := 0) (b := 30) (nx := 130) (by decide +kernel) ?_
              exact h
          · rw [if_neg c41] at h
            refine g_41t (a := 1) (b := 113) (nx := 98) (by decide +kernel) (by rw [wr_id r21, wr_id (show inR 2 by decide)]; exact (cb_1 _ _).mpr c41) ?_
            refine g_7 (a := 0) (b := 0) (nx := 114) (by decide +kernel) rfl ?_
            refine g_52 (a := 4) (b := 1) (nx := 117) (by decide +kernel) h0 ?_
            refine g_5 (a := 5) (b := 0) (nx := 119) (by decide +kernel) rfl ?_
            refine g_5 (a := 6) (b := 0) (nx := 121) (by decide +kernel) rfl ?_
            refine g_80 (a := 80) (b := 2) (nx := 124) (by decide +kernel) (r := (M16 x0 1)) (As := [vI y15, vI y17]) (st' := []) (z := 80) rfl rfl rfl (Nat.le_of_ble_eq_true rfl) h.1 (Nat.le_of_ble_eq_true rfl) rfl (c_V (by decide +kernel) h.2 (fun M34 h => ?_))
            refine g_11 (a := 4) (b := 1) (nx := 127) (by decide +kernel) rfl rfl (ls' := [some (vR x0), some (vI x1), some (vI x2), some (vI x3), some (vI (x4 + 1)), some (vI y15), some (vI y17)]) rfl ?_
            refine g_44 (a := 0) (b := 30) (nx := 130) (by decide +kernel) ?_
            exact h
        · rw [if_neg c42] at h
          refine g_40t (a := 1) (b := 103) (nx := 93) (by decide +kernel) r31 (by exact (cb_1 _ _).mpr c42) ?_
          refine g_7 (a := 0) (b := 0) (nx := 104) (by decide +kernel) rfl ?_
          refine g_52 (a := 4) (b := 0) (nx := 107) (by decide +kernel) h0 ?_
          refine g_1 (a := 3) (b := 0) (nx := 108) (by decide +kernel) ?_
          refine g_80 (a := 125) (b := 1) (nx := 111) (by decide +kernel) (r := (M16 x0 0)) (As := [vI 3]) (st' := []) (z := 125) rfl rfl rfl (Nat.le_of_ble_eq_true rfl) h.1 (Nat.le_of_ble_eq_true rfl) rfl (c_V (by decide +kernel) h.2 (fun M32 h => ?_))
          refine g_1 (a := 0) (b := 0) (nx := 112) (by decide +kernel) ?_
          exact g_91z (b := 0) (nx := 113) (by decide +kernel) (by decide) h
      · rw [if_neg c43] at h
        refine g_41t (a := 1) (b := 93) (nx := 88) (by decide +kernel) (by rw [wr_id r21, wr_id (show inR 1 by decide)]; exact (cb_1 _ _).mpr c43) ?_
        refine g_5 (a := 1) (b := 0) (nx := 94) (by decide +kernel) rfl ?_
        refine g_1 (a := 2) (b := 0) (nx := 95) (by decide +kernel) ?_
        by_cases c30 : x1 = 2
        · rw [if_pos c30] at h
          refine g_41f (a := 1) (b := 113) (nx := 98) (by decide +kernel) (by rw [wr_id r21, wr_id (show inR 2 by decide)]; exact fun hz => ((cb_1 _ _).mp hz) c30) ?_
          refine g_5 (a := 6) (b := 0) (nx := 100) (by decide +kernel) rfl ?_
          obtain ⟨r24, h⟩ := h
          by_cases c29 : y17 = 0
          · rw [if_pos c29] at h
            refine g_40f (a := 1) (b := 113) (nx := 103) (by decide +kernel) r24 (by exact fun hz => ((cb_1 _ _).mp hz) c29) ?_
            refine g_7 (a := 0) (b := 0) (nx := 104) (by decide +kernel) rfl ?_
            refine g_52 (a := 4) (b := 0) (nx := 107) (by decide +kernel) h0 ?_
            refine g_1 (a := 3) (b := 0) (nx := 108) (by decide +kernel) ?_
            refine g_80 (a := 125) (b := 1) (nx := 111) (by decide +kernel) (r := (M16 x0 0)) (As := [vI 3]) (st' := []) (z := 125) rfl rfl rfl (Nat.le_of_ble_eq_true rfl) h.1 (Nat.le_of_ble_eq_true rfl) rfl (c_V (by decide +kernel) h.2 (fun M27 h => ?_))
            refine g_1 (a := 0) (b := 0) (nx := 112) (by decide +kernel) ?_
            exact g_91z (b := 0) (nx := 113) (by decide +kernel) (by decide) h
          · rw [if_neg c29] at h
            refine g_40t (a := 1) (b := 113) (nx := 103) (by decide +kernel) r24 (by exact (cb_1 _ _).mpr c29) ?_
            refine g_7 (a := 0) (b := 0) (nx := 114) (by decide +kernel) rfl ?_
            refine g_52 (a := 4) (b := 1) (nx := 117) (by decide +kernel) h0 ?_
            refine g_5 (a := 5) (b := 0) (nx := 119) (by decide +kernel) rfl ?_
            refine g_5 (a := 6) (b := 0) (nx := 121) (by decide +kernel) rfl ?_
            refine g_80 (a := 80) (b := 2) (nx := 124) (by decide +kernel) (r := (M16 x0 1)) (As := [vI y15, vI y17]) (st' := []) (z := 80) rfl rfl rfl (Nat.le_of_ble_eq_true rfl) h.1 (Nat.le_of_ble_eq_true rfl) rfl (c_V (by decide +kernel) h.2 (fun M25 h => ?_))
            refine g_11 (a := 4) (b := 1) (nx := 127) (by decide +kernel) rfl rfl (ls' := [some (vR x0), some (vI x1), some (vI x2), some (vI x3), some (vI (x4 + 1)), some (vI y15), some (vI y17)]) rfl ?_
            refine g_44 (a := 0) (b := 30) (nx := 130) (by decide +kernel) ?_
            exact h
        · rw [if_neg c30] at h
          refine g_41t (a := 1) (b := 113) (nx := 98) (by decide +kernel) (by rw [wr_id r21, wr_id (show inR 2 by decide)]; exact (cb_1 _ _).mpr c30) ?_
          refine g_7 (a := 0) (b := 0) (nx := 114) (by decide +kernel) rfl ?_
          refine g_52 (a := 4) (b := 1) (nx := 117) (by decide +kernel) h0 ?_
          refine g_5 (a := 5) (b := 0) (nx := 119) (by decide +kernel) rfl ?_
          refine g_5 (a := 6) (b := 0) (nx := 121) (by decide +kernel) rfl ?_
          refine g_80 (a := 80) (b := 2) (nx := 124) (by decide +kernel) (r := (M16 x0 1)) (As := [vI y15, vI y17]) (st' := []) (z := 80) rfl rfl rfl (Nat.le_of_ble_eq_true rfl) h.1 (Nat.le_of_ble_eq_true rfl) rfl (c_V (by decide +kernel) h.2 (fun M22 h => ?_))
          refine g_11 (a := 4) (b := 1) (nx := 127) (by decide +kernel) rfl rfl (ls' := [some (vR x0), some (vI x1), some (vI x2), some (vI x3), some (vI (x4 + 1)), some (vI y15), some (vI y17)]) rfl ?_
          refine g_44 (a := 0) (b := 30) (nx := 130) (by decide +kernel) ?_
          exact h
-- 76 SyllableMaker$Reader.readNumber(II)I
theorem t_76 {x0 x1 x2 : Int} {M : Mem} {Q : AV → Mem → Prop} (h0 : gO 4 x0) (h : (gO 9 (M x0 0)) ∧ inR (M (M x0 0) 2) ∧ (if (M (M x0 0) 2) = 2 then (((shA SH (M x0 0)).1 = 9) ∧ WI 131 [vR (M x0 0)] M (fun y3 M2 => inR y3 ∧ (inR x1 ∧ (if y3 < x1 then (((shA SH (M2 x0 0)).1 = 9) ∧ WV 125 [vR (M2 x0 0), vI 4] M2 (fun M6 => Q (vI x1) M6)) else (inR x2 ∧ (if y3 ≤ x2 then (((shA SH (M2 x0 0)).1 = 9) ∧ WV 128 [vR (M2 x0 0)] M2 (fun M9 => Q (vI y3) M9)) else (((shA SH (M2 x0 0)).1 = 9) ∧ WV 125 [vR (M2 x0 0), vI 4] M2 (fun M11 => Q (vI x1) M11)))))))) else (((shA SH (M x0 0)).1 = 9) ∧ WV 126 [vR (M x0 0)] M (fun M15 => Q (vI x1) M15)))) : WC 76 [vR x0, vI x1, vI x2] M Q := by
  show WR 76 0 [some (vR x0), some (vI x1), some (vI x2), none] [] M Q
  refine g_7 (a := 0) (b := 0) (nx := 1) (by decide +kernel) rfl ?_
  refine g_52 (a := 4) (b := 0) (nx := 4) (by decide +kernel) h0 ?_
  refine g_50 (a := 9) (b := 2) (nx := 7) (by decide +kernel) h.1 ?_
  replace h := h.2
  refine g_1 (a := 2) (b := 0) (nx := 8) (by decide +kernel) ?_
  obtain ⟨r1, h⟩ := h
  by_cases c17 : (M (M x0 0) 2) = 2
  · rw [if_pos c17] at h
    refine g_41t (a := 0) (b := 20) (nx := 11) (by decide +kernel) (by rw [wr_id r1, wr_id (show inR 2 by decide)]; exact (cb_0 _ _).mpr c17) ?_
    refine g_7 (a := 0) (b := 0) (nx := 21) (by decide +kernel) rfl ?_
    refine g_52 (a := 4) (b := 0) (nx := 24) (by decide +kernel) h0 ?_
    refine g_80 (a := 131) (b := 0) (nx := 27) (by decide +kernel) (r := (M x0 0)) (As := []) (st' := []) (z := 131) rfl rfl rfl (Nat.le_of_ble_eq_true rfl) h.1 (Nat.le_of_ble_eq_true rfl) rfl (c_I (by decide +kernel) h.2 (fun y3 M2 h => ?_))
    refine g_8 (a := 3) (b := 0) (nx := 28) (by decide +kernel) rfl (ls' := [some (vR x0), some (vI x1), some (vI x2), some (vI y3)]) rfl ?_
    refine g_5 (a := 3) (b := 0) (nx := 29) (by decide +kernel) rfl ?_
    refine g_5 (a := 1) (b := 0) (nx := 30) (by decide +kernel) rfl ?_
    obtain ⟨r4, h⟩ := h
    obtain ⟨r5, h⟩ := h
    by_cases c14 : y3 < x1
    · rw [if_pos c14] at h
      refine g_41t (a := 2) (b := 38) (nx := 33) (by decide +kernel) (by rw [wr_id r4, wr_id r5]; exact (cb_2 _ _).mpr c14) ?_
      refine g_7 (a := 0) (b := 0) (nx := 39) (by decide +kernel) rfl ?_
      refine g_52 (a := 4) (b := 0) (nx := 42) (by decide +kernel) h0 ?_
      refine g_1 (a := 4) (b := 0) (nx := 43) (by decide +kernel) ?_
      refine g_80 (a := 125) (b := 1) (nx := 46) (by decide +kernel) (r := (M2 x0 0)) (As := [vI 4]) (st' := []) (z := 125) rfl rfl rfl (Nat.le_of_ble_eq_true rfl) h.1 (Nat.le_of_ble_eq_true rfl) rfl (c_V (by decide +kernel) h.2 (fun M6 h => ?_))
      refine g_5 (a := 1) (b := 0) (nx := 47) (by decide +kernel) rfl ?_
      exact g_91 (b := 0) (nx := 48) (by decide +kernel) h
    · rw [if_neg c14] at h
      refine g_41f (a := 2) (b := 38) (nx := 33) (by decide +kernel) (by rw [wr_id r4, wr_id r5]; exact fun hz => c14 ((cb_2 _ _).mp hz)) ?_
      refine g_5 (a := 3) (b := 0) (nx := 34) (by decide +kernel) rfl ?_
      refine g_5 (a := 2) (b := 0) (nx := 35) (by decide +kernel) rfl ?_
      obtain ⟨r8, h⟩ := h
      by_cases c13 : y3 ≤ x2
      · rw [if_pos c13] at h
        refine g_41t (a := 5) (b := 48) (nx := 38) (by decide +kernel) (by rw [wr_id r4, wr_id r8]; exact (cb_5 _ _).mpr c13) ?_
        refine g_7 (a := 0) (b := 0) (nx := 49) (by decide +kernel) rfl ?_
        refine g_52 (a := 4) (b := 0) (nx := 52) (by decide +kernel) h0 ?_
        refine g_80 (a := 128) (b := 0) (nx := 55) (by decide +kernel) (r := (M2 x0 0)) (As := []) (st' := []) (z := 128) rfl rfl rfl (Nat.le_of_ble_eq_true rfl) h.1 (Nat.le_of_ble_eq_true rfl) rfl (c_V (by decide +kernel) h.2 (fun M9 h => ?_))
        refine g_5 (a := 3) (b := 0) (nx := 56) (by decide +kernel) rfl ?_
        exact g_91 (b := 0) (nx := 57) (by decide +kernel) h
      · rw [if_neg c13] at h
        refine g_41f (a := 5) (b := 48) (nx := 38) (by decide +kernel) (by rw [wr_id r4, wr_id r8]; exact fun hz => c13 ((cb_5 _ _).mp hz)) ?_
        refine g_7 (a := 0) (b := 0) (nx := 39) (by decide +kernel) rfl ?_
        refine g_52 (a := 4) (b := 0) (nx := 42) (by decide +kernel) h0 ?_
        refine g_1 (a := 4) (b := 0) (nx := 43) (by decide +kernel) ?_
        refine g_80 (a := 125) (b := 1) (nx := 46) (by decide +kernel) (r := (M2 x0 0)) (As := [vI 4]) (st' := []) (z := 125) rfl rfl rfl (Nat.le_of_ble_eq_true rfl) h.1 (Nat.le_of_ble_eq_true rfl) rfl (c_V (by decide +kernel) h.2 (fun M11 h => ?_))
        refine g_5 (a := 1) (b := 0) (nx := 47) (by decide +kernel) rfl ?_
        exact g_91 (b := 0) (nx := 48) (by decide +kernel) h
  · rw [if_neg c17] at h
    refine g_41f (a := 0) (b := 20) (nx := 11) (by decide +kernel) (by rw [wr_id r1, wr_id (show inR 2 by decide)]; exact fun hz => c17 ((cb_0 _ _).mp hz)) ?_
    refine g_7 (a := 0) (b := 0) (nx := 12) (by decide +kernel) rfl ?_
    refine g_52 (a := 4) (b := 0) (nx := 15) (by decide +kernel) h0 ?_
    refine g_80 (a := 126) (b := 0) (nx := 18) (by decide +kernel) (r := (M x0 0)) (As := []) (st' := []) (z := 126) rfl rfl rfl (Nat.le_of_ble_eq_true rfl) h.1 (Nat.le_of_ble_eq_true rfl) rfl (c_V (by decide +kernel) h.2 (fun M15 h => ?_))
    refine g_5 (a := 1) (b := 0) (nx := 19) (by decide +kernel) rfl ?_
    exact g_91 (b := 0) (nx := 20) (by decide +kernel) h
-- 77 SyllableMaker$Reader.readSign()V
theorem t_77 {x0 : Int} {M : Mem} {Q : AV → Mem → Prop} (h0 : gO 4 x0) (h : (gO 9 (M x0 0)) ∧ inR (M (M x0 0) 2) ∧ (if (M (M x0 0) 2) = 3 then (((shA SH (M x0 0)).1 = 9) ∧ WV 128 [vR (M x0 0)] M (fun M2 => Q (vI 0) M2)) else (((shA SH (M x0 0)).1 = 9) ∧ WV 126 [vR (M x0 0)] M (fun M4 => Q (vI 0) M4)))) : WC 77 [vR x0] M Q := by
  show WR 77 0 [some (vR x0)] [] M Q
  refine g_7 (a := 0) (b := 0) (nx := 1) (by decide +kernel) rfl ?_
  refine g_52 (a := 4) (b := 0) (nx := 4) (by decide +kernel) h0 ?_
  refine g_50 (a := 9) (b := 2) (nx := 7) (by decide +kernel) h.1 ?_
  replace h := h.2
  refine g_1 (a := 3) (b := 0) (nx := 8) (by decide +kernel) ?_
  obtain ⟨r1, h⟩ := h
  by_cases c6 : (M (M x0 0) 2) = 3
  · rw [if_pos c6] at h
    refine g_41t (a := 0) (b := 19) (nx := 11) (by decide +kernel) (by rw [wr_id r1, wr_id (show inR 3 by decide)]; exact (cb_0 _ _).mpr c6) ?_
    refine g_7 (a := 0) (b := 0) (nx := 20) (by decide +kernel) rfl ?_
    refine g_52 (a := 4) (b := 0) (nx := 23) (by decide +kernel) h0 ?_
    refine g_80 (a := 128) (b := 0) (nx := 26) (by decide +kernel) (r := (M x0 0)) (As := []) (st' := []) (z := 128) rfl rfl rfl (Nat.le_of_ble_eq_true rfl) h.1 (Nat.le_of_ble_eq_true rfl) rfl (c_V (by decide +kernel) h.2 (fun M2 h => ?_))
    exact g_90 (a := 0) (b := 0) (nx := 27) (by decide +kernel) h
  · rw [if_neg c6] at h
    refine g_41f (a := 0) (b := 19) (nx := 11) (by decide +kernel) (by rw [wr_id r1, wr_id (show inR 3 by decide)]; exact fun hz => c6 ((cb_0 _ _).mp hz)) ?_
    refine g_7 (a := 0) (b := 0) (nx := 12) (by decide +kernel) rfl ?_
    refine g_52 (a := 4) (b := 0) (nx := 15) (by decide +kernel) h0 ?_
    refine g_80 (a := 126) (b := 0) (nx := 18) (by decide +kernel) (r := (M x0 0)) (As := []) (st' := []) (z := 126) rfl rfl rfl (Nat.le_of_ble_eq_true rfl) h.1 (Nat.le_of_ble_eq_true rfl) rfl (c_V (by decide +kernel) h.2 (fun M4 h => ?_))
    exact g_90 (a := 0) (b := 0) (nx := 19) (by decide +kernel) h
-- 79 SyllableMaker$Row.clear()V
theorem t_79 {x0 : Int} {M : Mem} {Q : AV → Mem → Prop} (h0 : gO 5 x0) (h : Q (vI 0) (upM (upM M x0 1 0) x0 2 0)) : WC 79 [vR x0] M Q := by
  show WR 79 0 [some (vR x0)] [] M Q
  refine g_7 (a := 0) (b := 0) (nx := 1) (by decide +kernel) rfl ?_
  refine g_1 (a := 0) (b := 0) (nx := 2) (by decide +kernel) ?_
  refine g_53 (a := 5) (b := 1) (nx := 5) (by decide +kernel) h0 ?_
  refine g_7 (a := 0) (b := 0) (nx := 6) (by decide +kernel) rfl ?_
  refine g_2 (a := 0) (b := 0) (nx := 7) (by decide +kernel) ?_
  refine g_54 (a := 5) (b := 2) (nx := 10) (by decide +kernel) h0 ?_
  exact g_90 (a := 0) (b := 0) (nx := 11) (by decide +kernel) h
-- 80 SyllableMaker$Row.add(IZ)V
theorem t_80 {x0 x1 x2 : Int} {M : Mem} {Q : AV → Mem → Prop} (h0 : gO 5 x0) (h : ((M x0 0) ≠ -2000 ∧ 20 ≤ (shA SH (M x0 0)).1 ∧ (shA SH (M x0 0)).1 ≤ 41 ∧ (shA SH (M x0 0)).1 ≠ 40) ∧ inR (M x0 1) ∧ (inR ((shA SH (M x0 0)).2 : Int) ∧ (if (M x0 1) < ((shA SH (M x0 0)).2 : Int) then (inR x2 ∧ (if x2 = 0 then ((gA 20 (M x0 0) (M x0 1)) ∧ Q (vI 0) (upM (upM M (M x0 0) (M x0 1) x1) x0 1 (((upM M (M x0 0) (M x0 1) x1) x0 1) + 1))) else ((in64 (M x0 2) ∧ in64 0) ∧ inR (if (M x0 2) < 0 then -1 else if (M x0 2) = 0 then 0 else 1) ∧ (if (if (M x0 2) < 0 then -1 else if (M x0 2) = 0 then 0 else 1) = 0 then (WL 83 [vR x0, vI 0, vI (M x0 1)] M (fun y6 M5 => (gA 20 ((upM M5 x0 2 y6) x0 0) ((upM M5 x0 2 y6) x0 1)) ∧ Q (vI 0) (upM (upM (upM M5 x0 2 y6) ((upM M5 x0 2 y6) x0 0) ((upM M5 x0 2 y6) x0 1) x1) x0 1 (((upM (upM M5 x0 2 y6) ((upM M5 x0 2 y6) x0 0) ((upM M5 x0 2 y6) x0 1) x1) x0 1) + 1)))) else ((gA 20 (M x0 0) (M x0 1)) ∧ Q (vI 0) (upM (upM M (M x0 0) (M x0 1) x1) x0 1 (((upM M (M x0 0) (M x0 1) x1) x0 1) + 1))))))) else (Q (vI 0) M)))) : WC 80 [vR x0, vI x1, vI x2] M Q := by
  show WR 80 0 [some (vR x0), some (vI x1), some (vI x2)] [] M Q
  refine g_7 (a := 0) (b := 0) (nx := 1) (by decide +kernel) rfl ?_
  refine g_50 (a := 5) (b := 1) (nx := 4) (by decide +kernel) h0 ?_
  refine g_7 (a := 0) (b := 0) (nx := 5) (by decide +kernel) rfl ?_
  refine g_52 (a := 5) (b := 0) (nx := 8) (by decide +kernel) h0 ?_
  refine g_60 (a := 0) (b := 0) (nx := 9) (by decide +kernel) h.1.1 h.1.2 ?_
  replace h := h.2
  obtain ⟨r1, h⟩ := h
  obtain ⟨r2, h⟩ := h
  by_cases c9 : (M x0 1) < ((shA SH (M x0 0)).2 : Int)
  · rw [if_pos c9] at h
    refine g_41t (a := 2) (b := 13) (nx := 12) (by decide +kernel) (by rw [wr_id r1, wr_id r2]; exact (cb_2 _ _).mpr c9) ?_
    refine g_5 (a := 2) (b := 0) (nx := 14) (by decide +kernel) rfl ?_
    obtain ⟨r3, h⟩ := h
    by_cases c8 : x2 = 0
    · rw [if_pos c8] at h
      refine g_40t (a := 0) (b := 39) (nx := 17) (by decide +kernel) r3 (by exact (cb_0 _ _).mpr c8) ?_
      refine g_7 (a := 0) (b := 0) (nx := 40) (by decide +kernel) rfl ?_
      refine g_52 (a := 5) (b := 0) (nx := 43) (by decide +kernel) h0 ?_
      refine g_7 (a := 0) (b := 0) (nx := 44) (by decide +kernel) rfl ?_
      refine g_50 (a := 5) (b := 1) (nx := 47) (by decide +kernel) h0 ?_
      refine g_5 (a := 1) (b := 0) (nx := 48) (by decide +kernel) rfl ?_
      refine g_62 (a := 0) (b := 0) (nx := 49) (by decide +kernel) h.1 ?_
      replace h := h.2
      refine g_7 (a := 0) (b := 0) (nx := 50) (by decide +kernel) rfl ?_
      refine g_13 (a := 0) (b := 0) (nx := 51) (by decide +kernel) rfl ?_
      refine g_50 (a := 5) (b := 1) (nx := 54) (by decide +kernel) h0 ?_
      refine g_1 (a := 1) (b := 0) (nx := 55) (by decide +kernel) ?_
      refine g_15 (a := 0) (b := 0) (nx := 56) (by decide +kernel) ?_
      refine g_53 (a := 5) (b := 1) (nx := 59) (by decide +kernel) h0 ?_
      exact g_90 (a := 0) (b := 0) (nx := 60) (by decide +kernel) h
    · rw [if_neg c8] at h
      refine g_40f (a := 0) (b := 39) (nx := 17) (by decide +kernel) r3 (by exact fun hz => c8 ((cb_0 _ _).mp hz)) ?_
      refine g_7 (a := 0) (b := 0) (nx := 18) (by decide +kernel) rfl ?_
      refine g_51 (a := 5) (b := 2) (nx := 21) (by decide +kernel) h0 ?_
      refine g_2 (a := 0) (b := 0) (nx := 22) (by decide +kernel) ?_
      refine g_34 (a := 0) (b := 0) (nx := 23) (by decide +kernel) h.1 ?_
      replace h := h.2
      obtain ⟨r4, h⟩ := h
      by_cases c7 : (if (M x0 2) < 0 then -1 else if (M x0 2) = 0 then 0 else 1) = 0
      · rw [if_pos c7] at h
        refine g_40f (a := 1) (b := 39) (nx := 26) (by decide +kernel) r4 (by exact fun hz => ((cb_1 _ _).mp hz) c7) ?_
        refine g_7 (a := 0) (b := 0) (nx := 27) (by decide +kernel) rfl ?_
        refine g_7 (a := 0) (b := 0) (nx := 28) (by decide +kernel) rfl ?_
        refine g_1 (a := 0) (b := 0) (nx := 29) (by decide +kernel) ?_
        refine g_7 (a := 0) (b := 0) (nx := 30) (by decide +kernel) rfl ?_
        refine g_50 (a := 5) (b := 1) (nx := 33) (by decide +kernel) h0 ?_
        refine g_80 (a := 83) (b := 2) (nx := 36) (by decide +kernel) (r := x0) (As := [vI 0, vI (M x0 1)]) (st' := [vR x0]) (z := 83) rfl rfl rfl (Nat.le_of_ble_eq_true rfl) h0.2 (Nat.le_of_ble_eq_true rfl) rfl (c_L (by decide +kernel) h (fun y6 M5 h => ?_))
        refine g_54 (a := 5) (b := 2) (nx := 39) (by decide +kernel) h0 ?_
        refine g_7 (a := 0) (b := 0) (nx := 40) (by decide +kernel) rfl ?_
        refine g_52 (a := 5) (b := 0) (nx := 43) (by decide +kernel) h0 ?_
        refine g_7 (a := 0) (b := 0) (nx := 44) (by decide +kernel) rfl ?_
        refine g_50 (a := 5) (b := 1) (nx := 47) (by decide +kernel) h0 ?_
        refine g_5 (a := 1) (b := 0) (nx := 48) (by decide +kernel) rfl ?_
        refine g_62 (a := 0) (b := 0) (nx := 49) (by decide +kernel) h.1 ?_
        replace h := h.2
        refine g_7 (a := 0) (b := 0) (nx := 50) (by decide +kernel) rfl ?_
        refine g_13 (a := 0) (b := 0) (nx := 51) (by decide +kernel) rfl ?_
        refine g_50 (a := 5) (b := 1) (nx := 54) (by decide +kernel) h0 ?_
        refine g_1 (a := 1) (b := 0) (nx := 55) (by decide +kernel) ?_
        refine g_15 (a := 0) (b := 0) (nx := 56) (by decide +kernel) ?_
        refine g_53 (a := 5) (b := 1) (nx := 59) (by decide +kernel) h0 ?_
        exact g_90 (a := 0) (b := 0) (nx := 60) (by decide +kernel) h
      · rw [if_neg c7] at h
        refine g_40t (a := 1) (b := 39) (nx := 26) (by decide +kernel) r4 (by exact (cb_1 _ _).mpr c7) ?_
        refine g_7 (a := 0) (b := 0) (nx := 40) (by decide +kernel) rfl ?_
        refine g_52 (a := 5) (b := 0) (nx := 43) (by decide +kernel) h0 ?_
        refine g_7 (a := 0) (b := 0) (nx := 44) (by decide +kernel) rfl ?_
        refine g_50 (a := 5) (b := 1) (nx := 47) (by decide +kernel) h0 ?_
        refine g_5 (a := 1) (b := 0) (nx := 48) (by decide +kernel) rfl ?_
        refine g_62 (a := 0) (b := 0) (nx := 49) (by decide +kernel) h.1 ?_
        replace h := h.2
        refine g_7 (a := 0) (b := 0) (nx := 50) (by decide +kernel) rfl ?_
        refine g_13 (a := 0) (b := 0) (nx := 51) (by decide +kernel) rfl ?_
        refine g_50 (a := 5) (b := 1) (nx := 54) (by decide +kernel) h0 ?_
        refine g_1 (a := 1) (b := 0) (nx := 55) (by decide +kernel) ?_
        refine g_15 (a := 0) (b := 0) (nx := 56) (by decide +kernel) ?_
        refine g_53 (a := 5) (b := 1) (nx := 59) (by decide +kernel) h0 ?_
        exact g_90 (a := 0) (b := 0) (nx := 60) (by decide +kernel) h
  · rw [if_neg c9] at h
    refine g_41f (a := 2) (b := 13) (nx := 12) (by decide +kernel) (by rw [wr_id r1, wr_id r2]; exact fun hz => c9 ((cb_2 _ _).mp hz)) ?_
    exact g_90 (a := 0) (b := 0) (nx := 13) (by decide +kernel) h
-- 81 SyllableMaker$Row.copy(LSyllableMaker$Row;)V
theorem t_81 {x0 x1 : Int} {M : Mem} {Q : AV → Mem → Prop} (h0 : gO 5 x0) (h : WR 81 2 [some (vR x0), some (vR x1), some (vI 0)] [] M Q) : WC 81 [vR x0, vR x1] M Q := by
  show WR 81 0 [some (vR x0), some (vR x1), none] [] M Q
  refine g_1 (a := 0) (b := 0) (nx := 1) (by decide +kernel) ?_
  refine g_8 (a := 2) (b := 0) (nx := 2) (by decide +kernel) rfl (ls' := [some (vR x0), some (vR x1), some (vI 0)]) rfl ?_
  exact h
theorem t_81_2 {x0 x1 x2 : Int} {M : Mem} {Q : AV → Mem → Prop} (h0 : gO 5 x0) (h : ((M x0 0) ≠ -2000 ∧ 20 ≤ (shA SH (M x0 0)).1 ∧ (shA SH (M x0 0)).1 ≤ 41 ∧ (shA SH (M x0 0)).1 ≠ 40) ∧ inR x2 ∧ (inR ((shA SH (M x0 0)).2 : Int) ∧ (if ((shA SH (M x0 0)).2 : Int) ≤ x2 then ((gO 5 x1) ∧ (gO 5 x1) ∧ Q (vI 0) (upM (upM M x0 1 (M x1 1)) x0 2 ((upM M x0 1 (M x1 1)) x1 2))) else ((gO 5 x1) ∧ (gA 20 (M x1 0) x2) ∧ (gA 20 (M x0 0) x2) ∧ WR 81 2 [some (vR x0), some (vR x1), some (vI (x2 + 1))] [] (upM M (M x0 0) x2 (M (M x1 0) x2)) Q)))) : WR 81 2 [some (vR x0), some (vR x1), some (vI x2)] [] M Q := by
  refine g_5 (a := 2) (b := 0) (nx := 3) (by decide +kernel) rfl ?_
  refine g_7 (a := 0) (b := 0) (nx := 4) (by decide +kernel) rfl ?_
  refine g_52 (a := 5) (b := 0) (nx := 7) (by decide +kernel) h0 ?_
  refine g_60 (a := 0) (b := 0) (nx := 8) (by decide +kernel) h.1.1 h.1.2 ?_
  replace h := h.2
  obtain ⟨r1, h⟩ := h
  obtain ⟨r2, h⟩ := h
  by_cases c3 : ((shA SH (M x0 0)).2 : Int) ≤ x2
  · rw [if_pos c3] at h
    refine g_41t (a := 3) (b := 29) (nx := 11) (by decide +kernel) (by rw [wr_id r1, wr_id r2]; exact (cb_3 _ _).mpr c3) ?_
    refine g_7 (a := 0) (b := 0) (nx := 30) (by decide +kernel) rfl ?_
    refine g_7 (a := 1) (b := 0) (nx := 31) (by decide +kernel) rfl ?_
    refine g_50 (a := 5) (b := 1) (nx := 34) (by decide +kernel) h.1 ?_
    replace h := h.2
    refine g_53 (a := 5) (b := 1) (nx := 37) (by decide +kernel) h0 ?_
    refine g_7 (a := 0) (b := 0) (nx := 38) (by decide +kernel) rfl ?_
    refine g_7 (a := 1) (b := 0) (nx := 39) (by decide +kernel) rfl ?_
    refine g_51 (a := 5) (b := 2) (nx := 42) (by decide +kernel) h.1 ?_
    replace h := h.2
    refine g_54 (a := 5) (b := 2) (nx := 45) (by decide +kernel) h0 ?_
    exact g_90 (a := 0) (b := 0) (nx := 46) (by decide +kernel) h
  · rw [if_neg c3] at h
    refine g_41f (a := 3) (b := 29) (nx := 11) (by decide +kernel) (by rw [wr_id r1, wr_id r2]; exact fun hz => c3 ((cb_3 _ _).mp hz)) ?_
    refine g_7 (a := 0) (b := 0) (nx := 12) (by decide +kernel) rfl ?_
    refine g_52 (a := 5) (b := 0) (nx := 15) (by decide +kernel) h0 ?_
    refine g_5 (a := 2) (b := 0) (nx := 16) (by decide +kernel) rfl ?_
    refine g_7 (a := 1) (b := 0) (nx := 17) (by decide +kernel) rfl ?_
    refine g_52 (a := 5) (b := 0) (nx := 20) (by decide +kernel) h.1 ?_
    replace h := h.2
    refine g_5 (a := 2) (b := 0) (nx := 21) (by decide +kernel) rfl ?_
    refine g_61 (a := 0) (b := 0) (nx := 22) (by decide +kernel) h.1 ?_
    replace h := h.2
    refine g_62 (a := 0) (b := 0) (nx := 23) (by decide +kernel) h.1 ?_
    replace h := h.2
    refine g_11 (a := 2) (b := 1) (nx := 26) (by decide +kernel) rfl rfl (ls' := [some (vR x0), some (vR x1), some (vI (x2 + 1))]) rfl ?_
    refine g_44 (a := 0) (b := 2) (nx := 29) (by decide +kernel) ?_
    exact h
-- 82 SyllableMaker$Row.soundAt(I)I
theorem t_82 {x0 x1 : Int} {M : Mem} {Q : AV → Mem → Prop} (h0 : gO 5 x0) (h : inR x1 ∧ (if x1 < 0 then (Q (vI (-1)) M) else (inR (M x0 1) ∧ (if (M x0 1) ≤ x1 then (Q (vI (-1)) M) else (((M x0 0) ≠ -2000 ∧ 20 ≤ (shA SH (M x0 0)).1 ∧ (shA SH (M x0 0)).1 ≤ 41 ∧ (shA SH (M x0 0)).1 ≠ 40) ∧ inR ((shA SH (M x0 0)).2 : Int) ∧ (if ((shA SH (M x0 0)).2 : Int) ≤ x1 then (Q (vI (-1)) M) else ((gA 20 (M x0 0) x1) ∧ Q (vI (M (M x0 0) x1)) M))))))) : WC 82 [vR x0, vI x1] M Q := by
  show WR 82 0 [some (vR x0), some (vI x1)] [] M Q
  refine g_5 (a := 1) (b := 0) (nx := 1) (by decide +kernel) rfl ?_
  obtain ⟨r1, h⟩ := h
  by_cases c6 : x1 < 0
  · rw [if_pos c6] at h
    refine g_40t (a := 2) (b := 30) (nx := 4) (by decide +kernel) r1 (by exact (cb_2 _ _).mpr c6) ?_
    refine g_1 (a := (-1)) (b := 0) (nx := 31) (by decide +kernel) ?_
    exact g_91 (b := 0) (nx := 32) (by decide +kernel) h
  · rw [if_neg c6] at h
    refine g_40f (a := 2) (b := 30) (nx := 4) (by decide +kernel) r1 (by exact fun hz => c6 ((cb_2 _ _).mp hz)) ?_
    refine g_5 (a := 1) (b := 0) (nx := 5) (by decide +kernel) rfl ?_
    refine g_7 (a := 0) (b := 0) (nx := 6) (by decide +kernel) rfl ?_
    refine g_50 (a := 5) (b := 1) (nx := 9) (by decide +kernel) h0 ?_
    obtain ⟨r2, h⟩ := h
    by_cases c5 : (M x0 1) ≤ x1
    · rw [if_pos c5] at h
      refine g_41t (a := 3) (b := 30) (nx := 12) (by decide +kernel) (by rw [wr_id r1, wr_id r2]; exact (cb_3 _ _).mpr c5) ?_
      refine g_1 (a := (-1)) (b := 0) (nx := 31) (by decide +kernel) ?_
      exact g_91 (b := 0) (nx := 32) (by decide +kernel) h
    · rw [if_neg c5] at h
      refine g_41f (a := 3) (b := 30) (nx := 12) (by decide +kernel) (by rw [wr_id r1, wr_id r2]; exact fun hz => c5 ((cb_3 _ _).mp hz)) ?_
      refine g_5 (a := 1) (b := 0) (nx := 13) (by decide +kernel) rfl ?_
      refine g_7 (a := 0) (b := 0) (nx := 14) (by decide +kernel) rfl ?_
      refine g_52 (a := 5) (b := 0) (nx := 17) (by decide +kernel) h0 ?_
      refine g_60 (a := 0) (b := 0) (nx := 18) (by decide +kernel) h.1.1 h.1.2 ?_
      replace h := h.2
      obtain ⟨r3, h⟩ := h
      by_cases c4 : ((shA SH (M x0 0)).2 : Int) ≤ x1
      · rw [if_pos c4] at h
        refine g_41t (a := 3) (b := 30) (nx := 21) (by decide +kernel) (by rw [wr_id r1, wr_id r3]; exact (cb_3 _ _).mpr c4) ?_
        refine g_1 (a := (-1)) (b := 0) (nx := 31) (by decide +kernel) ?_
        exact g_91 (b := 0) (nx := 32) (by decide +kernel) h
      · rw [if_neg c4] at h
        refine g_41f (a := 3) (b := 30) (nx := 21) (by decide +kernel) (by rw [wr_id r1, wr_id r3]; exact fun hz => c4 ((cb_3 _ _).mp hz)) ?_
        refine g_7 (a := 0) (b := 0) (nx := 22) (by decide +kernel) rfl ?_
        refine g_52 (a := 5) (b := 0) (nx := 25) (by decide +kernel) h0 ?_
        refine g_5 (a := 1) (b := 0) (nx := 26) (by decide +kernel) rfl ?_
        refine g_61 (a := 0) (b := 0) (nx := 27) (by decide +kernel) h.1 ?_
        replace h := h.2
        refine g_44 (a := 0) (b := 31) (nx := 30) (by decide +kernel) ?_
        exact g_91 (b := 0) (nx := 32) (by decide +kernel) h
-- 83 SyllableMaker$Row.key(II)J
theorem t_83 {x0 x1 x2 : Int} {M : Mem} {Q : AV → Mem → Prop} (h0 : gO 5 x0) (h : (inR (M x0 1) ∧ inR (x1 + x2)) ∧ (inR 0 ∧ inR x1) ∧ WR 83 21 [some (vR x0), some (vI x1), some (vI x2), some (vL 1), none, some (vI (min (M x0 1) (x1 + x2))), some (vI (max 0 x1))] [] M Q) : WC 83 [vR x0, vI x1, vI x2] M Q := by
  show WR 83 0 [some (vR x0), some (vI x1), some (vI x2), none, none, none, none] [] M Q
  refine g_2 (a := 1) (b := 0) (nx := 1) (by decide +kernel) ?_
  refine g_9 (a := 3) (b := 0) (nx := 2) (by decide +kernel) ⟨rfl, Nat.le_of_ble_eq_true rfl⟩ (ls' := [some (vR x0), some (vI x1), some (vI x2), some (vL 1), none, none, none]) rfl ?_
  refine g_7 (a := 0) (b := 0) (nx := 3) (by decide +kernel) rfl ?_
  refine g_50 (a := 5) (b := 1) (nx := 6) (by decide +kernel) h0 ?_
  refine g_5 (a := 1) (b := 0) (nx := 7) (by decide +kernel) rfl ?_
  refine g_5 (a := 2) (b := 0) (nx := 8) (by decide +kernel) rfl ?_
  refine g_15 (a := 0) (b := 0) (nx := 9) (by decide +kernel) ?_
  refine g_84 (a := 0) (b := 0) (nx := 12) (by decide +kernel) h.1.1 h.1.2 (Nat.le_of_ble_eq_true rfl) ?_
  replace h := h.2
  refine g_8 (a := 5) (b := 0) (nx := 14) (by decide +kernel) rfl (ls' := [some (vR x0), some (vI x1), some (vI x2), some (vL 1), none, some (vI (min (M x0 1) (x1 + x2))), none]) rfl ?_
  refine g_1 (a := 0) (b := 0) (nx := 15) (by decide +kernel) ?_
  refine g_5 (a := 1) (b := 0) (nx := 16) (by decide +kernel) rfl ?_
  refine g_85 (a := 0) (b := 0) (nx := 19) (by decide +kernel) h.1.1 h.1.2 (Nat.le_of_ble_eq_true rfl) ?_
  replace h := h.2
  refine g_8 (a := 6) (b := 0) (nx := 21) (by decide +kernel) rfl (ls' := [some (vR x0), some (vI x1), some (vI x2), some (vL 1), none, some (vI (min (M x0 1) (x1 + x2))), some (vI (max 0 x1))]) rfl ?_
  exact h
theorem t_83_21 {x0 x1 x2 x3 x5 x6 : Int} {M : Mem} {Q : AV → Mem → Prop} (h0 : gO 5 x0) (h : inR x6 ∧ (inR x5 ∧ (if x5 ≤ x6 then (Q (vL x3) M) else (((M x0 0) ≠ -2000 ∧ 20 ≤ (shA SH (M x0 0)).1 ∧ (shA SH (M x0 0)).1 ≤ 41 ∧ (shA SH (M x0 0)).1 ≠ 40) ∧ inR ((shA SH (M x0 0)).2 : Int) ∧ (if ((shA SH (M x0 0)).2 : Int) ≤ x6 then (Q (vL x3) M) else ((gA 20 (M x0 0) x6) ∧ WR 83 21 [some (vR x0), some (vI x1), some (vI x2), some (vL (or64 (x3 * 16) (wr32 (M (M x0 0) x6)))), none, some (vI x5), some (vI (x6 + 1))] [] M Q)))))) : WR 83 21 [some (vR x0), some (vI x1), some (vI x2), some (vL x3), none, some (vI x5), some (vI x6)] [] M Q := by
  refine g_5 (a := 6) (b := 0) (nx := 23) (by decide +kernel) rfl ?_
  refine g_5 (a := 5) (b := 0) (nx := 25) (by decide +kernel) rfl ?_
  obtain ⟨r1, h⟩ := h
  obtain ⟨r2, h⟩ := h
  by_cases c5 : x5 ≤ x6
  · rw [if_pos c5] at h
    refine g_41t (a := 3) (b := 57) (nx := 28) (by decide +kernel) (by rw [wr_id r1, wr_id r2]; exact (cb_3 _ _).mpr c5) ?_
    refine g_6 (a := 3) (b := 0) (nx := 58) (by decide +kernel) rfl ?_
    exact g_92 (a := 0) (b := 0) (nx := 59) (by decide +kernel) h
  · rw [if_neg c5] at h
    refine g_41f (a := 3) (b := 57) (nx := 28) (by decide +kernel) (by rw [wr_id r1, wr_id r2]; exact fun hz => c5 ((cb_3 _ _).mp hz)) ?_
    refine g_5 (a := 6) (b := 0) (nx := 30) (by decide +kernel) rfl ?_
    refine g_7 (a := 0) (b := 0) (nx := 31) (by decide +kernel) rfl ?_
    refine g_52 (a := 5) (b := 0) (nx := 34) (by decide +kernel) h0 ?_
    refine g_60 (a := 0) (b := 0) (nx := 35) (by decide +kernel) h.1.1 h.1.2 ?_
    replace h := h.2
    obtain ⟨r3, h⟩ := h
    by_cases c4 : ((shA SH (M x0 0)).2 : Int) ≤ x6
    · rw [if_pos c4] at h
      refine g_41t (a := 3) (b := 57) (nx := 38) (by decide +kernel) (by rw [wr_id r1, wr_id r3]; exact (cb_3 _ _).mpr c4) ?_
      refine g_6 (a := 3) (b := 0) (nx := 58) (by decide +kernel) rfl ?_
      exact g_92 (a := 0) (b := 0) (nx := 59) (by decide +kernel) h
    · rw [if_neg c4] at h
      refine g_41f (a := 3) (b := 57) (nx := 38) (by decide +kernel) (by rw [wr_id r1, wr_id r3]; exact fun hz => c4 ((cb_3 _ _).mp hz)) ?_
      refine g_6 (a := 3) (b := 0) (nx := 39) (by decide +kernel) rfl ?_
      refine g_1 (a := 4) (b := 0) (nx := 40) (by decide +kernel) ?_
      refine g_32 (a := 0) (b := 0) (nx := 41) (by decide +kernel) (by decide) ?_
      show WR 83 41 [some (vR x0), some (vI x1), some (vI x2), some (vL x3), none, some (vI x5), some (vI x6)] [vL (x3 * 16)] M Q
      refine g_7 (a := 0) (b := 0) (nx := 42) (by decide +kernel) rfl ?_
      refine g_52 (a := 5) (b := 0) (nx := 45) (by decide +kernel) h0 ?_
      refine g_5 (a := 6) (b := 0) (nx := 47) (by decide +kernel) rfl ?_
      refine g_61 (a := 0) (b := 0) (nx := 48) (by decide +kernel) h.1 ?_
      replace h := h.2
      refine g_35 (a := 0) (b := 0) (nx := 49) (by decide +kernel) ?_
      refine g_31 (a := 0) (b := 0) (nx := 50) (by decide +kernel) ?_
      refine g_9 (a := 3) (b := 0) (nx := 51) (by decide +kernel) ⟨rfl, Nat.le_of_ble_eq_true rfl⟩ (ls' := [some (vR x0), some (vI x1), some (vI x2), some (vL (or64 (x3 * 16) (wr32 (M (M x0 0) x6)))), none, some (vI x5), some (vI x6)]) rfl ?_
      refine g_11 (a := 6) (b := 1) (nx := 54) (by decide +kernel) rfl rfl (ls' := [some (vR x0), some (vI x1), some (vI x2), some (vL (or64 (x3 * 16) (wr32 (M (M x0 0) x6)))), none, some (vI x5), some (vI (x6 + 1))]) rfl ?_
      refine g_44 (a := 0) (b := 21) (nx := 57) (by decide +kernel) ?_
      exact h
-- 84 SyllableMaker$Row.longer(JI)J
theorem t_84 {x0 x2 : Int} {M : Mem} {Q : AV → Mem → Prop} (h : Q (vL (or64 (x0 * 16) (wr32 (and32 x2 15)))) M) : WC 84 [vL x0, vI x2] M Q := by
  show WR 84 0 [some (vL x0), none, some (vI x2)] [] M Q
  refine g_6 (a := 0) (b := 0) (nx := 1) (by decide +kernel) rfl ?_
  refine g_1 (a := 4) (b := 0) (nx := 2) (by decide +kernel) ?_
  refine g_32 (a := 0) (b := 0) (nx := 3) (by decide +kernel) (by decide) ?_
  show WR 84 3 [some (vL x0), none, some (vI x2)] [vL (x0 * 16)] M Q
  refine g_5 (a := 2) (b := 0) (nx := 4) (by decide +kernel) rfl ?_
  refine g_1 (a := 15) (b := 0) (nx := 6) (by decide +kernel) ?_
  refine g_20 (a := 0) (b := 0) (nx := 7) (by decide +kernel) ?_
  refine g_35 (a := 0) (b := 0) (nx := 8) (by decide +kernel) ?_
  refine g_31 (a := 0) (b := 0) (nx := 9) (by decide +kernel) ?_
  exact g_92 (a := 0) (b := 0) (nx := 10) (by decide +kernel) h
-- 85 SyllableMaker$Row.sizeOf(J)I
theorem t_85 {x0 : Int} {M : Mem} {Q : AV → Mem → Prop} (h : WR 85 6 [some (vL x0), none, some (vI 0), some (vL (x0 % 18446744073709551616 / 16)), none] [] M Q) : WC 85 [vL x0] M Q := by
  show WR 85 0 [some (vL x0), none, none, none, none] [] M Q
  refine g_1 (a := 0) (b := 0) (nx := 1) (by decide +kernel) ?_
  refine g_8 (a := 2) (b := 0) (nx := 2) (by decide +kernel) rfl (ls' := [some (vL x0), none, some (vI 0), none, none]) rfl ?_
  refine g_6 (a := 0) (b := 0) (nx := 3) (by decide +kernel) rfl ?_
  refine g_1 (a := 4) (b := 0) (nx := 4) (by decide +kernel) ?_
  refine g_33 (a := 0) (b := 0) (nx := 5) (by decide +kernel) (by decide) ?_
  show WR 85 5 [some (vL x0), none, some (vI 0), none, none] [vL (x0 % 18446744073709551616 / 16)] M Q
  refine g_9 (a := 3) (b := 0) (nx := 6) (by decide +kernel) ⟨rfl, Nat.le_of_ble_eq_true rfl⟩ (ls' := [some (vL x0), none, some (vI 0), some (vL (x0 % 18446744073709551616 / 16)), none]) rfl ?_
  exact h
theorem t_85_6 {x0 x2 x3 : Int} {M : Mem} {Q : AV → Mem → Prop} (h : (in64 x3 ∧ in64 0) ∧ inR (if x3 < 0 then -1 else if x3 = 0 then 0 else 1) ∧ (if (if x3 < 0 then -1 else if x3 = 0 then 0 else 1) = 0 then (Q (vI x2) M) else (WR 85 6 [some (vL x0), none, some (vI (x2 + 1)), some (vL (x3 % 18446744073709551616 / 16)), none] [] M Q))) : WR 85 6 [some (vL x0), none, some (vI x2), some (vL x3), none] [] M Q := by
  refine g_6 (a := 3) (b := 0) (nx := 7) (by decide +kernel) rfl ?_
  refine g_2 (a := 0) (b := 0) (nx := 8) (by decide +kernel) ?_
  refine g_34 (a := 0) (b := 0) (nx := 9) (by decide +kernel) h.1 ?_
  replace h := h.2
  obtain ⟨r1, h⟩ := h
  by_cases c2 : (if x3 < 0 then -1 else if x3 = 0 then 0 else 1) = 0
  · rw [if_pos c2] at h
    refine g_40t (a := 0) (b := 22) (nx := 12) (by decide +kernel) r1 (by exact (cb_0 _ _).mpr c2) ?_
    refine g_5 (a := 2) (b := 0) (nx := 23) (by decide +kernel) rfl ?_
    exact g_91 (b := 0) (nx := 24) (by decide +kernel) h
  · rw [if_neg c2] at h
    refine g_40f (a := 0) (b := 22) (nx := 12) (by decide +kernel) r1 (by exact fun hz => c2 ((cb_0 _ _).mp hz)) ?_
    refine g_11 (a := 2) (b := 1) (nx := 15) (by decide +kernel) rfl rfl (ls' := [some (vL x0), none, some (vI (x2 + 1)), some (vL x3), none]) rfl ?_
    refine g_6 (a := 3) (b := 0) (nx := 16) (by decide +kernel) rfl ?_
    refine g_1 (a := 4) (b := 0) (nx := 17) (by decide +kernel) ?_
    refine g_33 (a := 0) (b := 0) (nx := 18) (by decide +kernel) (by decide) ?_
    show WR 85 18 [some (vL x0), none, some (vI (x2 + 1)), some (vL x3), none] [vL (x3 % 18446744073709551616 / 16)] M Q
    refine g_9 (a := 3) (b := 0) (nx := 19) (by decide +kernel) ⟨rfl, Nat.le_of_ble_eq_true rfl⟩ (ls' := [some (vL x0), none, some (vI (x2 + 1)), some (vL (x3 % 18446744073709551616 / 16)), none]) rfl ?_
    refine g_44 (a := 0) (b := 6) (nx := 22) (by decide +kernel) ?_
    exact h
-- 86 SyllableMaker$Row.soundIn(JI)I
theorem t_86 {x0 x2 : Int} {M : Mem} {Q : AV → Mem → Prop} (h : WI 85 [vL x0] M (fun y2 M1 => inR x2 ∧ (if x2 < 0 then (Q (vI (-1)) M1) else (inR y2 ∧ (if y2 ≤ x2 then (Q (vI (-1)) M1) else ((0 ≤ (4 * ((y2 - 1) - x2)) ∧ (4 * ((y2 - 1) - x2)) < 64) ∧ Q (vI (and32 (x0 % 18446744073709551616 / 2 ^ ((4 * ((y2 - 1) - x2))).toNat) 15)) M1)))))) : WC 86 [vL x0, vI x2] M Q := by
  show WR 86 0 [some (vL x0), none, some (vI x2), none] [] M Q
  refine g_6 (a := 0) (b := 0) (nx := 1) (by decide +kernel) rfl ?_
  refine g_82 (a := 85) (b := 1) (nx := 4) (by decide +kernel) (As := [vL x0]) (st' := []) (z := 85) rfl rfl rfl (Nat.le_of_ble_eq_true rfl) (Nat.le_of_ble_eq_true rfl) rfl (c_I (by decide +kernel) h (fun y2 M1 h => ?_))
  refine g_8 (a := 3) (b := 0) (nx := 5) (by decide +kernel) rfl (ls' := [some (vL x0), none, some (vI x2), some (vI y2)]) rfl ?_
  refine g_5 (a := 2) (b := 0) (nx := 6) (by decide +kernel) rfl ?_
  obtain ⟨r3, h⟩ := h
  by_cases c6 : x2 < 0
  · rw [if_pos c6] at h
    refine g_40t (a := 2) (b := 30) (nx := 9) (by decide +kernel) r3 (by exact (cb_2 _ _).mpr c6) ?_
    refine g_1 (a := (-1)) (b := 0) (nx := 31) (by decide +kernel) ?_
    exact g_91 (b := 0) (nx := 32) (by decide +kernel) h
  · rw [if_neg c6] at h
    refine g_40f (a := 2) (b := 30) (nx := 9) (by decide +kernel) r3 (by exact fun hz => c6 ((cb_2 _ _).mp hz)) ?_
    refine g_5 (a := 2) (b := 0) (nx := 10) (by decide +kernel) rfl ?_
    refine g_5 (a := 3) (b := 0) (nx := 11) (by decide +kernel) rfl ?_
    obtain ⟨r4, h⟩ := h
    by_cases c5 : y2 ≤ x2
    · rw [if_pos c5] at h
      refine g_41t (a := 3) (b := 30) (nx := 14) (by decide +kernel) (by rw [wr_id r3, wr_id r4]; exact (cb_3 _ _).mpr c5) ?_
      refine g_1 (a := (-1)) (b := 0) (nx := 31) (by decide +kernel) ?_
      exact g_91 (b := 0) (nx := 32) (by decide +kernel) h
    · rw [if_neg c5] at h
      refine g_41f (a := 3) (b := 30) (nx := 14) (by decide +kernel) (by rw [wr_id r3, wr_id r4]; exact fun hz => c5 ((cb_3 _ _).mp hz)) ?_
      refine g_6 (a := 0) (b := 0) (nx := 15) (by decide +kernel) rfl ?_
      refine g_1 (a := 4) (b := 0) (nx := 16) (by decide +kernel) ?_
      refine g_5 (a := 3) (b := 0) (nx := 17) (by decide +kernel) rfl ?_
      refine g_1 (a := 1) (b := 0) (nx := 18) (by decide +kernel) ?_
      refine g_16 (a := 0) (b := 0) (nx := 19) (by decide +kernel) ?_
      refine g_5 (a := 2) (b := 0) (nx := 20) (by decide +kernel) rfl ?_
      refine g_16 (a := 0) (b := 0) (nx := 21) (by decide +kernel) ?_
      refine g_17 (a := 0) (b := 0) (nx := 22) (by decide +kernel) ?_
      refine g_33 (a := 0) (b := 0) (nx := 23) (by decide +kernel) h.1 ?_
      show WR 86 23 [some (vL x0), none, some (vI x2), some (vI y2)] [vL (x0 % 18446744073709551616 / 2 ^ ((4 * ((y2 - 1) - x2))).toNat)] M1 Q
      replace h := h.2
      refine g_36 (a := 0) (b := 0) (nx := 24) (by decide +kernel) ?_
      refine g_1 (a := 15) (b := 0) (nx := 26) (by decide +kernel) ?_
      refine g_20 (a := 0) (b := 0) (nx := 27) (by decide +kernel) ?_
      refine g_44 (a := 0) (b := 31) (nx := 30) (by decide +kernel) ?_
      exact g_91 (b := 0) (nx := 32) (by decide +kernel) h
-- 88 SyllableMaker$Sounds.clear()V
theorem t_88 {x0 : Int} {M : Mem} {Q : AV → Mem → Prop} (h0 : gO 6 x0) (h : Q (vI 0) (upM M x0 6 0)) : WC 88 [vR x0] M Q := by
  show WR 88 0 [some (vR x0)] [] M Q
  refine g_7 (a := 0) (b := 0) (nx := 1) (by decide +kernel) rfl ?_
  refine g_1 (a := 0) (b := 0) (nx := 2) (by decide +kernel) ?_
  refine g_53 (a := 6) (b := 6) (nx := 5) (by decide +kernel) h0 ?_
  exact g_90 (a := 0) (b := 0) (nx := 6) (by decide +kernel) h
-- 89 SyllableMaker$Sounds.add(IIZ)V
theorem t_89 {x0 x1 x2 x3 : Int} {M : Mem} {Q : AV → Mem → Prop} (h0 : gO 6 x0) (h : inR (M x0 6) ∧ (if 16 ≤ (M x0 6) then (Q (vI 0) M) else ((gA 20 (M x0 0) (M x0 6)) ∧ (gA 20 ((upM M (M x0 0) (M x0 6) x1) x0 1) ((upM M (M x0 0) (M x0 6) x1) x0 6)) ∧ ((gA 21 ((upM (upM M (M x0 0) (M x0 6) x1) ((upM M (M x0 0) (M x0 6) x1) x0 1) ((upM M (M x0 0) (M x0 6) x1) x0 6) x2) x0 2) ((upM (upM M (M x0 0) (M x0 6) x1) ((upM M (M x0 0) (M x0 6) x1) x0 1) ((upM M (M x0 0) (M x0 6) x1) x0 6) x2) x0 6) ∧ -128 ≤ x3 ∧ x3 < 128) ∨ (gA 22 ((upM (upM M (M x0 0) (M x0 6) x1) ((upM M (M x0 0) (M x0 6) x1) x0 1) ((upM M (M x0 0) (M x0 6) x1) x0 6) x2) x0 2) ((upM (upM M (M x0 0) (M x0 6) x1) ((upM M (M x0 0) (M x0 6) x1) x0 1) ((upM M (M x0 0) (M x0 6) x1) x0 6) x2) x0 6) ∧ 0 ≤ x3 ∧ x3 ≤ 1)) ∧ Q (vI 0) (upM (upM (upM (upM M (M x0 0) (M x0 6) x1) ((upM M (M x0 0) (M x0 6) x1) x0 1) ((upM M (M x0 0) (M x0 6) x1) x0 6) x2) ((upM (upM M (M x0 0) (M x0 6) x1) ((upM M (M x0 0) (M x0 6) x1) x0 1) ((upM M (M x0 0) (M x0 6) x1) x0 6) x2) x0 2) ((upM (upM M (M x0 0) (M x0 6) x1) ((upM M (M x0 0) (M x0 6) x1) x0 1) ((upM M (M x0 0) (M x0 6) x1) x0 6) x2) x0 6) x3) x0 6 (((upM (upM (upM M (M x0 0) (M x0 6) x1) ((upM M (M x0 0) (M x0 6) x1) x0 1) ((upM M (M x0 0) (M x0 6) x1) x0 6) x2) ((upM (upM M (M x0 0) (M x0 6) x1) ((upM M (M x0 0) (M x0 6) x1) x0 1) ((upM M (M x0 0) (M x0 6) x1) x0 6) x2) x0 2) ((upM (upM M (M x0 0) (M x0 6) x1) ((upM M (M x0 0) (M x0 6) x1) x0 1) ((upM M (M x0 0) (M x0 6) x1) x0 6) x2) x0 6) x3) x0 6) + 1))))) : WC 89 [vR x0, vI x1, vI x2, vI x3] M Q := by
  show WR 89 0 [some (vR x0), some (vI x1), some (vI x2), some (vI x3)] [] M Q
  refine g_7 (a := 0) (b := 0) (nx := 1) (by decide +kernel) rfl ?_
  refine g_50 (a := 6) (b := 6) (nx := 4) (by decide +kernel) h0 ?_
  refine g_1 (a := 16) (b := 0) (nx := 6) (by decide +kernel) ?_
  obtain ⟨r1, h⟩ := h
  by_cases c2 : 16 ≤ (M x0 6)
  · rw [if_pos c2] at h
    refine g_41t (a := 3) (b := 49) (nx := 9) (by decide +kernel) (by rw [wr_id r1, wr_id (show inR 16 by decide)]; exact (cb_3 _ _).mpr c2) ?_
    exact g_90 (a := 0) (b := 0) (nx := 50) (by decide +kernel) h
  · rw [if_neg c2] at h
    refine g_41f (a := 3) (b := 49) (nx := 9) (by decide +kernel) (by rw [wr_id r1, wr_id (show inR 16 by decide)]; exact fun hz => c2 ((cb_3 _ _).mp hz)) ?_
    refine g_7 (a := 0) (b := 0) (nx := 10) (by decide +kernel) rfl ?_
    refine g_52 (a := 6) (b := 0) (nx := 13) (by decide +kernel) h0 ?_
    refine g_7 (a := 0) (b := 0) (nx := 14) (by decide +kernel) rfl ?_
    refine g_50 (a := 6) (b := 6) (nx := 17) (by decide +kernel) h0 ?_
    refine g_5 (a := 1) (b := 0) (nx := 18) (by decide +kernel) rfl ?_
    refine g_62 (a := 0) (b := 0) (nx := 19) (by decide +kernel) h.1 ?_
    replace h := h.2
    refine g_7 (a := 0) (b := 0) (nx := 20) (by decide +kernel) rfl ?_
    refine g_52 (a := 6) (b := 1) (nx := 23) (by decide +kernel) h0 ?_
    refine g_7 (a := 0) (b := 0) (nx := 24) (by decide +kernel) rfl ?_
    refine g_50 (a := 6) (b := 6) (nx := 27) (by decide +kernel) h0 ?_
    refine g_5 (a := 2) (b := 0) (nx := 28) (by decide +kernel) rfl ?_
    refine g_62 (a := 0) (b := 0) (nx := 29) (by decide +kernel) h.1 ?_
    replace h := h.2
    refine g_7 (a := 0) (b := 0) (nx := 30) (by decide +kernel) rfl ?_
    refine g_52 (a := 6) (b := 2) (nx := 33) (by decide +kernel) h0 ?_
    refine g_7 (a := 0) (b := 0) (nx := 34) (by decide +kernel) rfl ?_
    refine g_50 (a := 6) (b := 6) (nx := 37) (by decide +kernel) h0 ?_
    refine g_5 (a := 3) (b := 0) (nx := 38) (by decide +kernel) rfl ?_
    refine g_64 (a := 0) (b := 0) (nx := 39) (by decide +kernel) h.1 ?_
    replace h := h.2
    refine g_7 (a := 0) (b := 0) (nx := 40) (by decide +kernel) rfl ?_
    refine g_13 (a := 0) (b := 0) (nx := 41) (by decide +kernel) rfl ?_
    refine g_50 (a := 6) (b := 6) (nx := 44) (by decide +kernel) h0 ?_
    refine g_1 (a := 1) (b := 0) (nx := 45) (by decide +kernel) ?_
    refine g_15 (a := 0) (b := 0) (nx := 46) (by decide +kernel) ?_
    refine g_53 (a := 6) (b := 6) (nx := 49) (by decide +kernel) h0 ?_
    exact g_90 (a := 0) (b := 0) (nx := 50) (by decide +kernel) h
-- 90 SyllableMaker$Sounds.has(I)Z
theorem t_90 {x0 x1 : Int} {M : Mem} {Q : AV → Mem → Prop} (h0 : gO 6 x0) (h : inR x1 ∧ (if x1 < 0 then (Q (vI 0) M) else (inR (M x0 6) ∧ (if (M x0 6) ≤ x1 then (Q (vI 0) M) else (if 16 ≤ x1 then (Q (vI 0) M) else (Q (vI 1) M)))))) : WC 90 [vR x0, vI x1] M Q := by
  show WR 90 0 [some (vR x0), some (vI x1)] [] M Q
  refine g_5 (a := 1) (b := 0) (nx := 1) (by decide +kernel) rfl ?_
  obtain ⟨r1, h⟩ := h
  by_cases c5 : x1 < 0
  · rw [if_pos c5] at h
    refine g_40t (a := 2) (b := 22) (nx := 4) (by decide +kernel) r1 (by exact (cb_2 _ _).mpr c5) ?_
    refine g_1 (a := 0) (b := 0) (nx := 23) (by decide +kernel) ?_
    exact g_91z (b := 0) (nx := 24) (by decide +kernel) (by decide) h
  · rw [if_neg c5] at h
    refine g_40f (a := 2) (b := 22) (nx := 4) (by decide +kernel) r1 (by exact fun hz => c5 ((cb_2 _ _).mp hz)) ?_
    refine g_5 (a := 1) (b := 0) (nx := 5) (by decide +kernel) rfl ?_
    refine g_7 (a := 0) (b := 0) (nx := 6) (by decide +kernel) rfl ?_
    refine g_50 (a := 6) (b := 6) (nx := 9) (by decide +kernel) h0 ?_
    obtain ⟨r2, h⟩ := h
    by_cases c4 : (M x0 6) ≤ x1
    · rw [if_pos c4] at h
      refine g_41t (a := 3) (b := 22) (nx := 12) (by decide +kernel) (by rw [wr_id r1, wr_id r2]; exact (cb_3 _ _).mpr c4) ?_
      refine g_1 (a := 0) (b := 0) (nx := 23) (by decide +kernel) ?_
      exact g_91z (b := 0) (nx := 24) (by decide +kernel) (by decide) h
    · rw [if_neg c4] at h
      refine g_41f (a := 3) (b := 22) (nx := 12) (by decide +kernel) (by rw [wr_id r1, wr_id r2]; exact fun hz => c4 ((cb_3 _ _).mp hz)) ?_
      refine g_5 (a := 1) (b := 0) (nx := 13) (by decide +kernel) rfl ?_
      refine g_1 (a := 16) (b := 0) (nx := 15) (by decide +kernel) ?_
      by_cases c3 : 16 ≤ x1
      · rw [if_pos c3] at h
        refine g_41t (a := 3) (b := 22) (nx := 18) (by decide +kernel) (by rw [wr_id r1, wr_id (show inR 16 by decide)]; exact (cb_3 _ _).mpr c3) ?_
        refine g_1 (a := 0) (b := 0) (nx := 23) (by decide +kernel) ?_
        exact g_91z (b := 0) (nx := 24) (by decide +kernel) (by decide) h
      · rw [if_neg c3] at h
        refine g_41f (a := 3) (b := 22) (nx := 18) (by decide +kernel) (by rw [wr_id r1, wr_id (show inR 16 by decide)]; exact fun hz => c3 ((cb_3 _ _).mp hz)) ?_
        refine g_1 (a := 1) (b := 0) (nx := 19) (by decide +kernel) ?_
        refine g_44 (a := 0) (b := 23) (nx := 22) (by decide +kernel) ?_
        exact g_91z (b := 0) (nx := 24) (by decide +kernel) (by decide) h
-- 91 SyllableMaker$Sounds.numberOf(I)I
theorem t_91 {x0 x1 : Int} {M : Mem} {Q : AV → Mem → Prop} (h0 : gO 6 x0) (h : WR 91 2 [some (vR x0), some (vI x1), some (vI 0)] [] M Q) : WC 91 [vR x0, vI x1] M Q := by
  show WR 91 0 [some (vR x0), some (vI x1), none] [] M Q
  refine g_1 (a := 0) (b := 0) (nx := 1) (by decide +kernel) ?_
  refine g_8 (a := 2) (b := 0) (nx := 2) (by decide +kernel) rfl (ls' := [some (vR x0), some (vI x1), some (vI 0)]) rfl ?_
  exact h
theorem t_91_2 {x0 x1 x2 : Int} {M : Mem} {Q : AV → Mem → Prop} (h0 : gO 6 x0) (h : inR x2 ∧ (inR (M x0 6) ∧ (if (M x0 6) ≤ x2 then (Q (vI (-1)) M) else (if 16 ≤ x2 then (Q (vI (-1)) M) else ((gA 20 (M x0 0) x2) ∧ inR (M (M x0 0) x2) ∧ (inR x1 ∧ (if (M (M x0 0) x2) = x1 then (Q (vI x2) M) else (WR 91 2 [some (vR x0), some (vI x1), some (vI (x2 + 1))] [] M Q)))))))) : WR 91 2 [some (vR x0), some (vI x1), some (vI x2)] [] M Q := by
  refine g_5 (a := 2) (b := 0) (nx := 3) (by decide +kernel) rfl ?_
  refine g_7 (a := 0) (b := 0) (nx := 4) (by decide +kernel) rfl ?_
  refine g_50 (a := 6) (b := 6) (nx := 7) (by decide +kernel) h0 ?_
  obtain ⟨r1, h⟩ := h
  obtain ⟨r2, h⟩ := h
  by_cases c7 : (M x0 6) ≤ x2
  · rw [if_pos c7] at h
    refine g_41t (a := 3) (b := 34) (nx := 10) (by decide +kernel) (by rw [wr_id r1, wr_id r2]; exact (cb_3 _ _).mpr c7) ?_
    refine g_1 (a := (-1)) (b := 0) (nx := 35) (by decide +kernel) ?_
    exact g_91 (b := 0) (nx := 36) (by decide +kernel) h
  · rw [if_neg c7] at h
    refine g_41f (a := 3) (b := 34) (nx := 10) (by decide +kernel) (by rw [wr_id r1, wr_id r2]; exact fun hz => c7 ((cb_3 _ _).mp hz)) ?_
    refine g_5 (a := 2) (b := 0) (nx := 11) (by decide +kernel) rfl ?_
    refine g_1 (a := 16) (b := 0) (nx := 13) (by decide +kernel) ?_
    by_cases c6 : 16 ≤ x2
    · rw [if_pos c6] at h
      refine g_41t (a := 3) (b := 34) (nx := 16) (by decide +kernel) (by rw [wr_id r1, wr_id (show inR 16 by decide)]; exact (cb_3 _ _).mpr c6) ?_
      refine g_1 (a := (-1)) (b := 0) (nx := 35) (by decide +kernel) ?_
      exact g_91 (b := 0) (nx := 36) (by decide +kernel) h
    · rw [if_neg c6] at h
      refine g_41f (a := 3) (b := 34) (nx := 16) (by decide +kernel) (by rw [wr_id r1, wr_id (show inR 16 by decide)]; exact fun hz => c6 ((cb_3 _ _).mp hz)) ?_
      refine g_7 (a := 0) (b := 0) (nx := 17) (by decide +kernel) rfl ?_
      refine g_52 (a := 6) (b := 0) (nx := 20) (by decide +kernel) h0 ?_
      refine g_5 (a := 2) (b := 0) (nx := 21) (by decide +kernel) rfl ?_
      refine g_61 (a := 0) (b := 0) (nx := 22) (by decide +kernel) h.1 ?_
      replace h := h.2
      refine g_5 (a := 1) (b := 0) (nx := 23) (by decide +kernel) rfl ?_
      obtain ⟨r3, h⟩ := h
      obtain ⟨r4, h⟩ := h
      by_cases c5 : (M (M x0 0) x2) = x1
      · rw [if_pos c5] at h
        refine g_41f (a := 1) (b := 28) (nx := 26) (by decide +kernel) (by rw [wr_id r3, wr_id r4]; exact fun hz => ((cb_1 _ _).mp hz) c5) ?_
        refine g_5 (a := 2) (b := 0) (nx := 27) (by decide +kernel) rfl ?_
        exact g_91 (b := 0) (nx := 28) (by decide +kernel) h
      · rw [if_neg c5] at h
        refine g_41t (a := 1) (b := 28) (nx := 26) (by decide +kernel) (by rw [wr_id r3, wr_id r4]; exact (cb_1 _ _).mpr c5) ?_
        refine g_11 (a := 2) (b := 1) (nx := 31) (by decide +kernel) rfl rfl (ls' := [some (vR x0), some (vI x1), some (vI (x2 + 1))]) rfl ?_
        refine g_44 (a := 0) (b := 2) (nx := 34) (by decide +kernel) ?_
        exact h
-- 92 SyllableMaker$Sounds.letterOf(I)I
theorem t_92 {x0 x1 : Int} {M : Mem} {Q : AV → Mem → Prop} (h0 : gO 6 x0) (h : WI 90 [vR x0, vI x1] M (fun y2 M1 => inR y2 ∧ (if y2 = 0 then (Q (vI (-1)) M1) else ((gA 20 (M1 x0 0) x1) ∧ Q (vI (M1 (M1 x0 0) x1)) M1)))) : WC 92 [vR x0, vI x1] M Q := by
  show WR 92 0 [some (vR x0), some (vI x1)] [] M Q
  refine g_7 (a := 0) (b := 0) (nx := 1) (by decide +kernel) rfl ?_
  refine g_5 (a := 1) (b := 0) (nx := 2) (by decide +kernel) rfl ?_
  refine g_80 (a := 90) (b := 1) (nx := 5) (by decide +kernel) (r := x0) (As := [vI x1]) (st' := []) (z := 90) rfl rfl rfl (Nat.le_of_ble_eq_true rfl) h0.2 (Nat.le_of_ble_eq_true rfl) rfl (c_I (by decide +kernel) h (fun y2 M1 h => ?_))
  obtain ⟨r3, h⟩ := h
  by_cases c4 : y2 = 0
  · rw [if_pos c4] at h
    refine g_40t (a := 0) (b := 17) (nx := 8) (by decide +kernel) r3 (by exact (cb_0 _ _).mpr c4) ?_
    refine g_1 (a := (-1)) (b := 0) (nx := 18) (by decide +kernel) ?_
    exact g_91 (b := 0) (nx := 19) (by decide +kernel) h
  · rw [if_neg c4] at h
    refine g_40f (a := 0) (b := 17) (nx := 8) (by decide +kernel) r3 (by exact fun hz => c4 ((cb_0 _ _).mp hz)) ?_
    refine g_7 (a := 0) (b := 0) (nx := 9) (by decide +kernel) rfl ?_
    refine g_52 (a := 6) (b := 0) (nx := 12) (by decide +kernel) h0 ?_
    refine g_5 (a := 1) (b := 0) (nx := 13) (by decide +kernel) rfl ?_
    refine g_61 (a := 0) (b := 0) (nx := 14) (by decide +kernel) h.1 ?_
    replace h := h.2
    refine g_44 (a := 0) (b := 18) (nx := 17) (by decide +kernel) ?_
    exact g_91 (b := 0) (nx := 19) (by decide +kernel) h
