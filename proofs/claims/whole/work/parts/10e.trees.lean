/-! TREES, printed by a program: what each method's run comes to. -/
-- 174 SyllableMaker.about(I)I
theorem t_174 {x0 x1 : Int} {M : Mem} {Q : AV → Mem → Prop} (h0 : gO 11 x0) (h : inR x1 ∧ (if x1 = 0 then ((gO 2 (M x0 7)) ∧ (gO 6 (M (M x0 7) 0)) ∧ Q (vI (M (M (M x0 7) 0) 6)) M) else (if x1 = 1 then ((gO 2 (M x0 7)) ∧ Q (vI (M (M x0 7) 5)) M) else (if x1 = 2 then ((gO 2 (M x0 7)) ∧ Q (vI (M (M x0 7) 6)) M) else (if x1 = 3 then ((gO 2 (M x0 7)) ∧ (gO 10 (M (M x0 7) 1)) ∧ Q (vI (M (M (M x0 7) 1) 2)) M) else (if x1 = 4 then ((gO 7 (M x0 3)) ∧ (gO 10 (M (M x0 3) 1)) ∧ Q (vI (M (M (M x0 3) 1) 2)) M) else (if x1 = 5 then ((gO 0 (M x0 6)) ∧ Q (vI (M (M x0 6) 4)) M) else (if x1 = 6 then ((gO 9 (M x0 0)) ∧ Q (vI (M (M x0 0) 1)) M) else (if x1 = 7 then (((shA SH (M x0 7)).1 = 2) ∧ WI 51 [vR (M x0 7)] M (fun y11 M10 => Q (vI y11) M10)) else (if 10 ≤ x1 then (((shA SH (M x0 7)).1 = 2) ∧ WI 41 [vR (M x0 7), vI (x1 - 10)] M (fun y13 M12 => Q (vI y13) M12)) else (Q (vI (-1)) M))))))))))) : WC 174 [vR x0, vI x1] M Q := by
  show WR 174 0 [some (vR x0), some (vI x1)] [] M Q
  refine g_5 (a := 1) (b := 0) (nx := 1) (by decide +kernel) rfl ?_
  obtain ⟨r1, h⟩ := h
  by_cases c2 : x1 = 0
  · rw [if_pos c2] at h
    refine g_45 (a := 0) (b := 121) (nx := 48) (by decide +kernel) r1 (t := 48) (by rw [(show sws 174 1 = [(0, 48), (1, 59), (2, 67), (3, 75), (4, 86), (5, 97), (6, 105), (7, 113)] from by decide +kernel)]; simp only [swL]; simp [c2]) ?_
    refine g_7 (a := 0) (b := 0) (nx := 49) (by decide +kernel) rfl ?_
    refine g_52 (a := 11) (b := 7) (nx := 52) (by decide +kernel) h0 ?_
    refine g_52 (a := 2) (b := 0) (nx := 55) (by decide +kernel) h.1 ?_
    replace h := h.2
    refine g_50 (a := 6) (b := 6) (nx := 58) (by decide +kernel) h.1 ?_
    replace h := h.2
    exact g_91 (b := 0) (nx := 59) (by decide +kernel) h
  · rw [if_neg c2] at h
    by_cases c3 : x1 = 1
    · rw [if_pos c3] at h
      refine g_45 (a := 0) (b := 121) (nx := 48) (by decide +kernel) r1 (t := 59) (by rw [(show sws 174 1 = [(0, 48), (1, 59), (2, 67), (3, 75), (4, 86), (5, 97), (6, 105), (7, 113)] from by decide +kernel)]; simp only [swL]; simp [c3]) ?_
      refine g_7 (a := 0) (b := 0) (nx := 60) (by decide +kernel) rfl ?_
      refine g_52 (a := 11) (b := 7) (nx := 63) (by decide +kernel) h0 ?_
      refine g_50 (a := 2) (b := 5) (nx := 66) (by decide +kernel) h.1 ?_
      replace h := h.2
      exact g_91 (b := 0) (nx := 67) (by decide +kernel) h
    · rw [if_neg c3] at h
      by_cases c4 : x1 = 2
      · rw [if_pos c4] at h
        refine g_45 (a := 0) (b := 121) (nx := 48) (by decide +kernel) r1 (t := 67) (by rw [(show sws 174 1 = [(0, 48), (1, 59), (2, 67), (3, 75), (4, 86), (5, 97), (6, 105), (7, 113)] from by decide +kernel)]; simp only [swL]; simp [c4]) ?_
        refine g_7 (a := 0) (b := 0) (nx := 68) (by decide +kernel) rfl ?_
        refine g_52 (a := 11) (b := 7) (nx := 71) (by decide +kernel) h0 ?_
        refine g_50 (a := 2) (b := 6) (nx := 74) (by decide +kernel) h.1 ?_
        replace h := h.2
        exact g_91 (b := 0) (nx := 75) (by decide +kernel) h
      · rw [if_neg c4] at h
        by_cases c5 : x1 = 3
        · rw [if_pos c5] at h
          refine g_45 (a := 0) (b := 121) (nx := 48) (by decide +kernel) r1 (t := 75) (by rw [(show sws 174 1 = [(0, 48), (1, 59), (2, 67), (3, 75), (4, 86), (5, 97), (6, 105), (7, 113)] from by decide +kernel)]; simp only [swL]; simp [c5]) ?_
          refine g_7 (a := 0) (b := 0) (nx := 76) (by decide +kernel) rfl ?_
          refine g_52 (a := 11) (b := 7) (nx := 79) (by decide +kernel) h0 ?_
          refine g_52 (a := 2) (b := 1) (nx := 82) (by decide +kernel) h.1 ?_
          replace h := h.2
          refine g_50 (a := 10) (b := 2) (nx := 85) (by decide +kernel) h.1 ?_
          replace h := h.2
          exact g_91 (b := 0) (nx := 86) (by decide +kernel) h
        · rw [if_neg c5] at h
          by_cases c6 : x1 = 4
          · rw [if_pos c6] at h
            refine g_45 (a := 0) (b := 121) (nx := 48) (by decide +kernel) r1 (t := 86) (by rw [(show sws 174 1 = [(0, 48), (1, 59), (2, 67), (3, 75), (4, 86), (5, 97), (6, 105), (7, 113)] from by decide +kernel)]; simp only [swL]; simp [c6]) ?_
            refine g_7 (a := 0) (b := 0) (nx := 87) (by decide +kernel) rfl ?_
            refine g_52 (a := 11) (b := 3) (nx := 90) (by decide +kernel) h0 ?_
            refine g_52 (a := 7) (b := 1) (nx := 93) (by decide +kernel) h.1 ?_
            replace h := h.2
            refine g_50 (a := 10) (b := 2) (nx := 96) (by decide +kernel) h.1 ?_
            replace h := h.2
            exact g_91 (b := 0) (nx := 97) (by decide +kernel) h
          · rw [if_neg c6] at h
            by_cases c7 : x1 = 5
            · rw [if_pos c7] at h
              refine g_45 (a := 0) (b := 121) (nx := 48) (by decide +kernel) r1 (t := 97) (by rw [(show sws 174 1 = [(0, 48), (1, 59), (2, 67), (3, 75), (4, 86), (5, 97), (6, 105), (7, 113)] from by decide +kernel)]; simp only [swL]; simp [c7]) ?_
              refine g_7 (a := 0) (b := 0) (nx := 98) (by decide +kernel) rfl ?_
              refine g_52 (a := 11) (b := 6) (nx := 101) (by decide +kernel) h0 ?_
              refine g_50 (a := 0) (b := 4) (nx := 104) (by decide +kernel) h.1 ?_
              replace h := h.2
              exact g_91 (b := 0) (nx := 105) (by decide +kernel) h
            · rw [if_neg c7] at h
              by_cases c8 : x1 = 6
              · rw [if_pos c8] at h
                refine g_45 (a := 0) (b := 121) (nx := 48) (by decide +kernel) r1 (t := 105) (by rw [(show sws 174 1 = [(0, 48), (1, 59), (2, 67), (3, 75), (4, 86), (5, 97), (6, 105), (7, 113)] from by decide +kernel)]; simp only [swL]; simp [c8]) ?_
                refine g_7 (a := 0) (b := 0) (nx := 106) (by decide +kernel) rfl ?_
                refine g_52 (a := 11) (b := 0) (nx := 109) (by decide +kernel) h0 ?_
                refine g_50 (a := 9) (b := 1) (nx := 112) (by decide +kernel) h.1 ?_
                replace h := h.2
                exact g_91 (b := 0) (nx := 113) (by decide +kernel) h
              · rw [if_neg c8] at h
                by_cases c9 : x1 = 7
                · rw [if_pos c9] at h
                  refine g_45 (a := 0) (b := 121) (nx := 48) (by decide +kernel) r1 (t := 113) (by rw [(show sws 174 1 = [(0, 48), (1, 59), (2, 67), (3, 75), (4, 86), (5, 97), (6, 105), (7, 113)] from by decide +kernel)]; simp only [swL]; simp [c9]) ?_
                  refine g_7 (a := 0) (b := 0) (nx := 114) (by decide +kernel) rfl ?_
                  refine g_52 (a := 11) (b := 7) (nx := 117) (by decide +kernel) h0 ?_
                  refine g_80 (a := 51) (b := 0) (nx := 120) (by decide +kernel) (r := (M x0 7)) (As := []) (st' := []) (z := 51) rfl rfl rfl (Nat.le_of_ble_eq_true rfl) h.1 (Nat.le_of_ble_eq_true rfl) rfl (c_I (by decide +kernel) h.2 (fun y11 M10 h => ?_))
                  exact g_91 (b := 0) (nx := 121) (by decide +kernel) h
                · rw [if_neg c9] at h
                  refine g_45 (a := 0) (b := 121) (nx := 48) (by decide +kernel) r1 (t := 121) (by rw [(show sws 174 1 = [(0, 48), (1, 59), (2, 67), (3, 75), (4, 86), (5, 97), (6, 105), (7, 113)] from by decide +kernel)]; simp only [swL]; first | rfl | (simp [c2, c3, c4, c5, c6, c7, c8, c9])) ?_
                  refine g_5 (a := 1) (b := 0) (nx := 122) (by decide +kernel) rfl ?_
                  refine g_1 (a := 10) (b := 0) (nx := 124) (by decide +kernel) ?_
                  by_cases c14 : 10 ≤ x1
                  · rw [if_pos c14] at h
                    refine g_41t (a := 3) (b := 131) (nx := 127) (by decide +kernel) (by rw [wr_id r1, wr_id (show inR 10 by decide)]; exact (cb_3 _ _).mpr c14) ?_
                    refine g_7 (a := 0) (b := 0) (nx := 132) (by decide +kernel) rfl ?_
                    refine g_52 (a := 11) (b := 7) (nx := 135) (by decide +kernel) h0 ?_
                    refine g_5 (a := 1) (b := 0) (nx := 136) (by decide +kernel) rfl ?_
                    refine g_1 (a := 10) (b := 0) (nx := 138) (by decide +kernel) ?_
                    refine g_16 (a := 0) (b := 0) (nx := 139) (by decide +kernel) ?_
                    refine g_80 (a := 41) (b := 1) (nx := 142) (by decide +kernel) (r := (M x0 7)) (As := [vI (x1 - 10)]) (st' := []) (z := 41) rfl rfl rfl (Nat.le_of_ble_eq_true rfl) h.1 (Nat.le_of_ble_eq_true rfl) rfl (c_I (by decide +kernel) h.2 (fun y13 M12 h => ?_))
                    exact g_91 (b := 0) (nx := 143) (by decide +kernel) h
                  · rw [if_neg c14] at h
                    refine g_41f (a := 3) (b := 131) (nx := 127) (by decide +kernel) (by rw [wr_id r1, wr_id (show inR 10 by decide)]; exact fun hz => c14 ((cb_3 _ _).mp hz)) ?_
                    refine g_1 (a := (-1)) (b := 0) (nx := 128) (by decide +kernel) ?_
                    refine g_44 (a := 0) (b := 142) (nx := 131) (by decide +kernel) ?_
                    exact g_91 (b := 0) (nx := 143) (by decide +kernel) h
-- 175 SyllableMaker.rowOf(I)LSyllableMaker$Row;
theorem t_175 {x0 x1 : Int} {M : Mem} {Q : AV → Mem → Prop} (h0 : gO 11 x0) (h : inR x1 ∧ (if 100 ≤ x1 then ((gO 2 (M x0 7)) ∧ ((shA SH (M (M x0 7) 1)).1 = 10) ∧ WF 136 [vR (M (M x0 7) 1), vI (x1 - 100)] M (fun y3 M2 => (0 ≤ y3) ∧ Q (vR y3) M2)) else ((gO 7 (M x0 3)) ∧ ((shA SH (M (M x0 3) 1)).1 = 10) ∧ WF 136 [vR (M (M x0 3) 1), vI x1] M (fun y5 M4 => (0 ≤ y5) ∧ Q (vR y5) M4)))) : WC 175 [vR x0, vI x1] M Q := by
  show WR 175 0 [some (vR x0), some (vI x1)] [] M Q
  refine g_5 (a := 1) (b := 0) (nx := 1) (by decide +kernel) rfl ?_
  refine g_1 (a := 100) (b := 0) (nx := 3) (by decide +kernel) ?_
  obtain ⟨r1, h⟩ := h
  by_cases c6 : 100 ≤ x1
  · rw [if_pos c6] at h
    refine g_41t (a := 3) (b := 20) (nx := 6) (by decide +kernel) (by rw [wr_id r1, wr_id (show inR 100 by decide)]; exact (cb_3 _ _).mpr c6) ?_
    refine g_7 (a := 0) (b := 0) (nx := 21) (by decide +kernel) rfl ?_
    refine g_52 (a := 11) (b := 7) (nx := 24) (by decide +kernel) h0 ?_
    refine g_52 (a := 2) (b := 1) (nx := 27) (by decide +kernel) h.1 ?_
    replace h := h.2
    refine g_5 (a := 1) (b := 0) (nx := 28) (by decide +kernel) rfl ?_
    refine g_1 (a := 100) (b := 0) (nx := 30) (by decide +kernel) ?_
    refine g_16 (a := 0) (b := 0) (nx := 31) (by decide +kernel) ?_
    refine g_80 (a := 136) (b := 1) (nx := 34) (by decide +kernel) (r := (M (M x0 7) 1)) (As := [vI (x1 - 100)]) (st' := []) (z := 136) rfl rfl rfl (Nat.le_of_ble_eq_true rfl) h.1 (Nat.le_of_ble_eq_true rfl) rfl (c_R (by decide +kernel) h.2 (fun y3 M2 h => ?_))
    exact g_93 (a := 0) (b := 0) (nx := 35) (by decide +kernel) h.1 h.2
  · rw [if_neg c6] at h
    refine g_41f (a := 3) (b := 20) (nx := 6) (by decide +kernel) (by rw [wr_id r1, wr_id (show inR 100 by decide)]; exact fun hz => c6 ((cb_3 _ _).mp hz)) ?_
    refine g_7 (a := 0) (b := 0) (nx := 7) (by decide +kernel) rfl ?_
    refine g_52 (a := 11) (b := 3) (nx := 10) (by decide +kernel) h0 ?_
    refine g_52 (a := 7) (b := 1) (nx := 13) (by decide +kernel) h.1 ?_
    replace h := h.2
    refine g_5 (a := 1) (b := 0) (nx := 14) (by decide +kernel) rfl ?_
    refine g_80 (a := 136) (b := 1) (nx := 17) (by decide +kernel) (r := (M (M x0 3) 1)) (As := [vI x1]) (st' := []) (z := 136) rfl rfl rfl (Nat.le_of_ble_eq_true rfl) h.1 (Nat.le_of_ble_eq_true rfl) rfl (c_R (by decide +kernel) h.2 (fun y5 M4 h => ?_))
    refine g_44 (a := 0) (b := 34) (nx := 20) (by decide +kernel) ?_
    exact g_93 (a := 0) (b := 0) (nx := 35) (by decide +kernel) h.1 h.2
-- 177 SyllableMakerModel.isIn(JJJ)Z
theorem t_177 {x0 x2 x4 : Int} {M : Mem} {Q : AV → Mem → Prop} (h : (in64 x0 ∧ in64 x2) ∧ inR (if x0 < x2 then -1 else if x0 = x2 then 0 else 1) ∧ (if (if x0 < x2 then -1 else if x0 = x2 then 0 else 1) < 0 then (Q (vI 0) M) else ((in64 x0 ∧ in64 x4) ∧ inR (if x0 < x4 then -1 else if x0 = x4 then 0 else 1) ∧ (if 0 < (if x0 < x4 then -1 else if x0 = x4 then 0 else 1) then (Q (vI 0) M) else (Q (vI 1) M))))) : WC 177 [vL x0, vL x2, vL x4] M Q := by
  show WR 177 0 [some (vL x0), none, some (vL x2), none, some (vL x4), none] [] M Q
  refine g_6 (a := 0) (b := 0) (nx := 1) (by decide +kernel) rfl ?_
  refine g_6 (a := 2) (b := 0) (nx := 2) (by decide +kernel) rfl ?_
  refine g_34 (a := 0) (b := 0) (nx := 3) (by decide +kernel) h.1 ?_
  replace h := h.2
  obtain ⟨r1, h⟩ := h
  by_cases c4 : (if x0 < x2 then -1 else if x0 = x2 then 0 else 1) < 0
  · rw [if_pos c4] at h
    refine g_40t (a := 2) (b := 17) (nx := 6) (by decide +kernel) r1 (by exact (cb_2 _ _).mpr c4) ?_
    refine g_1 (a := 0) (b := 0) (nx := 18) (by decide +kernel) ?_
    exact g_91z (b := 0) (nx := 19) (by decide +kernel) (by decide) h
  · rw [if_neg c4] at h
    refine g_40f (a := 2) (b := 17) (nx := 6) (by decide +kernel) r1 (by exact fun hz => c4 ((cb_2 _ _).mp hz)) ?_
    refine g_6 (a := 0) (b := 0) (nx := 7) (by decide +kernel) rfl ?_
    refine g_6 (a := 4) (b := 0) (nx := 9) (by decide +kernel) rfl ?_
    refine g_34 (a := 0) (b := 0) (nx := 10) (by decide +kernel) h.1 ?_
    replace h := h.2
    obtain ⟨r2, h⟩ := h
    by_cases c3 : 0 < (if x0 < x4 then -1 else if x0 = x4 then 0 else 1)
    · rw [if_pos c3] at h
      refine g_40t (a := 4) (b := 17) (nx := 13) (by decide +kernel) r2 (by exact (cb_4 _ _).mpr c3) ?_
      refine g_1 (a := 0) (b := 0) (nx := 18) (by decide +kernel) ?_
      exact g_91z (b := 0) (nx := 19) (by decide +kernel) (by decide) h
    · rw [if_neg c3] at h
      refine g_40f (a := 4) (b := 17) (nx := 13) (by decide +kernel) r2 (by exact fun hz => c3 ((cb_4 _ _).mp hz)) ?_
      refine g_1 (a := 1) (b := 0) (nx := 14) (by decide +kernel) ?_
      refine g_44 (a := 0) (b := 18) (nx := 17) (by decide +kernel) ?_
      exact g_91z (b := 0) (nx := 19) (by decide +kernel) (by decide) h
-- 178 SyllableMakerModel.truth(Z)I
theorem t_178 {x0 : Int} {M : Mem} {Q : AV → Mem → Prop} (h : inR x0 ∧ (if x0 = 0 then (Q (vI 0) M) else (Q (vI 1) M))) : WC 178 [vI x0] M Q := by
  show WR 178 0 [some (vI x0)] [] M Q
  refine g_5 (a := 0) (b := 0) (nx := 1) (by decide +kernel) rfl ?_
  obtain ⟨r1, h⟩ := h
  by_cases c2 : x0 = 0
  · rw [if_pos c2] at h
    refine g_40t (a := 0) (b := 8) (nx := 4) (by decide +kernel) r1 (by exact (cb_0 _ _).mpr c2) ?_
    refine g_1 (a := 0) (b := 0) (nx := 9) (by decide +kernel) ?_
    exact g_91 (b := 0) (nx := 10) (by decide +kernel) h
  · rw [if_neg c2] at h
    refine g_40f (a := 0) (b := 8) (nx := 4) (by decide +kernel) r1 (by exact fun hz => c2 ((cb_0 _ _).mp hz)) ?_
    refine g_1 (a := 1) (b := 0) (nx := 5) (by decide +kernel) ?_
    refine g_44 (a := 0) (b := 9) (nx := 8) (by decide +kernel) ?_
    exact g_91 (b := 0) (nx := 10) (by decide +kernel) h
-- 179 SyllableMakerModel.lesser(II)I
theorem t_179 {x0 x1 : Int} {M : Mem} {Q : AV → Mem → Prop} (h : inR x0 ∧ (inR x1 ∧ (if x1 ≤ x0 then (Q (vI x1) M) else (Q (vI x0) M)))) : WC 179 [vI x0, vI x1] M Q := by
  show WR 179 0 [some (vI x0), some (vI x1)] [] M Q
  refine g_5 (a := 0) (b := 0) (nx := 1) (by decide +kernel) rfl ?_
  refine g_5 (a := 1) (b := 0) (nx := 2) (by decide +kernel) rfl ?_
  obtain ⟨r1, h⟩ := h
  obtain ⟨r2, h⟩ := h
  by_cases c3 : x1 ≤ x0
  · rw [if_pos c3] at h
    refine g_41t (a := 3) (b := 9) (nx := 5) (by decide +kernel) (by rw [wr_id r1, wr_id r2]; exact (cb_3 _ _).mpr c3) ?_
    refine g_5 (a := 1) (b := 0) (nx := 10) (by decide +kernel) rfl ?_
    exact g_91 (b := 0) (nx := 11) (by decide +kernel) h
  · rw [if_neg c3] at h
    refine g_41f (a := 3) (b := 9) (nx := 5) (by decide +kernel) (by rw [wr_id r1, wr_id r2]; exact fun hz => c3 ((cb_3 _ _).mp hz)) ?_
    refine g_5 (a := 0) (b := 0) (nx := 6) (by decide +kernel) rfl ?_
    refine g_44 (a := 0) (b := 10) (nx := 9) (by decide +kernel) ?_
    exact g_91 (b := 0) (nx := 11) (by decide +kernel) h
-- 180 SyllableMakerModel.greater(II)I
theorem t_180 {x0 x1 : Int} {M : Mem} {Q : AV → Mem → Prop} (h : inR x0 ∧ (inR x1 ∧ (if x0 ≤ x1 then (Q (vI x1) M) else (Q (vI x0) M)))) : WC 180 [vI x0, vI x1] M Q := by
  show WR 180 0 [some (vI x0), some (vI x1)] [] M Q
  refine g_5 (a := 0) (b := 0) (nx := 1) (by decide +kernel) rfl ?_
  refine g_5 (a := 1) (b := 0) (nx := 2) (by decide +kernel) rfl ?_
  obtain ⟨r1, h⟩ := h
  obtain ⟨r2, h⟩ := h
  by_cases c3 : x0 ≤ x1
  · rw [if_pos c3] at h
    refine g_41t (a := 5) (b := 9) (nx := 5) (by decide +kernel) (by rw [wr_id r1, wr_id r2]; exact (cb_5 _ _).mpr c3) ?_
    refine g_5 (a := 1) (b := 0) (nx := 10) (by decide +kernel) rfl ?_
    exact g_91 (b := 0) (nx := 11) (by decide +kernel) h
  · rw [if_neg c3] at h
    refine g_41f (a := 5) (b := 9) (nx := 5) (by decide +kernel) (by rw [wr_id r1, wr_id r2]; exact fun hz => c3 ((cb_5 _ _).mp hz)) ?_
    refine g_5 (a := 0) (b := 0) (nx := 6) (by decide +kernel) rfl ?_
    refine g_44 (a := 0) (b := 10) (nx := 9) (by decide +kernel) ?_
    exact g_91 (b := 0) (nx := 11) (by decide +kernel) h
-- 181 SyllableMakerModel.feed(IIIII)I
theorem t_181 {x0 x1 x2 x3 x4 x5 : Int} {M : Mem} {Q : AV → Mem → Prop} (h0 : gO 12 x0) (h : inR ((M x0 1) + 20) ∧ (if ((M x0 1) + 20) ≤ 900 then (WV 182 [vR x0, vI x1] M (fun M2 => WV 182 [vR x0, vI x2] M2 (fun M4 => WV 182 [vR x0, vI x3] M4 (fun M6 => WV 182 [vR x0, vI x4] M6 (fun M8 => WV 182 [vR x0, vI x5] M8 (fun M10 => Q (vI (M10 x0 1)) M10)))))) else (Q (vI (-1)) M))) : WC 181 [vR x0, vI x1, vI x2, vI x3, vI x4, vI x5] M Q := by
  show WR 181 0 [some (vR x0), some (vI x1), some (vI x2), some (vI x3), some (vI x4), some (vI x5)] [] M Q
  refine g_7 (a := 0) (b := 0) (nx := 1) (by decide +kernel) rfl ?_
  refine g_50 (a := 12) (b := 1) (nx := 4) (by decide +kernel) h0 ?_
  refine g_1 (a := 20) (b := 0) (nx := 6) (by decide +kernel) ?_
  refine g_15 (a := 0) (b := 0) (nx := 7) (by decide +kernel) ?_
  refine g_1 (a := 900) (b := 0) (nx := 10) (by decide +kernel) ?_
  obtain ⟨r1, h⟩ := h
  by_cases c12 : ((M x0 1) + 20) ≤ 900
  · rw [if_pos c12] at h
    refine g_41t (a := 5) (b := 15) (nx := 13) (by decide +kernel) (by rw [wr_id r1, wr_id (show inR 900 by decide)]; exact (cb_5 _ _).mpr c12) ?_
    refine g_7 (a := 0) (b := 0) (nx := 16) (by decide +kernel) rfl ?_
    refine g_5 (a := 1) (b := 0) (nx := 17) (by decide +kernel) rfl ?_
    refine g_80 (a := 182) (b := 1) (nx := 20) (by decide +kernel) (r := x0) (As := [vI x1]) (st' := []) (z := 182) rfl rfl rfl (Nat.le_of_ble_eq_true rfl) h0.2 (Nat.le_of_ble_eq_true rfl) rfl (c_V (by decide +kernel) h (fun M2 h => ?_))
    refine g_7 (a := 0) (b := 0) (nx := 21) (by decide +kernel) rfl ?_
    refine g_5 (a := 2) (b := 0) (nx := 22) (by decide +kernel) rfl ?_
    refine g_80 (a := 182) (b := 1) (nx := 25) (by decide +kernel) (r := x0) (As := [vI x2]) (st' := []) (z := 182) rfl rfl rfl (Nat.le_of_ble_eq_true rfl) h0.2 (Nat.le_of_ble_eq_true rfl) rfl (c_V (by decide +kernel) h (fun M4 h => ?_))
    refine g_7 (a := 0) (b := 0) (nx := 26) (by decide +kernel) rfl ?_
    refine g_5 (a := 3) (b := 0) (nx := 27) (by decide +kernel) rfl ?_
    refine g_80 (a := 182) (b := 1) (nx := 30) (by decide +kernel) (r := x0) (As := [vI x3]) (st' := []) (z := 182) rfl rfl rfl (Nat.le_of_ble_eq_true rfl) h0.2 (Nat.le_of_ble_eq_true rfl) rfl (c_V (by decide +kernel) h (fun M6 h => ?_))
    refine g_7 (a := 0) (b := 0) (nx := 31) (by decide +kernel) rfl ?_
    refine g_5 (a := 4) (b := 0) (nx := 33) (by decide +kernel) rfl ?_
    refine g_80 (a := 182) (b := 1) (nx := 36) (by decide +kernel) (r := x0) (As := [vI x4]) (st' := []) (z := 182) rfl rfl rfl (Nat.le_of_ble_eq_true rfl) h0.2 (Nat.le_of_ble_eq_true rfl) rfl (c_V (by decide +kernel) h (fun M8 h => ?_))
    refine g_7 (a := 0) (b := 0) (nx := 37) (by decide +kernel) rfl ?_
    refine g_5 (a := 5) (b := 0) (nx := 39) (by decide +kernel) rfl ?_
    refine g_80 (a := 182) (b := 1) (nx := 42) (by decide +kernel) (r := x0) (As := [vI x5]) (st' := []) (z := 182) rfl rfl rfl (Nat.le_of_ble_eq_true rfl) h0.2 (Nat.le_of_ble_eq_true rfl) rfl (c_V (by decide +kernel) h (fun M10 h => ?_))
    refine g_7 (a := 0) (b := 0) (nx := 43) (by decide +kernel) rfl ?_
    refine g_50 (a := 12) (b := 1) (nx := 46) (by decide +kernel) h0 ?_
    exact g_91 (b := 0) (nx := 47) (by decide +kernel) h
  · rw [if_neg c12] at h
    refine g_41f (a := 5) (b := 15) (nx := 13) (by decide +kernel) (by rw [wr_id r1, wr_id (show inR 900 by decide)]; exact fun hz => c12 ((cb_5 _ _).mp hz)) ?_
    refine g_1 (a := (-1)) (b := 0) (nx := 14) (by decide +kernel) ?_
    exact g_91 (b := 0) (nx := 15) (by decide +kernel) h
-- 182 SyllableMakerModel.four(I)V
theorem t_182 {x0 x1 : Int} {M : Mem} {Q : AV → Mem → Prop} (h0 : gO 12 x0) (h : WR 182 3 [some (vR x0), some (vI x1), some (vI 24)] [] M Q) : WC 182 [vR x0, vI x1] M Q := by
  show WR 182 0 [some (vR x0), some (vI x1), none] [] M Q
  refine g_1 (a := 24) (b := 0) (nx := 2) (by decide +kernel) ?_
  refine g_8 (a := 2) (b := 0) (nx := 3) (by decide +kernel) rfl (ls' := [some (vR x0), some (vI x1), some (vI 24)]) rfl ?_
  exact h
theorem t_182_3 {x0 x1 x2 : Int} {M : Mem} {Q : AV → Mem → Prop} (h0 : gO 12 x0) (h : inR x2 ∧ (if x2 < 0 then (Q (vI 0) M) else ((0 ≤ x2 ∧ x2 < 32 ∧ -2147483648 ≤ x1 ∧ x1 < 2147483648) ∧ (gA 20 (M x0 0) (M x0 1)) ∧ WR 182 3 [some (vR x0), some (vI x1), some (vI (x2 + (-8)))] [] (upM (upM M (M x0 0) (M x0 1) (and32 (x1 / 2 ^ (x2).toNat) 255)) x0 1 (((upM M (M x0 0) (M x0 1) (and32 (x1 / 2 ^ (x2).toNat) 255)) x0 1) + 1)) Q))) : WR 182 3 [some (vR x0), some (vI x1), some (vI x2)] [] M Q := by
  refine g_5 (a := 2) (b := 0) (nx := 4) (by decide +kernel) rfl ?_
  obtain ⟨r1, h⟩ := h
  by_cases c2 : x2 < 0
  · rw [if_pos c2] at h
    refine g_40t (a := 2) (b := 39) (nx := 7) (by decide +kernel) r1 (by exact (cb_2 _ _).mpr c2) ?_
    exact g_90 (a := 0) (b := 0) (nx := 40) (by decide +kernel) h
  · rw [if_neg c2] at h
    refine g_40f (a := 2) (b := 39) (nx := 7) (by decide +kernel) r1 (by exact fun hz => c2 ((cb_2 _ _).mp hz)) ?_
    refine g_7 (a := 0) (b := 0) (nx := 8) (by decide +kernel) rfl ?_
    refine g_52 (a := 12) (b := 0) (nx := 11) (by decide +kernel) h0 ?_
    refine g_7 (a := 0) (b := 0) (nx := 12) (by decide +kernel) rfl ?_
    refine g_50 (a := 12) (b := 1) (nx := 15) (by decide +kernel) h0 ?_
    refine g_5 (a := 1) (b := 0) (nx := 16) (by decide +kernel) rfl ?_
    refine g_5 (a := 2) (b := 0) (nx := 17) (by decide +kernel) rfl ?_
    refine g_23 (a := 0) (b := 0) (nx := 18) (by decide +kernel) h.1 ?_
    show WR 182 18 [some (vR x0), some (vI x1), some (vI x2)] [vI (x1 / 2 ^ (x2).toNat), vI (M x0 1), vR (M x0 0)] M Q
    replace h := h.2
    refine g_1 (a := 255) (b := 0) (nx := 21) (by decide +kernel) ?_
    refine g_20 (a := 0) (b := 0) (nx := 22) (by decide +kernel) ?_
    refine g_62 (a := 0) (b := 0) (nx := 23) (by decide +kernel) h.1 ?_
    replace h := h.2
    refine g_7 (a := 0) (b := 0) (nx := 24) (by decide +kernel) rfl ?_
    refine g_13 (a := 0) (b := 0) (nx := 25) (by decide +kernel) rfl ?_
    refine g_50 (a := 12) (b := 1) (nx := 28) (by decide +kernel) h0 ?_
    refine g_1 (a := 1) (b := 0) (nx := 29) (by decide +kernel) ?_
    refine g_15 (a := 0) (b := 0) (nx := 30) (by decide +kernel) ?_
    refine g_53 (a := 12) (b := 1) (nx := 33) (by decide +kernel) h0 ?_
    refine g_11 (a := 2) (b := (-8)) (nx := 36) (by decide +kernel) rfl rfl (ls' := [some (vR x0), some (vI x1), some (vI (x2 + (-8)))]) rfl ?_
    refine g_44 (a := 0) (b := 3) (nx := 39) (by decide +kernel) ?_
    exact h
-- 183 SyllableMakerModel.end(I)I
theorem t_183 {x0 x1 : Int} {M : Mem} {Q : AV → Mem → Prop} (h0 : gO 12 x0) (h : WI 177 [vL (wr32 x1), vL 0, vL (wr32 (M x0 1))] M (fun y2 M1 => inR y2 ∧ (if y2 = 0 then (Q (vI (-1)) M1) else (Q (vI x1) (upM M1 x0 1 x1))))) : WC 183 [vR x0, vI x1] M Q := by
  show WR 183 0 [some (vR x0), some (vI x1)] [] M Q
  refine g_5 (a := 1) (b := 0) (nx := 1) (by decide +kernel) rfl ?_
  refine g_35 (a := 0) (b := 0) (nx := 2) (by decide +kernel) ?_
  refine g_2 (a := 0) (b := 0) (nx := 3) (by decide +kernel) ?_
  refine g_7 (a := 0) (b := 0) (nx := 4) (by decide +kernel) rfl ?_
  refine g_50 (a := 12) (b := 1) (nx := 7) (by decide +kernel) h0 ?_
  refine g_35 (a := 0) (b := 0) (nx := 8) (by decide +kernel) ?_
  refine g_82 (a := 177) (b := 3) (nx := 11) (by decide +kernel) (As := [vL (wr32 x1), vL 0, vL (wr32 (M x0 1))]) (st' := []) (z := 177) rfl rfl rfl (Nat.le_of_ble_eq_true rfl) (Nat.le_of_ble_eq_true rfl) rfl (c_I (by decide +kernel) h (fun y2 M1 h => ?_))
  obtain ⟨r3, h⟩ := h
  by_cases c4 : y2 = 0
  · rw [if_pos c4] at h
    refine g_40f (a := 1) (b := 16) (nx := 14) (by decide +kernel) r3 (by exact fun hz => ((cb_1 _ _).mp hz) c4) ?_
    refine g_1 (a := (-1)) (b := 0) (nx := 15) (by decide +kernel) ?_
    exact g_91 (b := 0) (nx := 16) (by decide +kernel) h
  · rw [if_neg c4] at h
    refine g_40t (a := 1) (b := 16) (nx := 14) (by decide +kernel) r3 (by exact (cb_1 _ _).mpr c4) ?_
    refine g_7 (a := 0) (b := 0) (nx := 17) (by decide +kernel) rfl ?_
    refine g_5 (a := 1) (b := 0) (nx := 18) (by decide +kernel) rfl ?_
    refine g_53 (a := 12) (b := 1) (nx := 21) (by decide +kernel) h0 ?_
    refine g_5 (a := 1) (b := 0) (nx := 22) (by decide +kernel) rfl ?_
    exact g_91 (b := 0) (nx := 23) (by decide +kernel) h
-- 184 SyllableMakerModel.here(I)I
theorem t_184 {x0 x1 : Int} {M : Mem} {Q : AV → Mem → Prop} (h0 : gO 12 x0) (h : inR ((M x0 3) + x1) ∧ (inR (M x0 2) ∧ (if (M x0 2) ≤ ((M x0 3) + x1) then (Q (vI (-1)) M) else ((gA 20 (M x0 0) ((M x0 3) + x1)) ∧ Q (vI (M (M x0 0) ((M x0 3) + x1))) M)))) : WC 184 [vR x0, vI x1] M Q := by
  show WR 184 0 [some (vR x0), some (vI x1)] [] M Q
  refine g_7 (a := 0) (b := 0) (nx := 1) (by decide +kernel) rfl ?_
  refine g_50 (a := 12) (b := 3) (nx := 4) (by decide +kernel) h0 ?_
  refine g_5 (a := 1) (b := 0) (nx := 5) (by decide +kernel) rfl ?_
  refine g_15 (a := 0) (b := 0) (nx := 6) (by decide +kernel) ?_
  refine g_7 (a := 0) (b := 0) (nx := 7) (by decide +kernel) rfl ?_
  refine g_50 (a := 12) (b := 2) (nx := 10) (by decide +kernel) h0 ?_
  obtain ⟨r1, h⟩ := h
  obtain ⟨r2, h⟩ := h
  by_cases c3 : (M x0 2) ≤ ((M x0 3) + x1)
  · rw [if_pos c3] at h
    refine g_41t (a := 3) (b := 27) (nx := 13) (by decide +kernel) (by rw [wr_id r1, wr_id r2]; exact (cb_3 _ _).mpr c3) ?_
    refine g_1 (a := (-1)) (b := 0) (nx := 28) (by decide +kernel) ?_
    exact g_91 (b := 0) (nx := 29) (by decide +kernel) h
  · rw [if_neg c3] at h
    refine g_41f (a := 3) (b := 27) (nx := 13) (by decide +kernel) (by rw [wr_id r1, wr_id r2]; exact fun hz => c3 ((cb_3 _ _).mp hz)) ?_
    refine g_7 (a := 0) (b := 0) (nx := 14) (by decide +kernel) rfl ?_
    refine g_52 (a := 12) (b := 0) (nx := 17) (by decide +kernel) h0 ?_
    refine g_7 (a := 0) (b := 0) (nx := 18) (by decide +kernel) rfl ?_
    refine g_50 (a := 12) (b := 3) (nx := 21) (by decide +kernel) h0 ?_
    refine g_5 (a := 1) (b := 0) (nx := 22) (by decide +kernel) rfl ?_
    refine g_15 (a := 0) (b := 0) (nx := 23) (by decide +kernel) ?_
    refine g_61 (a := 0) (b := 0) (nx := 24) (by decide +kernel) h.1 ?_
    replace h := h.2
    refine g_44 (a := 0) (b := 28) (nx := 27) (by decide +kernel) ?_
    exact g_91 (b := 0) (nx := 29) (by decide +kernel) h
-- 185 SyllableMakerModel.isLetter(I)Z
theorem t_185 {x0 : Int} {M : Mem} {Q : AV → Mem → Prop} (h : inR x0 ∧ (if x0 < 97 then (Q (vI 0) M) else (if 122 < x0 then (Q (vI 0) M) else (Q (vI 1) M)))) : WC 185 [vI x0] M Q := by
  show WR 185 0 [some (vI x0)] [] M Q
  refine g_5 (a := 0) (b := 0) (nx := 1) (by decide +kernel) rfl ?_
  refine g_1 (a := 97) (b := 0) (nx := 3) (by decide +kernel) ?_
  obtain ⟨r1, h⟩ := h
  by_cases c3 : x0 < 97
  · rw [if_pos c3] at h
    refine g_41t (a := 2) (b := 16) (nx := 6) (by decide +kernel) (by rw [wr_id r1, wr_id (show inR 97 by decide)]; exact (cb_2 _ _).mpr c3) ?_
    refine g_1 (a := 0) (b := 0) (nx := 17) (by decide +kernel) ?_
    exact g_91z (b := 0) (nx := 18) (by decide +kernel) (by decide) h
  · rw [if_neg c3] at h
    refine g_41f (a := 2) (b := 16) (nx := 6) (by decide +kernel) (by rw [wr_id r1, wr_id (show inR 97 by decide)]; exact fun hz => c3 ((cb_2 _ _).mp hz)) ?_
    refine g_5 (a := 0) (b := 0) (nx := 7) (by decide +kernel) rfl ?_
    refine g_1 (a := 122) (b := 0) (nx := 9) (by decide +kernel) ?_
    by_cases c2 : 122 < x0
    · rw [if_pos c2] at h
      refine g_41t (a := 4) (b := 16) (nx := 12) (by decide +kernel) (by rw [wr_id r1, wr_id (show inR 122 by decide)]; exact (cb_4 _ _).mpr c2) ?_
      refine g_1 (a := 0) (b := 0) (nx := 17) (by decide +kernel) ?_
      exact g_91z (b := 0) (nx := 18) (by decide +kernel) (by decide) h
    · rw [if_neg c2] at h
      refine g_41f (a := 4) (b := 16) (nx := 12) (by decide +kernel) (by rw [wr_id r1, wr_id (show inR 122 by decide)]; exact fun hz => c2 ((cb_4 _ _).mp hz)) ?_
      refine g_1 (a := 1) (b := 0) (nx := 13) (by decide +kernel) ?_
      refine g_44 (a := 0) (b := 17) (nx := 16) (by decide +kernel) ?_
      exact g_91z (b := 0) (nx := 18) (by decide +kernel) (by decide) h
-- 186 SyllableMakerModel.isDigit(I)Z
theorem t_186 {x0 : Int} {M : Mem} {Q : AV → Mem → Prop} (h : inR x0 ∧ (if x0 < 48 then (Q (vI 0) M) else (if 57 < x0 then (Q (vI 0) M) else (Q (vI 1) M)))) : WC 186 [vI x0] M Q := by
  show WR 186 0 [some (vI x0)] [] M Q
  refine g_5 (a := 0) (b := 0) (nx := 1) (by decide +kernel) rfl ?_
  refine g_1 (a := 48) (b := 0) (nx := 3) (by decide +kernel) ?_
  obtain ⟨r1, h⟩ := h
  by_cases c3 : x0 < 48
  · rw [if_pos c3] at h
    refine g_41t (a := 2) (b := 16) (nx := 6) (by decide +kernel) (by rw [wr_id r1, wr_id (show inR 48 by decide)]; exact (cb_2 _ _).mpr c3) ?_
    refine g_1 (a := 0) (b := 0) (nx := 17) (by decide +kernel) ?_
    exact g_91z (b := 0) (nx := 18) (by decide +kernel) (by decide) h
  · rw [if_neg c3] at h
    refine g_41f (a := 2) (b := 16) (nx := 6) (by decide +kernel) (by rw [wr_id r1, wr_id (show inR 48 by decide)]; exact fun hz => c3 ((cb_2 _ _).mp hz)) ?_
    refine g_5 (a := 0) (b := 0) (nx := 7) (by decide +kernel) rfl ?_
    refine g_1 (a := 57) (b := 0) (nx := 9) (by decide +kernel) ?_
    by_cases c2 : 57 < x0
    · rw [if_pos c2] at h
      refine g_41t (a := 4) (b := 16) (nx := 12) (by decide +kernel) (by rw [wr_id r1, wr_id (show inR 57 by decide)]; exact (cb_4 _ _).mpr c2) ?_
      refine g_1 (a := 0) (b := 0) (nx := 17) (by decide +kernel) ?_
      exact g_91z (b := 0) (nx := 18) (by decide +kernel) (by decide) h
    · rw [if_neg c2] at h
      refine g_41f (a := 4) (b := 16) (nx := 12) (by decide +kernel) (by rw [wr_id r1, wr_id (show inR 57 by decide)]; exact fun hz => c2 ((cb_4 _ _).mp hz)) ?_
      refine g_1 (a := 1) (b := 0) (nx := 13) (by decide +kernel) ?_
      refine g_44 (a := 0) (b := 17) (nx := 16) (by decide +kernel) ?_
      exact g_91z (b := 0) (nx := 18) (by decide +kernel) (by decide) h
-- 187 SyllableMakerModel.goOn()V
theorem t_187 {x0 : Int} {M : Mem} {Q : AV → Mem → Prop} (h0 : gO 12 x0) (h : WI 184 [vR x0, vI 0] M (fun y2 M1 => inR y2 ∧ (if y2 = 32 then (WR 187 0 [some (vR x0), none, none] [] (upM M1 x0 3 ((M1 x0 3) + 1)) Q) else (WI 184 [vR x0, vI 0] M1 (fun y5 M4 => inR y5 ∧ (if y5 = 10 then (WR 187 0 [some (vR x0), none, none] [] (upM M4 x0 3 ((M4 x0 3) + 1)) Q) else (WI 184 [vR x0, vI 0] (upM (upM (upM (upM M4 x0 4 (M4 x0 3)) x0 6 0) x0 7 0) x0 13 0) (fun y8 M7 => inR y8 ∧ (if 0 ≤ y8 then (WI 185 [vI y8] M7 (fun y11 M10 => inR y11 ∧ (if y11 = 0 then (WI 186 [vI y8] M10 (fun y14 M13 => inR y14 ∧ (if y14 = 0 then (if y8 = 59 then (Q (vI 0) (upM (upM M13 x0 5 3) x0 3 (((upM M13 x0 5 3) x0 3) + 1))) else (Q (vI 0) (upM (upM M13 x0 5 4) x0 3 (((upM M13 x0 5 4) x0 3) + 1)))) else (WR 187 177 [some (vR x0), some (vI y8), some (vI 0)] [] M13 Q)))) else (WR 187 81 [some (vR x0), some (vI y8), some (vI 0)] [] M10 Q)))) else (Q (vI 0) (upM M7 x0 5 0))))))))))) : WC 187 [vR x0] M Q := by
  show WR 187 0 [some (vR x0), none, none] [] M Q
  refine g_7 (a := 0) (b := 0) (nx := 1) (by decide +kernel) rfl ?_
  refine g_1 (a := 0) (b := 0) (nx := 2) (by decide +kernel) ?_
  refine g_80 (a := 184) (b := 1) (nx := 5) (by decide +kernel) (r := x0) (As := [vI 0]) (st' := []) (z := 184) rfl rfl rfl (Nat.le_of_ble_eq_true rfl) h0.2 (Nat.le_of_ble_eq_true rfl) rfl (c_I (by decide +kernel) h (fun y2 M1 h => ?_))
  refine g_1 (a := 32) (b := 0) (nx := 7) (by decide +kernel) ?_
  obtain ⟨r3, h⟩ := h
  by_cases c21 : y2 = 32
  · rw [if_pos c21] at h
    refine g_41t (a := 0) (b := 20) (nx := 10) (by decide +kernel) (by rw [wr_id r3, wr_id (show inR 32 by decide)]; exact (cb_0 _ _).mpr c21) ?_
    refine g_7 (a := 0) (b := 0) (nx := 21) (by decide +kernel) rfl ?_
    refine g_13 (a := 0) (b := 0) (nx := 22) (by decide +kernel) rfl ?_
    refine g_50 (a := 12) (b := 3) (nx := 25) (by decide +kernel) h0 ?_
    refine g_1 (a := 1) (b := 0) (nx := 26) (by decide +kernel) ?_
    refine g_15 (a := 0) (b := 0) (nx := 27) (by decide +kernel) ?_
    refine g_53 (a := 12) (b := 3) (nx := 30) (by decide +kernel) h0 ?_
    refine g_44 (a := 0) (b := 0) (nx := 33) (by decide +kernel) ?_
    exact h
  · rw [if_neg c21] at h
    refine g_41f (a := 0) (b := 20) (nx := 10) (by decide +kernel) (by rw [wr_id r3, wr_id (show inR 32 by decide)]; exact fun hz => c21 ((cb_0 _ _).mp hz)) ?_
    refine g_7 (a := 0) (b := 0) (nx := 11) (by decide +kernel) rfl ?_
    refine g_1 (a := 0) (b := 0) (nx := 12) (by decide +kernel) ?_
    refine g_80 (a := 184) (b := 1) (nx := 15) (by decide +kernel) (r := x0) (As := [vI 0]) (st' := []) (z := 184) rfl rfl rfl (Nat.le_of_ble_eq_true rfl) h0.2 (Nat.le_of_ble_eq_true rfl) rfl (c_I (by decide +kernel) h (fun y5 M4 h => ?_))
    refine g_1 (a := 10) (b := 0) (nx := 17) (by decide +kernel) ?_
    obtain ⟨r6, h⟩ := h
    by_cases c20 : y5 = 10
    · rw [if_pos c20] at h
      refine g_41f (a := 1) (b := 33) (nx := 20) (by decide +kernel) (by rw [wr_id r6, wr_id (show inR 10 by decide)]; exact fun hz => ((cb_1 _ _).mp hz) c20) ?_
      refine g_7 (a := 0) (b := 0) (nx := 21) (by decide +kernel) rfl ?_
      refine g_13 (a := 0) (b := 0) (nx := 22) (by decide +kernel) rfl ?_
      refine g_50 (a := 12) (b := 3) (nx := 25) (by decide +kernel) h0 ?_
      refine g_1 (a := 1) (b := 0) (nx := 26) (by decide +kernel) ?_
      refine g_15 (a := 0) (b := 0) (nx := 27) (by decide +kernel) ?_
      refine g_53 (a := 12) (b := 3) (nx := 30) (by decide +kernel) h0 ?_
      refine g_44 (a := 0) (b := 0) (nx := 33) (by decide +kernel) ?_
      exact h
    · rw [if_neg c20] at h
      refine g_41t (a := 1) (b := 33) (nx := 20) (by decide +kernel) (by rw [wr_id r6, wr_id (show inR 10 by decide)]; exact (cb_1 _ _).mpr c20) ?_
      refine g_7 (a := 0) (b := 0) (nx := 34) (by decide +kernel) rfl ?_
      refine g_7 (a := 0) (b := 0) (nx := 35) (by decide +kernel) rfl ?_
      refine g_50 (a := 12) (b := 3) (nx := 38) (by decide +kernel) h0 ?_
      refine g_53 (a := 12) (b := 4) (nx := 41) (by decide +kernel) h0 ?_
      refine g_7 (a := 0) (b := 0) (nx := 42) (by decide +kernel) rfl ?_
      refine g_1 (a := 0) (b := 0) (nx := 43) (by decide +kernel) ?_
      refine g_53 (a := 12) (b := 6) (nx := 46) (by decide +kernel) h0 ?_
      refine g_7 (a := 0) (b := 0) (nx := 47) (by decide +kernel) rfl ?_
      refine g_1 (a := 0) (b := 0) (nx := 48) (by decide +kernel) ?_
      refine g_53 (a := 12) (b := 7) (nx := 51) (by decide +kernel) h0 ?_
      refine g_7 (a := 0) (b := 0) (nx := 52) (by decide +kernel) rfl ?_
      refine g_2 (a := 0) (b := 0) (nx := 53) (by decide +kernel) ?_
      refine g_54 (a := 12) (b := 13) (nx := 56) (by decide +kernel) h0 ?_
      refine g_7 (a := 0) (b := 0) (nx := 57) (by decide +kernel) rfl ?_
      refine g_1 (a := 0) (b := 0) (nx := 58) (by decide +kernel) ?_
      refine g_80 (a := 184) (b := 1) (nx := 61) (by decide +kernel) (r := x0) (As := [vI 0]) (st' := []) (z := 184) rfl rfl rfl (Nat.le_of_ble_eq_true rfl) h0.2 (Nat.le_of_ble_eq_true rfl) rfl (c_I (by decide +kernel) h (fun y8 M7 h => ?_))
      refine g_8 (a := 1) (b := 0) (nx := 62) (by decide +kernel) rfl (ls' := [some (vR x0), some (vI y8), none]) rfl ?_
      refine g_1 (a := 0) (b := 0) (nx := 63) (by decide +kernel) ?_
      refine g_8 (a := 2) (b := 0) (nx := 64) (by decide +kernel) rfl (ls' := [some (vR x0), some (vI y8), some (vI 0)]) rfl ?_
      refine g_5 (a := 1) (b := 0) (nx := 65) (by decide +kernel) rfl ?_
      obtain ⟨r9, h⟩ := h
      by_cases c19 : 0 ≤ y8
      · rw [if_pos c19] at h
        refine g_40t (a := 3) (b := 74) (nx := 68) (by decide +kernel) r9 (by exact (cb_3 _ _).mpr c19) ?_
        refine g_5 (a := 1) (b := 0) (nx := 75) (by decide +kernel) rfl ?_
        refine g_82 (a := 185) (b := 1) (nx := 78) (by decide +kernel) (As := [vI y8]) (st' := []) (z := 185) rfl rfl rfl (Nat.le_of_ble_eq_true rfl) (Nat.le_of_ble_eq_true rfl) rfl (c_I (by decide +kernel) h (fun y11 M10 h => ?_))
        obtain ⟨r12, h⟩ := h
        by_cases c18 : y11 = 0
        · rw [if_pos c18] at h
          refine g_40t (a := 0) (b := 170) (nx := 81) (by decide +kernel) r12 (by exact (cb_0 _ _).mpr c18) ?_
          refine g_5 (a := 1) (b := 0) (nx := 171) (by decide +kernel) rfl ?_
          refine g_82 (a := 186) (b := 1) (nx := 174) (by decide +kernel) (As := [vI y8]) (st' := []) (z := 186) rfl rfl rfl (Nat.le_of_ble_eq_true rfl) (Nat.le_of_ble_eq_true rfl) rfl (c_I (by decide +kernel) h (fun y14 M13 h => ?_))
          obtain ⟨r15, h⟩ := h
          by_cases c17 : y14 = 0
          · rw [if_pos c17] at h
            refine g_40t (a := 0) (b := 247) (nx := 177) (by decide +kernel) r15 (by exact (cb_0 _ _).mpr c17) ?_
            refine g_7 (a := 0) (b := 0) (nx := 248) (by decide +kernel) rfl ?_
            refine g_5 (a := 1) (b := 0) (nx := 249) (by decide +kernel) rfl ?_
            refine g_1 (a := 59) (b := 0) (nx := 251) (by decide +kernel) ?_
            by_cases c16 : y8 = 59
            · rw [if_pos c16] at h
              refine g_41f (a := 1) (b := 258) (nx := 254) (by decide +kernel) (by rw [wr_id r9, wr_id (show inR 59 by decide)]; exact fun hz => ((cb_1 _ _).mp hz) c16) ?_
              refine g_1 (a := 3) (b := 0) (nx := 255) (by decide +kernel) ?_
              refine g_44 (a := 0) (b := 259) (nx := 258) (by decide +kernel) ?_
              refine g_53 (a := 12) (b := 5) (nx := 262) (by decide +kernel) h0 ?_
              refine g_1 (a := 1) (b := 0) (nx := 263) (by decide +kernel) ?_
              refine g_8 (a := 2) (b := 0) (nx := 264) (by decide +kernel) rfl (ls' := [some (vR x0), some (vI y8), some (vI 1)]) rfl ?_
              refine g_7 (a := 0) (b := 0) (nx := 265) (by decide +kernel) rfl ?_
              refine g_13 (a := 0) (b := 0) (nx := 266) (by decide +kernel) rfl ?_
              refine g_50 (a := 12) (b := 3) (nx := 269) (by decide +kernel) h0 ?_
              refine g_5 (a := 2) (b := 0) (nx := 270) (by decide +kernel) rfl ?_
              refine g_15 (a := 0) (b := 0) (nx := 271) (by decide +kernel) ?_
              refine g_53 (a := 12) (b := 3) (nx := 274) (by decide +kernel) h0 ?_
              exact g_90 (a := 0) (b := 0) (nx := 275) (by decide +kernel) h
            · rw [if_neg c16] at h
              refine g_41t (a := 1) (b := 258) (nx := 254) (by decide +kernel) (by rw [wr_id r9, wr_id (show inR 59 by decide)]; exact (cb_1 _ _).mpr c16) ?_
              refine g_1 (a := 4) (b := 0) (nx := 259) (by decide +kernel) ?_
              refine g_53 (a := 12) (b := 5) (nx := 262) (by decide +kernel) h0 ?_
              refine g_1 (a := 1) (b := 0) (nx := 263) (by decide +kernel) ?_
              refine g_8 (a := 2) (b := 0) (nx := 264) (by decide +kernel) rfl (ls' := [some (vR x0), some (vI y8), some (vI 1)]) rfl ?_
              refine g_7 (a := 0) (b := 0) (nx := 265) (by decide +kernel) rfl ?_
              refine g_13 (a := 0) (b := 0) (nx := 266) (by decide +kernel) rfl ?_
              refine g_50 (a := 12) (b := 3) (nx := 269) (by decide +kernel) h0 ?_
              refine g_5 (a := 2) (b := 0) (nx := 270) (by decide +kernel) rfl ?_
              refine g_15 (a := 0) (b := 0) (nx := 271) (by decide +kernel) ?_
              refine g_53 (a := 12) (b := 3) (nx := 274) (by decide +kernel) h0 ?_
              exact g_90 (a := 0) (b := 0) (nx := 275) (by decide +kernel) h
          · rw [if_neg c17] at h
            refine g_40f (a := 0) (b := 247) (nx := 177) (by decide +kernel) r15 (by exact fun hz => c17 ((cb_0 _ _).mp hz)) ?_
            exact h
        · rw [if_neg c18] at h
          refine g_40f (a := 0) (b := 170) (nx := 81) (by decide +kernel) r12 (by exact fun hz => c18 ((cb_0 _ _).mp hz)) ?_
          exact h
      · rw [if_neg c19] at h
        refine g_40f (a := 3) (b := 74) (nx := 68) (by decide +kernel) r9 (by exact fun hz => c19 ((cb_3 _ _).mp hz)) ?_
        refine g_7 (a := 0) (b := 0) (nx := 69) (by decide +kernel) rfl ?_
        refine g_1 (a := 0) (b := 0) (nx := 70) (by decide +kernel) ?_
        refine g_53 (a := 12) (b := 5) (nx := 73) (by decide +kernel) h0 ?_
        exact g_90 (a := 0) (b := 0) (nx := 74) (by decide +kernel) h
theorem t_187_0 {x0 : Int} {M : Mem} {Q : AV → Mem → Prop} (h0 : gO 12 x0) (h : WI 184 [vR x0, vI 0] M (fun y2 M1 => inR y2 ∧ (if y2 = 32 then (WR 187 0 [some (vR x0), none, none] [] (upM M1 x0 3 ((M1 x0 3) + 1)) Q) else (WI 184 [vR x0, vI 0] M1 (fun y5 M4 => inR y5 ∧ (if y5 = 10 then (WR 187 0 [some (vR x0), none, none] [] (upM M4 x0 3 ((M4 x0 3) + 1)) Q) else (WI 184 [vR x0, vI 0] (upM (upM (upM (upM M4 x0 4 (M4 x0 3)) x0 6 0) x0 7 0) x0 13 0) (fun y8 M7 => inR y8 ∧ (if 0 ≤ y8 then (WI 185 [vI y8] M7 (fun y11 M10 => inR y11 ∧ (if y11 = 0 then (WI 186 [vI y8] M10 (fun y14 M13 => inR y14 ∧ (if y14 = 0 then (if y8 = 59 then (Q (vI 0) (upM (upM M13 x0 5 3) x0 3 (((upM M13 x0 5 3) x0 3) + 1))) else (Q (vI 0) (upM (upM M13 x0 5 4) x0 3 (((upM M13 x0 5 4) x0 3) + 1)))) else (WR 187 177 [some (vR x0), some (vI y8), some (vI 0)] [] M13 Q)))) else (WR 187 81 [some (vR x0), some (vI y8), some (vI 0)] [] M10 Q)))) else (Q (vI 0) (upM M7 x0 5 0))))))))))) : WR 187 0 [some (vR x0), none, none] [] M Q := by
  refine g_7 (a := 0) (b := 0) (nx := 1) (by decide +kernel) rfl ?_
  refine g_1 (a := 0) (b := 0) (nx := 2) (by decide +kernel) ?_
  refine g_80 (a := 184) (b := 1) (nx := 5) (by decide +kernel) (r := x0) (As := [vI 0]) (st' := []) (z := 184) rfl rfl rfl (Nat.le_of_ble_eq_true rfl) h0.2 (Nat.le_of_ble_eq_true rfl) rfl (c_I (by decide +kernel) h (fun y2 M1 h => ?_))
  refine g_1 (a := 32) (b := 0) (nx := 7) (by decide +kernel) ?_
  obtain ⟨r3, h⟩ := h
  by_cases c21 : y2 = 32
  · rw [if_pos c21] at h
    refine g_41t (a := 0) (b := 20) (nx := 10) (by decide +kernel) (by rw [wr_id r3, wr_id (show inR 32 by decide)]; exact (cb_0 _ _).mpr c21) ?_
    refine g_7 (a := 0) (b := 0) (nx := 21) (by decide +kernel) rfl ?_
    refine g_13 (a := 0) (b := 0) (nx := 22) (by decide +kernel) rfl ?_
    refine g_50 (a := 12) (b := 3) (nx := 25) (by decide +kernel) h0 ?_
    refine g_1 (a := 1) (b := 0) (nx := 26) (by decide +kernel) ?_
    refine g_15 (a := 0) (b := 0) (nx := 27) (by decide +kernel) ?_
    refine g_53 (a := 12) (b := 3) (nx := 30) (by decide +kernel) h0 ?_
    refine g_44 (a := 0) (b := 0) (nx := 33) (by decide +kernel) ?_
    exact h
  · rw [if_neg c21] at h
    refine g_41f (a := 0) (b := 20) (nx := 10) (by decide +kernel) (by rw [wr_id r3, wr_id (show inR 32 by decide)]; exact fun hz => c21 ((cb_0 _ _).mp hz)) ?_
    refine g_7 (a := 0) (b := 0) (nx := 11) (by decide +kernel) rfl ?_
    refine g_1 (a := 0) (b := 0) (nx := 12) (by decide +kernel) ?_
    refine g_80 (a := 184) (b := 1) (nx := 15) (by decide +kernel) (r := x0) (As := [vI 0]) (st' := []) (z := 184) rfl rfl rfl (Nat.le_of_ble_eq_true rfl) h0.2 (Nat.le_of_ble_eq_true rfl) rfl (c_I (by decide +kernel) h (fun y5 M4 h => ?_))
    refine g_1 (a := 10) (b := 0) (nx := 17) (by decide +kernel) ?_
    obtain ⟨r6, h⟩ := h
    by_cases c20 : y5 = 10
    · rw [if_pos c20] at h
      refine g_41f (a := 1) (b := 33) (nx := 20) (by decide +kernel) (by rw [wr_id r6, wr_id (show inR 10 by decide)]; exact fun hz => ((cb_1 _ _).mp hz) c20) ?_
      refine g_7 (a := 0) (b := 0) (nx := 21) (by decide +kernel) rfl ?_
      refine g_13 (a := 0) (b := 0) (nx := 22) (by decide +kernel) rfl ?_
      refine g_50 (a := 12) (b := 3) (nx := 25) (by decide +kernel) h0 ?_
      refine g_1 (a := 1) (b := 0) (nx := 26) (by decide +kernel) ?_
      refine g_15 (a := 0) (b := 0) (nx := 27) (by decide +kernel) ?_
      refine g_53 (a := 12) (b := 3) (nx := 30) (by decide +kernel) h0 ?_
      refine g_44 (a := 0) (b := 0) (nx := 33) (by decide +kernel) ?_
      exact h
    · rw [if_neg c20] at h
      refine g_41t (a := 1) (b := 33) (nx := 20) (by decide +kernel) (by rw [wr_id r6, wr_id (show inR 10 by decide)]; exact (cb_1 _ _).mpr c20) ?_
      refine g_7 (a := 0) (b := 0) (nx := 34) (by decide +kernel) rfl ?_
      refine g_7 (a := 0) (b := 0) (nx := 35) (by decide +kernel) rfl ?_
      refine g_50 (a := 12) (b := 3) (nx := 38) (by decide +kernel) h0 ?_
      refine g_53 (a := 12) (b := 4) (nx := 41) (by decide +kernel) h0 ?_
      refine g_7 (a := 0) (b := 0) (nx := 42) (by decide +kernel) rfl ?_
      refine g_1 (a := 0) (b := 0) (nx := 43) (by decide +kernel) ?_
      refine g_53 (a := 12) (b := 6) (nx := 46) (by decide +kernel) h0 ?_
      refine g_7 (a := 0) (b := 0) (nx := 47) (by decide +kernel) rfl ?_
      refine g_1 (a := 0) (b := 0) (nx := 48) (by decide +kernel) ?_
      refine g_53 (a := 12) (b := 7) (nx := 51) (by decide +kernel) h0 ?_
      refine g_7 (a := 0) (b := 0) (nx := 52) (by decide +kernel) rfl ?_
      refine g_2 (a := 0) (b := 0) (nx := 53) (by decide +kernel) ?_
      refine g_54 (a := 12) (b := 13) (nx := 56) (by decide +kernel) h0 ?_
      refine g_7 (a := 0) (b := 0) (nx := 57) (by decide +kernel) rfl ?_
      refine g_1 (a := 0) (b := 0) (nx := 58) (by decide +kernel) ?_
      refine g_80 (a := 184) (b := 1) (nx := 61) (by decide +kernel) (r := x0) (As := [vI 0]) (st' := []) (z := 184) rfl rfl rfl (Nat.le_of_ble_eq_true rfl) h0.2 (Nat.le_of_ble_eq_true rfl) rfl (c_I (by decide +kernel) h (fun y8 M7 h => ?_))
      refine g_8 (a := 1) (b := 0) (nx := 62) (by decide +kernel) rfl (ls' := [some (vR x0), some (vI y8), none]) rfl ?_
      refine g_1 (a := 0) (b := 0) (nx := 63) (by decide +kernel) ?_
      refine g_8 (a := 2) (b := 0) (nx := 64) (by decide +kernel) rfl (ls' := [some (vR x0), some (vI y8), some (vI 0)]) rfl ?_
      refine g_5 (a := 1) (b := 0) (nx := 65) (by decide +kernel) rfl ?_
      obtain ⟨r9, h⟩ := h
      by_cases c19 : 0 ≤ y8
      · rw [if_pos c19] at h
        refine g_40t (a := 3) (b := 74) (nx := 68) (by decide +kernel) r9 (by exact (cb_3 _ _).mpr c19) ?_
        refine g_5 (a := 1) (b := 0) (nx := 75) (by decide +kernel) rfl ?_
        refine g_82 (a := 185) (b := 1) (nx := 78) (by decide +kernel) (As := [vI y8]) (st' := []) (z := 185) rfl rfl rfl (Nat.le_of_ble_eq_true rfl) (Nat.le_of_ble_eq_true rfl) rfl (c_I (by decide +kernel) h (fun y11 M10 h => ?_))
        obtain ⟨r12, h⟩ := h
        by_cases c18 : y11 = 0
        · rw [if_pos c18] at h
          refine g_40t (a := 0) (b := 170) (nx := 81) (by decide +kernel) r12 (by exact (cb_0 _ _).mpr c18) ?_
          refine g_5 (a := 1) (b := 0) (nx := 171) (by decide +kernel) rfl ?_
          refine g_82 (a := 186) (b := 1) (nx := 174) (by decide +kernel) (As := [vI y8]) (st' := []) (z := 186) rfl rfl rfl (Nat.le_of_ble_eq_true rfl) (Nat.le_of_ble_eq_true rfl) rfl (c_I (by decide +kernel) h (fun y14 M13 h => ?_))
          obtain ⟨r15, h⟩ := h
          by_cases c17 : y14 = 0
          · rw [if_pos c17] at h
            refine g_40t (a := 0) (b := 247) (nx := 177) (by decide +kernel) r15 (by exact (cb_0 _ _).mpr c17) ?_
            refine g_7 (a := 0) (b := 0) (nx := 248) (by decide +kernel) rfl ?_
            refine g_5 (a := 1) (b := 0) (nx := 249) (by decide +kernel) rfl ?_
            refine g_1 (a := 59) (b := 0) (nx := 251) (by decide +kernel) ?_
            by_cases c16 : y8 = 59
            · rw [if_pos c16] at h
              refine g_41f (a := 1) (b := 258) (nx := 254) (by decide +kernel) (by rw [wr_id r9, wr_id (show inR 59 by decide)]; exact fun hz => ((cb_1 _ _).mp hz) c16) ?_
              refine g_1 (a := 3) (b := 0) (nx := 255) (by decide +kernel) ?_
              refine g_44 (a := 0) (b := 259) (nx := 258) (by decide +kernel) ?_
              refine g_53 (a := 12) (b := 5) (nx := 262) (by decide +kernel) h0 ?_
              refine g_1 (a := 1) (b := 0) (nx := 263) (by decide +kernel) ?_
              refine g_8 (a := 2) (b := 0) (nx := 264) (by decide +kernel) rfl (ls' := [some (vR x0), some (vI y8), some (vI 1)]) rfl ?_
              refine g_7 (a := 0) (b := 0) (nx := 265) (by decide +kernel) rfl ?_
              refine g_13 (a := 0) (b := 0) (nx := 266) (by decide +kernel) rfl ?_
              refine g_50 (a := 12) (b := 3) (nx := 269) (by decide +kernel) h0 ?_
              refine g_5 (a := 2) (b := 0) (nx := 270) (by decide +kernel) rfl ?_
              refine g_15 (a := 0) (b := 0) (nx := 271) (by decide +kernel) ?_
              refine g_53 (a := 12) (b := 3) (nx := 274) (by decide +kernel) h0 ?_
              exact g_90 (a := 0) (b := 0) (nx := 275) (by decide +kernel) h
            · rw [if_neg c16] at h
              refine g_41t (a := 1) (b := 258) (nx := 254) (by decide +kernel) (by rw [wr_id r9, wr_id (show inR 59 by decide)]; exact (cb_1 _ _).mpr c16) ?_
              refine g_1 (a := 4) (b := 0) (nx := 259) (by decide +kernel) ?_
              refine g_53 (a := 12) (b := 5) (nx := 262) (by decide +kernel) h0 ?_
              refine g_1 (a := 1) (b := 0) (nx := 263) (by decide +kernel) ?_
              refine g_8 (a := 2) (b := 0) (nx := 264) (by decide +kernel) rfl (ls' := [some (vR x0), some (vI y8), some (vI 1)]) rfl ?_
              refine g_7 (a := 0) (b := 0) (nx := 265) (by decide +kernel) rfl ?_
              refine g_13 (a := 0) (b := 0) (nx := 266) (by decide +kernel) rfl ?_
              refine g_50 (a := 12) (b := 3) (nx := 269) (by decide +kernel) h0 ?_
              refine g_5 (a := 2) (b := 0) (nx := 270) (by decide +kernel) rfl ?_
              refine g_15 (a := 0) (b := 0) (nx := 271) (by decide +kernel) ?_
              refine g_53 (a := 12) (b := 3) (nx := 274) (by decide +kernel) h0 ?_
              exact g_90 (a := 0) (b := 0) (nx := 275) (by decide +kernel) h
          · rw [if_neg c17] at h
            refine g_40f (a := 0) (b := 247) (nx := 177) (by decide +kernel) r15 (by exact fun hz => c17 ((cb_0 _ _).mp hz)) ?_
            exact h
        · rw [if_neg c18] at h
          refine g_40f (a := 0) (b := 170) (nx := 81) (by decide +kernel) r12 (by exact fun hz => c18 ((cb_0 _ _).mp hz)) ?_
          exact h
      · rw [if_neg c19] at h
        refine g_40f (a := 3) (b := 74) (nx := 68) (by decide +kernel) r9 (by exact fun hz => c19 ((cb_3 _ _).mp hz)) ?_
        refine g_7 (a := 0) (b := 0) (nx := 69) (by decide +kernel) rfl ?_
        refine g_1 (a := 0) (b := 0) (nx := 70) (by decide +kernel) ?_
        refine g_53 (a := 12) (b := 5) (nx := 73) (by decide +kernel) h0 ?_
        exact g_90 (a := 0) (b := 0) (nx := 74) (by decide +kernel) h
theorem t_187_81 {x0 x1 x2 : Int} {M : Mem} {Q : AV → Mem → Prop} (h0 : gO 12 x0) (h : WI 184 [vR x0, vI x2] M (fun y2 M1 => WI 185 [vI y2] M1 (fun y4 M3 => inR y4 ∧ (if y4 = 0 then (inR x2 ∧ (if x2 ≤ 12 then (Q (vI 0) (upM (upM (upM M3 x0 7 x2) x0 5 1) x0 3 (((upM (upM M3 x0 7 x2) x0 5 1) x0 3) + x2))) else (Q (vI 0) (upM (upM (upM M3 x0 7 x2) x0 5 4) x0 3 (((upM (upM M3 x0 7 x2) x0 5 4) x0 3) + x2))))) else (inR x2 ∧ (if 12 ≤ x2 then (if 12 ≤ x2 then (WR 187 81 [some (vR x0), some (vI x1), some (vI (x2 + 1))] [] M3 Q) else (WI 184 [vR x0, vI x2] M3 (fun y10 M9 => WR 187 81 [some (vR x0), some (vI x1), some (vI (x2 + 1))] [] (upM M9 x0 13 ((((M3 x0 13) * 27) + (wr32 y10)) - 96)) Q))) else (WI 184 [vR x0, vI x2] M3 (fun y13 M12 => (gA 20 (M3 x0 12) x2) ∧ if 12 ≤ x2 then (WR 187 81 [some (vR x0), some (vI x1), some (vI (x2 + 1))] [] (upM M12 (M3 x0 12) x2 (y13 - 97)) Q) else (WI 184 [vR x0, vI x2] (upM M12 (M3 x0 12) x2 (y13 - 97)) (fun y15 M14 => WR 187 81 [some (vR x0), some (vI x1), some (vI (x2 + 1))] [] (upM M14 x0 13 (((((upM M12 (M3 x0 12) x2 (y13 - 97)) x0 13) * 27) + (wr32 y15)) - 96)) Q)))))))))) : WR 187 81 [some (vR x0), some (vI x1), some (vI x2)] [] M Q := by
  refine g_7 (a := 0) (b := 0) (nx := 82) (by decide +kernel) rfl ?_
  refine g_5 (a := 2) (b := 0) (nx := 83) (by decide +kernel) rfl ?_
  refine g_80 (a := 184) (b := 1) (nx := 86) (by decide +kernel) (r := x0) (As := [vI x2]) (st' := []) (z := 184) rfl rfl rfl (Nat.le_of_ble_eq_true rfl) h0.2 (Nat.le_of_ble_eq_true rfl) rfl (c_I (by decide +kernel) h (fun y2 M1 h => ?_))
  refine g_82 (a := 185) (b := 1) (nx := 89) (by decide +kernel) (As := [vI y2]) (st' := []) (z := 185) rfl rfl rfl (Nat.le_of_ble_eq_true rfl) (Nat.le_of_ble_eq_true rfl) rfl (c_I (by decide +kernel) h (fun y4 M3 h => ?_))
  obtain ⟨r5, h⟩ := h
  by_cases c18 : y4 = 0
  · rw [if_pos c18] at h
    refine g_40t (a := 0) (b := 147) (nx := 92) (by decide +kernel) r5 (by exact (cb_0 _ _).mpr c18) ?_
    refine g_7 (a := 0) (b := 0) (nx := 148) (by decide +kernel) rfl ?_
    refine g_5 (a := 2) (b := 0) (nx := 149) (by decide +kernel) rfl ?_
    refine g_53 (a := 12) (b := 7) (nx := 152) (by decide +kernel) h0 ?_
    refine g_7 (a := 0) (b := 0) (nx := 153) (by decide +kernel) rfl ?_
    refine g_5 (a := 2) (b := 0) (nx := 154) (by decide +kernel) rfl ?_
    refine g_1 (a := 12) (b := 0) (nx := 156) (by decide +kernel) ?_
    obtain ⟨r6, h⟩ := h
    by_cases c7 : x2 ≤ 12
    · rw [if_pos c7] at h
      refine g_41t (a := 5) (b := 163) (nx := 159) (by decide +kernel) (by rw [wr_id r6, wr_id (show inR 12 by decide)]; exact (cb_5 _ _).mpr c7) ?_
      refine g_1 (a := 1) (b := 0) (nx := 164) (by decide +kernel) ?_
      refine g_53 (a := 12) (b := 5) (nx := 167) (by decide +kernel) h0 ?_
      refine g_44 (a := 0) (b := 264) (nx := 170) (by decide +kernel) ?_
      refine g_7 (a := 0) (b := 0) (nx := 265) (by decide +kernel) rfl ?_
      refine g_13 (a := 0) (b := 0) (nx := 266) (by decide +kernel) rfl ?_
      refine g_50 (a := 12) (b := 3) (nx := 269) (by decide +kernel) h0 ?_
      refine g_5 (a := 2) (b := 0) (nx := 270) (by decide +kernel) rfl ?_
      refine g_15 (a := 0) (b := 0) (nx := 271) (by decide +kernel) ?_
      refine g_53 (a := 12) (b := 3) (nx := 274) (by decide +kernel) h0 ?_
      exact g_90 (a := 0) (b := 0) (nx := 275) (by decide +kernel) h
    · rw [if_neg c7] at h
      refine g_41f (a := 5) (b := 163) (nx := 159) (by decide +kernel) (by rw [wr_id r6, wr_id (show inR 12 by decide)]; exact fun hz => c7 ((cb_5 _ _).mp hz)) ?_
      refine g_1 (a := 4) (b := 0) (nx := 160) (by decide +kernel) ?_
      refine g_44 (a := 0) (b := 164) (nx := 163) (by decide +kernel) ?_
      refine g_53 (a := 12) (b := 5) (nx := 167) (by decide +kernel) h0 ?_
      refine g_44 (a := 0) (b := 264) (nx := 170) (by decide +kernel) ?_
      refine g_7 (a := 0) (b := 0) (nx := 265) (by decide +kernel) rfl ?_
      refine g_13 (a := 0) (b := 0) (nx := 266) (by decide +kernel) rfl ?_
      refine g_50 (a := 12) (b := 3) (nx := 269) (by decide +kernel) h0 ?_
      refine g_5 (a := 2) (b := 0) (nx := 270) (by decide +kernel) rfl ?_
      refine g_15 (a := 0) (b := 0) (nx := 271) (by decide +kernel) ?_
      refine g_53 (a := 12) (b := 3) (nx := 274) (by decide +kernel) h0 ?_
      exact g_90 (a := 0) (b := 0) (nx := 275) (by decide +kernel) h
  · rw [if_neg c18] at h
    refine g_40f (a := 0) (b := 147) (nx := 92) (by decide +kernel) r5 (by exact fun hz => c18 ((cb_0 _ _).mp hz)) ?_
    refine g_5 (a := 2) (b := 0) (nx := 93) (by decide +kernel) rfl ?_
    refine g_1 (a := 12) (b := 0) (nx := 95) (by decide +kernel) ?_
    obtain ⟨r8, h⟩ := h
    by_cases c17 : 12 ≤ x2
    · rw [if_pos c17] at h
      refine g_41t (a := 3) (b := 112) (nx := 98) (by decide +kernel) (by rw [wr_id r8, wr_id (show inR 12 by decide)]; exact (cb_3 _ _).mpr c17) ?_
      refine g_5 (a := 2) (b := 0) (nx := 113) (by decide +kernel) rfl ?_
      refine g_1 (a := 12) (b := 0) (nx := 115) (by decide +kernel) ?_
      by_cases c11 : 12 ≤ x2
      · rw [if_pos c11] at h
        refine g_41t (a := 3) (b := 141) (nx := 118) (by decide +kernel) (by rw [wr_id r8, wr_id (show inR 12 by decide)]; exact (cb_3 _ _).mpr c11) ?_
        refine g_11 (a := 2) (b := 1) (nx := 144) (by decide +kernel) rfl rfl (ls' := [some (vR x0), some (vI x1), some (vI (x2 + 1))]) rfl ?_
        refine g_44 (a := 0) (b := 81) (nx := 147) (by decide +kernel) ?_
        exact h
      · rw [if_neg c11] at h
        refine g_41f (a := 3) (b := 141) (nx := 118) (by decide +kernel) (by rw [wr_id r8, wr_id (show inR 12 by decide)]; exact fun hz => c11 ((cb_3 _ _).mp hz)) ?_
        refine g_7 (a := 0) (b := 0) (nx := 119) (by decide +kernel) rfl ?_
        refine g_7 (a := 0) (b := 0) (nx := 120) (by decide +kernel) rfl ?_
        refine g_51 (a := 12) (b := 13) (nx := 123) (by decide +kernel) h0 ?_
        refine g_2 (a := 27) (b := 0) (nx := 126) (by decide +kernel) ?_
        refine g_27 (a := 0) (b := 0) (nx := 127) (by decide +kernel) ?_
        refine g_7 (a := 0) (b := 0) (nx := 128) (by decide +kernel) rfl ?_
        refine g_5 (a := 2) (b := 0) (nx := 129) (by decide +kernel) rfl ?_
        refine g_80 (a := 184) (b := 1) (nx := 132) (by decide +kernel) (r := x0) (As := [vI x2]) (st' := [vL ((M3 x0 13) * 27), vR x0]) (z := 184) rfl rfl rfl (Nat.le_of_ble_eq_true rfl) h0.2 (Nat.le_of_ble_eq_true rfl) rfl (c_I (by decide +kernel) h (fun y10 M9 h => ?_))
        refine g_35 (a := 0) (b := 0) (nx := 133) (by decide +kernel) ?_
        refine g_25 (a := 0) (b := 0) (nx := 134) (by decide +kernel) ?_
        refine g_2 (a := 96) (b := 0) (nx := 137) (by decide +kernel) ?_
        refine g_26 (a := 0) (b := 0) (nx := 138) (by decide +kernel) ?_
        refine g_54 (a := 12) (b := 13) (nx := 141) (by decide +kernel) h0 ?_
        refine g_11 (a := 2) (b := 1) (nx := 144) (by decide +kernel) rfl rfl (ls' := [some (vR x0), some (vI x1), some (vI (x2 + 1))]) rfl ?_
        refine g_44 (a := 0) (b := 81) (nx := 147) (by decide +kernel) ?_
        exact h
    · rw [if_neg c17] at h
      refine g_41f (a := 3) (b := 112) (nx := 98) (by decide +kernel) (by rw [wr_id r8, wr_id (show inR 12 by decide)]; exact fun hz => c17 ((cb_3 _ _).mp hz)) ?_
      refine g_7 (a := 0) (b := 0) (nx := 99) (by decide +kernel) rfl ?_
      refine g_52 (a := 12) (b := 12) (nx := 102) (by decide +kernel) h0 ?_
      refine g_5 (a := 2) (b := 0) (nx := 103) (by decide +kernel) rfl ?_
      refine g_7 (a := 0) (b := 0) (nx := 104) (by decide +kernel) rfl ?_
      refine g_5 (a := 2) (b := 0) (nx := 105) (by decide +kernel) rfl ?_
      refine g_80 (a := 184) (b := 1) (nx := 108) (by decide +kernel) (r := x0) (As := [vI x2]) (st' := [vI x2, vR (M3 x0 12)]) (z := 184) rfl rfl rfl (Nat.le_of_ble_eq_true rfl) h0.2 (Nat.le_of_ble_eq_true rfl) rfl (c_I (by decide +kernel) h (fun y13 M12 h => ?_))
      refine g_1 (a := 97) (b := 0) (nx := 110) (by decide +kernel) ?_
      refine g_16 (a := 0) (b := 0) (nx := 111) (by decide +kernel) ?_
      refine g_62 (a := 0) (b := 0) (nx := 112) (by decide +kernel) h.1 ?_
      replace h := h.2
      refine g_5 (a := 2) (b := 0) (nx := 113) (by decide +kernel) rfl ?_
      refine g_1 (a := 12) (b := 0) (nx := 115) (by decide +kernel) ?_
      by_cases c16 : 12 ≤ x2
      · rw [if_pos c16] at h
        refine g_41t (a := 3) (b := 141) (nx := 118) (by decide +kernel) (by rw [wr_id r8, wr_id (show inR 12 by decide)]; exact (cb_3 _ _).mpr c16) ?_
        refine g_11 (a := 2) (b := 1) (nx := 144) (by decide +kernel) rfl rfl (ls' := [some (vR x0), some (vI x1), some (vI (x2 + 1))]) rfl ?_
        refine g_44 (a := 0) (b := 81) (nx := 147) (by decide +kernel) ?_
        exact h
      · rw [if_neg c16] at h
        refine g_41f (a := 3) (b := 141) (nx := 118) (by decide +kernel) (by rw [wr_id r8, wr_id (show inR 12 by decide)]; exact fun hz => c16 ((cb_3 _ _).mp hz)) ?_
        refine g_7 (a := 0) (b := 0) (nx := 119) (by decide +kernel) rfl ?_
        refine g_7 (a := 0) (b := 0) (nx := 120) (by decide +kernel) rfl ?_
        refine g_51 (a := 12) (b := 13) (nx := 123) (by decide +kernel) h0 ?_
        refine g_2 (a := 27) (b := 0) (nx := 126) (by decide +kernel) ?_
        refine g_27 (a := 0) (b := 0) (nx := 127) (by decide +kernel) ?_
        refine g_7 (a := 0) (b := 0) (nx := 128) (by decide +kernel) rfl ?_
        refine g_5 (a := 2) (b := 0) (nx := 129) (by decide +kernel) rfl ?_
        refine g_80 (a := 184) (b := 1) (nx := 132) (by decide +kernel) (r := x0) (As := [vI x2]) (st' := [vL (((upM M12 (M3 x0 12) x2 (y13 - 97)) x0 13) * 27), vR x0]) (z := 184) rfl rfl rfl (Nat.le_of_ble_eq_true rfl) h0.2 (Nat.le_of_ble_eq_true rfl) rfl (c_I (by decide +kernel) h (fun y15 M14 h => ?_))
        refine g_35 (a := 0) (b := 0) (nx := 133) (by decide +kernel) ?_
        refine g_25 (a := 0) (b := 0) (nx := 134) (by decide +kernel) ?_
        refine g_2 (a := 96) (b := 0) (nx := 137) (by decide +kernel) ?_
        refine g_26 (a := 0) (b := 0) (nx := 138) (by decide +kernel) ?_
        refine g_54 (a := 12) (b := 13) (nx := 141) (by decide +kernel) h0 ?_
        refine g_11 (a := 2) (b := 1) (nx := 144) (by decide +kernel) rfl rfl (ls' := [some (vR x0), some (vI x1), some (vI (x2 + 1))]) rfl ?_
        refine g_44 (a := 0) (b := 81) (nx := 147) (by decide +kernel) ?_
        exact h
theorem t_187_177 {x0 x1 x2 : Int} {M : Mem} {Q : AV → Mem → Prop} (h0 : gO 12 x0) (h : WI 184 [vR x0, vI x2] M (fun y2 M1 => WI 186 [vI y2] M1 (fun y4 M3 => inR y4 ∧ (if y4 = 0 then (inR x2 ∧ (if 3 < x2 then (Q (vI 0) (upM (upM M3 x0 5 4) x0 3 (((upM M3 x0 5 4) x0 3) + x2))) else (WI 184 [vR x0, vI x2] M3 (fun y8 M7 => WI 185 [vI y8] M7 (fun y10 M9 => inR y10 ∧ (if y10 = 0 then (Q (vI 0) (upM (upM M9 x0 5 2) x0 3 (((upM M9 x0 5 2) x0 3) + x2))) else (Q (vI 0) (upM (upM M9 x0 5 4) x0 3 (((upM M9 x0 5 4) x0 3) + x2))))))))) else (inR x2 ∧ (if 3 ≤ x2 then (WR 187 177 [some (vR x0), some (vI x1), some (vI (x2 + 1))] [] M3 Q) else (WI 184 [vR x0, vI x2] M3 (fun y16 M15 => WR 187 177 [some (vR x0), some (vI x1), some (vI (x2 + 1))] [] (upM M15 x0 6 (((10 * (M3 x0 6)) + y16) - 48)) Q)))))))) : WR 187 177 [some (vR x0), some (vI x1), some (vI x2)] [] M Q := by
  refine g_7 (a := 0) (b := 0) (nx := 178) (by decide +kernel) rfl ?_
  refine g_5 (a := 2) (b := 0) (nx := 179) (by decide +kernel) rfl ?_
  refine g_80 (a := 184) (b := 1) (nx := 182) (by decide +kernel) (r := x0) (As := [vI x2]) (st' := []) (z := 184) rfl rfl rfl (Nat.le_of_ble_eq_true rfl) h0.2 (Nat.le_of_ble_eq_true rfl) rfl (c_I (by decide +kernel) h (fun y2 M1 h => ?_))
  refine g_82 (a := 186) (b := 1) (nx := 185) (by decide +kernel) (As := [vI y2]) (st' := []) (z := 186) rfl rfl rfl (Nat.le_of_ble_eq_true rfl) (Nat.le_of_ble_eq_true rfl) rfl (c_I (by decide +kernel) h (fun y4 M3 h => ?_))
  obtain ⟨r5, h⟩ := h
  by_cases c18 : y4 = 0
  · rw [if_pos c18] at h
    refine g_40t (a := 0) (b := 219) (nx := 188) (by decide +kernel) r5 (by exact (cb_0 _ _).mpr c18) ?_
    refine g_7 (a := 0) (b := 0) (nx := 220) (by decide +kernel) rfl ?_
    refine g_5 (a := 2) (b := 0) (nx := 221) (by decide +kernel) rfl ?_
    refine g_1 (a := 3) (b := 0) (nx := 222) (by decide +kernel) ?_
    obtain ⟨r6, h⟩ := h
    by_cases c13 : 3 < x2
    · rw [if_pos c13] at h
      refine g_41t (a := 4) (b := 236) (nx := 225) (by decide +kernel) (by rw [wr_id r6, wr_id (show inR 3 by decide)]; exact (cb_4 _ _).mpr c13) ?_
      refine g_1 (a := 4) (b := 0) (nx := 237) (by decide +kernel) ?_
      refine g_44 (a := 0) (b := 241) (nx := 240) (by decide +kernel) ?_
      refine g_53 (a := 12) (b := 5) (nx := 244) (by decide +kernel) h0 ?_
      refine g_44 (a := 0) (b := 264) (nx := 247) (by decide +kernel) ?_
      refine g_7 (a := 0) (b := 0) (nx := 265) (by decide +kernel) rfl ?_
      refine g_13 (a := 0) (b := 0) (nx := 266) (by decide +kernel) rfl ?_
      refine g_50 (a := 12) (b := 3) (nx := 269) (by decide +kernel) h0 ?_
      refine g_5 (a := 2) (b := 0) (nx := 270) (by decide +kernel) rfl ?_
      refine g_15 (a := 0) (b := 0) (nx := 271) (by decide +kernel) ?_
      refine g_53 (a := 12) (b := 3) (nx := 274) (by decide +kernel) h0 ?_
      exact g_90 (a := 0) (b := 0) (nx := 275) (by decide +kernel) h
    · rw [if_neg c13] at h
      refine g_41f (a := 4) (b := 236) (nx := 225) (by decide +kernel) (by rw [wr_id r6, wr_id (show inR 3 by decide)]; exact fun hz => c13 ((cb_4 _ _).mp hz)) ?_
      refine g_7 (a := 0) (b := 0) (nx := 226) (by decide +kernel) rfl ?_
      refine g_5 (a := 2) (b := 0) (nx := 227) (by decide +kernel) rfl ?_
      refine g_80 (a := 184) (b := 1) (nx := 230) (by decide +kernel) (r := x0) (As := [vI x2]) (st' := [vR x0]) (z := 184) rfl rfl rfl (Nat.le_of_ble_eq_true rfl) h0.2 (Nat.le_of_ble_eq_true rfl) rfl (c_I (by decide +kernel) h (fun y8 M7 h => ?_))
      refine g_82 (a := 185) (b := 1) (nx := 233) (by decide +kernel) (As := [vI y8]) (st' := [vR x0]) (z := 185) rfl rfl rfl (Nat.le_of_ble_eq_true rfl) (Nat.le_of_ble_eq_true rfl) rfl (c_I (by decide +kernel) h (fun y10 M9 h => ?_))
      obtain ⟨r11, h⟩ := h
      by_cases c12 : y10 = 0
      · rw [if_pos c12] at h
        refine g_40t (a := 0) (b := 240) (nx := 236) (by decide +kernel) r11 (by exact (cb_0 _ _).mpr c12) ?_
        refine g_1 (a := 2) (b := 0) (nx := 241) (by decide +kernel) ?_
        refine g_53 (a := 12) (b := 5) (nx := 244) (by decide +kernel) h0 ?_
        refine g_44 (a := 0) (b := 264) (nx := 247) (by decide +kernel) ?_
        refine g_7 (a := 0) (b := 0) (nx := 265) (by decide +kernel) rfl ?_
        refine g_13 (a := 0) (b := 0) (nx := 266) (by decide +kernel) rfl ?_
        refine g_50 (a := 12) (b := 3) (nx := 269) (by decide +kernel) h0 ?_
        refine g_5 (a := 2) (b := 0) (nx := 270) (by decide +kernel) rfl ?_
        refine g_15 (a := 0) (b := 0) (nx := 271) (by decide +kernel) ?_
        refine g_53 (a := 12) (b := 3) (nx := 274) (by decide +kernel) h0 ?_
        exact g_90 (a := 0) (b := 0) (nx := 275) (by decide +kernel) h
      · rw [if_neg c12] at h
        refine g_40f (a := 0) (b := 240) (nx := 236) (by decide +kernel) r11 (by exact fun hz => c12 ((cb_0 _ _).mp hz)) ?_
        refine g_1 (a := 4) (b := 0) (nx := 237) (by decide +kernel) ?_
        refine g_44 (a := 0) (b := 241) (nx := 240) (by decide +kernel) ?_
        refine g_53 (a := 12) (b := 5) (nx := 244) (by decide +kernel) h0 ?_
        refine g_44 (a := 0) (b := 264) (nx := 247) (by decide +kernel) ?_
        refine g_7 (a := 0) (b := 0) (nx := 265) (by decide +kernel) rfl ?_
        refine g_13 (a := 0) (b := 0) (nx := 266) (by decide +kernel) rfl ?_
        refine g_50 (a := 12) (b := 3) (nx := 269) (by decide +kernel) h0 ?_
        refine g_5 (a := 2) (b := 0) (nx := 270) (by decide +kernel) rfl ?_
        refine g_15 (a := 0) (b := 0) (nx := 271) (by decide +kernel) ?_
        refine g_53 (a := 12) (b := 3) (nx := 274) (by decide +kernel) h0 ?_
        exact g_90 (a := 0) (b := 0) (nx := 275) (by decide +kernel) h
  · rw [if_neg c18] at h
    refine g_40f (a := 0) (b := 219) (nx := 188) (by decide +kernel) r5 (by exact fun hz => c18 ((cb_0 _ _).mp hz)) ?_
    refine g_5 (a := 2) (b := 0) (nx := 189) (by decide +kernel) rfl ?_
    refine g_1 (a := 3) (b := 0) (nx := 190) (by decide +kernel) ?_
    obtain ⟨r14, h⟩ := h
    by_cases c17 : 3 ≤ x2
    · rw [if_pos c17] at h
      refine g_41t (a := 3) (b := 213) (nx := 193) (by decide +kernel) (by rw [wr_id r14, wr_id (show inR 3 by decide)]; exact (cb_3 _ _).mpr c17) ?_
      refine g_11 (a := 2) (b := 1) (nx := 216) (by decide +kernel) rfl rfl (ls' := [some (vR x0), some (vI x1), some (vI (x2 + 1))]) rfl ?_
      refine g_44 (a := 0) (b := 177) (nx := 219) (by decide +kernel) ?_
      exact h
    · rw [if_neg c17] at h
      refine g_41f (a := 3) (b := 213) (nx := 193) (by decide +kernel) (by rw [wr_id r14, wr_id (show inR 3 by decide)]; exact fun hz => c17 ((cb_3 _ _).mp hz)) ?_
      refine g_7 (a := 0) (b := 0) (nx := 194) (by decide +kernel) rfl ?_
      refine g_1 (a := 10) (b := 0) (nx := 196) (by decide +kernel) ?_
      refine g_7 (a := 0) (b := 0) (nx := 197) (by decide +kernel) rfl ?_
      refine g_50 (a := 12) (b := 6) (nx := 200) (by decide +kernel) h0 ?_
      refine g_17 (a := 0) (b := 0) (nx := 201) (by decide +kernel) ?_
      refine g_7 (a := 0) (b := 0) (nx := 202) (by decide +kernel) rfl ?_
      refine g_5 (a := 2) (b := 0) (nx := 203) (by decide +kernel) rfl ?_
      refine g_80 (a := 184) (b := 1) (nx := 206) (by decide +kernel) (r := x0) (As := [vI x2]) (st' := [vI (10 * (M3 x0 6)), vR x0]) (z := 184) rfl rfl rfl (Nat.le_of_ble_eq_true rfl) h0.2 (Nat.le_of_ble_eq_true rfl) rfl (c_I (by decide +kernel) h (fun y16 M15 h => ?_))
      refine g_15 (a := 0) (b := 0) (nx := 207) (by decide +kernel) ?_
      refine g_1 (a := 48) (b := 0) (nx := 209) (by decide +kernel) ?_
      refine g_16 (a := 0) (b := 0) (nx := 210) (by decide +kernel) ?_
      refine g_53 (a := 12) (b := 6) (nx := 213) (by decide +kernel) h0 ?_
      refine g_11 (a := 2) (b := 1) (nx := 216) (by decide +kernel) rfl rfl (ls' := [some (vR x0), some (vI x1), some (vI (x2 + 1))]) rfl ?_
      refine g_44 (a := 0) (b := 177) (nx := 219) (by decide +kernel) ?_
      exact h
-- 188 SyllableMakerModel.wrong(I)V
theorem t_188 {x0 x1 : Int} {M : Mem} {Q : AV → Mem → Prop} (h0 : gO 12 x0) (h : inR (M x0 8) ∧ (if (M x0 8) ≤ 0 then (inR (M x0 5) ∧ (if (M x0 5) = 4 then (Q (vI 0) (upM (upM M x0 8 1) x0 9 ((upM M x0 8 1) x0 4))) else (Q (vI 0) (upM (upM M x0 8 x1) x0 9 ((upM M x0 8 x1) x0 4))))) else (Q (vI 0) M))) : WC 188 [vR x0, vI x1] M Q := by
  show WR 188 0 [some (vR x0), some (vI x1)] [] M Q
  refine g_7 (a := 0) (b := 0) (nx := 1) (by decide +kernel) rfl ?_
  refine g_50 (a := 12) (b := 8) (nx := 4) (by decide +kernel) h0 ?_
  obtain ⟨r1, h⟩ := h
  by_cases c4 : (M x0 8) ≤ 0
  · rw [if_pos c4] at h
    refine g_40t (a := 5) (b := 8) (nx := 7) (by decide +kernel) r1 (by exact (cb_5 _ _).mpr c4) ?_
    refine g_7 (a := 0) (b := 0) (nx := 9) (by decide +kernel) rfl ?_
    refine g_7 (a := 0) (b := 0) (nx := 10) (by decide +kernel) rfl ?_
    refine g_50 (a := 12) (b := 5) (nx := 13) (by decide +kernel) h0 ?_
    refine g_1 (a := 4) (b := 0) (nx := 14) (by decide +kernel) ?_
    obtain ⟨r2, h⟩ := h
    by_cases c3 : (M x0 5) = 4
    · rw [if_pos c3] at h
      refine g_41f (a := 1) (b := 21) (nx := 17) (by decide +kernel) (by rw [wr_id r2, wr_id (show inR 4 by decide)]; exact fun hz => ((cb_1 _ _).mp hz) c3) ?_
      refine g_1 (a := 1) (b := 0) (nx := 18) (by decide +kernel) ?_
      refine g_44 (a := 0) (b := 22) (nx := 21) (by decide +kernel) ?_
      refine g_53 (a := 12) (b := 8) (nx := 25) (by decide +kernel) h0 ?_
      refine g_7 (a := 0) (b := 0) (nx := 26) (by decide +kernel) rfl ?_
      refine g_7 (a := 0) (b := 0) (nx := 27) (by decide +kernel) rfl ?_
      refine g_50 (a := 12) (b := 4) (nx := 30) (by decide +kernel) h0 ?_
      refine g_53 (a := 12) (b := 9) (nx := 33) (by decide +kernel) h0 ?_
      exact g_90 (a := 0) (b := 0) (nx := 34) (by decide +kernel) h
    · rw [if_neg c3] at h
      refine g_41t (a := 1) (b := 21) (nx := 17) (by decide +kernel) (by rw [wr_id r2, wr_id (show inR 4 by decide)]; exact (cb_1 _ _).mpr c3) ?_
      refine g_5 (a := 1) (b := 0) (nx := 22) (by decide +kernel) rfl ?_
      refine g_53 (a := 12) (b := 8) (nx := 25) (by decide +kernel) h0 ?_
      refine g_7 (a := 0) (b := 0) (nx := 26) (by decide +kernel) rfl ?_
      refine g_7 (a := 0) (b := 0) (nx := 27) (by decide +kernel) rfl ?_
      refine g_50 (a := 12) (b := 4) (nx := 30) (by decide +kernel) h0 ?_
      refine g_53 (a := 12) (b := 9) (nx := 33) (by decide +kernel) h0 ?_
      exact g_90 (a := 0) (b := 0) (nx := 34) (by decide +kernel) h
  · rw [if_neg c4] at h
    refine g_40f (a := 5) (b := 8) (nx := 7) (by decide +kernel) r1 (by exact fun hz => c4 ((cb_5 _ _).mp hz)) ?_
    exact g_90 (a := 0) (b := 0) (nx := 8) (by decide +kernel) h
-- 189 SyllableMakerModel.isGood()Z
theorem t_189 {x0 : Int} {M : Mem} {Q : AV → Mem → Prop} (h0 : gO 12 x0) (h : inR (M x0 8) ∧ (if (M x0 8) = 0 then (Q (vI 1) M) else (Q (vI 0) M))) : WC 189 [vR x0] M Q := by
  show WR 189 0 [some (vR x0)] [] M Q
  refine g_7 (a := 0) (b := 0) (nx := 1) (by decide +kernel) rfl ?_
  refine g_50 (a := 12) (b := 8) (nx := 4) (by decide +kernel) h0 ?_
  obtain ⟨r1, h⟩ := h
  by_cases c2 : (M x0 8) = 0
  · rw [if_pos c2] at h
    refine g_40f (a := 1) (b := 11) (nx := 7) (by decide +kernel) r1 (by exact fun hz => ((cb_1 _ _).mp hz) c2) ?_
    refine g_1 (a := 1) (b := 0) (nx := 8) (by decide +kernel) ?_
    refine g_44 (a := 0) (b := 12) (nx := 11) (by decide +kernel) ?_
    exact g_91z (b := 0) (nx := 13) (by decide +kernel) (by decide) h
  · rw [if_neg c2] at h
    refine g_40t (a := 1) (b := 11) (nx := 7) (by decide +kernel) r1 (by exact (cb_1 _ _).mpr c2) ?_
    refine g_1 (a := 0) (b := 0) (nx := 12) (by decide +kernel) ?_
    exact g_91z (b := 0) (nx := 13) (by decide +kernel) (by decide) h
-- 190 SyllableMakerModel.isWord(J)Z
theorem t_190 {x0 x1 : Int} {M : Mem} {Q : AV → Mem → Prop} (h0 : gO 12 x0) (h : inR (M x0 8) ∧ (if (M x0 8) = 0 then (inR (M x0 5) ∧ (if (M x0 5) = 1 then ((in64 (M x0 13) ∧ in64 x1) ∧ inR (if (M x0 13) < x1 then -1 else if (M x0 13) = x1 then 0 else 1) ∧ (if (if (M x0 13) < x1 then -1 else if (M x0 13) = x1 then 0 else 1) = 0 then (Q (vI 1) M) else (Q (vI 0) M))) else (Q (vI 0) M))) else (Q (vI 0) M))) : WC 190 [vR x0, vL x1] M Q := by
  show WR 190 0 [some (vR x0), some (vL x1), none] [] M Q
  refine g_7 (a := 0) (b := 0) (nx := 1) (by decide +kernel) rfl ?_
  refine g_50 (a := 12) (b := 8) (nx := 4) (by decide +kernel) h0 ?_
  obtain ⟨r1, h⟩ := h
  by_cases c6 : (M x0 8) = 0
  · rw [if_pos c6] at h
    refine g_40f (a := 1) (b := 28) (nx := 7) (by decide +kernel) r1 (by exact fun hz => ((cb_1 _ _).mp hz) c6) ?_
    refine g_7 (a := 0) (b := 0) (nx := 8) (by decide +kernel) rfl ?_
    refine g_50 (a := 12) (b := 5) (nx := 11) (by decide +kernel) h0 ?_
    refine g_1 (a := 1) (b := 0) (nx := 12) (by decide +kernel) ?_
    obtain ⟨r2, h⟩ := h
    by_cases c5 : (M x0 5) = 1
    · rw [if_pos c5] at h
      refine g_41f (a := 1) (b := 28) (nx := 15) (by decide +kernel) (by rw [wr_id r2, wr_id (show inR 1 by decide)]; exact fun hz => ((cb_1 _ _).mp hz) c5) ?_
      refine g_7 (a := 0) (b := 0) (nx := 16) (by decide +kernel) rfl ?_
      refine g_51 (a := 12) (b := 13) (nx := 19) (by decide +kernel) h0 ?_
      refine g_6 (a := 1) (b := 0) (nx := 20) (by decide +kernel) rfl ?_
      refine g_34 (a := 0) (b := 0) (nx := 21) (by decide +kernel) h.1 ?_
      replace h := h.2
      obtain ⟨r3, h⟩ := h
      by_cases c4 : (if (M x0 13) < x1 then -1 else if (M x0 13) = x1 then 0 else 1) = 0
      · rw [if_pos c4] at h
        refine g_40f (a := 1) (b := 28) (nx := 24) (by decide +kernel) r3 (by exact fun hz => ((cb_1 _ _).mp hz) c4) ?_
        refine g_1 (a := 1) (b := 0) (nx := 25) (by decide +kernel) ?_
        refine g_44 (a := 0) (b := 29) (nx := 28) (by decide +kernel) ?_
        exact g_91z (b := 0) (nx := 30) (by decide +kernel) (by decide) h
      · rw [if_neg c4] at h
        refine g_40t (a := 1) (b := 28) (nx := 24) (by decide +kernel) r3 (by exact (cb_1 _ _).mpr c4) ?_
        refine g_1 (a := 0) (b := 0) (nx := 29) (by decide +kernel) ?_
        exact g_91z (b := 0) (nx := 30) (by decide +kernel) (by decide) h
    · rw [if_neg c5] at h
      refine g_41t (a := 1) (b := 28) (nx := 15) (by decide +kernel) (by rw [wr_id r2, wr_id (show inR 1 by decide)]; exact (cb_1 _ _).mpr c5) ?_
      refine g_1 (a := 0) (b := 0) (nx := 29) (by decide +kernel) ?_
      exact g_91z (b := 0) (nx := 30) (by decide +kernel) (by decide) h
  · rw [if_neg c6] at h
    refine g_40t (a := 1) (b := 28) (nx := 7) (by decide +kernel) r1 (by exact (cb_1 _ _).mpr c6) ?_
    refine g_1 (a := 0) (b := 0) (nx := 29) (by decide +kernel) ?_
    exact g_91z (b := 0) (nx := 30) (by decide +kernel) (by decide) h
-- 191 SyllableMakerModel.must(I)V
theorem t_191 {x0 x1 : Int} {M : Mem} {Q : AV → Mem → Prop} (h0 : gO 12 x0) (h : inR (M x0 8) ∧ (if (M x0 8) ≤ 0 then (inR (M x0 5) ∧ (inR x1 ∧ (if (M x0 5) = x1 then (WV 187 [vR x0] M (fun M6 => Q (vI 0) M6)) else (WV 188 [vR x0, vI 2] M (fun M4 => Q (vI 0) M4))))) else (Q (vI 0) M))) : WC 191 [vR x0, vI x1] M Q := by
  show WR 191 0 [some (vR x0), some (vI x1)] [] M Q
  refine g_7 (a := 0) (b := 0) (nx := 1) (by decide +kernel) rfl ?_
  refine g_50 (a := 12) (b := 8) (nx := 4) (by decide +kernel) h0 ?_
  obtain ⟨r1, h⟩ := h
  by_cases c9 : (M x0 8) ≤ 0
  · rw [if_pos c9] at h
    refine g_40t (a := 5) (b := 8) (nx := 7) (by decide +kernel) r1 (by exact (cb_5 _ _).mpr c9) ?_
    refine g_7 (a := 0) (b := 0) (nx := 9) (by decide +kernel) rfl ?_
    refine g_50 (a := 12) (b := 5) (nx := 12) (by decide +kernel) h0 ?_
    refine g_5 (a := 1) (b := 0) (nx := 13) (by decide +kernel) rfl ?_
    obtain ⟨r2, h⟩ := h
    obtain ⟨r3, h⟩ := h
    by_cases c8 : (M x0 5) = x1
    · rw [if_pos c8] at h
      refine g_41f (a := 1) (b := 23) (nx := 16) (by decide +kernel) (by rw [wr_id r2, wr_id r3]; exact fun hz => ((cb_1 _ _).mp hz) c8) ?_
      refine g_7 (a := 0) (b := 0) (nx := 17) (by decide +kernel) rfl ?_
      refine g_80 (a := 187) (b := 0) (nx := 20) (by decide +kernel) (r := x0) (As := []) (st' := []) (z := 187) rfl rfl rfl (Nat.le_of_ble_eq_true rfl) h0.2 (Nat.le_of_ble_eq_true rfl) rfl (c_V (by decide +kernel) h (fun M6 h => ?_))
      refine g_44 (a := 0) (b := 28) (nx := 23) (by decide +kernel) ?_
      exact g_90 (a := 0) (b := 0) (nx := 29) (by decide +kernel) h
    · rw [if_neg c8] at h
      refine g_41t (a := 1) (b := 23) (nx := 16) (by decide +kernel) (by rw [wr_id r2, wr_id r3]; exact (cb_1 _ _).mpr c8) ?_
      refine g_7 (a := 0) (b := 0) (nx := 24) (by decide +kernel) rfl ?_
      refine g_1 (a := 2) (b := 0) (nx := 25) (by decide +kernel) ?_
      refine g_80 (a := 188) (b := 1) (nx := 28) (by decide +kernel) (r := x0) (As := [vI 2]) (st' := []) (z := 188) rfl rfl rfl (Nat.le_of_ble_eq_true rfl) h0.2 (Nat.le_of_ble_eq_true rfl) rfl (c_V (by decide +kernel) h (fun M4 h => ?_))
      exact g_90 (a := 0) (b := 0) (nx := 29) (by decide +kernel) h
  · rw [if_neg c9] at h
    refine g_40f (a := 5) (b := 8) (nx := 7) (by decide +kernel) r1 (by exact fun hz => c9 ((cb_5 _ _).mp hz)) ?_
    exact g_90 (a := 0) (b := 0) (nx := 8) (by decide +kernel) h
-- 192 SyllableMakerModel.number(II)I
theorem t_192 {x0 x1 x2 : Int} {M : Mem} {Q : AV → Mem → Prop} (h0 : gO 12 x0) (h : WI 189 [vR x0] M (fun y2 M1 => inR y2 ∧ (if y2 = 0 then (WI 189 [vR x0] M1 (fun y5 M4 => inR y5 ∧ (if y5 = 0 then (WI 189 [vR x0] M4 (fun y8 M7 => inR y8 ∧ (if y8 = 0 then (Q (vI (M1 x0 6)) M7) else (WV 187 [vR x0] M7 (fun M10 => Q (vI (M1 x0 6)) M10))))) else (WI 177 [vL (wr32 (M1 x0 6)), vL (wr32 x1), vL (wr32 x2)] M4 (fun y14 M13 => inR y14 ∧ (if y14 = 0 then (WV 188 [vR x0, vI 4] M13 (fun M22 => WI 189 [vR x0] M22 (fun y25 M24 => inR y25 ∧ (if y25 = 0 then (Q (vI (M1 x0 6)) M24) else (WV 187 [vR x0] M24 (fun M27 => Q (vI (M1 x0 6)) M27)))))) else (WI 189 [vR x0] M13 (fun y17 M16 => inR y17 ∧ (if y17 = 0 then (Q (vI (M1 x0 6)) M16) else (WV 187 [vR x0] M16 (fun M19 => Q (vI (M1 x0 6)) M19))))))))))) else (inR (M1 x0 5) ∧ (if (M1 x0 5) = 2 then (WI 189 [vR x0] M1 (fun y34 M33 => inR y34 ∧ (if y34 = 0 then (WI 189 [vR x0] M33 (fun y37 M36 => inR y37 ∧ (if y37 = 0 then (Q (vI (M1 x0 6)) M36) else (WV 187 [vR x0] M36 (fun M39 => Q (vI (M1 x0 6)) M39))))) else (WI 177 [vL (wr32 (M1 x0 6)), vL (wr32 x1), vL (wr32 x2)] M33 (fun y43 M42 => inR y43 ∧ (if y43 = 0 then (WV 188 [vR x0, vI 4] M42 (fun M51 => WI 189 [vR x0] M51 (fun y54 M53 => inR y54 ∧ (if y54 = 0 then (Q (vI (M1 x0 6)) M53) else (WV 187 [vR x0] M53 (fun M56 => Q (vI (M1 x0 6)) M56)))))) else (WI 189 [vR x0] M42 (fun y46 M45 => inR y46 ∧ (if y46 = 0 then (Q (vI (M1 x0 6)) M45) else (WV 187 [vR x0] M45 (fun M48 => Q (vI (M1 x0 6)) M48))))))))))) else (WV 188 [vR x0, vI 2] M1 (fun M61 => WI 189 [vR x0] M61 (fun y64 M63 => inR y64 ∧ (if y64 = 0 then (WI 189 [vR x0] M63 (fun y67 M66 => inR y67 ∧ (if y67 = 0 then (Q (vI (M61 x0 6)) M66) else (WV 187 [vR x0] M66 (fun M69 => Q (vI (M61 x0 6)) M69))))) else (WI 177 [vL (wr32 (M61 x0 6)), vL (wr32 x1), vL (wr32 x2)] M63 (fun y73 M72 => inR y73 ∧ (if y73 = 0 then (WV 188 [vR x0, vI 4] M72 (fun M81 => WI 189 [vR x0] M81 (fun y84 M83 => inR y84 ∧ (if y84 = 0 then (Q (vI (M61 x0 6)) M83) else (WV 187 [vR x0] M83 (fun M86 => Q (vI (M61 x0 6)) M86)))))) else (WI 189 [vR x0] M72 (fun y76 M75 => inR y76 ∧ (if y76 = 0 then (Q (vI (M61 x0 6)) M75) else (WV 187 [vR x0] M75 (fun M78 => Q (vI (M61 x0 6)) M78))))))))))))))))) : WC 192 [vR x0, vI x1, vI x2] M Q := by
  show WR 192 0 [some (vR x0), some (vI x1), some (vI x2), none] [] M Q
  refine g_7 (a := 0) (b := 0) (nx := 1) (by decide +kernel) rfl ?_
  refine g_80 (a := 189) (b := 0) (nx := 4) (by decide +kernel) (r := x0) (As := []) (st' := []) (z := 189) rfl rfl rfl (Nat.le_of_ble_eq_true rfl) h0.2 (Nat.le_of_ble_eq_true rfl) rfl (c_I (by decide +kernel) h (fun y2 M1 h => ?_))
  obtain ⟨r3, h⟩ := h
  by_cases c92 : y2 = 0
  · rw [if_pos c92] at h
    refine g_40t (a := 0) (b := 20) (nx := 7) (by decide +kernel) r3 (by exact (cb_0 _ _).mpr c92) ?_
    refine g_7 (a := 0) (b := 0) (nx := 21) (by decide +kernel) rfl ?_
    refine g_50 (a := 12) (b := 6) (nx := 24) (by decide +kernel) h0 ?_
    refine g_8 (a := 3) (b := 0) (nx := 25) (by decide +kernel) rfl (ls' := [some (vR x0), some (vI x1), some (vI x2), some (vI (M1 x0 6))]) rfl ?_
    refine g_7 (a := 0) (b := 0) (nx := 26) (by decide +kernel) rfl ?_
    refine g_80 (a := 189) (b := 0) (nx := 29) (by decide +kernel) (r := x0) (As := []) (st' := []) (z := 189) rfl rfl rfl (Nat.le_of_ble_eq_true rfl) h0.2 (Nat.le_of_ble_eq_true rfl) rfl (c_I (by decide +kernel) h (fun y5 M4 h => ?_))
    obtain ⟨r6, h⟩ := h
    by_cases c31 : y5 = 0
    · rw [if_pos c31] at h
      refine g_40t (a := 0) (b := 49) (nx := 32) (by decide +kernel) r6 (by exact (cb_0 _ _).mpr c31) ?_
      refine g_7 (a := 0) (b := 0) (nx := 50) (by decide +kernel) rfl ?_
      refine g_80 (a := 189) (b := 0) (nx := 53) (by decide +kernel) (r := x0) (As := []) (st' := []) (z := 189) rfl rfl rfl (Nat.le_of_ble_eq_true rfl) h0.2 (Nat.le_of_ble_eq_true rfl) rfl (c_I (by decide +kernel) h (fun y8 M7 h => ?_))
      obtain ⟨r9, h⟩ := h
      by_cases c12 : y8 = 0
      · rw [if_pos c12] at h
        refine g_40t (a := 0) (b := 60) (nx := 56) (by decide +kernel) r9 (by exact (cb_0 _ _).mpr c12) ?_
        refine g_5 (a := 3) (b := 0) (nx := 61) (by decide +kernel) rfl ?_
        exact g_91 (b := 0) (nx := 62) (by decide +kernel) h
      · rw [if_neg c12] at h
        refine g_40f (a := 0) (b := 60) (nx := 56) (by decide +kernel) r9 (by exact fun hz => c12 ((cb_0 _ _).mp hz)) ?_
        refine g_7 (a := 0) (b := 0) (nx := 57) (by decide +kernel) rfl ?_
        refine g_80 (a := 187) (b := 0) (nx := 60) (by decide +kernel) (r := x0) (As := []) (st' := []) (z := 187) rfl rfl rfl (Nat.le_of_ble_eq_true rfl) h0.2 (Nat.le_of_ble_eq_true rfl) rfl (c_V (by decide +kernel) h (fun M10 h => ?_))
        refine g_5 (a := 3) (b := 0) (nx := 61) (by decide +kernel) rfl ?_
        exact g_91 (b := 0) (nx := 62) (by decide +kernel) h
    · rw [if_neg c31] at h
      refine g_40f (a := 0) (b := 49) (nx := 32) (by decide +kernel) r6 (by exact fun hz => c31 ((cb_0 _ _).mp hz)) ?_
      refine g_5 (a := 3) (b := 0) (nx := 33) (by decide +kernel) rfl ?_
      refine g_35 (a := 0) (b := 0) (nx := 34) (by decide +kernel) ?_
      refine g_5 (a := 1) (b := 0) (nx := 35) (by decide +kernel) rfl ?_
      refine g_35 (a := 0) (b := 0) (nx := 36) (by decide +kernel) ?_
      refine g_5 (a := 2) (b := 0) (nx := 37) (by decide +kernel) rfl ?_
      refine g_35 (a := 0) (b := 0) (nx := 38) (by decide +kernel) ?_
      refine g_82 (a := 177) (b := 3) (nx := 41) (by decide +kernel) (As := [vL (wr32 (M1 x0 6)), vL (wr32 x1), vL (wr32 x2)]) (st' := []) (z := 177) rfl rfl rfl (Nat.le_of_ble_eq_true rfl) (Nat.le_of_ble_eq_true rfl) rfl (c_I (by decide +kernel) h (fun y14 M13 h => ?_))
      obtain ⟨r15, h⟩ := h
      by_cases c30 : y14 = 0
      · rw [if_pos c30] at h
        refine g_40f (a := 1) (b := 49) (nx := 44) (by decide +kernel) r15 (by exact fun hz => ((cb_1 _ _).mp hz) c30) ?_
        refine g_7 (a := 0) (b := 0) (nx := 45) (by decide +kernel) rfl ?_
        refine g_1 (a := 4) (b := 0) (nx := 46) (by decide +kernel) ?_
        refine g_80 (a := 188) (b := 1) (nx := 49) (by decide +kernel) (r := x0) (As := [vI 4]) (st' := []) (z := 188) rfl rfl rfl (Nat.le_of_ble_eq_true rfl) h0.2 (Nat.le_of_ble_eq_true rfl) rfl (c_V (by decide +kernel) h (fun M22 h => ?_))
        refine g_7 (a := 0) (b := 0) (nx := 50) (by decide +kernel) rfl ?_
        refine g_80 (a := 189) (b := 0) (nx := 53) (by decide +kernel) (r := x0) (As := []) (st' := []) (z := 189) rfl rfl rfl (Nat.le_of_ble_eq_true rfl) h0.2 (Nat.le_of_ble_eq_true rfl) rfl (c_I (by decide +kernel) h (fun y25 M24 h => ?_))
        obtain ⟨r26, h⟩ := h
        by_cases c29 : y25 = 0
        · rw [if_pos c29] at h
          refine g_40t (a := 0) (b := 60) (nx := 56) (by decide +kernel) r26 (by exact (cb_0 _ _).mpr c29) ?_
          refine g_5 (a := 3) (b := 0) (nx := 61) (by decide +kernel) rfl ?_
          exact g_91 (b := 0) (nx := 62) (by decide +kernel) h
        · rw [if_neg c29] at h
          refine g_40f (a := 0) (b := 60) (nx := 56) (by decide +kernel) r26 (by exact fun hz => c29 ((cb_0 _ _).mp hz)) ?_
          refine g_7 (a := 0) (b := 0) (nx := 57) (by decide +kernel) rfl ?_
          refine g_80 (a := 187) (b := 0) (nx := 60) (by decide +kernel) (r := x0) (As := []) (st' := []) (z := 187) rfl rfl rfl (Nat.le_of_ble_eq_true rfl) h0.2 (Nat.le_of_ble_eq_true rfl) rfl (c_V (by decide +kernel) h (fun M27 h => ?_))
          refine g_5 (a := 3) (b := 0) (nx := 61) (by decide +kernel) rfl ?_
          exact g_91 (b := 0) (nx := 62) (by decide +kernel) h
      · rw [if_neg c30] at h
        refine g_40t (a := 1) (b := 49) (nx := 44) (by decide +kernel) r15 (by exact (cb_1 _ _).mpr c30) ?_
        refine g_7 (a := 0) (b := 0) (nx := 50) (by decide +kernel) rfl ?_
        refine g_80 (a := 189) (b := 0) (nx := 53) (by decide +kernel) (r := x0) (As := []) (st' := []) (z := 189) rfl rfl rfl (Nat.le_of_ble_eq_true rfl) h0.2 (Nat.le_of_ble_eq_true rfl) rfl (c_I (by decide +kernel) h (fun y17 M16 h => ?_))
        obtain ⟨r18, h⟩ := h
        by_cases c21 : y17 = 0
        · rw [if_pos c21] at h
          refine g_40t (a := 0) (b := 60) (nx := 56) (by decide +kernel) r18 (by exact (cb_0 _ _).mpr c21) ?_
          refine g_5 (a := 3) (b := 0) (nx := 61) (by decide +kernel) rfl ?_
          exact g_91 (b := 0) (nx := 62) (by decide +kernel) h
        · rw [if_neg c21] at h
          refine g_40f (a := 0) (b := 60) (nx := 56) (by decide +kernel) r18 (by exact fun hz => c21 ((cb_0 _ _).mp hz)) ?_
          refine g_7 (a := 0) (b := 0) (nx := 57) (by decide +kernel) rfl ?_
          refine g_80 (a := 187) (b := 0) (nx := 60) (by decide +kernel) (r := x0) (As := []) (st' := []) (z := 187) rfl rfl rfl (Nat.le_of_ble_eq_true rfl) h0.2 (Nat.le_of_ble_eq_true rfl) rfl (c_V (by decide +kernel) h (fun M19 h => ?_))
          refine g_5 (a := 3) (b := 0) (nx := 61) (by decide +kernel) rfl ?_
          exact g_91 (b := 0) (nx := 62) (by decide +kernel) h
  · rw [if_neg c92] at h
    refine g_40f (a := 0) (b := 20) (nx := 7) (by decide +kernel) r3 (by exact fun hz => c92 ((cb_0 _ _).mp hz)) ?_
    refine g_7 (a := 0) (b := 0) (nx := 8) (by decide +kernel) rfl ?_
    refine g_50 (a := 12) (b := 5) (nx := 11) (by decide +kernel) h0 ?_
    refine g_1 (a := 2) (b := 0) (nx := 12) (by decide +kernel) ?_
    obtain ⟨r32, h⟩ := h
    by_cases c91 : (M1 x0 5) = 2
    · rw [if_pos c91] at h
      refine g_41t (a := 0) (b := 20) (nx := 15) (by decide +kernel) (by rw [wr_id r32, wr_id (show inR 2 by decide)]; exact (cb_0 _ _).mpr c91) ?_
      refine g_7 (a := 0) (b := 0) (nx := 21) (by decide +kernel) rfl ?_
      refine g_50 (a := 12) (b := 6) (nx := 24) (by decide +kernel) h0 ?_
      refine g_8 (a := 3) (b := 0) (nx := 25) (by decide +kernel) rfl (ls' := [some (vR x0), some (vI x1), some (vI x2), some (vI (M1 x0 6))]) rfl ?_
      refine g_7 (a := 0) (b := 0) (nx := 26) (by decide +kernel) rfl ?_
      refine g_80 (a := 189) (b := 0) (nx := 29) (by decide +kernel) (r := x0) (As := []) (st' := []) (z := 189) rfl rfl rfl (Nat.le_of_ble_eq_true rfl) h0.2 (Nat.le_of_ble_eq_true rfl) rfl (c_I (by decide +kernel) h (fun y34 M33 h => ?_))
      obtain ⟨r35, h⟩ := h
      by_cases c60 : y34 = 0
      · rw [if_pos c60] at h
        refine g_40t (a := 0) (b := 49) (nx := 32) (by decide +kernel) r35 (by exact (cb_0 _ _).mpr c60) ?_
        refine g_7 (a := 0) (b := 0) (nx := 50) (by decide +kernel) rfl ?_
        refine g_80 (a := 189) (b := 0) (nx := 53) (by decide +kernel) (r := x0) (As := []) (st' := []) (z := 189) rfl rfl rfl (Nat.le_of_ble_eq_true rfl) h0.2 (Nat.le_of_ble_eq_true rfl) rfl (c_I (by decide +kernel) h (fun y37 M36 h => ?_))
        obtain ⟨r38, h⟩ := h
        by_cases c41 : y37 = 0
        · rw [if_pos c41] at h
          refine g_40t (a := 0) (b := 60) (nx := 56) (by decide +kernel) r38 (by exact (cb_0 _ _).mpr c41) ?_
          refine g_5 (a := 3) (b := 0) (nx := 61) (by decide +kernel) rfl ?_
          exact g_91 (b := 0) (nx := 62) (by decide +kernel) h
        · rw [if_neg c41] at h
          refine g_40f (a := 0) (b := 60) (nx := 56) (by decide +kernel) r38 (by exact fun hz => c41 ((cb_0 _ _).mp hz)) ?_
          refine g_7 (a := 0) (b := 0) (nx := 57) (by decide +kernel) rfl ?_
          refine g_80 (a := 187) (b := 0) (nx := 60) (by decide +kernel) (r := x0) (As := []) (st' := []) (z := 187) rfl rfl rfl (Nat.le_of_ble_eq_true rfl) h0.2 (Nat.le_of_ble_eq_true rfl) rfl (c_V (by decide +kernel) h (fun M39 h => ?_))
          refine g_5 (a := 3) (b := 0) (nx := 61) (by decide +kernel) rfl ?_
          exact g_91 (b := 0) (nx := 62) (by decide +kernel) h
      · rw [if_neg c60] at h
        refine g_40f (a := 0) (b := 49) (nx := 32) (by decide +kernel) r35 (by exact fun hz => c60 ((cb_0 _ _).mp hz)) ?_
        refine g_5 (a := 3) (b := 0) (nx := 33) (by decide +kernel) rfl ?_
        refine g_35 (a := 0) (b := 0) (nx := 34) (by decide +kernel) ?_
        refine g_5 (a := 1) (b := 0) (nx := 35) (by decide +kernel) rfl ?_
        refine g_35 (a := 0) (b := 0) (nx := 36) (by decide +kernel) ?_
        refine g_5 (a := 2) (b := 0) (nx := 37) (by decide +kernel) rfl ?_
        refine g_35 (a := 0) (b := 0) (nx := 38) (by decide +kernel) ?_
        refine g_82 (a := 177) (b := 3) (nx := 41) (by decide +kernel) (As := [vL (wr32 (M1 x0 6)), vL (wr32 x1), vL (wr32 x2)]) (st' := []) (z := 177) rfl rfl rfl (Nat.le_of_ble_eq_true rfl) (Nat.le_of_ble_eq_true rfl) rfl (c_I (by decide +kernel) h (fun y43 M42 h => ?_))
        obtain ⟨r44, h⟩ := h
        by_cases c59 : y43 = 0
        · rw [if_pos c59] at h
          refine g_40f (a := 1) (b := 49) (nx := 44) (by decide +kernel) r44 (by exact fun hz => ((cb_1 _ _).mp hz) c59) ?_
          refine g_7 (a := 0) (b := 0) (nx := 45) (by decide +kernel) rfl ?_
          refine g_1 (a := 4) (b := 0) (nx := 46) (by decide +kernel) ?_
          refine g_80 (a := 188) (b := 1) (nx := 49) (by decide +kernel) (r := x0) (As := [vI 4]) (st' := []) (z := 188) rfl rfl rfl (Nat.le_of_ble_eq_true rfl) h0.2 (Nat.le_of_ble_eq_true rfl) rfl (c_V (by decide +kernel) h (fun M51 h => ?_))
          refine g_7 (a := 0) (b := 0) (nx := 50) (by decide +kernel) rfl ?_
          refine g_80 (a := 189) (b := 0) (nx := 53) (by decide +kernel) (r := x0) (As := []) (st' := []) (z := 189) rfl rfl rfl (Nat.le_of_ble_eq_true rfl) h0.2 (Nat.le_of_ble_eq_true rfl) rfl (c_I (by decide +kernel) h (fun y54 M53 h => ?_))
          obtain ⟨r55, h⟩ := h
          by_cases c58 : y54 = 0
          · rw [if_pos c58] at h
            refine g_40t (a := 0) (b := 60) (nx := 56) (by decide +kernel) r55 (by exact (cb_0 _ _).mpr c58) ?_
            refine g_5 (a := 3) (b := 0) (nx := 61) (by decide +kernel) rfl ?_
            exact g_91 (b := 0) (nx := 62) (by decide +kernel) h
          · rw [if_neg c58] at h
            refine g_40f (a := 0) (b := 60) (nx := 56) (by decide +kernel) r55 (by exact fun hz => c58 ((cb_0 _ _).mp hz)) ?_
            refine g_7 (a := 0) (b := 0) (nx := 57) (by decide +kernel) rfl ?_
            refine g_80 (a := 187) (b := 0) (nx := 60) (by decide +kernel) (r := x0) (As := []) (st' := []) (z := 187) rfl rfl rfl (Nat.le_of_ble_eq_true rfl) h0.2 (Nat.le_of_ble_eq_true rfl) rfl (c_V (by decide +kernel) h (fun M56 h => ?_))
            refine g_5 (a := 3) (b := 0) (nx := 61) (by decide +kernel) rfl ?_
            exact g_91 (b := 0) (nx := 62) (by decide +kernel) h
        · rw [if_neg c59] at h
          refine g_40t (a := 1) (b := 49) (nx := 44) (by decide +kernel) r44 (by exact (cb_1 _ _).mpr c59) ?_
          refine g_7 (a := 0) (b := 0) (nx := 50) (by decide +kernel) rfl ?_
          refine g_80 (a := 189) (b := 0) (nx := 53) (by decide +kernel) (r := x0) (As := []) (st' := []) (z := 189) rfl rfl rfl (Nat.le_of_ble_eq_true rfl) h0.2 (Nat.le_of_ble_eq_true rfl) rfl (c_I (by decide +kernel) h (fun y46 M45 h => ?_))
          obtain ⟨r47, h⟩ := h
          by_cases c50 : y46 = 0
          · rw [if_pos c50] at h
            refine g_40t (a := 0) (b := 60) (nx := 56) (by decide +kernel) r47 (by exact (cb_0 _ _).mpr c50) ?_
            refine g_5 (a := 3) (b := 0) (nx := 61) (by decide +kernel) rfl ?_
            exact g_91 (b := 0) (nx := 62) (by decide +kernel) h
          · rw [if_neg c50] at h
            refine g_40f (a := 0) (b := 60) (nx := 56) (by decide +kernel) r47 (by exact fun hz => c50 ((cb_0 _ _).mp hz)) ?_
            refine g_7 (a := 0) (b := 0) (nx := 57) (by decide +kernel) rfl ?_
            refine g_80 (a := 187) (b := 0) (nx := 60) (by decide +kernel) (r := x0) (As := []) (st' := []) (z := 187) rfl rfl rfl (Nat.le_of_ble_eq_true rfl) h0.2 (Nat.le_of_ble_eq_true rfl) rfl (c_V (by decide +kernel) h (fun M48 h => ?_))
            refine g_5 (a := 3) (b := 0) (nx := 61) (by decide +kernel) rfl ?_
            exact g_91 (b := 0) (nx := 62) (by decide +kernel) h
    · rw [if_neg c91] at h
      refine g_41f (a := 0) (b := 20) (nx := 15) (by decide +kernel) (by rw [wr_id r32, wr_id (show inR 2 by decide)]; exact fun hz => c91 ((cb_0 _ _).mp hz)) ?_
      refine g_7 (a := 0) (b := 0) (nx := 16) (by decide +kernel) rfl ?_
      refine g_1 (a := 2) (b := 0) (nx := 17) (by decide +kernel) ?_
      refine g_80 (a := 188) (b := 1) (nx := 20) (by decide +kernel) (r := x0) (As := [vI 2]) (st' := []) (z := 188) rfl rfl rfl (Nat.le_of_ble_eq_true rfl) h0.2 (Nat.le_of_ble_eq_true rfl) rfl (c_V (by decide +kernel) h (fun M61 h => ?_))
      refine g_7 (a := 0) (b := 0) (nx := 21) (by decide +kernel) rfl ?_
      refine g_50 (a := 12) (b := 6) (nx := 24) (by decide +kernel) h0 ?_
      refine g_8 (a := 3) (b := 0) (nx := 25) (by decide +kernel) rfl (ls' := [some (vR x0), some (vI x1), some (vI x2), some (vI (M61 x0 6))]) rfl ?_
      refine g_7 (a := 0) (b := 0) (nx := 26) (by decide +kernel) rfl ?_
      refine g_80 (a := 189) (b := 0) (nx := 29) (by decide +kernel) (r := x0) (As := []) (st' := []) (z := 189) rfl rfl rfl (Nat.le_of_ble_eq_true rfl) h0.2 (Nat.le_of_ble_eq_true rfl) rfl (c_I (by decide +kernel) h (fun y64 M63 h => ?_))
      obtain ⟨r65, h⟩ := h
      by_cases c90 : y64 = 0
      · rw [if_pos c90] at h
        refine g_40t (a := 0) (b := 49) (nx := 32) (by decide +kernel) r65 (by exact (cb_0 _ _).mpr c90) ?_
        refine g_7 (a := 0) (b := 0) (nx := 50) (by decide +kernel) rfl ?_
        refine g_80 (a := 189) (b := 0) (nx := 53) (by decide +kernel) (r := x0) (As := []) (st' := []) (z := 189) rfl rfl rfl (Nat.le_of_ble_eq_true rfl) h0.2 (Nat.le_of_ble_eq_true rfl) rfl (c_I (by decide +kernel) h (fun y67 M66 h => ?_))
        obtain ⟨r68, h⟩ := h
        by_cases c71 : y67 = 0
        · rw [if_pos c71] at h
          refine g_40t (a := 0) (b := 60) (nx := 56) (by decide +kernel) r68 (by exact (cb_0 _ _).mpr c71) ?_
          refine g_5 (a := 3) (b := 0) (nx := 61) (by decide +kernel) rfl ?_
          exact g_91 (b := 0) (nx := 62) (by decide +kernel) h
        · rw [if_neg c71] at h
          refine g_40f (a := 0) (b := 60) (nx := 56) (by decide +kernel) r68 (by exact fun hz => c71 ((cb_0 _ _).mp hz)) ?_
          refine g_7 (a := 0) (b := 0) (nx := 57) (by decide +kernel) rfl ?_
          refine g_80 (a := 187) (b := 0) (nx := 60) (by decide +kernel) (r := x0) (As := []) (st' := []) (z := 187) rfl rfl rfl (Nat.le_of_ble_eq_true rfl) h0.2 (Nat.le_of_ble_eq_true rfl) rfl (c_V (by decide +kernel) h (fun M69 h => ?_))
          refine g_5 (a := 3) (b := 0) (nx := 61) (by decide +kernel) rfl ?_
          exact g_91 (b := 0) (nx := 62) (by decide +kernel) h
      · rw [if_neg c90] at h
        refine g_40f (a := 0) (b := 49) (nx := 32) (by decide +kernel) r65 (by exact fun hz => c90 ((cb_0 _ _).mp hz)) ?_
        refine g_5 (a := 3) (b := 0) (nx := 33) (by decide +kernel) rfl ?_
        refine g_35 (a := 0) (b := 0) (nx := 34) (by decide +kernel) ?_
        refine g_5 (a := 1) (b := 0) (nx := 35) (by decide +kernel) rfl ?_
        refine g_35 (a := 0) (b := 0) (nx := 36) (by decide +kernel) ?_
        refine g_5 (a := 2) (b := 0) (nx := 37) (by decide +kernel) rfl ?_
        refine g_35 (a := 0) (b := 0) (nx := 38) (by decide +kernel) ?_
        refine g_82 (a := 177) (b := 3) (nx := 41) (by decide +kernel) (As := [vL (wr32 (M61 x0 6)), vL (wr32 x1), vL (wr32 x2)]) (st' := []) (z := 177) rfl rfl rfl (Nat.le_of_ble_eq_true rfl) (Nat.le_of_ble_eq_true rfl) rfl (c_I (by decide +kernel) h (fun y73 M72 h => ?_))
        obtain ⟨r74, h⟩ := h
        by_cases c89 : y73 = 0
        · rw [if_pos c89] at h
          refine g_40f (a := 1) (b := 49) (nx := 44) (by decide +kernel) r74 (by exact fun hz => ((cb_1 _ _).mp hz) c89) ?_
          refine g_7 (a := 0) (b := 0) (nx := 45) (by decide +kernel) rfl ?_
          refine g_1 (a := 4) (b := 0) (nx := 46) (by decide +kernel) ?_
          refine g_80 (a := 188) (b := 1) (nx := 49) (by decide +kernel) (r := x0) (As := [vI 4]) (st' := []) (z := 188) rfl rfl rfl (Nat.le_of_ble_eq_true rfl) h0.2 (Nat.le_of_ble_eq_true rfl) rfl (c_V (by decide +kernel) h (fun M81 h => ?_))
          refine g_7 (a := 0) (b := 0) (nx := 50) (by decide +kernel) rfl ?_
          refine g_80 (a := 189) (b := 0) (nx := 53) (by decide +kernel) (r := x0) (As := []) (st' := []) (z := 189) rfl rfl rfl (Nat.le_of_ble_eq_true rfl) h0.2 (Nat.le_of_ble_eq_true rfl) rfl (c_I (by decide +kernel) h (fun y84 M83 h => ?_))
          obtain ⟨r85, h⟩ := h
          by_cases c88 : y84 = 0
          · rw [if_pos c88] at h
            refine g_40t (a := 0) (b := 60) (nx := 56) (by decide +kernel) r85 (by exact (cb_0 _ _).mpr c88) ?_
            refine g_5 (a := 3) (b := 0) (nx := 61) (by decide +kernel) rfl ?_
            exact g_91 (b := 0) (nx := 62) (by decide +kernel) h
          · rw [if_neg c88] at h
            refine g_40f (a := 0) (b := 60) (nx := 56) (by decide +kernel) r85 (by exact fun hz => c88 ((cb_0 _ _).mp hz)) ?_
            refine g_7 (a := 0) (b := 0) (nx := 57) (by decide +kernel) rfl ?_
            refine g_80 (a := 187) (b := 0) (nx := 60) (by decide +kernel) (r := x0) (As := []) (st' := []) (z := 187) rfl rfl rfl (Nat.le_of_ble_eq_true rfl) h0.2 (Nat.le_of_ble_eq_true rfl) rfl (c_V (by decide +kernel) h (fun M86 h => ?_))
            refine g_5 (a := 3) (b := 0) (nx := 61) (by decide +kernel) rfl ?_
            exact g_91 (b := 0) (nx := 62) (by decide +kernel) h
        · rw [if_neg c89] at h
          refine g_40t (a := 1) (b := 49) (nx := 44) (by decide +kernel) r74 (by exact (cb_1 _ _).mpr c89) ?_
          refine g_7 (a := 0) (b := 0) (nx := 50) (by decide +kernel) rfl ?_
          refine g_80 (a := 189) (b := 0) (nx := 53) (by decide +kernel) (r := x0) (As := []) (st' := []) (z := 189) rfl rfl rfl (Nat.le_of_ble_eq_true rfl) h0.2 (Nat.le_of_ble_eq_true rfl) rfl (c_I (by decide +kernel) h (fun y76 M75 h => ?_))
          obtain ⟨r77, h⟩ := h
          by_cases c80 : y76 = 0
          · rw [if_pos c80] at h
            refine g_40t (a := 0) (b := 60) (nx := 56) (by decide +kernel) r77 (by exact (cb_0 _ _).mpr c80) ?_
            refine g_5 (a := 3) (b := 0) (nx := 61) (by decide +kernel) rfl ?_
            exact g_91 (b := 0) (nx := 62) (by decide +kernel) h
          · rw [if_neg c80] at h
            refine g_40f (a := 0) (b := 60) (nx := 56) (by decide +kernel) r77 (by exact fun hz => c80 ((cb_0 _ _).mp hz)) ?_
            refine g_7 (a := 0) (b := 0) (nx := 57) (by decide +kernel) rfl ?_
            refine g_80 (a := 187) (b := 0) (nx := 60) (by decide +kernel) (r := x0) (As := []) (st' := []) (z := 187) rfl rfl rfl (Nat.le_of_ble_eq_true rfl) h0.2 (Nat.le_of_ble_eq_true rfl) rfl (c_V (by decide +kernel) h (fun M78 h => ?_))
            refine g_5 (a := 3) (b := 0) (nx := 61) (by decide +kernel) rfl ?_
            exact g_91 (b := 0) (nx := 62) (by decide +kernel) h
-- 193 SyllableMakerModel.plainly()V
theorem t_193 {x0 : Int} {M : Mem} {Q : AV → Mem → Prop} (h0 : gO 12 x0) (h : WR 193 67 [some (vR x0), some (vI 0)] [] (upM (upM (upM (upM (upM (upM (upM (upM (upM (upM (upM (upM (upM M x0 14 0) x0 15 0) x0 16 0) x0 17 0) x0 18 (-1)) x0 19 4) x0 20 0) x0 21 (-1)) x0 22 1) x0 23 2) x0 24 0) x0 25 0) x0 26 0) Q) : WC 193 [vR x0] M Q := by
  show WR 193 0 [some (vR x0), none] [] M Q
  refine g_7 (a := 0) (b := 0) (nx := 1) (by decide +kernel) rfl ?_
  refine g_1 (a := 0) (b := 0) (nx := 2) (by decide +kernel) ?_
  refine g_53 (a := 12) (b := 14) (nx := 5) (by decide +kernel) h0 ?_
  refine g_7 (a := 0) (b := 0) (nx := 6) (by decide +kernel) rfl ?_
  refine g_1 (a := 0) (b := 0) (nx := 7) (by decide +kernel) ?_
  refine g_53 (a := 12) (b := 15) (nx := 10) (by decide +kernel) h0 ?_
  refine g_7 (a := 0) (b := 0) (nx := 11) (by decide +kernel) rfl ?_
  refine g_1 (a := 0) (b := 0) (nx := 12) (by decide +kernel) ?_
  refine g_53 (a := 12) (b := 16) (nx := 15) (by decide +kernel) h0 ?_
  refine g_7 (a := 0) (b := 0) (nx := 16) (by decide +kernel) rfl ?_
  refine g_1 (a := 0) (b := 0) (nx := 17) (by decide +kernel) ?_
  refine g_53 (a := 12) (b := 17) (nx := 20) (by decide +kernel) h0 ?_
  refine g_7 (a := 0) (b := 0) (nx := 21) (by decide +kernel) rfl ?_
  refine g_1 (a := (-1)) (b := 0) (nx := 22) (by decide +kernel) ?_
  refine g_53 (a := 12) (b := 18) (nx := 25) (by decide +kernel) h0 ?_
  refine g_7 (a := 0) (b := 0) (nx := 26) (by decide +kernel) rfl ?_
  refine g_1 (a := 4) (b := 0) (nx := 27) (by decide +kernel) ?_
  refine g_53 (a := 12) (b := 19) (nx := 30) (by decide +kernel) h0 ?_
  refine g_7 (a := 0) (b := 0) (nx := 31) (by decide +kernel) rfl ?_
  refine g_1 (a := 0) (b := 0) (nx := 32) (by decide +kernel) ?_
  refine g_53 (a := 12) (b := 20) (nx := 35) (by decide +kernel) h0 ?_
  refine g_7 (a := 0) (b := 0) (nx := 36) (by decide +kernel) rfl ?_
  refine g_1 (a := (-1)) (b := 0) (nx := 37) (by decide +kernel) ?_
  refine g_53 (a := 12) (b := 21) (nx := 40) (by decide +kernel) h0 ?_
  refine g_7 (a := 0) (b := 0) (nx := 41) (by decide +kernel) rfl ?_
  refine g_1 (a := 1) (b := 0) (nx := 42) (by decide +kernel) ?_
  refine g_53 (a := 12) (b := 22) (nx := 45) (by decide +kernel) h0 ?_
  refine g_7 (a := 0) (b := 0) (nx := 46) (by decide +kernel) rfl ?_
  refine g_1 (a := 2) (b := 0) (nx := 47) (by decide +kernel) ?_
  refine g_53 (a := 12) (b := 23) (nx := 50) (by decide +kernel) h0 ?_
  refine g_7 (a := 0) (b := 0) (nx := 51) (by decide +kernel) rfl ?_
  refine g_1 (a := 0) (b := 0) (nx := 52) (by decide +kernel) ?_
  refine g_53 (a := 12) (b := 24) (nx := 55) (by decide +kernel) h0 ?_
  refine g_7 (a := 0) (b := 0) (nx := 56) (by decide +kernel) rfl ?_
  refine g_1 (a := 0) (b := 0) (nx := 57) (by decide +kernel) ?_
  refine g_53 (a := 12) (b := 25) (nx := 60) (by decide +kernel) h0 ?_
  refine g_7 (a := 0) (b := 0) (nx := 61) (by decide +kernel) rfl ?_
  refine g_1 (a := 0) (b := 0) (nx := 62) (by decide +kernel) ?_
  refine g_53 (a := 12) (b := 26) (nx := 65) (by decide +kernel) h0 ?_
  refine g_1 (a := 0) (b := 0) (nx := 66) (by decide +kernel) ?_
  refine g_8 (a := 1) (b := 0) (nx := 67) (by decide +kernel) rfl (ls' := [some (vR x0), some (vI 0)]) rfl ?_
  exact h
theorem t_193_67 {x0 x1 : Int} {M : Mem} {Q : AV → Mem → Prop} (h0 : gO 12 x0) (h : inR x1 ∧ (if 26 ≤ x1 then (WR 193 88 [some (vR x0), some (vI 0)] [] M Q) else ((gA 20 (M x0 27) x1) ∧ WR 193 67 [some (vR x0), some (vI (x1 + 1))] [] (upM M (M x0 27) x1 (-1)) Q))) : WR 193 67 [some (vR x0), some (vI x1)] [] M Q := by
  refine g_5 (a := 1) (b := 0) (nx := 68) (by decide +kernel) rfl ?_
  refine g_1 (a := 26) (b := 0) (nx := 70) (by decide +kernel) ?_
  obtain ⟨r1, h⟩ := h
  by_cases c2 : 26 ≤ x1
  · rw [if_pos c2] at h
    refine g_41t (a := 3) (b := 86) (nx := 73) (by decide +kernel) (by rw [wr_id r1, wr_id (show inR 26 by decide)]; exact (cb_3 _ _).mpr c2) ?_
    refine g_1 (a := 0) (b := 0) (nx := 87) (by decide +kernel) ?_
    refine g_8 (a := 1) (b := 0) (nx := 88) (by decide +kernel) rfl (ls' := [some (vR x0), some (vI 0)]) rfl ?_
    exact h
  · rw [if_neg c2] at h
    refine g_41f (a := 3) (b := 86) (nx := 73) (by decide +kernel) (by rw [wr_id r1, wr_id (show inR 26 by decide)]; exact fun hz => c2 ((cb_3 _ _).mp hz)) ?_
    refine g_7 (a := 0) (b := 0) (nx := 74) (by decide +kernel) rfl ?_
    refine g_52 (a := 12) (b := 27) (nx := 77) (by decide +kernel) h0 ?_
    refine g_5 (a := 1) (b := 0) (nx := 78) (by decide +kernel) rfl ?_
    refine g_1 (a := (-1)) (b := 0) (nx := 79) (by decide +kernel) ?_
    refine g_62 (a := 0) (b := 0) (nx := 80) (by decide +kernel) h.1 ?_
    replace h := h.2
    refine g_11 (a := 1) (b := 1) (nx := 83) (by decide +kernel) rfl rfl (ls' := [some (vR x0), some (vI (x1 + 1))]) rfl ?_
    refine g_44 (a := 0) (b := 67) (nx := 86) (by decide +kernel) ?_
    exact h
theorem t_193_88 {x0 x1 : Int} {M : Mem} {Q : AV → Mem → Prop} (h0 : gO 12 x0) (h : inR x1 ∧ (if 6 ≤ x1 then ((gA 20 (M x0 37) 0) ∧ (gA 20 ((upM M (M x0 37) 0 1) x0 37) 1) ∧ (gA 20 ((upM (upM M (M x0 37) 0 1) ((upM M (M x0 37) 0 1) x0 37) 1 2) x0 37) 2) ∧ (gA 20 ((upM (upM (upM M (M x0 37) 0 1) ((upM M (M x0 37) 0 1) x0 37) 1 2) ((upM (upM M (M x0 37) 0 1) ((upM M (M x0 37) 0 1) x0 37) 1 2) x0 37) 2 1) x0 37) 3) ∧ Q (vI 0) (upM (upM (upM (upM M (M x0 37) 0 1) ((upM M (M x0 37) 0 1) x0 37) 1 2) ((upM (upM M (M x0 37) 0 1) ((upM M (M x0 37) 0 1) x0 37) 1 2) x0 37) 2 1) ((upM (upM (upM M (M x0 37) 0 1) ((upM M (M x0 37) 0 1) x0 37) 1 2) ((upM (upM M (M x0 37) 0 1) ((upM M (M x0 37) 0 1) x0 37) 1 2) x0 37) 2 1) x0 37) 3 2)) else ((gA 20 (M x0 36) x1) ∧ WR 193 88 [some (vR x0), some (vI (x1 + 1))] [] (upM M (M x0 36) x1 0) Q))) : WR 193 88 [some (vR x0), some (vI x1)] [] M Q := by
  refine g_5 (a := 1) (b := 0) (nx := 89) (by decide +kernel) rfl ?_
  refine g_1 (a := 6) (b := 0) (nx := 91) (by decide +kernel) ?_
  obtain ⟨r1, h⟩ := h
  by_cases c2 : 6 ≤ x1
  · rw [if_pos c2] at h
    refine g_41t (a := 3) (b := 107) (nx := 94) (by decide +kernel) (by rw [wr_id r1, wr_id (show inR 6 by decide)]; exact (cb_3 _ _).mpr c2) ?_
    refine g_7 (a := 0) (b := 0) (nx := 108) (by decide +kernel) rfl ?_
    refine g_52 (a := 12) (b := 37) (nx := 111) (by decide +kernel) h0 ?_
    refine g_1 (a := 0) (b := 0) (nx := 112) (by decide +kernel) ?_
    refine g_1 (a := 1) (b := 0) (nx := 113) (by decide +kernel) ?_
    refine g_62 (a := 0) (b := 0) (nx := 114) (by decide +kernel) h.1 ?_
    replace h := h.2
    refine g_7 (a := 0) (b := 0) (nx := 115) (by decide +kernel) rfl ?_
    refine g_52 (a := 12) (b := 37) (nx := 118) (by decide +kernel) h0 ?_
    refine g_1 (a := 1) (b := 0) (nx := 119) (by decide +kernel) ?_
    refine g_1 (a := 2) (b := 0) (nx := 120) (by decide +kernel) ?_
    refine g_62 (a := 0) (b := 0) (nx := 121) (by decide +kernel) h.1 ?_
    replace h := h.2
    refine g_7 (a := 0) (b := 0) (nx := 122) (by decide +kernel) rfl ?_
    refine g_52 (a := 12) (b := 37) (nx := 125) (by decide +kernel) h0 ?_
    refine g_1 (a := 2) (b := 0) (nx := 126) (by decide +kernel) ?_
    refine g_1 (a := 1) (b := 0) (nx := 127) (by decide +kernel) ?_
    refine g_62 (a := 0) (b := 0) (nx := 128) (by decide +kernel) h.1 ?_
    replace h := h.2
    refine g_7 (a := 0) (b := 0) (nx := 129) (by decide +kernel) rfl ?_
    refine g_52 (a := 12) (b := 37) (nx := 132) (by decide +kernel) h0 ?_
    refine g_1 (a := 3) (b := 0) (nx := 133) (by decide +kernel) ?_
    refine g_1 (a := 2) (b := 0) (nx := 134) (by decide +kernel) ?_
    refine g_62 (a := 0) (b := 0) (nx := 135) (by decide +kernel) h.1 ?_
    replace h := h.2
    exact g_90 (a := 0) (b := 0) (nx := 136) (by decide +kernel) h
  · rw [if_neg c2] at h
    refine g_41f (a := 3) (b := 107) (nx := 94) (by decide +kernel) (by rw [wr_id r1, wr_id (show inR 6 by decide)]; exact fun hz => c2 ((cb_3 _ _).mp hz)) ?_
    refine g_7 (a := 0) (b := 0) (nx := 95) (by decide +kernel) rfl ?_
    refine g_52 (a := 12) (b := 36) (nx := 98) (by decide +kernel) h0 ?_
    refine g_5 (a := 1) (b := 0) (nx := 99) (by decide +kernel) rfl ?_
    refine g_1 (a := 0) (b := 0) (nx := 100) (by decide +kernel) ?_
    refine g_62 (a := 0) (b := 0) (nx := 101) (by decide +kernel) h.1 ?_
    replace h := h.2
    refine g_11 (a := 1) (b := 1) (nx := 104) (by decide +kernel) rfl rfl (ls' := [some (vR x0), some (vI (x1 + 1))]) rfl ?_
    refine g_44 (a := 0) (b := 88) (nx := 107) (by decide +kernel) ?_
    exact h
-- 194 SyllableMakerModel.soundsHere(I)V
theorem t_194 {x0 x1 : Int} {M : Mem} {Q : AV → Mem → Prop} (h0 : gO 12 x0) (h : WI 189 [vR x0] M (fun y2 M1 => inR y2 ∧ (if y2 = 0 then (WR 194 22 [some (vR x0), some (vI x1), some (vI 0), none] [] M1 Q) else (inR (M1 x0 5) ∧ (if (M1 x0 5) = 1 then (WR 194 22 [some (vR x0), some (vI x1), some (vI 0), none] [] M1 Q) else (WV 188 [vR x0, vI 2] M1 (fun M5 => WR 194 22 [some (vR x0), some (vI x1), some (vI 0), none] [] M5 Q))))))) : WC 194 [vR x0, vI x1] M Q := by
  show WR 194 0 [some (vR x0), some (vI x1), none, none] [] M Q
  refine g_7 (a := 0) (b := 0) (nx := 1) (by decide +kernel) rfl ?_
  refine g_80 (a := 189) (b := 0) (nx := 4) (by decide +kernel) (r := x0) (As := []) (st' := []) (z := 189) rfl rfl rfl (Nat.le_of_ble_eq_true rfl) h0.2 (Nat.le_of_ble_eq_true rfl) rfl (c_I (by decide +kernel) h (fun y2 M1 h => ?_))
  obtain ⟨r3, h⟩ := h
  by_cases c8 : y2 = 0
  · rw [if_pos c8] at h
    refine g_40t (a := 0) (b := 20) (nx := 7) (by decide +kernel) r3 (by exact (cb_0 _ _).mpr c8) ?_
    refine g_1 (a := 0) (b := 0) (nx := 21) (by decide +kernel) ?_
    refine g_8 (a := 2) (b := 0) (nx := 22) (by decide +kernel) rfl (ls' := [some (vR x0), some (vI x1), some (vI 0), none]) rfl ?_
    exact h
  · rw [if_neg c8] at h
    refine g_40f (a := 0) (b := 20) (nx := 7) (by decide +kernel) r3 (by exact fun hz => c8 ((cb_0 _ _).mp hz)) ?_
    refine g_7 (a := 0) (b := 0) (nx := 8) (by decide +kernel) rfl ?_
    refine g_50 (a := 12) (b := 5) (nx := 11) (by decide +kernel) h0 ?_
    refine g_1 (a := 1) (b := 0) (nx := 12) (by decide +kernel) ?_
    obtain ⟨r4, h⟩ := h
    by_cases c7 : (M1 x0 5) = 1
    · rw [if_pos c7] at h
      refine g_41t (a := 0) (b := 20) (nx := 15) (by decide +kernel) (by rw [wr_id r4, wr_id (show inR 1 by decide)]; exact (cb_0 _ _).mpr c7) ?_
      refine g_1 (a := 0) (b := 0) (nx := 21) (by decide +kernel) ?_
      refine g_8 (a := 2) (b := 0) (nx := 22) (by decide +kernel) rfl (ls' := [some (vR x0), some (vI x1), some (vI 0), none]) rfl ?_
      exact h
    · rw [if_neg c7] at h
      refine g_41f (a := 0) (b := 20) (nx := 15) (by decide +kernel) (by rw [wr_id r4, wr_id (show inR 1 by decide)]; exact fun hz => c7 ((cb_0 _ _).mp hz)) ?_
      refine g_7 (a := 0) (b := 0) (nx := 16) (by decide +kernel) rfl ?_
      refine g_1 (a := 2) (b := 0) (nx := 17) (by decide +kernel) ?_
      refine g_80 (a := 188) (b := 1) (nx := 20) (by decide +kernel) (r := x0) (As := [vI 2]) (st' := []) (z := 188) rfl rfl rfl (Nat.le_of_ble_eq_true rfl) h0.2 (Nat.le_of_ble_eq_true rfl) rfl (c_V (by decide +kernel) h (fun M5 h => ?_))
      refine g_1 (a := 0) (b := 0) (nx := 21) (by decide +kernel) ?_
      refine g_8 (a := 2) (b := 0) (nx := 22) (by decide +kernel) rfl (ls' := [some (vR x0), some (vI x1), some (vI 0), none]) rfl ?_
      exact h
theorem t_194_22 {x0 x1 x2 : Int} {l3 : Option AV} {M : Mem} {Q : AV → Mem → Prop} (h0 : gO 12 x0) (h : inR x2 ∧ (inR (M x0 7) ∧ (if (M x0 7) ≤ x2 then (Q (vI 0) M) else (WI 189 [vR x0] M (fun y4 M3 => inR y4 ∧ (if y4 = 0 then (Q (vI 0) M3) else ((gA 20 (M3 x0 12) x2) ∧ (gA 20 (M3 x0 27) (M3 (M3 x0 12) x2)) ∧ inR (M3 (M3 x0 27) (M3 (M3 x0 12) x2)) ∧ (if (M3 (M3 x0 27) (M3 (M3 x0 12) x2)) = (-1) then (WV 188 [vR x0, vI 3] M3 (fun M7 => WR 194 22 [some (vR x0), some (vI x1), some (vI (x2 + 1)), some (vI (M3 (M3 x0 27) (M3 (M3 x0 12) x2)))] [] M7 Q)) else (inR x1 ∧ (if 2 ≤ x1 then (WR 194 22 [some (vR x0), some (vI x1), some (vI (x2 + 1)), some (vI (M3 (M3 x0 27) (M3 (M3 x0 12) x2)))] [] M3 Q) else ((gA 20 (M3 x0 30) (M3 (M3 x0 27) (M3 (M3 x0 12) x2))) ∧ inR (M3 (M3 x0 30) (M3 (M3 x0 27) (M3 (M3 x0 12) x2))) ∧ (if (M3 (M3 x0 30) (M3 (M3 x0 27) (M3 (M3 x0 12) x2))) = x1 then (WR 194 22 [some (vR x0), some (vI x1), some (vI (x2 + 1)), some (vI (M3 (M3 x0 27) (M3 (M3 x0 12) x2)))] [] M3 Q) else (WV 188 [vR x0, vI 3] M3 (fun M11 => WR 194 22 [some (vR x0), some (vI x1), some (vI (x2 + 1)), some (vI (M3 (M3 x0 27) (M3 (M3 x0 12) x2)))] [] M11 Q)))))))))))))) : WR 194 22 [some (vR x0), some (vI x1), some (vI x2), l3] [] M Q := by
  refine g_5 (a := 2) (b := 0) (nx := 23) (by decide +kernel) rfl ?_
  refine g_7 (a := 0) (b := 0) (nx := 24) (by decide +kernel) rfl ?_
  refine g_50 (a := 12) (b := 7) (nx := 27) (by decide +kernel) h0 ?_
  obtain ⟨r1, h⟩ := h
  obtain ⟨r2, h⟩ := h
  by_cases c17 : (M x0 7) ≤ x2
  · rw [if_pos c17] at h
    refine g_41t (a := 3) (b := 80) (nx := 30) (by decide +kernel) (by rw [wr_id r1, wr_id r2]; exact (cb_3 _ _).mpr c17) ?_
    exact g_90 (a := 0) (b := 0) (nx := 81) (by decide +kernel) h
  · rw [if_neg c17] at h
    refine g_41f (a := 3) (b := 80) (nx := 30) (by decide +kernel) (by rw [wr_id r1, wr_id r2]; exact fun hz => c17 ((cb_3 _ _).mp hz)) ?_
    refine g_7 (a := 0) (b := 0) (nx := 31) (by decide +kernel) rfl ?_
    refine g_80 (a := 189) (b := 0) (nx := 34) (by decide +kernel) (r := x0) (As := []) (st' := []) (z := 189) rfl rfl rfl (Nat.le_of_ble_eq_true rfl) h0.2 (Nat.le_of_ble_eq_true rfl) rfl (c_I (by decide +kernel) h (fun y4 M3 h => ?_))
    obtain ⟨r5, h⟩ := h
    by_cases c16 : y4 = 0
    · rw [if_pos c16] at h
      refine g_40t (a := 0) (b := 80) (nx := 37) (by decide +kernel) r5 (by exact (cb_0 _ _).mpr c16) ?_
      exact g_90 (a := 0) (b := 0) (nx := 81) (by decide +kernel) h
    · rw [if_neg c16] at h
      refine g_40f (a := 0) (b := 80) (nx := 37) (by decide +kernel) r5 (by exact fun hz => c16 ((cb_0 _ _).mp hz)) ?_
      refine g_7 (a := 0) (b := 0) (nx := 38) (by decide +kernel) rfl ?_
      refine g_52 (a := 12) (b := 27) (nx := 41) (by decide +kernel) h0 ?_
      refine g_7 (a := 0) (b := 0) (nx := 42) (by decide +kernel) rfl ?_
      refine g_52 (a := 12) (b := 12) (nx := 45) (by decide +kernel) h0 ?_
      refine g_5 (a := 2) (b := 0) (nx := 46) (by decide +kernel) rfl ?_
      refine g_61 (a := 0) (b := 0) (nx := 47) (by decide +kernel) h.1 ?_
      replace h := h.2
      refine g_61 (a := 0) (b := 0) (nx := 48) (by decide +kernel) h.1 ?_
      replace h := h.2
      refine g_8 (a := 3) (b := 0) (nx := 49) (by decide +kernel) rfl (ls' := [some (vR x0), some (vI x1), some (vI x2), some (vI (M3 (M3 x0 27) (M3 (M3 x0 12) x2)))]) rfl ?_
      refine g_5 (a := 3) (b := 0) (nx := 50) (by decide +kernel) rfl ?_
      refine g_1 (a := (-1)) (b := 0) (nx := 51) (by decide +kernel) ?_
      obtain ⟨r6, h⟩ := h
      by_cases c15 : (M3 (M3 x0 27) (M3 (M3 x0 12) x2)) = (-1)
      · rw [if_pos c15] at h
        refine g_41t (a := 0) (b := 69) (nx := 54) (by decide +kernel) (by rw [wr_id r6, wr_id (show inR (-1) by decide)]; exact (cb_0 _ _).mpr c15) ?_
        refine g_7 (a := 0) (b := 0) (nx := 70) (by decide +kernel) rfl ?_
        refine g_1 (a := 3) (b := 0) (nx := 71) (by decide +kernel) ?_
        refine g_80 (a := 188) (b := 1) (nx := 74) (by decide +kernel) (r := x0) (As := [vI 3]) (st' := []) (z := 188) rfl rfl rfl (Nat.le_of_ble_eq_true rfl) h0.2 (Nat.le_of_ble_eq_true rfl) rfl (c_V (by decide +kernel) h (fun M7 h => ?_))
        refine g_11 (a := 2) (b := 1) (nx := 77) (by decide +kernel) rfl rfl (ls' := [some (vR x0), some (vI x1), some (vI (x2 + 1)), some (vI (M3 (M3 x0 27) (M3 (M3 x0 12) x2)))]) rfl ?_
        refine g_44 (a := 0) (b := 22) (nx := 80) (by decide +kernel) ?_
        exact h
      · rw [if_neg c15] at h
        refine g_41f (a := 0) (b := 69) (nx := 54) (by decide +kernel) (by rw [wr_id r6, wr_id (show inR (-1) by decide)]; exact fun hz => c15 ((cb_0 _ _).mp hz)) ?_
        refine g_5 (a := 1) (b := 0) (nx := 55) (by decide +kernel) rfl ?_
        refine g_1 (a := 2) (b := 0) (nx := 56) (by decide +kernel) ?_
        obtain ⟨r9, h⟩ := h
        by_cases c14 : 2 ≤ x1
        · rw [if_pos c14] at h
          refine g_41t (a := 3) (b := 74) (nx := 59) (by decide +kernel) (by rw [wr_id r9, wr_id (show inR 2 by decide)]; exact (cb_3 _ _).mpr c14) ?_
          refine g_11 (a := 2) (b := 1) (nx := 77) (by decide +kernel) rfl rfl (ls' := [some (vR x0), some (vI x1), some (vI (x2 + 1)), some (vI (M3 (M3 x0 27) (M3 (M3 x0 12) x2)))]) rfl ?_
          refine g_44 (a := 0) (b := 22) (nx := 80) (by decide +kernel) ?_
          exact h
        · rw [if_neg c14] at h
          refine g_41f (a := 3) (b := 74) (nx := 59) (by decide +kernel) (by rw [wr_id r9, wr_id (show inR 2 by decide)]; exact fun hz => c14 ((cb_3 _ _).mp hz)) ?_
          refine g_7 (a := 0) (b := 0) (nx := 60) (by decide +kernel) rfl ?_
          refine g_52 (a := 12) (b := 30) (nx := 63) (by decide +kernel) h0 ?_
          refine g_5 (a := 3) (b := 0) (nx := 64) (by decide +kernel) rfl ?_
          refine g_61 (a := 0) (b := 0) (nx := 65) (by decide +kernel) h.1 ?_
          replace h := h.2
          refine g_5 (a := 1) (b := 0) (nx := 66) (by decide +kernel) rfl ?_
          obtain ⟨r10, h⟩ := h
          by_cases c13 : (M3 (M3 x0 30) (M3 (M3 x0 27) (M3 (M3 x0 12) x2))) = x1
          · rw [if_pos c13] at h
            refine g_41t (a := 0) (b := 74) (nx := 69) (by decide +kernel) (by rw [wr_id r10, wr_id r9]; exact (cb_0 _ _).mpr c13) ?_
            refine g_11 (a := 2) (b := 1) (nx := 77) (by decide +kernel) rfl rfl (ls' := [some (vR x0), some (vI x1), some (vI (x2 + 1)), some (vI (M3 (M3 x0 27) (M3 (M3 x0 12) x2)))]) rfl ?_
            refine g_44 (a := 0) (b := 22) (nx := 80) (by decide +kernel) ?_
            exact h
          · rw [if_neg c13] at h
            refine g_41f (a := 0) (b := 74) (nx := 69) (by decide +kernel) (by rw [wr_id r10, wr_id r9]; exact fun hz => c13 ((cb_0 _ _).mp hz)) ?_
            refine g_7 (a := 0) (b := 0) (nx := 70) (by decide +kernel) rfl ?_
            refine g_1 (a := 3) (b := 0) (nx := 71) (by decide +kernel) ?_
            refine g_80 (a := 188) (b := 1) (nx := 74) (by decide +kernel) (r := x0) (As := [vI 3]) (st' := []) (z := 188) rfl rfl rfl (Nat.le_of_ble_eq_true rfl) h0.2 (Nat.le_of_ble_eq_true rfl) rfl (c_V (by decide +kernel) h (fun M11 h => ?_))
            refine g_11 (a := 2) (b := 1) (nx := 77) (by decide +kernel) rfl rfl (ls' := [some (vR x0), some (vI x1), some (vI (x2 + 1)), some (vI (M3 (M3 x0 27) (M3 (M3 x0 12) x2)))]) rfl ?_
            refine g_44 (a := 0) (b := 22) (nx := 80) (by decide +kernel) ?_
            exact h
-- 195 SyllableMakerModel.soundLine()V
theorem t_195 {x0 : Int} {M : Mem} {Q : AV → Mem → Prop} (h0 : gO 12 x0) (h : inR (M x0 14) ∧ (if (M x0 14) = 16 then (WV 188 [vR x0, vI 5] M (fun M84 => WI 189 [vR x0] M84 (fun y87 M86 => inR y87 ∧ (if y87 = 0 then (WI 189 [vR x0] M86 (fun y90 M89 => inR y90 ∧ (if y90 = 0 then (WI 189 [vR x0] M89 (fun y93 M92 => inR y93 ∧ (if y93 = 0 then (WR 195 80 [some (vR x0), none, none, none] [] M92 Q) else (inR (M92 x0 7) ∧ (if (M92 x0 7) = 1 then ((gA 20 (M92 x0 12) 0) ∧ (gA 20 (M92 x0 27) (M92 (M92 x0 12) 0)) ∧ inR (M92 (M92 x0 27) (M92 (M92 x0 12) 0)) ∧ (if (M92 (M92 x0 27) (M92 (M92 x0 12) 0)) = (-1) then (WR 195 80 [some (vR x0), none, none, none] [] M92 Q) else (WV 188 [vR x0, vI 3] M92 (fun M97 => WR 195 80 [some (vR x0), none, none, none] [] M97 Q)))) else (WR 195 80 [some (vR x0), none, none, none] [] M92 Q)))))) else (inR (M89 x0 5) ∧ (if (M89 x0 5) = 1 then (WI 189 [vR x0] M89 (fun y104 M103 => inR y104 ∧ (if y104 = 0 then (WR 195 80 [some (vR x0), none, none, none] [] M103 Q) else (inR (M103 x0 7) ∧ (if (M103 x0 7) = 1 then ((gA 20 (M103 x0 12) 0) ∧ (gA 20 (M103 x0 27) (M103 (M103 x0 12) 0)) ∧ inR (M103 (M103 x0 27) (M103 (M103 x0 12) 0)) ∧ (if (M103 (M103 x0 27) (M103 (M103 x0 12) 0)) = (-1) then (WR 195 80 [some (vR x0), none, none, none] [] M103 Q) else (WV 188 [vR x0, vI 3] M103 (fun M108 => WR 195 80 [some (vR x0), none, none, none] [] M108 Q)))) else (WR 195 80 [some (vR x0), none, none, none] [] M103 Q)))))) else (WV 188 [vR x0, vI 2] M89 (fun M113 => WI 189 [vR x0] M113 (fun y116 M115 => inR y116 ∧ (if y116 = 0 then (WR 195 80 [some (vR x0), none, none, none] [] M115 Q) else (inR (M115 x0 7) ∧ (if (M115 x0 7) = 1 then ((gA 20 (M115 x0 12) 0) ∧ (gA 20 (M115 x0 27) (M115 (M115 x0 12) 0)) ∧ inR (M115 (M115 x0 27) (M115 (M115 x0 12) 0)) ∧ (if (M115 (M115 x0 27) (M115 (M115 x0 12) 0)) = (-1) then (WR 195 80 [some (vR x0), none, none, none] [] M115 Q) else (WV 188 [vR x0, vI 3] M115 (fun M120 => WR 195 80 [some (vR x0), none, none, none] [] M120 Q)))) else (WR 195 80 [some (vR x0), none, none, none] [] M115 Q)))))))))))) else (WV 187 [vR x0] M86 (fun M127 => WI 189 [vR x0] M127 (fun y130 M129 => inR y130 ∧ (if y130 = 0 then (WI 189 [vR x0] M129 (fun y133 M132 => inR y133 ∧ (if y133 = 0 then (WR 195 80 [some (vR x0), none, none, none] [] M132 Q) else (inR (M132 x0 7) ∧ (if (M132 x0 7) = 1 then ((gA 20 (M132 x0 12) 0) ∧ (gA 20 (M132 x0 27) (M132 (M132 x0 12) 0)) ∧ inR (M132 (M132 x0 27) (M132 (M132 x0 12) 0)) ∧ (if (M132 (M132 x0 27) (M132 (M132 x0 12) 0)) = (-1) then (WR 195 80 [some (vR x0), none, none, none] [] M132 Q) else (WV 188 [vR x0, vI 3] M132 (fun M137 => WR 195 80 [some (vR x0), none, none, none] [] M137 Q)))) else (WR 195 80 [some (vR x0), none, none, none] [] M132 Q)))))) else (inR (M129 x0 5) ∧ (if (M129 x0 5) = 1 then (WI 189 [vR x0] M129 (fun y144 M143 => inR y144 ∧ (if y144 = 0 then (WR 195 80 [some (vR x0), none, none, none] [] M143 Q) else (inR (M143 x0 7) ∧ (if (M143 x0 7) = 1 then ((gA 20 (M143 x0 12) 0) ∧ (gA 20 (M143 x0 27) (M143 (M143 x0 12) 0)) ∧ inR (M143 (M143 x0 27) (M143 (M143 x0 12) 0)) ∧ (if (M143 (M143 x0 27) (M143 (M143 x0 12) 0)) = (-1) then (WR 195 80 [some (vR x0), none, none, none] [] M143 Q) else (WV 188 [vR x0, vI 3] M143 (fun M148 => WR 195 80 [some (vR x0), none, none, none] [] M148 Q)))) else (WR 195 80 [some (vR x0), none, none, none] [] M143 Q)))))) else (WV 188 [vR x0, vI 2] M129 (fun M153 => WI 189 [vR x0] M153 (fun y156 M155 => inR y156 ∧ (if y156 = 0 then (WR 195 80 [some (vR x0), none, none, none] [] M155 Q) else (inR (M155 x0 7) ∧ (if (M155 x0 7) = 1 then ((gA 20 (M155 x0 12) 0) ∧ (gA 20 (M155 x0 27) (M155 (M155 x0 12) 0)) ∧ inR (M155 (M155 x0 27) (M155 (M155 x0 12) 0)) ∧ (if (M155 (M155 x0 27) (M155 (M155 x0 12) 0)) = (-1) then (WR 195 80 [some (vR x0), none, none, none] [] M155 Q) else (WV 188 [vR x0, vI 3] M155 (fun M160 => WR 195 80 [some (vR x0), none, none, none] [] M160 Q)))) else (WR 195 80 [some (vR x0), none, none, none] [] M155 Q))))))))))))))))) else (WI 189 [vR x0] M (fun y3 M2 => inR y3 ∧ (if y3 = 0 then (WI 189 [vR x0] M2 (fun y6 M5 => inR y6 ∧ (if y6 = 0 then (WI 189 [vR x0] M5 (fun y9 M8 => inR y9 ∧ (if y9 = 0 then (WR 195 80 [some (vR x0), none, none, none] [] M8 Q) else (inR (M8 x0 7) ∧ (if (M8 x0 7) = 1 then ((gA 20 (M8 x0 12) 0) ∧ (gA 20 (M8 x0 27) (M8 (M8 x0 12) 0)) ∧ inR (M8 (M8 x0 27) (M8 (M8 x0 12) 0)) ∧ (if (M8 (M8 x0 27) (M8 (M8 x0 12) 0)) = (-1) then (WR 195 80 [some (vR x0), none, none, none] [] M8 Q) else (WV 188 [vR x0, vI 3] M8 (fun M13 => WR 195 80 [some (vR x0), none, none, none] [] M13 Q)))) else (WR 195 80 [some (vR x0), none, none, none] [] M8 Q)))))) else (inR (M5 x0 5) ∧ (if (M5 x0 5) = 1 then (WI 189 [vR x0] M5 (fun y20 M19 => inR y20 ∧ (if y20 = 0 then (WR 195 80 [some (vR x0), none, none, none] [] M19 Q) else (inR (M19 x0 7) ∧ (if (M19 x0 7) = 1 then ((gA 20 (M19 x0 12) 0) ∧ (gA 20 (M19 x0 27) (M19 (M19 x0 12) 0)) ∧ inR (M19 (M19 x0 27) (M19 (M19 x0 12) 0)) ∧ (if (M19 (M19 x0 27) (M19 (M19 x0 12) 0)) = (-1) then (WR 195 80 [some (vR x0), none, none, none] [] M19 Q) else (WV 188 [vR x0, vI 3] M19 (fun M24 => WR 195 80 [some (vR x0), none, none, none] [] M24 Q)))) else (WR 195 80 [some (vR x0), none, none, none] [] M19 Q)))))) else (WV 188 [vR x0, vI 2] M5 (fun M29 => WI 189 [vR x0] M29 (fun y32 M31 => inR y32 ∧ (if y32 = 0 then (WR 195 80 [some (vR x0), none, none, none] [] M31 Q) else (inR (M31 x0 7) ∧ (if (M31 x0 7) = 1 then ((gA 20 (M31 x0 12) 0) ∧ (gA 20 (M31 x0 27) (M31 (M31 x0 12) 0)) ∧ inR (M31 (M31 x0 27) (M31 (M31 x0 12) 0)) ∧ (if (M31 (M31 x0 27) (M31 (M31 x0 12) 0)) = (-1) then (WR 195 80 [some (vR x0), none, none, none] [] M31 Q) else (WV 188 [vR x0, vI 3] M31 (fun M36 => WR 195 80 [some (vR x0), none, none, none] [] M36 Q)))) else (WR 195 80 [some (vR x0), none, none, none] [] M31 Q)))))))))))) else (WV 187 [vR x0] M2 (fun M43 => WI 189 [vR x0] M43 (fun y46 M45 => inR y46 ∧ (if y46 = 0 then (WI 189 [vR x0] M45 (fun y49 M48 => inR y49 ∧ (if y49 = 0 then (WR 195 80 [some (vR x0), none, none, none] [] M48 Q) else (inR (M48 x0 7) ∧ (if (M48 x0 7) = 1 then ((gA 20 (M48 x0 12) 0) ∧ (gA 20 (M48 x0 27) (M48 (M48 x0 12) 0)) ∧ inR (M48 (M48 x0 27) (M48 (M48 x0 12) 0)) ∧ (if (M48 (M48 x0 27) (M48 (M48 x0 12) 0)) = (-1) then (WR 195 80 [some (vR x0), none, none, none] [] M48 Q) else (WV 188 [vR x0, vI 3] M48 (fun M53 => WR 195 80 [some (vR x0), none, none, none] [] M53 Q)))) else (WR 195 80 [some (vR x0), none, none, none] [] M48 Q)))))) else (inR (M45 x0 5) ∧ (if (M45 x0 5) = 1 then (WI 189 [vR x0] M45 (fun y60 M59 => inR y60 ∧ (if y60 = 0 then (WR 195 80 [some (vR x0), none, none, none] [] M59 Q) else (inR (M59 x0 7) ∧ (if (M59 x0 7) = 1 then ((gA 20 (M59 x0 12) 0) ∧ (gA 20 (M59 x0 27) (M59 (M59 x0 12) 0)) ∧ inR (M59 (M59 x0 27) (M59 (M59 x0 12) 0)) ∧ (if (M59 (M59 x0 27) (M59 (M59 x0 12) 0)) = (-1) then (WR 195 80 [some (vR x0), none, none, none] [] M59 Q) else (WV 188 [vR x0, vI 3] M59 (fun M64 => WR 195 80 [some (vR x0), none, none, none] [] M64 Q)))) else (WR 195 80 [some (vR x0), none, none, none] [] M59 Q)))))) else (WV 188 [vR x0, vI 2] M45 (fun M69 => WI 189 [vR x0] M69 (fun y72 M71 => inR y72 ∧ (if y72 = 0 then (WR 195 80 [some (vR x0), none, none, none] [] M71 Q) else (inR (M71 x0 7) ∧ (if (M71 x0 7) = 1 then ((gA 20 (M71 x0 12) 0) ∧ (gA 20 (M71 x0 27) (M71 (M71 x0 12) 0)) ∧ inR (M71 (M71 x0 27) (M71 (M71 x0 12) 0)) ∧ (if (M71 (M71 x0 27) (M71 (M71 x0 12) 0)) = (-1) then (WR 195 80 [some (vR x0), none, none, none] [] M71 Q) else (WV 188 [vR x0, vI 3] M71 (fun M76 => WR 195 80 [some (vR x0), none, none, none] [] M76 Q)))) else (WR 195 80 [some (vR x0), none, none, none] [] M71 Q)))))))))))))))))) : WC 195 [vR x0] M Q := by
  show WR 195 0 [some (vR x0), none, none, none] [] M Q
  refine g_7 (a := 0) (b := 0) (nx := 1) (by decide +kernel) rfl ?_
  refine g_50 (a := 12) (b := 14) (nx := 4) (by decide +kernel) h0 ?_
  refine g_1 (a := 16) (b := 0) (nx := 6) (by decide +kernel) ?_
  obtain ⟨r1, h⟩ := h
  by_cases c168 : (M x0 14) = 16
  · rw [if_pos c168] at h
    refine g_41f (a := 1) (b := 14) (nx := 9) (by decide +kernel) (by rw [wr_id r1, wr_id (show inR 16 by decide)]; exact fun hz => ((cb_1 _ _).mp hz) c168) ?_
    refine g_7 (a := 0) (b := 0) (nx := 10) (by decide +kernel) rfl ?_
    refine g_1 (a := 5) (b := 0) (nx := 11) (by decide +kernel) ?_
    refine g_80 (a := 188) (b := 1) (nx := 14) (by decide +kernel) (r := x0) (As := [vI 5]) (st' := []) (z := 188) rfl rfl rfl (Nat.le_of_ble_eq_true rfl) h0.2 (Nat.le_of_ble_eq_true rfl) rfl (c_V (by decide +kernel) h (fun M84 h => ?_))
    refine g_7 (a := 0) (b := 0) (nx := 15) (by decide +kernel) rfl ?_
    refine g_80 (a := 189) (b := 0) (nx := 18) (by decide +kernel) (r := x0) (As := []) (st' := []) (z := 189) rfl rfl rfl (Nat.le_of_ble_eq_true rfl) h0.2 (Nat.le_of_ble_eq_true rfl) rfl (c_I (by decide +kernel) h (fun y87 M86 h => ?_))
    obtain ⟨r88, h⟩ := h
    by_cases c167 : y87 = 0
    · rw [if_pos c167] at h
      refine g_40t (a := 0) (b := 25) (nx := 21) (by decide +kernel) r88 (by exact (cb_0 _ _).mpr c167) ?_
      refine g_7 (a := 0) (b := 0) (nx := 26) (by decide +kernel) rfl ?_
      refine g_80 (a := 189) (b := 0) (nx := 29) (by decide +kernel) (r := x0) (As := []) (st' := []) (z := 189) rfl rfl rfl (Nat.le_of_ble_eq_true rfl) h0.2 (Nat.le_of_ble_eq_true rfl) rfl (c_I (by decide +kernel) h (fun y90 M89 h => ?_))
      obtain ⟨r91, h⟩ := h
      by_cases c126 : y90 = 0
      · rw [if_pos c126] at h
        refine g_40t (a := 0) (b := 45) (nx := 32) (by decide +kernel) r91 (by exact (cb_0 _ _).mpr c126) ?_
        refine g_7 (a := 0) (b := 0) (nx := 46) (by decide +kernel) rfl ?_
        refine g_80 (a := 189) (b := 0) (nx := 49) (by decide +kernel) (r := x0) (As := []) (st' := []) (z := 189) rfl rfl rfl (Nat.le_of_ble_eq_true rfl) h0.2 (Nat.le_of_ble_eq_true rfl) rfl (c_I (by decide +kernel) h (fun y93 M92 h => ?_))
        obtain ⟨r94, h⟩ := h
        by_cases c101 : y93 = 0
        · rw [if_pos c101] at h
          refine g_40t (a := 0) (b := 80) (nx := 52) (by decide +kernel) r94 (by exact (cb_0 _ _).mpr c101) ?_
          exact h
        · rw [if_neg c101] at h
          refine g_40f (a := 0) (b := 80) (nx := 52) (by decide +kernel) r94 (by exact fun hz => c101 ((cb_0 _ _).mp hz)) ?_
          refine g_7 (a := 0) (b := 0) (nx := 53) (by decide +kernel) rfl ?_
          refine g_50 (a := 12) (b := 7) (nx := 56) (by decide +kernel) h0 ?_
          refine g_1 (a := 1) (b := 0) (nx := 57) (by decide +kernel) ?_
          obtain ⟨r95, h⟩ := h
          by_cases c100 : (M92 x0 7) = 1
          · rw [if_pos c100] at h
            refine g_41f (a := 1) (b := 80) (nx := 60) (by decide +kernel) (by rw [wr_id r95, wr_id (show inR 1 by decide)]; exact fun hz => ((cb_1 _ _).mp hz) c100) ?_
            refine g_7 (a := 0) (b := 0) (nx := 61) (by decide +kernel) rfl ?_
            refine g_52 (a := 12) (b := 27) (nx := 64) (by decide +kernel) h0 ?_
            refine g_7 (a := 0) (b := 0) (nx := 65) (by decide +kernel) rfl ?_
            refine g_52 (a := 12) (b := 12) (nx := 68) (by decide +kernel) h0 ?_
            refine g_1 (a := 0) (b := 0) (nx := 69) (by decide +kernel) ?_
            refine g_61 (a := 0) (b := 0) (nx := 70) (by decide +kernel) h.1 ?_
            replace h := h.2
            refine g_61 (a := 0) (b := 0) (nx := 71) (by decide +kernel) h.1 ?_
            replace h := h.2
            refine g_1 (a := (-1)) (b := 0) (nx := 72) (by decide +kernel) ?_
            obtain ⟨r96, h⟩ := h
            by_cases c99 : (M92 (M92 x0 27) (M92 (M92 x0 12) 0)) = (-1)
            · rw [if_pos c99] at h
              refine g_41t (a := 0) (b := 80) (nx := 75) (by decide +kernel) (by rw [wr_id r96, wr_id (show inR (-1) by decide)]; exact (cb_0 _ _).mpr c99) ?_
              exact h
            · rw [if_neg c99] at h
              refine g_41f (a := 0) (b := 80) (nx := 75) (by decide +kernel) (by rw [wr_id r96, wr_id (show inR (-1) by decide)]; exact fun hz => c99 ((cb_0 _ _).mp hz)) ?_
              refine g_7 (a := 0) (b := 0) (nx := 76) (by decide +kernel) rfl ?_
              refine g_1 (a := 3) (b := 0) (nx := 77) (by decide +kernel) ?_
              refine g_80 (a := 188) (b := 1) (nx := 80) (by decide +kernel) (r := x0) (As := [vI 3]) (st' := []) (z := 188) rfl rfl rfl (Nat.le_of_ble_eq_true rfl) h0.2 (Nat.le_of_ble_eq_true rfl) rfl (c_V (by decide +kernel) h (fun M97 h => ?_))
              exact h
          · rw [if_neg c100] at h
            refine g_41t (a := 1) (b := 80) (nx := 60) (by decide +kernel) (by rw [wr_id r95, wr_id (show inR 1 by decide)]; exact (cb_1 _ _).mpr c100) ?_
            exact h
      · rw [if_neg c126] at h
        refine g_40f (a := 0) (b := 45) (nx := 32) (by decide +kernel) r91 (by exact fun hz => c126 ((cb_0 _ _).mp hz)) ?_
        refine g_7 (a := 0) (b := 0) (nx := 33) (by decide +kernel) rfl ?_
        refine g_50 (a := 12) (b := 5) (nx := 36) (by decide +kernel) h0 ?_
        refine g_1 (a := 1) (b := 0) (nx := 37) (by decide +kernel) ?_
        obtain ⟨r102, h⟩ := h
        by_cases c125 : (M89 x0 5) = 1
        · rw [if_pos c125] at h
          refine g_41t (a := 0) (b := 45) (nx := 40) (by decide +kernel) (by rw [wr_id r102, wr_id (show inR 1 by decide)]; exact (cb_0 _ _).mpr c125) ?_
          refine g_7 (a := 0) (b := 0) (nx := 46) (by decide +kernel) rfl ?_
          refine g_80 (a := 189) (b := 0) (nx := 49) (by decide +kernel) (r := x0) (As := []) (st' := []) (z := 189) rfl rfl rfl (Nat.le_of_ble_eq_true rfl) h0.2 (Nat.le_of_ble_eq_true rfl) rfl (c_I (by decide +kernel) h (fun y104 M103 h => ?_))
          obtain ⟨r105, h⟩ := h
          by_cases c112 : y104 = 0
          · rw [if_pos c112] at h
            refine g_40t (a := 0) (b := 80) (nx := 52) (by decide +kernel) r105 (by exact (cb_0 _ _).mpr c112) ?_
            exact h
          · rw [if_neg c112] at h
            refine g_40f (a := 0) (b := 80) (nx := 52) (by decide +kernel) r105 (by exact fun hz => c112 ((cb_0 _ _).mp hz)) ?_
            refine g_7 (a := 0) (b := 0) (nx := 53) (by decide +kernel) rfl ?_
            refine g_50 (a := 12) (b := 7) (nx := 56) (by decide +kernel) h0 ?_
            refine g_1 (a := 1) (b := 0) (nx := 57) (by decide +kernel) ?_
            obtain ⟨r106, h⟩ := h
            by_cases c111 : (M103 x0 7) = 1
            · rw [if_pos c111] at h
              refine g_41f (a := 1) (b := 80) (nx := 60) (by decide +kernel) (by rw [wr_id r106, wr_id (show inR 1 by decide)]; exact fun hz => ((cb_1 _ _).mp hz) c111) ?_
              refine g_7 (a := 0) (b := 0) (nx := 61) (by decide +kernel) rfl ?_
              refine g_52 (a := 12) (b := 27) (nx := 64) (by decide +kernel) h0 ?_
              refine g_7 (a := 0) (b := 0) (nx := 65) (by decide +kernel) rfl ?_
              refine g_52 (a := 12) (b := 12) (nx := 68) (by decide +kernel) h0 ?_
              refine g_1 (a := 0) (b := 0) (nx := 69) (by decide +kernel) ?_
              refine g_61 (a := 0) (b := 0) (nx := 70) (by decide +kernel) h.1 ?_
              replace h := h.2
              refine g_61 (a := 0) (b := 0) (nx := 71) (by decide +kernel) h.1 ?_
              replace h := h.2
              refine g_1 (a := (-1)) (b := 0) (nx := 72) (by decide +kernel) ?_
              obtain ⟨r107, h⟩ := h
              by_cases c110 : (M103 (M103 x0 27) (M103 (M103 x0 12) 0)) = (-1)
              · rw [if_pos c110] at h
                refine g_41t (a := 0) (b := 80) (nx := 75) (by decide +kernel) (by rw [wr_id r107, wr_id (show inR (-1) by decide)]; exact (cb_0 _ _).mpr c110) ?_
                exact h
              · rw [if_neg c110] at h
                refine g_41f (a := 0) (b := 80) (nx := 75) (by decide +kernel) (by rw [wr_id r107, wr_id (show inR (-1) by decide)]; exact fun hz => c110 ((cb_0 _ _).mp hz)) ?_
                refine g_7 (a := 0) (b := 0) (nx := 76) (by decide +kernel) rfl ?_
                refine g_1 (a := 3) (b := 0) (nx := 77) (by decide +kernel) ?_
                refine g_80 (a := 188) (b := 1) (nx := 80) (by decide +kernel) (r := x0) (As := [vI 3]) (st' := []) (z := 188) rfl rfl rfl (Nat.le_of_ble_eq_true rfl) h0.2 (Nat.le_of_ble_eq_true rfl) rfl (c_V (by decide +kernel) h (fun M108 h => ?_))
                exact h
            · rw [if_neg c111] at h
              refine g_41t (a := 1) (b := 80) (nx := 60) (by decide +kernel) (by rw [wr_id r106, wr_id (show inR 1 by decide)]; exact (cb_1 _ _).mpr c111) ?_
              exact h
        · rw [if_neg c125] at h
          refine g_41f (a := 0) (b := 45) (nx := 40) (by decide +kernel) (by rw [wr_id r102, wr_id (show inR 1 by decide)]; exact fun hz => c125 ((cb_0 _ _).mp hz)) ?_
          refine g_7 (a := 0) (b := 0) (nx := 41) (by decide +kernel) rfl ?_
          refine g_1 (a := 2) (b := 0) (nx := 42) (by decide +kernel) ?_
          refine g_80 (a := 188) (b := 1) (nx := 45) (by decide +kernel) (r := x0) (As := [vI 2]) (st' := []) (z := 188) rfl rfl rfl (Nat.le_of_ble_eq_true rfl) h0.2 (Nat.le_of_ble_eq_true rfl) rfl (c_V (by decide +kernel) h (fun M113 h => ?_))
          refine g_7 (a := 0) (b := 0) (nx := 46) (by decide +kernel) rfl ?_
          refine g_80 (a := 189) (b := 0) (nx := 49) (by decide +kernel) (r := x0) (As := []) (st' := []) (z := 189) rfl rfl rfl (Nat.le_of_ble_eq_true rfl) h0.2 (Nat.le_of_ble_eq_true rfl) rfl (c_I (by decide +kernel) h (fun y116 M115 h => ?_))
          obtain ⟨r117, h⟩ := h
          by_cases c124 : y116 = 0
          · rw [if_pos c124] at h
            refine g_40t (a := 0) (b := 80) (nx := 52) (by decide +kernel) r117 (by exact (cb_0 _ _).mpr c124) ?_
            exact h
          · rw [if_neg c124] at h
            refine g_40f (a := 0) (b := 80) (nx := 52) (by decide +kernel) r117 (by exact fun hz => c124 ((cb_0 _ _).mp hz)) ?_
            refine g_7 (a := 0) (b := 0) (nx := 53) (by decide +kernel) rfl ?_
            refine g_50 (a := 12) (b := 7) (nx := 56) (by decide +kernel) h0 ?_
            refine g_1 (a := 1) (b := 0) (nx := 57) (by decide +kernel) ?_
            obtain ⟨r118, h⟩ := h
            by_cases c123 : (M115 x0 7) = 1
            · rw [if_pos c123] at h
              refine g_41f (a := 1) (b := 80) (nx := 60) (by decide +kernel) (by rw [wr_id r118, wr_id (show inR 1 by decide)]; exact fun hz => ((cb_1 _ _).mp hz) c123) ?_
              refine g_7 (a := 0) (b := 0) (nx := 61) (by decide +kernel) rfl ?_
              refine g_52 (a := 12) (b := 27) (nx := 64) (by decide +kernel) h0 ?_
              refine g_7 (a := 0) (b := 0) (nx := 65) (by decide +kernel) rfl ?_
              refine g_52 (a := 12) (b := 12) (nx := 68) (by decide +kernel) h0 ?_
              refine g_1 (a := 0) (b := 0) (nx := 69) (by decide +kernel) ?_
              refine g_61 (a := 0) (b := 0) (nx := 70) (by decide +kernel) h.1 ?_
              replace h := h.2
              refine g_61 (a := 0) (b := 0) (nx := 71) (by decide +kernel) h.1 ?_
              replace h := h.2
              refine g_1 (a := (-1)) (b := 0) (nx := 72) (by decide +kernel) ?_
              obtain ⟨r119, h⟩ := h
              by_cases c122 : (M115 (M115 x0 27) (M115 (M115 x0 12) 0)) = (-1)
              · rw [if_pos c122] at h
                refine g_41t (a := 0) (b := 80) (nx := 75) (by decide +kernel) (by rw [wr_id r119, wr_id (show inR (-1) by decide)]; exact (cb_0 _ _).mpr c122) ?_
                exact h
              · rw [if_neg c122] at h
                refine g_41f (a := 0) (b := 80) (nx := 75) (by decide +kernel) (by rw [wr_id r119, wr_id (show inR (-1) by decide)]; exact fun hz => c122 ((cb_0 _ _).mp hz)) ?_
                refine g_7 (a := 0) (b := 0) (nx := 76) (by decide +kernel) rfl ?_
                refine g_1 (a := 3) (b := 0) (nx := 77) (by decide +kernel) ?_
                refine g_80 (a := 188) (b := 1) (nx := 80) (by decide +kernel) (r := x0) (As := [vI 3]) (st' := []) (z := 188) rfl rfl rfl (Nat.le_of_ble_eq_true rfl) h0.2 (Nat.le_of_ble_eq_true rfl) rfl (c_V (by decide +kernel) h (fun M120 h => ?_))
                exact h
            · rw [if_neg c123] at h
              refine g_41t (a := 1) (b := 80) (nx := 60) (by decide +kernel) (by rw [wr_id r118, wr_id (show inR 1 by decide)]; exact (cb_1 _ _).mpr c123) ?_
              exact h
    · rw [if_neg c167] at h
      refine g_40f (a := 0) (b := 25) (nx := 21) (by decide +kernel) r88 (by exact fun hz => c167 ((cb_0 _ _).mp hz)) ?_
      refine g_7 (a := 0) (b := 0) (nx := 22) (by decide +kernel) rfl ?_
      refine g_80 (a := 187) (b := 0) (nx := 25) (by decide +kernel) (r := x0) (As := []) (st' := []) (z := 187) rfl rfl rfl (Nat.le_of_ble_eq_true rfl) h0.2 (Nat.le_of_ble_eq_true rfl) rfl (c_V (by decide +kernel) h (fun M127 h => ?_))
      refine g_7 (a := 0) (b := 0) (nx := 26) (by decide +kernel) rfl ?_
      refine g_80 (a := 189) (b := 0) (nx := 29) (by decide +kernel) (r := x0) (As := []) (st' := []) (z := 189) rfl rfl rfl (Nat.le_of_ble_eq_true rfl) h0.2 (Nat.le_of_ble_eq_true rfl) rfl (c_I (by decide +kernel) h (fun y130 M129 h => ?_))
      obtain ⟨r131, h⟩ := h
      by_cases c166 : y130 = 0
      · rw [if_pos c166] at h
        refine g_40t (a := 0) (b := 45) (nx := 32) (by decide +kernel) r131 (by exact (cb_0 _ _).mpr c166) ?_
        refine g_7 (a := 0) (b := 0) (nx := 46) (by decide +kernel) rfl ?_
        refine g_80 (a := 189) (b := 0) (nx := 49) (by decide +kernel) (r := x0) (As := []) (st' := []) (z := 189) rfl rfl rfl (Nat.le_of_ble_eq_true rfl) h0.2 (Nat.le_of_ble_eq_true rfl) rfl (c_I (by decide +kernel) h (fun y133 M132 h => ?_))
        obtain ⟨r134, h⟩ := h
        by_cases c141 : y133 = 0
        · rw [if_pos c141] at h
          refine g_40t (a := 0) (b := 80) (nx := 52) (by decide +kernel) r134 (by exact (cb_0 _ _).mpr c141) ?_
          exact h
        · rw [if_neg c141] at h
          refine g_40f (a := 0) (b := 80) (nx := 52) (by decide +kernel) r134 (by exact fun hz => c141 ((cb_0 _ _).mp hz)) ?_
          refine g_7 (a := 0) (b := 0) (nx := 53) (by decide +kernel) rfl ?_
          refine g_50 (a := 12) (b := 7) (nx := 56) (by decide +kernel) h0 ?_
          refine g_1 (a := 1) (b := 0) (nx := 57) (by decide +kernel) ?_
          obtain ⟨r135, h⟩ := h
          by_cases c140 : (M132 x0 7) = 1
          · rw [if_pos c140] at h
            refine g_41f (a := 1) (b := 80) (nx := 60) (by decide +kernel) (by rw [wr_id r135, wr_id (show inR 1 by decide)]; exact fun hz => ((cb_1 _ _).mp hz) c140) ?_
            refine g_7 (a := 0) (b := 0) (nx := 61) (by decide +kernel) rfl ?_
            refine g_52 (a := 12) (b := 27) (nx := 64) (by decide +kernel) h0 ?_
            refine g_7 (a := 0) (b := 0) (nx := 65) (by decide +kernel) rfl ?_
            refine g_52 (a := 12) (b := 12) (nx := 68) (by decide +kernel) h0 ?_
            refine g_1 (a := 0) (b := 0) (nx := 69) (by decide +kernel) ?_
            refine g_61 (a := 0) (b := 0) (nx := 70) (by decide +kernel) h.1 ?_
            replace h := h.2
            refine g_61 (a := 0) (b := 0) (nx := 71) (by decide +kernel) h.1 ?_
            replace h := h.2
            refine g_1 (a := (-1)) (b := 0) (nx := 72) (by decide +kernel) ?_
            obtain ⟨r136, h⟩ := h
            by_cases c139 : (M132 (M132 x0 27) (M132 (M132 x0 12) 0)) = (-1)
            · rw [if_pos c139] at h
              refine g_41t (a := 0) (b := 80) (nx := 75) (by decide +kernel) (by rw [wr_id r136, wr_id (show inR (-1) by decide)]; exact (cb_0 _ _).mpr c139) ?_
              exact h
            · rw [if_neg c139] at h
              refine g_41f (a := 0) (b := 80) (nx := 75) (by decide +kernel) (by rw [wr_id r136, wr_id (show inR (-1) by decide)]; exact fun hz => c139 ((cb_0 _ _).mp hz)) ?_
              refine g_7 (a := 0) (b := 0) (nx := 76) (by decide +kernel) rfl ?_
              refine g_1 (a := 3) (b := 0) (nx := 77) (by decide +kernel) ?_
              refine g_80 (a := 188) (b := 1) (nx := 80) (by decide +kernel) (r := x0) (As := [vI 3]) (st' := []) (z := 188) rfl rfl rfl (Nat.le_of_ble_eq_true rfl) h0.2 (Nat.le_of_ble_eq_true rfl) rfl (c_V (by decide +kernel) h (fun M137 h => ?_))
              exact h
          · rw [if_neg c140] at h
            refine g_41t (a := 1) (b := 80) (nx := 60) (by decide +kernel) (by rw [wr_id r135, wr_id (show inR 1 by decide)]; exact (cb_1 _ _).mpr c140) ?_
            exact h
      · rw [if_neg c166] at h
        refine g_40f (a := 0) (b := 45) (nx := 32) (by decide +kernel) r131 (by exact fun hz => c166 ((cb_0 _ _).mp hz)) ?_
        refine g_7 (a := 0) (b := 0) (nx := 33) (by decide +kernel) rfl ?_
        refine g_50 (a := 12) (b := 5) (nx := 36) (by decide +kernel) h0 ?_
        refine g_1 (a := 1) (b := 0) (nx := 37) (by decide +kernel) ?_
        obtain ⟨r142, h⟩ := h
        by_cases c165 : (M129 x0 5) = 1
        · rw [if_pos c165] at h
          refine g_41t (a := 0) (b := 45) (nx := 40) (by decide +kernel) (by rw [wr_id r142, wr_id (show inR 1 by decide)]; exact (cb_0 _ _).mpr c165) ?_
          refine g_7 (a := 0) (b := 0) (nx := 46) (by decide +kernel) rfl ?_
          refine g_80 (a := 189) (b := 0) (nx := 49) (by decide +kernel) (r := x0) (As := []) (st' := []) (z := 189) rfl rfl rfl (Nat.le_of_ble_eq_true rfl) h0.2 (Nat.le_of_ble_eq_true rfl) rfl (c_I (by decide +kernel) h (fun y144 M143 h => ?_))
          obtain ⟨r145, h⟩ := h
          by_cases c152 : y144 = 0
          · rw [if_pos c152] at h
            refine g_40t (a := 0) (b := 80) (nx := 52) (by decide +kernel) r145 (by exact (cb_0 _ _).mpr c152) ?_
            exact h
          · rw [if_neg c152] at h
            refine g_40f (a := 0) (b := 80) (nx := 52) (by decide +kernel) r145 (by exact fun hz => c152 ((cb_0 _ _).mp hz)) ?_
            refine g_7 (a := 0) (b := 0) (nx := 53) (by decide +kernel) rfl ?_
            refine g_50 (a := 12) (b := 7) (nx := 56) (by decide +kernel) h0 ?_
            refine g_1 (a := 1) (b := 0) (nx := 57) (by decide +kernel) ?_
            obtain ⟨r146, h⟩ := h
            by_cases c151 : (M143 x0 7) = 1
            · rw [if_pos c151] at h
              refine g_41f (a := 1) (b := 80) (nx := 60) (by decide +kernel) (by rw [wr_id r146, wr_id (show inR 1 by decide)]; exact fun hz => ((cb_1 _ _).mp hz) c151) ?_
              refine g_7 (a := 0) (b := 0) (nx := 61) (by decide +kernel) rfl ?_
              refine g_52 (a := 12) (b := 27) (nx := 64) (by decide +kernel) h0 ?_
              refine g_7 (a := 0) (b := 0) (nx := 65) (by decide +kernel) rfl ?_
              refine g_52 (a := 12) (b := 12) (nx := 68) (by decide +kernel) h0 ?_
              refine g_1 (a := 0) (b := 0) (nx := 69) (by decide +kernel) ?_
              refine g_61 (a := 0) (b := 0) (nx := 70) (by decide +kernel) h.1 ?_
              replace h := h.2
              refine g_61 (a := 0) (b := 0) (nx := 71) (by decide +kernel) h.1 ?_
              replace h := h.2
              refine g_1 (a := (-1)) (b := 0) (nx := 72) (by decide +kernel) ?_
              obtain ⟨r147, h⟩ := h
              by_cases c150 : (M143 (M143 x0 27) (M143 (M143 x0 12) 0)) = (-1)
              · rw [if_pos c150] at h
                refine g_41t (a := 0) (b := 80) (nx := 75) (by decide +kernel) (by rw [wr_id r147, wr_id (show inR (-1) by decide)]; exact (cb_0 _ _).mpr c150) ?_
                exact h
              · rw [if_neg c150] at h
                refine g_41f (a := 0) (b := 80) (nx := 75) (by decide +kernel) (by rw [wr_id r147, wr_id (show inR (-1) by decide)]; exact fun hz => c150 ((cb_0 _ _).mp hz)) ?_
                refine g_7 (a := 0) (b := 0) (nx := 76) (by decide +kernel) rfl ?_
                refine g_1 (a := 3) (b := 0) (nx := 77) (by decide +kernel) ?_
                refine g_80 (a := 188) (b := 1) (nx := 80) (by decide +kernel) (r := x0) (As := [vI 3]) (st' := []) (z := 188) rfl rfl rfl (Nat.le_of_ble_eq_true rfl) h0.2 (Nat.le_of_ble_eq_true rfl) rfl (c_V (by decide +kernel) h (fun M148 h => ?_))
                exact h
            · rw [if_neg c151] at h
              refine g_41t (a := 1) (b := 80) (nx := 60) (by decide +kernel) (by rw [wr_id r146, wr_id (show inR 1 by decide)]; exact (cb_1 _ _).mpr c151) ?_
              exact h
        · rw [if_neg c165] at h
          refine g_41f (a := 0) (b := 45) (nx := 40) (by decide +kernel) (by rw [wr_id r142, wr_id (show inR 1 by decide)]; exact fun hz => c165 ((cb_0 _ _).mp hz)) ?_
          refine g_7 (a := 0) (b := 0) (nx := 41) (by decide +kernel) rfl ?_
          refine g_1 (a := 2) (b := 0) (nx := 42) (by decide +kernel) ?_
          refine g_80 (a := 188) (b := 1) (nx := 45) (by decide +kernel) (r := x0) (As := [vI 2]) (st' := []) (z := 188) rfl rfl rfl (Nat.le_of_ble_eq_true rfl) h0.2 (Nat.le_of_ble_eq_true rfl) rfl (c_V (by decide +kernel) h (fun M153 h => ?_))
          refine g_7 (a := 0) (b := 0) (nx := 46) (by decide +kernel) rfl ?_
          refine g_80 (a := 189) (b := 0) (nx := 49) (by decide +kernel) (r := x0) (As := []) (st' := []) (z := 189) rfl rfl rfl (Nat.le_of_ble_eq_true rfl) h0.2 (Nat.le_of_ble_eq_true rfl) rfl (c_I (by decide +kernel) h (fun y156 M155 h => ?_))
          obtain ⟨r157, h⟩ := h
          by_cases c164 : y156 = 0
          · rw [if_pos c164] at h
            refine g_40t (a := 0) (b := 80) (nx := 52) (by decide +kernel) r157 (by exact (cb_0 _ _).mpr c164) ?_
            exact h
          · rw [if_neg c164] at h
            refine g_40f (a := 0) (b := 80) (nx := 52) (by decide +kernel) r157 (by exact fun hz => c164 ((cb_0 _ _).mp hz)) ?_
            refine g_7 (a := 0) (b := 0) (nx := 53) (by decide +kernel) rfl ?_
            refine g_50 (a := 12) (b := 7) (nx := 56) (by decide +kernel) h0 ?_
            refine g_1 (a := 1) (b := 0) (nx := 57) (by decide +kernel) ?_
            obtain ⟨r158, h⟩ := h
            by_cases c163 : (M155 x0 7) = 1
            · rw [if_pos c163] at h
              refine g_41f (a := 1) (b := 80) (nx := 60) (by decide +kernel) (by rw [wr_id r158, wr_id (show inR 1 by decide)]; exact fun hz => ((cb_1 _ _).mp hz) c163) ?_
              refine g_7 (a := 0) (b := 0) (nx := 61) (by decide +kernel) rfl ?_
              refine g_52 (a := 12) (b := 27) (nx := 64) (by decide +kernel) h0 ?_
              refine g_7 (a := 0) (b := 0) (nx := 65) (by decide +kernel) rfl ?_
              refine g_52 (a := 12) (b := 12) (nx := 68) (by decide +kernel) h0 ?_
              refine g_1 (a := 0) (b := 0) (nx := 69) (by decide +kernel) ?_
              refine g_61 (a := 0) (b := 0) (nx := 70) (by decide +kernel) h.1 ?_
              replace h := h.2
              refine g_61 (a := 0) (b := 0) (nx := 71) (by decide +kernel) h.1 ?_
              replace h := h.2
              refine g_1 (a := (-1)) (b := 0) (nx := 72) (by decide +kernel) ?_
              obtain ⟨r159, h⟩ := h
              by_cases c162 : (M155 (M155 x0 27) (M155 (M155 x0 12) 0)) = (-1)
              · rw [if_pos c162] at h
                refine g_41t (a := 0) (b := 80) (nx := 75) (by decide +kernel) (by rw [wr_id r159, wr_id (show inR (-1) by decide)]; exact (cb_0 _ _).mpr c162) ?_
                exact h
              · rw [if_neg c162] at h
                refine g_41f (a := 0) (b := 80) (nx := 75) (by decide +kernel) (by rw [wr_id r159, wr_id (show inR (-1) by decide)]; exact fun hz => c162 ((cb_0 _ _).mp hz)) ?_
                refine g_7 (a := 0) (b := 0) (nx := 76) (by decide +kernel) rfl ?_
                refine g_1 (a := 3) (b := 0) (nx := 77) (by decide +kernel) ?_
                refine g_80 (a := 188) (b := 1) (nx := 80) (by decide +kernel) (r := x0) (As := [vI 3]) (st' := []) (z := 188) rfl rfl rfl (Nat.le_of_ble_eq_true rfl) h0.2 (Nat.le_of_ble_eq_true rfl) rfl (c_V (by decide +kernel) h (fun M160 h => ?_))
                exact h
            · rw [if_neg c163] at h
              refine g_41t (a := 1) (b := 80) (nx := 60) (by decide +kernel) (by rw [wr_id r158, wr_id (show inR 1 by decide)]; exact (cb_1 _ _).mpr c163) ?_
              exact h
  · rw [if_neg c168] at h
    refine g_41t (a := 1) (b := 14) (nx := 9) (by decide +kernel) (by rw [wr_id r1, wr_id (show inR 16 by decide)]; exact (cb_1 _ _).mpr c168) ?_
    refine g_7 (a := 0) (b := 0) (nx := 15) (by decide +kernel) rfl ?_
    refine g_80 (a := 189) (b := 0) (nx := 18) (by decide +kernel) (r := x0) (As := []) (st' := []) (z := 189) rfl rfl rfl (Nat.le_of_ble_eq_true rfl) h0.2 (Nat.le_of_ble_eq_true rfl) rfl (c_I (by decide +kernel) h (fun y3 M2 h => ?_))
    obtain ⟨r4, h⟩ := h
    by_cases c83 : y3 = 0
    · rw [if_pos c83] at h
      refine g_40t (a := 0) (b := 25) (nx := 21) (by decide +kernel) r4 (by exact (cb_0 _ _).mpr c83) ?_
      refine g_7 (a := 0) (b := 0) (nx := 26) (by decide +kernel) rfl ?_
      refine g_80 (a := 189) (b := 0) (nx := 29) (by decide +kernel) (r := x0) (As := []) (st' := []) (z := 189) rfl rfl rfl (Nat.le_of_ble_eq_true rfl) h0.2 (Nat.le_of_ble_eq_true rfl) rfl (c_I (by decide +kernel) h (fun y6 M5 h => ?_))
      obtain ⟨r7, h⟩ := h
      by_cases c42 : y6 = 0
      · rw [if_pos c42] at h
        refine g_40t (a := 0) (b := 45) (nx := 32) (by decide +kernel) r7 (by exact (cb_0 _ _).mpr c42) ?_
        refine g_7 (a := 0) (b := 0) (nx := 46) (by decide +kernel) rfl ?_
        refine g_80 (a := 189) (b := 0) (nx := 49) (by decide +kernel) (r := x0) (As := []) (st' := []) (z := 189) rfl rfl rfl (Nat.le_of_ble_eq_true rfl) h0.2 (Nat.le_of_ble_eq_true rfl) rfl (c_I (by decide +kernel) h (fun y9 M8 h => ?_))
        obtain ⟨r10, h⟩ := h
        by_cases c17 : y9 = 0
        · rw [if_pos c17] at h
          refine g_40t (a := 0) (b := 80) (nx := 52) (by decide +kernel) r10 (by exact (cb_0 _ _).mpr c17) ?_
          exact h
        · rw [if_neg c17] at h
          refine g_40f (a := 0) (b := 80) (nx := 52) (by decide +kernel) r10 (by exact fun hz => c17 ((cb_0 _ _).mp hz)) ?_
          refine g_7 (a := 0) (b := 0) (nx := 53) (by decide +kernel) rfl ?_
          refine g_50 (a := 12) (b := 7) (nx := 56) (by decide +kernel) h0 ?_
          refine g_1 (a := 1) (b := 0) (nx := 57) (by decide +kernel) ?_
          obtain ⟨r11, h⟩ := h
          by_cases c16 : (M8 x0 7) = 1
          · rw [if_pos c16] at h
            refine g_41f (a := 1) (b := 80) (nx := 60) (by decide +kernel) (by rw [wr_id r11, wr_id (show inR 1 by decide)]; exact fun hz => ((cb_1 _ _).mp hz) c16) ?_
            refine g_7 (a := 0) (b := 0) (nx := 61) (by decide +kernel) rfl ?_
            refine g_52 (a := 12) (b := 27) (nx := 64) (by decide +kernel) h0 ?_
            refine g_7 (a := 0) (b := 0) (nx := 65) (by decide +kernel) rfl ?_
            refine g_52 (a := 12) (b := 12) (nx := 68) (by decide +kernel) h0 ?_
            refine g_1 (a := 0) (b := 0) (nx := 69) (by decide +kernel) ?_
            refine g_61 (a := 0) (b := 0) (nx := 70) (by decide +kernel) h.1 ?_
            replace h := h.2
            refine g_61 (a := 0) (b := 0) (nx := 71) (by decide +kernel) h.1 ?_
            replace h := h.2
            refine g_1 (a := (-1)) (b := 0) (nx := 72) (by decide +kernel) ?_
            obtain ⟨r12, h⟩ := h
            by_cases c15 : (M8 (M8 x0 27) (M8 (M8 x0 12) 0)) = (-1)
            · rw [if_pos c15] at h
              refine g_41t (a := 0) (b := 80) (nx := 75) (by decide +kernel) (by rw [wr_id r12, wr_id (show inR (-1) by decide)]; exact (cb_0 _ _).mpr c15) ?_
              exact h
            · rw [if_neg c15] at h
              refine g_41f (a := 0) (b := 80) (nx := 75) (by decide +kernel) (by rw [wr_id r12, wr_id (show inR (-1) by decide)]; exact fun hz => c15 ((cb_0 _ _).mp hz)) ?_
              refine g_7 (a := 0) (b := 0) (nx := 76) (by decide +kernel) rfl ?_
              refine g_1 (a := 3) (b := 0) (nx := 77) (by decide +kernel) ?_
              refine g_80 (a := 188) (b := 1) (nx := 80) (by decide +kernel) (r := x0) (As := [vI 3]) (st' := []) (z := 188) rfl rfl rfl (Nat.le_of_ble_eq_true rfl) h0.2 (Nat.le_of_ble_eq_true rfl) rfl (c_V (by decide +kernel) h (fun M13 h => ?_))
              exact h
          · rw [if_neg c16] at h
            refine g_41t (a := 1) (b := 80) (nx := 60) (by decide +kernel) (by rw [wr_id r11, wr_id (show inR 1 by decide)]; exact (cb_1 _ _).mpr c16) ?_
            exact h
      · rw [if_neg c42] at h
        refine g_40f (a := 0) (b := 45) (nx := 32) (by decide +kernel) r7 (by exact fun hz => c42 ((cb_0 _ _).mp hz)) ?_
        refine g_7 (a := 0) (b := 0) (nx := 33) (by decide +kernel) rfl ?_
        refine g_50 (a := 12) (b := 5) (nx := 36) (by decide +kernel) h0 ?_
        refine g_1 (a := 1) (b := 0) (nx := 37) (by decide +kernel) ?_
        obtain ⟨r18, h⟩ := h
        by_cases c41 : (M5 x0 5) = 1
        · rw [if_pos c41] at h
          refine g_41t (a := 0) (b := 45) (nx := 40) (by decide +kernel) (by rw [wr_id r18, wr_id (show inR 1 by decide)]; exact (cb_0 _ _).mpr c41) ?_
          refine g_7 (a := 0) (b := 0) (nx := 46) (by decide +kernel) rfl ?_
          refine g_80 (a := 189) (b := 0) (nx := 49) (by decide +kernel) (r := x0) (As := []) (st' := []) (z := 189) rfl rfl rfl (Nat.le_of_ble_eq_true rfl) h0.2 (Nat.le_of_ble_eq_true rfl) rfl (c_I (by decide +kernel) h (fun y20 M19 h => ?_))
          obtain ⟨r21, h⟩ := h
          by_cases c28 : y20 = 0
          · rw [if_pos c28] at h
            refine g_40t (a := 0) (b := 80) (nx := 52) (by decide +kernel) r21 (by exact (cb_0 _ _).mpr c28) ?_
            exact h
          · rw [if_neg c28] at h
            refine g_40f (a := 0) (b := 80) (nx := 52) (by decide +kernel) r21 (by exact fun hz => c28 ((cb_0 _ _).mp hz)) ?_
            refine g_7 (a := 0) (b := 0) (nx := 53) (by decide +kernel) rfl ?_
            refine g_50 (a := 12) (b := 7) (nx := 56) (by decide +kernel) h0 ?_
            refine g_1 (a := 1) (b := 0) (nx := 57) (by decide +kernel) ?_
            obtain ⟨r22, h⟩ := h
            by_cases c27 : (M19 x0 7) = 1
            · rw [if_pos c27] at h
              refine g_41f (a := 1) (b := 80) (nx := 60) (by decide +kernel) (by rw [wr_id r22, wr_id (show inR 1 by decide)]; exact fun hz => ((cb_1 _ _).mp hz) c27) ?_
              refine g_7 (a := 0) (b := 0) (nx := 61) (by decide +kernel) rfl ?_
              refine g_52 (a := 12) (b := 27) (nx := 64) (by decide +kernel) h0 ?_
              refine g_7 (a := 0) (b := 0) (nx := 65) (by decide +kernel) rfl ?_
              refine g_52 (a := 12) (b := 12) (nx := 68) (by decide +kernel) h0 ?_
              refine g_1 (a := 0) (b := 0) (nx := 69) (by decide +kernel) ?_
              refine g_61 (a := 0) (b := 0) (nx := 70) (by decide +kernel) h.1 ?_
              replace h := h.2
              refine g_61 (a := 0) (b := 0) (nx := 71) (by decide +kernel) h.1 ?_
              replace h := h.2
              refine g_1 (a := (-1)) (b := 0) (nx := 72) (by decide +kernel) ?_
              obtain ⟨r23, h⟩ := h
              by_cases c26 : (M19 (M19 x0 27) (M19 (M19 x0 12) 0)) = (-1)
              · rw [if_pos c26] at h
                refine g_41t (a := 0) (b := 80) (nx := 75) (by decide +kernel) (by rw [wr_id r23, wr_id (show inR (-1) by decide)]; exact (cb_0 _ _).mpr c26) ?_
                exact h
              · rw [if_neg c26] at h
                refine g_41f (a := 0) (b := 80) (nx := 75) (by decide +kernel) (by rw [wr_id r23, wr_id (show inR (-1) by decide)]; exact fun hz => c26 ((cb_0 _ _).mp hz)) ?_
                refine g_7 (a := 0) (b := 0) (nx := 76) (by decide +kernel) rfl ?_
                refine g_1 (a := 3) (b := 0) (nx := 77) (by decide +kernel) ?_
                refine g_80 (a := 188) (b := 1) (nx := 80) (by decide +kernel) (r := x0) (As := [vI 3]) (st' := []) (z := 188) rfl rfl rfl (Nat.le_of_ble_eq_true rfl) h0.2 (Nat.le_of_ble_eq_true rfl) rfl (c_V (by decide +kernel) h (fun M24 h => ?_))
                exact h
            · rw [if_neg c27] at h
              refine g_41t (a := 1) (b := 80) (nx := 60) (by decide +kernel) (by rw [wr_id r22, wr_id (show inR 1 by decide)]; exact (cb_1 _ _).mpr c27) ?_
              exact h
        · rw [if_neg c41] at h
          refine g_41f (a := 0) (b := 45) (nx := 40) (by decide +kernel) (by rw [wr_id r18, wr_id (show inR 1 by decide)]; exact fun hz => c41 ((cb_0 _ _).mp hz)) ?_
          refine g_7 (a := 0) (b := 0) (nx := 41) (by decide +kernel) rfl ?_
          refine g_1 (a := 2) (b := 0) (nx := 42) (by decide +kernel) ?_
          refine g_80 (a := 188) (b := 1) (nx := 45) (by decide +kernel) (r := x0) (As := [vI 2]) (st' := []) (z := 188) rfl rfl rfl (Nat.le_of_ble_eq_true rfl) h0.2 (Nat.le_of_ble_eq_true rfl) rfl (c_V (by decide +kernel) h (fun M29 h => ?_))
          refine g_7 (a := 0) (b := 0) (nx := 46) (by decide +kernel) rfl ?_
          refine g_80 (a := 189) (b := 0) (nx := 49) (by decide +kernel) (r := x0) (As := []) (st' := []) (z := 189) rfl rfl rfl (Nat.le_of_ble_eq_true rfl) h0.2 (Nat.le_of_ble_eq_true rfl) rfl (c_I (by decide +kernel) h (fun y32 M31 h => ?_))
          obtain ⟨r33, h⟩ := h
          by_cases c40 : y32 = 0
          · rw [if_pos c40] at h
            refine g_40t (a := 0) (b := 80) (nx := 52) (by decide +kernel) r33 (by exact (cb_0 _ _).mpr c40) ?_
            exact h
          · rw [if_neg c40] at h
            refine g_40f (a := 0) (b := 80) (nx := 52) (by decide +kernel) r33 (by exact fun hz => c40 ((cb_0 _ _).mp hz)) ?_
            refine g_7 (a := 0) (b := 0) (nx := 53) (by decide +kernel) rfl ?_
            refine g_50 (a := 12) (b := 7) (nx := 56) (by decide +kernel) h0 ?_
            refine g_1 (a := 1) (b := 0) (nx := 57) (by decide +kernel) ?_
            obtain ⟨r34, h⟩ := h
            by_cases c39 : (M31 x0 7) = 1
            · rw [if_pos c39] at h
              refine g_41f (a := 1) (b := 80) (nx := 60) (by decide +kernel) (by rw [wr_id r34, wr_id (show inR 1 by decide)]; exact fun hz => ((cb_1 _ _).mp hz) c39) ?_
              refine g_7 (a := 0) (b := 0) (nx := 61) (by decide +kernel) rfl ?_
              refine g_52 (a := 12) (b := 27) (nx := 64) (by decide +kernel) h0 ?_
              refine g_7 (a := 0) (b := 0) (nx := 65) (by decide +kernel) rfl ?_
              refine g_52 (a := 12) (b := 12) (nx := 68) (by decide +kernel) h0 ?_
              refine g_1 (a := 0) (b := 0) (nx := 69) (by decide +kernel) ?_
              refine g_61 (a := 0) (b := 0) (nx := 70) (by decide +kernel) h.1 ?_
              replace h := h.2
              refine g_61 (a := 0) (b := 0) (nx := 71) (by decide +kernel) h.1 ?_
              replace h := h.2
              refine g_1 (a := (-1)) (b := 0) (nx := 72) (by decide +kernel) ?_
              obtain ⟨r35, h⟩ := h
              by_cases c38 : (M31 (M31 x0 27) (M31 (M31 x0 12) 0)) = (-1)
              · rw [if_pos c38] at h
                refine g_41t (a := 0) (b := 80) (nx := 75) (by decide +kernel) (by rw [wr_id r35, wr_id (show inR (-1) by decide)]; exact (cb_0 _ _).mpr c38) ?_
                exact h
              · rw [if_neg c38] at h
                refine g_41f (a := 0) (b := 80) (nx := 75) (by decide +kernel) (by rw [wr_id r35, wr_id (show inR (-1) by decide)]; exact fun hz => c38 ((cb_0 _ _).mp hz)) ?_
                refine g_7 (a := 0) (b := 0) (nx := 76) (by decide +kernel) rfl ?_
                refine g_1 (a := 3) (b := 0) (nx := 77) (by decide +kernel) ?_
                refine g_80 (a := 188) (b := 1) (nx := 80) (by decide +kernel) (r := x0) (As := [vI 3]) (st' := []) (z := 188) rfl rfl rfl (Nat.le_of_ble_eq_true rfl) h0.2 (Nat.le_of_ble_eq_true rfl) rfl (c_V (by decide +kernel) h (fun M36 h => ?_))
                exact h
            · rw [if_neg c39] at h
              refine g_41t (a := 1) (b := 80) (nx := 60) (by decide +kernel) (by rw [wr_id r34, wr_id (show inR 1 by decide)]; exact (cb_1 _ _).mpr c39) ?_
              exact h
    · rw [if_neg c83] at h
      refine g_40f (a := 0) (b := 25) (nx := 21) (by decide +kernel) r4 (by exact fun hz => c83 ((cb_0 _ _).mp hz)) ?_
      refine g_7 (a := 0) (b := 0) (nx := 22) (by decide +kernel) rfl ?_
      refine g_80 (a := 187) (b := 0) (nx := 25) (by decide +kernel) (r := x0) (As := []) (st' := []) (z := 187) rfl rfl rfl (Nat.le_of_ble_eq_true rfl) h0.2 (Nat.le_of_ble_eq_true rfl) rfl (c_V (by decide +kernel) h (fun M43 h => ?_))
      refine g_7 (a := 0) (b := 0) (nx := 26) (by decide +kernel) rfl ?_
      refine g_80 (a := 189) (b := 0) (nx := 29) (by decide +kernel) (r := x0) (As := []) (st' := []) (z := 189) rfl rfl rfl (Nat.le_of_ble_eq_true rfl) h0.2 (Nat.le_of_ble_eq_true rfl) rfl (c_I (by decide +kernel) h (fun y46 M45 h => ?_))
      obtain ⟨r47, h⟩ := h
      by_cases c82 : y46 = 0
      · rw [if_pos c82] at h
        refine g_40t (a := 0) (b := 45) (nx := 32) (by decide +kernel) r47 (by exact (cb_0 _ _).mpr c82) ?_
        refine g_7 (a := 0) (b := 0) (nx := 46) (by decide +kernel) rfl ?_
        refine g_80 (a := 189) (b := 0) (nx := 49) (by decide +kernel) (r := x0) (As := []) (st' := []) (z := 189) rfl rfl rfl (Nat.le_of_ble_eq_true rfl) h0.2 (Nat.le_of_ble_eq_true rfl) rfl (c_I (by decide +kernel) h (fun y49 M48 h => ?_))
        obtain ⟨r50, h⟩ := h
        by_cases c57 : y49 = 0
        · rw [if_pos c57] at h
          refine g_40t (a := 0) (b := 80) (nx := 52) (by decide +kernel) r50 (by exact (cb_0 _ _).mpr c57) ?_
          exact h
        · rw [if_neg c57] at h
          refine g_40f (a := 0) (b := 80) (nx := 52) (by decide +kernel) r50 (by exact fun hz => c57 ((cb_0 _ _).mp hz)) ?_
          refine g_7 (a := 0) (b := 0) (nx := 53) (by decide +kernel) rfl ?_
          refine g_50 (a := 12) (b := 7) (nx := 56) (by decide +kernel) h0 ?_
          refine g_1 (a := 1) (b := 0) (nx := 57) (by decide +kernel) ?_
          obtain ⟨r51, h⟩ := h
          by_cases c56 : (M48 x0 7) = 1
          · rw [if_pos c56] at h
            refine g_41f (a := 1) (b := 80) (nx := 60) (by decide +kernel) (by rw [wr_id r51, wr_id (show inR 1 by decide)]; exact fun hz => ((cb_1 _ _).mp hz) c56) ?_
            refine g_7 (a := 0) (b := 0) (nx := 61) (by decide +kernel) rfl ?_
            refine g_52 (a := 12) (b := 27) (nx := 64) (by decide +kernel) h0 ?_
            refine g_7 (a := 0) (b := 0) (nx := 65) (by decide +kernel) rfl ?_
            refine g_52 (a := 12) (b := 12) (nx := 68) (by decide +kernel) h0 ?_
            refine g_1 (a := 0) (b := 0) (nx := 69) (by decide +kernel) ?_
            refine g_61 (a := 0) (b := 0) (nx := 70) (by decide +kernel) h.1 ?_
            replace h := h.2
            refine g_61 (a := 0) (b := 0) (nx := 71) (by decide +kernel) h.1 ?_
            replace h := h.2
            refine g_1 (a := (-1)) (b := 0) (nx := 72) (by decide +kernel) ?_
            obtain ⟨r52, h⟩ := h
            by_cases c55 : (M48 (M48 x0 27) (M48 (M48 x0 12) 0)) = (-1)
            · rw [if_pos c55] at h
              refine g_41t (a := 0) (b := 80) (nx := 75) (by decide +kernel) (by rw [wr_id r52, wr_id (show inR (-1) by decide)]; exact (cb_0 _ _).mpr c55) ?_
              exact h
            · rw [if_neg c55] at h
              refine g_41f (a := 0) (b := 80) (nx := 75) (by decide +kernel) (by rw [wr_id r52, wr_id (show inR (-1) by decide)]; exact fun hz => c55 ((cb_0 _ _).mp hz)) ?_
              refine g_7 (a := 0) (b := 0) (nx := 76) (by decide +kernel) rfl ?_
              refine g_1 (a := 3) (b := 0) (nx := 77) (by decide +kernel) ?_
              refine g_80 (a := 188) (b := 1) (nx := 80) (by decide +kernel) (r := x0) (As := [vI 3]) (st' := []) (z := 188) rfl rfl rfl (Nat.le_of_ble_eq_true rfl) h0.2 (Nat.le_of_ble_eq_true rfl) rfl (c_V (by decide +kernel) h (fun M53 h => ?_))
              exact h
          · rw [if_neg c56] at h
            refine g_41t (a := 1) (b := 80) (nx := 60) (by decide +kernel) (by rw [wr_id r51, wr_id (show inR 1 by decide)]; exact (cb_1 _ _).mpr c56) ?_
            exact h
      · rw [if_neg c82] at h
        refine g_40f (a := 0) (b := 45) (nx := 32) (by decide +kernel) r47 (by exact fun hz => c82 ((cb_0 _ _).mp hz)) ?_
        refine g_7 (a := 0) (b := 0) (nx := 33) (by decide +kernel) rfl ?_
        refine g_50 (a := 12) (b := 5) (nx := 36) (by decide +kernel) h0 ?_
        refine g_1 (a := 1) (b := 0) (nx := 37) (by decide +kernel) ?_
        obtain ⟨r58, h⟩ := h
        by_cases c81 : (M45 x0 5) = 1
        · rw [if_pos c81] at h
          refine g_41t (a := 0) (b := 45) (nx := 40) (by decide +kernel) (by rw [wr_id r58, wr_id (show inR 1 by decide)]; exact (cb_0 _ _).mpr c81) ?_
          refine g_7 (a := 0) (b := 0) (nx := 46) (by decide +kernel) rfl ?_
          refine g_80 (a := 189) (b := 0) (nx := 49) (by decide +kernel) (r := x0) (As := []) (st' := []) (z := 189) rfl rfl rfl (Nat.le_of_ble_eq_true rfl) h0.2 (Nat.le_of_ble_eq_true rfl) rfl (c_I (by decide +kernel) h (fun y60 M59 h => ?_))
          obtain ⟨r61, h⟩ := h
          by_cases c68 : y60 = 0
          · rw [if_pos c68] at h
            refine g_40t (a := 0) (b := 80) (nx := 52) (by decide +kernel) r61 (by exact (cb_0 _ _).mpr c68) ?_
            exact h
          · rw [if_neg c68] at h
            refine g_40f (a := 0) (b := 80) (nx := 52) (by decide +kernel) r61 (by exact fun hz => c68 ((cb_0 _ _).mp hz)) ?_
            refine g_7 (a := 0) (b := 0) (nx := 53) (by decide +kernel) rfl ?_
            refine g_50 (a := 12) (b := 7) (nx := 56) (by decide +kernel) h0 ?_
            refine g_1 (a := 1) (b := 0) (nx := 57) (by decide +kernel) ?_
            obtain ⟨r62, h⟩ := h
            by_cases c67 : (M59 x0 7) = 1
            · rw [if_pos c67] at h
              refine g_41f (a := 1) (b := 80) (nx := 60) (by decide +kernel) (by rw [wr_id r62, wr_id (show inR 1 by decide)]; exact fun hz => ((cb_1 _ _).mp hz) c67) ?_
              refine g_7 (a := 0) (b := 0) (nx := 61) (by decide +kernel) rfl ?_
              refine g_52 (a := 12) (b := 27) (nx := 64) (by decide +kernel) h0 ?_
              refine g_7 (a := 0) (b := 0) (nx := 65) (by decide +kernel) rfl ?_
              refine g_52 (a := 12) (b := 12) (nx := 68) (by decide +kernel) h0 ?_
              refine g_1 (a := 0) (b := 0) (nx := 69) (by decide +kernel) ?_
              refine g_61 (a := 0) (b := 0) (nx := 70) (by decide +kernel) h.1 ?_
              replace h := h.2
              refine g_61 (a := 0) (b := 0) (nx := 71) (by decide +kernel) h.1 ?_
              replace h := h.2
              refine g_1 (a := (-1)) (b := 0) (nx := 72) (by decide +kernel) ?_
              obtain ⟨r63, h⟩ := h
              by_cases c66 : (M59 (M59 x0 27) (M59 (M59 x0 12) 0)) = (-1)
              · rw [if_pos c66] at h
                refine g_41t (a := 0) (b := 80) (nx := 75) (by decide +kernel) (by rw [wr_id r63, wr_id (show inR (-1) by decide)]; exact (cb_0 _ _).mpr c66) ?_
                exact h
              · rw [if_neg c66] at h
                refine g_41f (a := 0) (b := 80) (nx := 75) (by decide +kernel) (by rw [wr_id r63, wr_id (show inR (-1) by decide)]; exact fun hz => c66 ((cb_0 _ _).mp hz)) ?_
                refine g_7 (a := 0) (b := 0) (nx := 76) (by decide +kernel) rfl ?_
                refine g_1 (a := 3) (b := 0) (nx := 77) (by decide +kernel) ?_
                refine g_80 (a := 188) (b := 1) (nx := 80) (by decide +kernel) (r := x0) (As := [vI 3]) (st' := []) (z := 188) rfl rfl rfl (Nat.le_of_ble_eq_true rfl) h0.2 (Nat.le_of_ble_eq_true rfl) rfl (c_V (by decide +kernel) h (fun M64 h => ?_))
                exact h
            · rw [if_neg c67] at h
              refine g_41t (a := 1) (b := 80) (nx := 60) (by decide +kernel) (by rw [wr_id r62, wr_id (show inR 1 by decide)]; exact (cb_1 _ _).mpr c67) ?_
              exact h
        · rw [if_neg c81] at h
          refine g_41f (a := 0) (b := 45) (nx := 40) (by decide +kernel) (by rw [wr_id r58, wr_id (show inR 1 by decide)]; exact fun hz => c81 ((cb_0 _ _).mp hz)) ?_
          refine g_7 (a := 0) (b := 0) (nx := 41) (by decide +kernel) rfl ?_
          refine g_1 (a := 2) (b := 0) (nx := 42) (by decide +kernel) ?_
          refine g_80 (a := 188) (b := 1) (nx := 45) (by decide +kernel) (r := x0) (As := [vI 2]) (st' := []) (z := 188) rfl rfl rfl (Nat.le_of_ble_eq_true rfl) h0.2 (Nat.le_of_ble_eq_true rfl) rfl (c_V (by decide +kernel) h (fun M69 h => ?_))
          refine g_7 (a := 0) (b := 0) (nx := 46) (by decide +kernel) rfl ?_
          refine g_80 (a := 189) (b := 0) (nx := 49) (by decide +kernel) (r := x0) (As := []) (st' := []) (z := 189) rfl rfl rfl (Nat.le_of_ble_eq_true rfl) h0.2 (Nat.le_of_ble_eq_true rfl) rfl (c_I (by decide +kernel) h (fun y72 M71 h => ?_))
          obtain ⟨r73, h⟩ := h
          by_cases c80 : y72 = 0
          · rw [if_pos c80] at h
            refine g_40t (a := 0) (b := 80) (nx := 52) (by decide +kernel) r73 (by exact (cb_0 _ _).mpr c80) ?_
            exact h
          · rw [if_neg c80] at h
            refine g_40f (a := 0) (b := 80) (nx := 52) (by decide +kernel) r73 (by exact fun hz => c80 ((cb_0 _ _).mp hz)) ?_
            refine g_7 (a := 0) (b := 0) (nx := 53) (by decide +kernel) rfl ?_
            refine g_50 (a := 12) (b := 7) (nx := 56) (by decide +kernel) h0 ?_
            refine g_1 (a := 1) (b := 0) (nx := 57) (by decide +kernel) ?_
            obtain ⟨r74, h⟩ := h
            by_cases c79 : (M71 x0 7) = 1
            · rw [if_pos c79] at h
              refine g_41f (a := 1) (b := 80) (nx := 60) (by decide +kernel) (by rw [wr_id r74, wr_id (show inR 1 by decide)]; exact fun hz => ((cb_1 _ _).mp hz) c79) ?_
              refine g_7 (a := 0) (b := 0) (nx := 61) (by decide +kernel) rfl ?_
              refine g_52 (a := 12) (b := 27) (nx := 64) (by decide +kernel) h0 ?_
              refine g_7 (a := 0) (b := 0) (nx := 65) (by decide +kernel) rfl ?_
              refine g_52 (a := 12) (b := 12) (nx := 68) (by decide +kernel) h0 ?_
              refine g_1 (a := 0) (b := 0) (nx := 69) (by decide +kernel) ?_
              refine g_61 (a := 0) (b := 0) (nx := 70) (by decide +kernel) h.1 ?_
              replace h := h.2
              refine g_61 (a := 0) (b := 0) (nx := 71) (by decide +kernel) h.1 ?_
              replace h := h.2
              refine g_1 (a := (-1)) (b := 0) (nx := 72) (by decide +kernel) ?_
              obtain ⟨r75, h⟩ := h
              by_cases c78 : (M71 (M71 x0 27) (M71 (M71 x0 12) 0)) = (-1)
              · rw [if_pos c78] at h
                refine g_41t (a := 0) (b := 80) (nx := 75) (by decide +kernel) (by rw [wr_id r75, wr_id (show inR (-1) by decide)]; exact (cb_0 _ _).mpr c78) ?_
                exact h
              · rw [if_neg c78] at h
                refine g_41f (a := 0) (b := 80) (nx := 75) (by decide +kernel) (by rw [wr_id r75, wr_id (show inR (-1) by decide)]; exact fun hz => c78 ((cb_0 _ _).mp hz)) ?_
                refine g_7 (a := 0) (b := 0) (nx := 76) (by decide +kernel) rfl ?_
                refine g_1 (a := 3) (b := 0) (nx := 77) (by decide +kernel) ?_
                refine g_80 (a := 188) (b := 1) (nx := 80) (by decide +kernel) (r := x0) (As := [vI 3]) (st' := []) (z := 188) rfl rfl rfl (Nat.le_of_ble_eq_true rfl) h0.2 (Nat.le_of_ble_eq_true rfl) rfl (c_V (by decide +kernel) h (fun M76 h => ?_))
                exact h
            · rw [if_neg c79] at h
              refine g_41t (a := 1) (b := 80) (nx := 60) (by decide +kernel) (by rw [wr_id r74, wr_id (show inR 1 by decide)]; exact (cb_1 _ _).mpr c79) ?_
              exact h
theorem t_195_80 {x0 : Int} {M : Mem} {Q : AV → Mem → Prop} (h0 : gO 12 x0) (h : WI 189 [vR x0] M (fun y2 M1 => inR y2 ∧ (if y2 = 0 then (inR (M1 x0 8) ∧ (if (M1 x0 8) ≤ 0 then ((gA 20 (M1 x0 12) 0) ∧ WV 187 [vR x0] M1 (fun M5 => WI 192 [vR x0, vI 0, vI 9] M5 (fun y8 M7 => WI 190 [vR x0, vL 318611] M7 (fun y10 M9 => inR y10 ∧ (if y10 = 0 then (inR (M9 x0 8) ∧ (if (M9 x0 8) ≤ 0 then ((gA 20 (M9 x0 27) (M1 (M1 x0 12) 0)) ∧ (gA 20 ((upM M9 (M9 x0 27) (M1 (M1 x0 12) 0) (M9 x0 14)) x0 28) ((upM M9 (M9 x0 27) (M1 (M1 x0 12) 0) (M9 x0 14)) x0 14)) ∧ (gA 20 ((upM (upM M9 (M9 x0 27) (M1 (M1 x0 12) 0) (M9 x0 14)) ((upM M9 (M9 x0 27) (M1 (M1 x0 12) 0) (M9 x0 14)) x0 28) ((upM M9 (M9 x0 27) (M1 (M1 x0 12) 0) (M9 x0 14)) x0 14) (M1 (M1 x0 12) 0)) x0 29) ((upM (upM M9 (M9 x0 27) (M1 (M1 x0 12) 0) (M9 x0 14)) ((upM M9 (M9 x0 27) (M1 (M1 x0 12) 0) (M9 x0 14)) x0 28) ((upM M9 (M9 x0 27) (M1 (M1 x0 12) 0) (M9 x0 14)) x0 14) (M1 (M1 x0 12) 0)) x0 14)) ∧ WI 178 [vI y10] (upM (upM (upM M9 (M9 x0 27) (M1 (M1 x0 12) 0) (M9 x0 14)) ((upM M9 (M9 x0 27) (M1 (M1 x0 12) 0) (M9 x0 14)) x0 28) ((upM M9 (M9 x0 27) (M1 (M1 x0 12) 0) (M9 x0 14)) x0 14) (M1 (M1 x0 12) 0)) ((upM (upM M9 (M9 x0 27) (M1 (M1 x0 12) 0) (M9 x0 14)) ((upM M9 (M9 x0 27) (M1 (M1 x0 12) 0) (M9 x0 14)) x0 28) ((upM M9 (M9 x0 27) (M1 (M1 x0 12) 0) (M9 x0 14)) x0 14) (M1 (M1 x0 12) 0)) x0 29) ((upM (upM M9 (M9 x0 27) (M1 (M1 x0 12) 0) (M9 x0 14)) ((upM M9 (M9 x0 27) (M1 (M1 x0 12) 0) (M9 x0 14)) x0 28) ((upM M9 (M9 x0 27) (M1 (M1 x0 12) 0) (M9 x0 14)) x0 14) (M1 (M1 x0 12) 0)) x0 14) y8) (fun y14 M13 => (gA 20 ((upM (upM (upM M9 (M9 x0 27) (M1 (M1 x0 12) 0) (M9 x0 14)) ((upM M9 (M9 x0 27) (M1 (M1 x0 12) 0) (M9 x0 14)) x0 28) ((upM M9 (M9 x0 27) (M1 (M1 x0 12) 0) (M9 x0 14)) x0 14) (M1 (M1 x0 12) 0)) ((upM (upM M9 (M9 x0 27) (M1 (M1 x0 12) 0) (M9 x0 14)) ((upM M9 (M9 x0 27) (M1 (M1 x0 12) 0) (M9 x0 14)) x0 28) ((upM M9 (M9 x0 27) (M1 (M1 x0 12) 0) (M9 x0 14)) x0 14) (M1 (M1 x0 12) 0)) x0 29) ((upM (upM M9 (M9 x0 27) (M1 (M1 x0 12) 0) (M9 x0 14)) ((upM M9 (M9 x0 27) (M1 (M1 x0 12) 0) (M9 x0 14)) x0 28) ((upM M9 (M9 x0 27) (M1 (M1 x0 12) 0) (M9 x0 14)) x0 14) (M1 (M1 x0 12) 0)) x0 14) y8) x0 30) ((upM (upM (upM M9 (M9 x0 27) (M1 (M1 x0 12) 0) (M9 x0 14)) ((upM M9 (M9 x0 27) (M1 (M1 x0 12) 0) (M9 x0 14)) x0 28) ((upM M9 (M9 x0 27) (M1 (M1 x0 12) 0) (M9 x0 14)) x0 14) (M1 (M1 x0 12) 0)) ((upM (upM M9 (M9 x0 27) (M1 (M1 x0 12) 0) (M9 x0 14)) ((upM M9 (M9 x0 27) (M1 (M1 x0 12) 0) (M9 x0 14)) x0 28) ((upM M9 (M9 x0 27) (M1 (M1 x0 12) 0) (M9 x0 14)) x0 14) (M1 (M1 x0 12) 0)) x0 29) ((upM (upM M9 (M9 x0 27) (M1 (M1 x0 12) 0) (M9 x0 14)) ((upM M9 (M9 x0 27) (M1 (M1 x0 12) 0) (M9 x0 14)) x0 28) ((upM M9 (M9 x0 27) (M1 (M1 x0 12) 0) (M9 x0 14)) x0 14) (M1 (M1 x0 12) 0)) x0 14) y8) x0 14)) ∧ Q (vI 0) (upM (upM M13 ((upM (upM (upM M9 (M9 x0 27) (M1 (M1 x0 12) 0) (M9 x0 14)) ((upM M9 (M9 x0 27) (M1 (M1 x0 12) 0) (M9 x0 14)) x0 28) ((upM M9 (M9 x0 27) (M1 (M1 x0 12) 0) (M9 x0 14)) x0 14) (M1 (M1 x0 12) 0)) ((upM (upM M9 (M9 x0 27) (M1 (M1 x0 12) 0) (M9 x0 14)) ((upM M9 (M9 x0 27) (M1 (M1 x0 12) 0) (M9 x0 14)) x0 28) ((upM M9 (M9 x0 27) (M1 (M1 x0 12) 0) (M9 x0 14)) x0 14) (M1 (M1 x0 12) 0)) x0 29) ((upM (upM M9 (M9 x0 27) (M1 (M1 x0 12) 0) (M9 x0 14)) ((upM M9 (M9 x0 27) (M1 (M1 x0 12) 0) (M9 x0 14)) x0 28) ((upM M9 (M9 x0 27) (M1 (M1 x0 12) 0) (M9 x0 14)) x0 14) (M1 (M1 x0 12) 0)) x0 14) y8) x0 30) ((upM (upM (upM M9 (M9 x0 27) (M1 (M1 x0 12) 0) (M9 x0 14)) ((upM M9 (M9 x0 27) (M1 (M1 x0 12) 0) (M9 x0 14)) x0 28) ((upM M9 (M9 x0 27) (M1 (M1 x0 12) 0) (M9 x0 14)) x0 14) (M1 (M1 x0 12) 0)) ((upM (upM M9 (M9 x0 27) (M1 (M1 x0 12) 0) (M9 x0 14)) ((upM M9 (M9 x0 27) (M1 (M1 x0 12) 0) (M9 x0 14)) x0 28) ((upM M9 (M9 x0 27) (M1 (M1 x0 12) 0) (M9 x0 14)) x0 14) (M1 (M1 x0 12) 0)) x0 29) ((upM (upM M9 (M9 x0 27) (M1 (M1 x0 12) 0) (M9 x0 14)) ((upM M9 (M9 x0 27) (M1 (M1 x0 12) 0) (M9 x0 14)) x0 28) ((upM M9 (M9 x0 27) (M1 (M1 x0 12) 0) (M9 x0 14)) x0 14) (M1 (M1 x0 12) 0)) x0 14) y8) x0 14) y14) x0 14 (((upM M13 ((upM (upM (upM M9 (M9 x0 27) (M1 (M1 x0 12) 0) (M9 x0 14)) ((upM M9 (M9 x0 27) (M1 (M1 x0 12) 0) (M9 x0 14)) x0 28) ((upM M9 (M9 x0 27) (M1 (M1 x0 12) 0) (M9 x0 14)) x0 14) (M1 (M1 x0 12) 0)) ((upM (upM M9 (M9 x0 27) (M1 (M1 x0 12) 0) (M9 x0 14)) ((upM M9 (M9 x0 27) (M1 (M1 x0 12) 0) (M9 x0 14)) x0 28) ((upM M9 (M9 x0 27) (M1 (M1 x0 12) 0) (M9 x0 14)) x0 14) (M1 (M1 x0 12) 0)) x0 29) ((upM (upM M9 (M9 x0 27) (M1 (M1 x0 12) 0) (M9 x0 14)) ((upM M9 (M9 x0 27) (M1 (M1 x0 12) 0) (M9 x0 14)) x0 28) ((upM M9 (M9 x0 27) (M1 (M1 x0 12) 0) (M9 x0 14)) x0 14) (M1 (M1 x0 12) 0)) x0 14) y8) x0 30) ((upM (upM (upM M9 (M9 x0 27) (M1 (M1 x0 12) 0) (M9 x0 14)) ((upM M9 (M9 x0 27) (M1 (M1 x0 12) 0) (M9 x0 14)) x0 28) ((upM M9 (M9 x0 27) (M1 (M1 x0 12) 0) (M9 x0 14)) x0 14) (M1 (M1 x0 12) 0)) ((upM (upM M9 (M9 x0 27) (M1 (M1 x0 12) 0) (M9 x0 14)) ((upM M9 (M9 x0 27) (M1 (M1 x0 12) 0) (M9 x0 14)) x0 28) ((upM M9 (M9 x0 27) (M1 (M1 x0 12) 0) (M9 x0 14)) x0 14) (M1 (M1 x0 12) 0)) x0 29) ((upM (upM M9 (M9 x0 27) (M1 (M1 x0 12) 0) (M9 x0 14)) ((upM M9 (M9 x0 27) (M1 (M1 x0 12) 0) (M9 x0 14)) x0 28) ((upM M9 (M9 x0 27) (M1 (M1 x0 12) 0) (M9 x0 14)) x0 14) (M1 (M1 x0 12) 0)) x0 14) y8) x0 14) y14) x0 14) + 1)))) else (Q (vI 0) M9))) else (WV 187 [vR x0] M9 (fun M16 => inR (M16 x0 8) ∧ (if (M16 x0 8) ≤ 0 then ((gA 20 (M16 x0 27) (M1 (M1 x0 12) 0)) ∧ (gA 20 ((upM M16 (M16 x0 27) (M1 (M1 x0 12) 0) (M16 x0 14)) x0 28) ((upM M16 (M16 x0 27) (M1 (M1 x0 12) 0) (M16 x0 14)) x0 14)) ∧ (gA 20 ((upM (upM M16 (M16 x0 27) (M1 (M1 x0 12) 0) (M16 x0 14)) ((upM M16 (M16 x0 27) (M1 (M1 x0 12) 0) (M16 x0 14)) x0 28) ((upM M16 (M16 x0 27) (M1 (M1 x0 12) 0) (M16 x0 14)) x0 14) (M1 (M1 x0 12) 0)) x0 29) ((upM (upM M16 (M16 x0 27) (M1 (M1 x0 12) 0) (M16 x0 14)) ((upM M16 (M16 x0 27) (M1 (M1 x0 12) 0) (M16 x0 14)) x0 28) ((upM M16 (M16 x0 27) (M1 (M1 x0 12) 0) (M16 x0 14)) x0 14) (M1 (M1 x0 12) 0)) x0 14)) ∧ WI 178 [vI y10] (upM (upM (upM M16 (M16 x0 27) (M1 (M1 x0 12) 0) (M16 x0 14)) ((upM M16 (M16 x0 27) (M1 (M1 x0 12) 0) (M16 x0 14)) x0 28) ((upM M16 (M16 x0 27) (M1 (M1 x0 12) 0) (M16 x0 14)) x0 14) (M1 (M1 x0 12) 0)) ((upM (upM M16 (M16 x0 27) (M1 (M1 x0 12) 0) (M16 x0 14)) ((upM M16 (M16 x0 27) (M1 (M1 x0 12) 0) (M16 x0 14)) x0 28) ((upM M16 (M16 x0 27) (M1 (M1 x0 12) 0) (M16 x0 14)) x0 14) (M1 (M1 x0 12) 0)) x0 29) ((upM (upM M16 (M16 x0 27) (M1 (M1 x0 12) 0) (M16 x0 14)) ((upM M16 (M16 x0 27) (M1 (M1 x0 12) 0) (M16 x0 14)) x0 28) ((upM M16 (M16 x0 27) (M1 (M1 x0 12) 0) (M16 x0 14)) x0 14) (M1 (M1 x0 12) 0)) x0 14) y8) (fun y20 M19 => (gA 20 ((upM (upM (upM M16 (M16 x0 27) (M1 (M1 x0 12) 0) (M16 x0 14)) ((upM M16 (M16 x0 27) (M1 (M1 x0 12) 0) (M16 x0 14)) x0 28) ((upM M16 (M16 x0 27) (M1 (M1 x0 12) 0) (M16 x0 14)) x0 14) (M1 (M1 x0 12) 0)) ((upM (upM M16 (M16 x0 27) (M1 (M1 x0 12) 0) (M16 x0 14)) ((upM M16 (M16 x0 27) (M1 (M1 x0 12) 0) (M16 x0 14)) x0 28) ((upM M16 (M16 x0 27) (M1 (M1 x0 12) 0) (M16 x0 14)) x0 14) (M1 (M1 x0 12) 0)) x0 29) ((upM (upM M16 (M16 x0 27) (M1 (M1 x0 12) 0) (M16 x0 14)) ((upM M16 (M16 x0 27) (M1 (M1 x0 12) 0) (M16 x0 14)) x0 28) ((upM M16 (M16 x0 27) (M1 (M1 x0 12) 0) (M16 x0 14)) x0 14) (M1 (M1 x0 12) 0)) x0 14) y8) x0 30) ((upM (upM (upM M16 (M16 x0 27) (M1 (M1 x0 12) 0) (M16 x0 14)) ((upM M16 (M16 x0 27) (M1 (M1 x0 12) 0) (M16 x0 14)) x0 28) ((upM M16 (M16 x0 27) (M1 (M1 x0 12) 0) (M16 x0 14)) x0 14) (M1 (M1 x0 12) 0)) ((upM (upM M16 (M16 x0 27) (M1 (M1 x0 12) 0) (M16 x0 14)) ((upM M16 (M16 x0 27) (M1 (M1 x0 12) 0) (M16 x0 14)) x0 28) ((upM M16 (M16 x0 27) (M1 (M1 x0 12) 0) (M16 x0 14)) x0 14) (M1 (M1 x0 12) 0)) x0 29) ((upM (upM M16 (M16 x0 27) (M1 (M1 x0 12) 0) (M16 x0 14)) ((upM M16 (M16 x0 27) (M1 (M1 x0 12) 0) (M16 x0 14)) x0 28) ((upM M16 (M16 x0 27) (M1 (M1 x0 12) 0) (M16 x0 14)) x0 14) (M1 (M1 x0 12) 0)) x0 14) y8) x0 14)) ∧ Q (vI 0) (upM (upM M19 ((upM (upM (upM M16 (M16 x0 27) (M1 (M1 x0 12) 0) (M16 x0 14)) ((upM M16 (M16 x0 27) (M1 (M1 x0 12) 0) (M16 x0 14)) x0 28) ((upM M16 (M16 x0 27) (M1 (M1 x0 12) 0) (M16 x0 14)) x0 14) (M1 (M1 x0 12) 0)) ((upM (upM M16 (M16 x0 27) (M1 (M1 x0 12) 0) (M16 x0 14)) ((upM M16 (M16 x0 27) (M1 (M1 x0 12) 0) (M16 x0 14)) x0 28) ((upM M16 (M16 x0 27) (M1 (M1 x0 12) 0) (M16 x0 14)) x0 14) (M1 (M1 x0 12) 0)) x0 29) ((upM (upM M16 (M16 x0 27) (M1 (M1 x0 12) 0) (M16 x0 14)) ((upM M16 (M16 x0 27) (M1 (M1 x0 12) 0) (M16 x0 14)) x0 28) ((upM M16 (M16 x0 27) (M1 (M1 x0 12) 0) (M16 x0 14)) x0 14) (M1 (M1 x0 12) 0)) x0 14) y8) x0 30) ((upM (upM (upM M16 (M16 x0 27) (M1 (M1 x0 12) 0) (M16 x0 14)) ((upM M16 (M16 x0 27) (M1 (M1 x0 12) 0) (M16 x0 14)) x0 28) ((upM M16 (M16 x0 27) (M1 (M1 x0 12) 0) (M16 x0 14)) x0 14) (M1 (M1 x0 12) 0)) ((upM (upM M16 (M16 x0 27) (M1 (M1 x0 12) 0) (M16 x0 14)) ((upM M16 (M16 x0 27) (M1 (M1 x0 12) 0) (M16 x0 14)) x0 28) ((upM M16 (M16 x0 27) (M1 (M1 x0 12) 0) (M16 x0 14)) x0 14) (M1 (M1 x0 12) 0)) x0 29) ((upM (upM M16 (M16 x0 27) (M1 (M1 x0 12) 0) (M16 x0 14)) ((upM M16 (M16 x0 27) (M1 (M1 x0 12) 0) (M16 x0 14)) x0 28) ((upM M16 (M16 x0 27) (M1 (M1 x0 12) 0) (M16 x0 14)) x0 14) (M1 (M1 x0 12) 0)) x0 14) y8) x0 14) y20) x0 14 (((upM M19 ((upM (upM (upM M16 (M16 x0 27) (M1 (M1 x0 12) 0) (M16 x0 14)) ((upM M16 (M16 x0 27) (M1 (M1 x0 12) 0) (M16 x0 14)) x0 28) ((upM M16 (M16 x0 27) (M1 (M1 x0 12) 0) (M16 x0 14)) x0 14) (M1 (M1 x0 12) 0)) ((upM (upM M16 (M16 x0 27) (M1 (M1 x0 12) 0) (M16 x0 14)) ((upM M16 (M16 x0 27) (M1 (M1 x0 12) 0) (M16 x0 14)) x0 28) ((upM M16 (M16 x0 27) (M1 (M1 x0 12) 0) (M16 x0 14)) x0 14) (M1 (M1 x0 12) 0)) x0 29) ((upM (upM M16 (M16 x0 27) (M1 (M1 x0 12) 0) (M16 x0 14)) ((upM M16 (M16 x0 27) (M1 (M1 x0 12) 0) (M16 x0 14)) x0 28) ((upM M16 (M16 x0 27) (M1 (M1 x0 12) 0) (M16 x0 14)) x0 14) (M1 (M1 x0 12) 0)) x0 14) y8) x0 30) ((upM (upM (upM M16 (M16 x0 27) (M1 (M1 x0 12) 0) (M16 x0 14)) ((upM M16 (M16 x0 27) (M1 (M1 x0 12) 0) (M16 x0 14)) x0 28) ((upM M16 (M16 x0 27) (M1 (M1 x0 12) 0) (M16 x0 14)) x0 14) (M1 (M1 x0 12) 0)) ((upM (upM M16 (M16 x0 27) (M1 (M1 x0 12) 0) (M16 x0 14)) ((upM M16 (M16 x0 27) (M1 (M1 x0 12) 0) (M16 x0 14)) x0 28) ((upM M16 (M16 x0 27) (M1 (M1 x0 12) 0) (M16 x0 14)) x0 14) (M1 (M1 x0 12) 0)) x0 29) ((upM (upM M16 (M16 x0 27) (M1 (M1 x0 12) 0) (M16 x0 14)) ((upM M16 (M16 x0 27) (M1 (M1 x0 12) 0) (M16 x0 14)) x0 28) ((upM M16 (M16 x0 27) (M1 (M1 x0 12) 0) (M16 x0 14)) x0 14) (M1 (M1 x0 12) 0)) x0 14) y8) x0 14) y20) x0 14) + 1)))) else (Q (vI 0) M16))))))))) else (Q (vI 0) M1))) else (inR (M1 x0 7) ∧ (if (M1 x0 7) = 1 then (inR (M1 x0 8) ∧ (if (M1 x0 8) ≤ 0 then ((gA 20 (M1 x0 12) 0) ∧ WV 187 [vR x0] M1 (fun M26 => WI 192 [vR x0, vI 0, vI 9] M26 (fun y29 M28 => WI 190 [vR x0, vL 318611] M28 (fun y31 M30 => inR y31 ∧ (if y31 = 0 then (inR (M30 x0 8) ∧ (if (M30 x0 8) ≤ 0 then ((gA 20 (M30 x0 27) (M1 (M1 x0 12) 0)) ∧ (gA 20 ((upM M30 (M30 x0 27) (M1 (M1 x0 12) 0) (M30 x0 14)) x0 28) ((upM M30 (M30 x0 27) (M1 (M1 x0 12) 0) (M30 x0 14)) x0 14)) ∧ (gA 20 ((upM (upM M30 (M30 x0 27) (M1 (M1 x0 12) 0) (M30 x0 14)) ((upM M30 (M30 x0 27) (M1 (M1 x0 12) 0) (M30 x0 14)) x0 28) ((upM M30 (M30 x0 27) (M1 (M1 x0 12) 0) (M30 x0 14)) x0 14) (M1 (M1 x0 12) 0)) x0 29) ((upM (upM M30 (M30 x0 27) (M1 (M1 x0 12) 0) (M30 x0 14)) ((upM M30 (M30 x0 27) (M1 (M1 x0 12) 0) (M30 x0 14)) x0 28) ((upM M30 (M30 x0 27) (M1 (M1 x0 12) 0) (M30 x0 14)) x0 14) (M1 (M1 x0 12) 0)) x0 14)) ∧ WI 178 [vI y31] (upM (upM (upM M30 (M30 x0 27) (M1 (M1 x0 12) 0) (M30 x0 14)) ((upM M30 (M30 x0 27) (M1 (M1 x0 12) 0) (M30 x0 14)) x0 28) ((upM M30 (M30 x0 27) (M1 (M1 x0 12) 0) (M30 x0 14)) x0 14) (M1 (M1 x0 12) 0)) ((upM (upM M30 (M30 x0 27) (M1 (M1 x0 12) 0) (M30 x0 14)) ((upM M30 (M30 x0 27) (M1 (M1 x0 12) 0) (M30 x0 14)) x0 28) ((upM M30 (M30 x0 27) (M1 (M1 x0 12) 0) (M30 x0 14)) x0 14) (M1 (M1 x0 12) 0)) x0 29) ((upM (upM M30 (M30 x0 27) (M1 (M1 x0 12) 0) (M30 x0 14)) ((upM M30 (M30 x0 27) (M1 (M1 x0 12) 0) (M30 x0 14)) x0 28) ((upM M30 (M30 x0 27) (M1 (M1 x0 12) 0) (M30 x0 14)) x0 14) (M1 (M1 x0 12) 0)) x0 14) y29) (fun y35 M34 => (gA 20 ((upM (upM (upM M30 (M30 x0 27) (M1 (M1 x0 12) 0) (M30 x0 14)) ((upM M30 (M30 x0 27) (M1 (M1 x0 12) 0) (M30 x0 14)) x0 28) ((upM M30 (M30 x0 27) (M1 (M1 x0 12) 0) (M30 x0 14)) x0 14) (M1 (M1 x0 12) 0)) ((upM (upM M30 (M30 x0 27) (M1 (M1 x0 12) 0) (M30 x0 14)) ((upM M30 (M30 x0 27) (M1 (M1 x0 12) 0) (M30 x0 14)) x0 28) ((upM M30 (M30 x0 27) (M1 (M1 x0 12) 0) (M30 x0 14)) x0 14) (M1 (M1 x0 12) 0)) x0 29) ((upM (upM M30 (M30 x0 27) (M1 (M1 x0 12) 0) (M30 x0 14)) ((upM M30 (M30 x0 27) (M1 (M1 x0 12) 0) (M30 x0 14)) x0 28) ((upM M30 (M30 x0 27) (M1 (M1 x0 12) 0) (M30 x0 14)) x0 14) (M1 (M1 x0 12) 0)) x0 14) y29) x0 30) ((upM (upM (upM M30 (M30 x0 27) (M1 (M1 x0 12) 0) (M30 x0 14)) ((upM M30 (M30 x0 27) (M1 (M1 x0 12) 0) (M30 x0 14)) x0 28) ((upM M30 (M30 x0 27) (M1 (M1 x0 12) 0) (M30 x0 14)) x0 14) (M1 (M1 x0 12) 0)) ((upM (upM M30 (M30 x0 27) (M1 (M1 x0 12) 0) (M30 x0 14)) ((upM M30 (M30 x0 27) (M1 (M1 x0 12) 0) (M30 x0 14)) x0 28) ((upM M30 (M30 x0 27) (M1 (M1 x0 12) 0) (M30 x0 14)) x0 14) (M1 (M1 x0 12) 0)) x0 29) ((upM (upM M30 (M30 x0 27) (M1 (M1 x0 12) 0) (M30 x0 14)) ((upM M30 (M30 x0 27) (M1 (M1 x0 12) 0) (M30 x0 14)) x0 28) ((upM M30 (M30 x0 27) (M1 (M1 x0 12) 0) (M30 x0 14)) x0 14) (M1 (M1 x0 12) 0)) x0 14) y29) x0 14)) ∧ Q (vI 0) (upM (upM M34 ((upM (upM (upM M30 (M30 x0 27) (M1 (M1 x0 12) 0) (M30 x0 14)) ((upM M30 (M30 x0 27) (M1 (M1 x0 12) 0) (M30 x0 14)) x0 28) ((upM M30 (M30 x0 27) (M1 (M1 x0 12) 0) (M30 x0 14)) x0 14) (M1 (M1 x0 12) 0)) ((upM (upM M30 (M30 x0 27) (M1 (M1 x0 12) 0) (M30 x0 14)) ((upM M30 (M30 x0 27) (M1 (M1 x0 12) 0) (M30 x0 14)) x0 28) ((upM M30 (M30 x0 27) (M1 (M1 x0 12) 0) (M30 x0 14)) x0 14) (M1 (M1 x0 12) 0)) x0 29) ((upM (upM M30 (M30 x0 27) (M1 (M1 x0 12) 0) (M30 x0 14)) ((upM M30 (M30 x0 27) (M1 (M1 x0 12) 0) (M30 x0 14)) x0 28) ((upM M30 (M30 x0 27) (M1 (M1 x0 12) 0) (M30 x0 14)) x0 14) (M1 (M1 x0 12) 0)) x0 14) y29) x0 30) ((upM (upM (upM M30 (M30 x0 27) (M1 (M1 x0 12) 0) (M30 x0 14)) ((upM M30 (M30 x0 27) (M1 (M1 x0 12) 0) (M30 x0 14)) x0 28) ((upM M30 (M30 x0 27) (M1 (M1 x0 12) 0) (M30 x0 14)) x0 14) (M1 (M1 x0 12) 0)) ((upM (upM M30 (M30 x0 27) (M1 (M1 x0 12) 0) (M30 x0 14)) ((upM M30 (M30 x0 27) (M1 (M1 x0 12) 0) (M30 x0 14)) x0 28) ((upM M30 (M30 x0 27) (M1 (M1 x0 12) 0) (M30 x0 14)) x0 14) (M1 (M1 x0 12) 0)) x0 29) ((upM (upM M30 (M30 x0 27) (M1 (M1 x0 12) 0) (M30 x0 14)) ((upM M30 (M30 x0 27) (M1 (M1 x0 12) 0) (M30 x0 14)) x0 28) ((upM M30 (M30 x0 27) (M1 (M1 x0 12) 0) (M30 x0 14)) x0 14) (M1 (M1 x0 12) 0)) x0 14) y29) x0 14) y35) x0 14 (((upM M34 ((upM (upM (upM M30 (M30 x0 27) (M1 (M1 x0 12) 0) (M30 x0 14)) ((upM M30 (M30 x0 27) (M1 (M1 x0 12) 0) (M30 x0 14)) x0 28) ((upM M30 (M30 x0 27) (M1 (M1 x0 12) 0) (M30 x0 14)) x0 14) (M1 (M1 x0 12) 0)) ((upM (upM M30 (M30 x0 27) (M1 (M1 x0 12) 0) (M30 x0 14)) ((upM M30 (M30 x0 27) (M1 (M1 x0 12) 0) (M30 x0 14)) x0 28) ((upM M30 (M30 x0 27) (M1 (M1 x0 12) 0) (M30 x0 14)) x0 14) (M1 (M1 x0 12) 0)) x0 29) ((upM (upM M30 (M30 x0 27) (M1 (M1 x0 12) 0) (M30 x0 14)) ((upM M30 (M30 x0 27) (M1 (M1 x0 12) 0) (M30 x0 14)) x0 28) ((upM M30 (M30 x0 27) (M1 (M1 x0 12) 0) (M30 x0 14)) x0 14) (M1 (M1 x0 12) 0)) x0 14) y29) x0 30) ((upM (upM (upM M30 (M30 x0 27) (M1 (M1 x0 12) 0) (M30 x0 14)) ((upM M30 (M30 x0 27) (M1 (M1 x0 12) 0) (M30 x0 14)) x0 28) ((upM M30 (M30 x0 27) (M1 (M1 x0 12) 0) (M30 x0 14)) x0 14) (M1 (M1 x0 12) 0)) ((upM (upM M30 (M30 x0 27) (M1 (M1 x0 12) 0) (M30 x0 14)) ((upM M30 (M30 x0 27) (M1 (M1 x0 12) 0) (M30 x0 14)) x0 28) ((upM M30 (M30 x0 27) (M1 (M1 x0 12) 0) (M30 x0 14)) x0 14) (M1 (M1 x0 12) 0)) x0 29) ((upM (upM M30 (M30 x0 27) (M1 (M1 x0 12) 0) (M30 x0 14)) ((upM M30 (M30 x0 27) (M1 (M1 x0 12) 0) (M30 x0 14)) x0 28) ((upM M30 (M30 x0 27) (M1 (M1 x0 12) 0) (M30 x0 14)) x0 14) (M1 (M1 x0 12) 0)) x0 14) y29) x0 14) y35) x0 14) + 1)))) else (Q (vI 0) M30))) else (WV 187 [vR x0] M30 (fun M37 => inR (M37 x0 8) ∧ (if (M37 x0 8) ≤ 0 then ((gA 20 (M37 x0 27) (M1 (M1 x0 12) 0)) ∧ (gA 20 ((upM M37 (M37 x0 27) (M1 (M1 x0 12) 0) (M37 x0 14)) x0 28) ((upM M37 (M37 x0 27) (M1 (M1 x0 12) 0) (M37 x0 14)) x0 14)) ∧ (gA 20 ((upM (upM M37 (M37 x0 27) (M1 (M1 x0 12) 0) (M37 x0 14)) ((upM M37 (M37 x0 27) (M1 (M1 x0 12) 0) (M37 x0 14)) x0 28) ((upM M37 (M37 x0 27) (M1 (M1 x0 12) 0) (M37 x0 14)) x0 14) (M1 (M1 x0 12) 0)) x0 29) ((upM (upM M37 (M37 x0 27) (M1 (M1 x0 12) 0) (M37 x0 14)) ((upM M37 (M37 x0 27) (M1 (M1 x0 12) 0) (M37 x0 14)) x0 28) ((upM M37 (M37 x0 27) (M1 (M1 x0 12) 0) (M37 x0 14)) x0 14) (M1 (M1 x0 12) 0)) x0 14)) ∧ WI 178 [vI y31] (upM (upM (upM M37 (M37 x0 27) (M1 (M1 x0 12) 0) (M37 x0 14)) ((upM M37 (M37 x0 27) (M1 (M1 x0 12) 0) (M37 x0 14)) x0 28) ((upM M37 (M37 x0 27) (M1 (M1 x0 12) 0) (M37 x0 14)) x0 14) (M1 (M1 x0 12) 0)) ((upM (upM M37 (M37 x0 27) (M1 (M1 x0 12) 0) (M37 x0 14)) ((upM M37 (M37 x0 27) (M1 (M1 x0 12) 0) (M37 x0 14)) x0 28) ((upM M37 (M37 x0 27) (M1 (M1 x0 12) 0) (M37 x0 14)) x0 14) (M1 (M1 x0 12) 0)) x0 29) ((upM (upM M37 (M37 x0 27) (M1 (M1 x0 12) 0) (M37 x0 14)) ((upM M37 (M37 x0 27) (M1 (M1 x0 12) 0) (M37 x0 14)) x0 28) ((upM M37 (M37 x0 27) (M1 (M1 x0 12) 0) (M37 x0 14)) x0 14) (M1 (M1 x0 12) 0)) x0 14) y29) (fun y41 M40 => (gA 20 ((upM (upM (upM M37 (M37 x0 27) (M1 (M1 x0 12) 0) (M37 x0 14)) ((upM M37 (M37 x0 27) (M1 (M1 x0 12) 0) (M37 x0 14)) x0 28) ((upM M37 (M37 x0 27) (M1 (M1 x0 12) 0) (M37 x0 14)) x0 14) (M1 (M1 x0 12) 0)) ((upM (upM M37 (M37 x0 27) (M1 (M1 x0 12) 0) (M37 x0 14)) ((upM M37 (M37 x0 27) (M1 (M1 x0 12) 0) (M37 x0 14)) x0 28) ((upM M37 (M37 x0 27) (M1 (M1 x0 12) 0) (M37 x0 14)) x0 14) (M1 (M1 x0 12) 0)) x0 29) ((upM (upM M37 (M37 x0 27) (M1 (M1 x0 12) 0) (M37 x0 14)) ((upM M37 (M37 x0 27) (M1 (M1 x0 12) 0) (M37 x0 14)) x0 28) ((upM M37 (M37 x0 27) (M1 (M1 x0 12) 0) (M37 x0 14)) x0 14) (M1 (M1 x0 12) 0)) x0 14) y29) x0 30) ((upM (upM (upM M37 (M37 x0 27) (M1 (M1 x0 12) 0) (M37 x0 14)) ((upM M37 (M37 x0 27) (M1 (M1 x0 12) 0) (M37 x0 14)) x0 28) ((upM M37 (M37 x0 27) (M1 (M1 x0 12) 0) (M37 x0 14)) x0 14) (M1 (M1 x0 12) 0)) ((upM (upM M37 (M37 x0 27) (M1 (M1 x0 12) 0) (M37 x0 14)) ((upM M37 (M37 x0 27) (M1 (M1 x0 12) 0) (M37 x0 14)) x0 28) ((upM M37 (M37 x0 27) (M1 (M1 x0 12) 0) (M37 x0 14)) x0 14) (M1 (M1 x0 12) 0)) x0 29) ((upM (upM M37 (M37 x0 27) (M1 (M1 x0 12) 0) (M37 x0 14)) ((upM M37 (M37 x0 27) (M1 (M1 x0 12) 0) (M37 x0 14)) x0 28) ((upM M37 (M37 x0 27) (M1 (M1 x0 12) 0) (M37 x0 14)) x0 14) (M1 (M1 x0 12) 0)) x0 14) y29) x0 14)) ∧ Q (vI 0) (upM (upM M40 ((upM (upM (upM M37 (M37 x0 27) (M1 (M1 x0 12) 0) (M37 x0 14)) ((upM M37 (M37 x0 27) (M1 (M1 x0 12) 0) (M37 x0 14)) x0 28) ((upM M37 (M37 x0 27) (M1 (M1 x0 12) 0) (M37 x0 14)) x0 14) (M1 (M1 x0 12) 0)) ((upM (upM M37 (M37 x0 27) (M1 (M1 x0 12) 0) (M37 x0 14)) ((upM M37 (M37 x0 27) (M1 (M1 x0 12) 0) (M37 x0 14)) x0 28) ((upM M37 (M37 x0 27) (M1 (M1 x0 12) 0) (M37 x0 14)) x0 14) (M1 (M1 x0 12) 0)) x0 29) ((upM (upM M37 (M37 x0 27) (M1 (M1 x0 12) 0) (M37 x0 14)) ((upM M37 (M37 x0 27) (M1 (M1 x0 12) 0) (M37 x0 14)) x0 28) ((upM M37 (M37 x0 27) (M1 (M1 x0 12) 0) (M37 x0 14)) x0 14) (M1 (M1 x0 12) 0)) x0 14) y29) x0 30) ((upM (upM (upM M37 (M37 x0 27) (M1 (M1 x0 12) 0) (M37 x0 14)) ((upM M37 (M37 x0 27) (M1 (M1 x0 12) 0) (M37 x0 14)) x0 28) ((upM M37 (M37 x0 27) (M1 (M1 x0 12) 0) (M37 x0 14)) x0 14) (M1 (M1 x0 12) 0)) ((upM (upM M37 (M37 x0 27) (M1 (M1 x0 12) 0) (M37 x0 14)) ((upM M37 (M37 x0 27) (M1 (M1 x0 12) 0) (M37 x0 14)) x0 28) ((upM M37 (M37 x0 27) (M1 (M1 x0 12) 0) (M37 x0 14)) x0 14) (M1 (M1 x0 12) 0)) x0 29) ((upM (upM M37 (M37 x0 27) (M1 (M1 x0 12) 0) (M37 x0 14)) ((upM M37 (M37 x0 27) (M1 (M1 x0 12) 0) (M37 x0 14)) x0 28) ((upM M37 (M37 x0 27) (M1 (M1 x0 12) 0) (M37 x0 14)) x0 14) (M1 (M1 x0 12) 0)) x0 14) y29) x0 14) y41) x0 14 (((upM M40 ((upM (upM (upM M37 (M37 x0 27) (M1 (M1 x0 12) 0) (M37 x0 14)) ((upM M37 (M37 x0 27) (M1 (M1 x0 12) 0) (M37 x0 14)) x0 28) ((upM M37 (M37 x0 27) (M1 (M1 x0 12) 0) (M37 x0 14)) x0 14) (M1 (M1 x0 12) 0)) ((upM (upM M37 (M37 x0 27) (M1 (M1 x0 12) 0) (M37 x0 14)) ((upM M37 (M37 x0 27) (M1 (M1 x0 12) 0) (M37 x0 14)) x0 28) ((upM M37 (M37 x0 27) (M1 (M1 x0 12) 0) (M37 x0 14)) x0 14) (M1 (M1 x0 12) 0)) x0 29) ((upM (upM M37 (M37 x0 27) (M1 (M1 x0 12) 0) (M37 x0 14)) ((upM M37 (M37 x0 27) (M1 (M1 x0 12) 0) (M37 x0 14)) x0 28) ((upM M37 (M37 x0 27) (M1 (M1 x0 12) 0) (M37 x0 14)) x0 14) (M1 (M1 x0 12) 0)) x0 14) y29) x0 30) ((upM (upM (upM M37 (M37 x0 27) (M1 (M1 x0 12) 0) (M37 x0 14)) ((upM M37 (M37 x0 27) (M1 (M1 x0 12) 0) (M37 x0 14)) x0 28) ((upM M37 (M37 x0 27) (M1 (M1 x0 12) 0) (M37 x0 14)) x0 14) (M1 (M1 x0 12) 0)) ((upM (upM M37 (M37 x0 27) (M1 (M1 x0 12) 0) (M37 x0 14)) ((upM M37 (M37 x0 27) (M1 (M1 x0 12) 0) (M37 x0 14)) x0 28) ((upM M37 (M37 x0 27) (M1 (M1 x0 12) 0) (M37 x0 14)) x0 14) (M1 (M1 x0 12) 0)) x0 29) ((upM (upM M37 (M37 x0 27) (M1 (M1 x0 12) 0) (M37 x0 14)) ((upM M37 (M37 x0 27) (M1 (M1 x0 12) 0) (M37 x0 14)) x0 28) ((upM M37 (M37 x0 27) (M1 (M1 x0 12) 0) (M37 x0 14)) x0 14) (M1 (M1 x0 12) 0)) x0 14) y29) x0 14) y41) x0 14) + 1)))) else (Q (vI 0) M37))))))))) else (Q (vI 0) M1))) else (WV 188 [vR x0, vI 4] M1 (fun M45 => inR (M45 x0 8) ∧ (if (M45 x0 8) ≤ 0 then ((gA 20 (M45 x0 12) 0) ∧ WV 187 [vR x0] M45 (fun M48 => WI 192 [vR x0, vI 0, vI 9] M48 (fun y51 M50 => WI 190 [vR x0, vL 318611] M50 (fun y53 M52 => inR y53 ∧ (if y53 = 0 then (inR (M52 x0 8) ∧ (if (M52 x0 8) ≤ 0 then ((gA 20 (M52 x0 27) (M45 (M45 x0 12) 0)) ∧ (gA 20 ((upM M52 (M52 x0 27) (M45 (M45 x0 12) 0) (M52 x0 14)) x0 28) ((upM M52 (M52 x0 27) (M45 (M45 x0 12) 0) (M52 x0 14)) x0 14)) ∧ (gA 20 ((upM (upM M52 (M52 x0 27) (M45 (M45 x0 12) 0) (M52 x0 14)) ((upM M52 (M52 x0 27) (M45 (M45 x0 12) 0) (M52 x0 14)) x0 28) ((upM M52 (M52 x0 27) (M45 (M45 x0 12) 0) (M52 x0 14)) x0 14) (M45 (M45 x0 12) 0)) x0 29) ((upM (upM M52 (M52 x0 27) (M45 (M45 x0 12) 0) (M52 x0 14)) ((upM M52 (M52 x0 27) (M45 (M45 x0 12) 0) (M52 x0 14)) x0 28) ((upM M52 (M52 x0 27) (M45 (M45 x0 12) 0) (M52 x0 14)) x0 14) (M45 (M45 x0 12) 0)) x0 14)) ∧ WI 178 [vI y53] (upM (upM (upM M52 (M52 x0 27) (M45 (M45 x0 12) 0) (M52 x0 14)) ((upM M52 (M52 x0 27) (M45 (M45 x0 12) 0) (M52 x0 14)) x0 28) ((upM M52 (M52 x0 27) (M45 (M45 x0 12) 0) (M52 x0 14)) x0 14) (M45 (M45 x0 12) 0)) ((upM (upM M52 (M52 x0 27) (M45 (M45 x0 12) 0) (M52 x0 14)) ((upM M52 (M52 x0 27) (M45 (M45 x0 12) 0) (M52 x0 14)) x0 28) ((upM M52 (M52 x0 27) (M45 (M45 x0 12) 0) (M52 x0 14)) x0 14) (M45 (M45 x0 12) 0)) x0 29) ((upM (upM M52 (M52 x0 27) (M45 (M45 x0 12) 0) (M52 x0 14)) ((upM M52 (M52 x0 27) (M45 (M45 x0 12) 0) (M52 x0 14)) x0 28) ((upM M52 (M52 x0 27) (M45 (M45 x0 12) 0) (M52 x0 14)) x0 14) (M45 (M45 x0 12) 0)) x0 14) y51) (fun y57 M56 => (gA 20 ((upM (upM (upM M52 (M52 x0 27) (M45 (M45 x0 12) 0) (M52 x0 14)) ((upM M52 (M52 x0 27) (M45 (M45 x0 12) 0) (M52 x0 14)) x0 28) ((upM M52 (M52 x0 27) (M45 (M45 x0 12) 0) (M52 x0 14)) x0 14) (M45 (M45 x0 12) 0)) ((upM (upM M52 (M52 x0 27) (M45 (M45 x0 12) 0) (M52 x0 14)) ((upM M52 (M52 x0 27) (M45 (M45 x0 12) 0) (M52 x0 14)) x0 28) ((upM M52 (M52 x0 27) (M45 (M45 x0 12) 0) (M52 x0 14)) x0 14) (M45 (M45 x0 12) 0)) x0 29) ((upM (upM M52 (M52 x0 27) (M45 (M45 x0 12) 0) (M52 x0 14)) ((upM M52 (M52 x0 27) (M45 (M45 x0 12) 0) (M52 x0 14)) x0 28) ((upM M52 (M52 x0 27) (M45 (M45 x0 12) 0) (M52 x0 14)) x0 14) (M45 (M45 x0 12) 0)) x0 14) y51) x0 30) ((upM (upM (upM M52 (M52 x0 27) (M45 (M45 x0 12) 0) (M52 x0 14)) ((upM M52 (M52 x0 27) (M45 (M45 x0 12) 0) (M52 x0 14)) x0 28) ((upM M52 (M52 x0 27) (M45 (M45 x0 12) 0) (M52 x0 14)) x0 14) (M45 (M45 x0 12) 0)) ((upM (upM M52 (M52 x0 27) (M45 (M45 x0 12) 0) (M52 x0 14)) ((upM M52 (M52 x0 27) (M45 (M45 x0 12) 0) (M52 x0 14)) x0 28) ((upM M52 (M52 x0 27) (M45 (M45 x0 12) 0) (M52 x0 14)) x0 14) (M45 (M45 x0 12) 0)) x0 29) ((upM (upM M52 (M52 x0 27) (M45 (M45 x0 12) 0) (M52 x0 14)) ((upM M52 (M52 x0 27) (M45 (M45 x0 12) 0) (M52 x0 14)) x0 28) ((upM M52 (M52 x0 27) (M45 (M45 x0 12) 0) (M52 x0 14)) x0 14) (M45 (M45 x0 12) 0)) x0 14) y51) x0 14)) ∧ Q (vI 0) (upM (upM M56 ((upM (upM (upM M52 (M52 x0 27) (M45 (M45 x0 12) 0) (M52 x0 14)) ((upM M52 (M52 x0 27) (M45 (M45 x0 12) 0) (M52 x0 14)) x0 28) ((upM M52 (M52 x0 27) (M45 (M45 x0 12) 0) (M52 x0 14)) x0 14) (M45 (M45 x0 12) 0)) ((upM (upM M52 (M52 x0 27) (M45 (M45 x0 12) 0) (M52 x0 14)) ((upM M52 (M52 x0 27) (M45 (M45 x0 12) 0) (M52 x0 14)) x0 28) ((upM M52 (M52 x0 27) (M45 (M45 x0 12) 0) (M52 x0 14)) x0 14) (M45 (M45 x0 12) 0)) x0 29) ((upM (upM M52 (M52 x0 27) (M45 (M45 x0 12) 0) (M52 x0 14)) ((upM M52 (M52 x0 27) (M45 (M45 x0 12) 0) (M52 x0 14)) x0 28) ((upM M52 (M52 x0 27) (M45 (M45 x0 12) 0) (M52 x0 14)) x0 14) (M45 (M45 x0 12) 0)) x0 14) y51) x0 30) ((upM (upM (upM M52 (M52 x0 27) (M45 (M45 x0 12) 0) (M52 x0 14)) ((upM M52 (M52 x0 27) (M45 (M45 x0 12) 0) (M52 x0 14)) x0 28) ((upM M52 (M52 x0 27) (M45 (M45 x0 12) 0) (M52 x0 14)) x0 14) (M45 (M45 x0 12) 0)) ((upM (upM M52 (M52 x0 27) (M45 (M45 x0 12) 0) (M52 x0 14)) ((upM M52 (M52 x0 27) (M45 (M45 x0 12) 0) (M52 x0 14)) x0 28) ((upM M52 (M52 x0 27) (M45 (M45 x0 12) 0) (M52 x0 14)) x0 14) (M45 (M45 x0 12) 0)) x0 29) ((upM (upM M52 (M52 x0 27) (M45 (M45 x0 12) 0) (M52 x0 14)) ((upM M52 (M52 x0 27) (M45 (M45 x0 12) 0) (M52 x0 14)) x0 28) ((upM M52 (M52 x0 27) (M45 (M45 x0 12) 0) (M52 x0 14)) x0 14) (M45 (M45 x0 12) 0)) x0 14) y51) x0 14) y57) x0 14 (((upM M56 ((upM (upM (upM M52 (M52 x0 27) (M45 (M45 x0 12) 0) (M52 x0 14)) ((upM M52 (M52 x0 27) (M45 (M45 x0 12) 0) (M52 x0 14)) x0 28) ((upM M52 (M52 x0 27) (M45 (M45 x0 12) 0) (M52 x0 14)) x0 14) (M45 (M45 x0 12) 0)) ((upM (upM M52 (M52 x0 27) (M45 (M45 x0 12) 0) (M52 x0 14)) ((upM M52 (M52 x0 27) (M45 (M45 x0 12) 0) (M52 x0 14)) x0 28) ((upM M52 (M52 x0 27) (M45 (M45 x0 12) 0) (M52 x0 14)) x0 14) (M45 (M45 x0 12) 0)) x0 29) ((upM (upM M52 (M52 x0 27) (M45 (M45 x0 12) 0) (M52 x0 14)) ((upM M52 (M52 x0 27) (M45 (M45 x0 12) 0) (M52 x0 14)) x0 28) ((upM M52 (M52 x0 27) (M45 (M45 x0 12) 0) (M52 x0 14)) x0 14) (M45 (M45 x0 12) 0)) x0 14) y51) x0 30) ((upM (upM (upM M52 (M52 x0 27) (M45 (M45 x0 12) 0) (M52 x0 14)) ((upM M52 (M52 x0 27) (M45 (M45 x0 12) 0) (M52 x0 14)) x0 28) ((upM M52 (M52 x0 27) (M45 (M45 x0 12) 0) (M52 x0 14)) x0 14) (M45 (M45 x0 12) 0)) ((upM (upM M52 (M52 x0 27) (M45 (M45 x0 12) 0) (M52 x0 14)) ((upM M52 (M52 x0 27) (M45 (M45 x0 12) 0) (M52 x0 14)) x0 28) ((upM M52 (M52 x0 27) (M45 (M45 x0 12) 0) (M52 x0 14)) x0 14) (M45 (M45 x0 12) 0)) x0 29) ((upM (upM M52 (M52 x0 27) (M45 (M45 x0 12) 0) (M52 x0 14)) ((upM M52 (M52 x0 27) (M45 (M45 x0 12) 0) (M52 x0 14)) x0 28) ((upM M52 (M52 x0 27) (M45 (M45 x0 12) 0) (M52 x0 14)) x0 14) (M45 (M45 x0 12) 0)) x0 14) y51) x0 14) y57) x0 14) + 1)))) else (Q (vI 0) M52))) else (WV 187 [vR x0] M52 (fun M59 => inR (M59 x0 8) ∧ (if (M59 x0 8) ≤ 0 then ((gA 20 (M59 x0 27) (M45 (M45 x0 12) 0)) ∧ (gA 20 ((upM M59 (M59 x0 27) (M45 (M45 x0 12) 0) (M59 x0 14)) x0 28) ((upM M59 (M59 x0 27) (M45 (M45 x0 12) 0) (M59 x0 14)) x0 14)) ∧ (gA 20 ((upM (upM M59 (M59 x0 27) (M45 (M45 x0 12) 0) (M59 x0 14)) ((upM M59 (M59 x0 27) (M45 (M45 x0 12) 0) (M59 x0 14)) x0 28) ((upM M59 (M59 x0 27) (M45 (M45 x0 12) 0) (M59 x0 14)) x0 14) (M45 (M45 x0 12) 0)) x0 29) ((upM (upM M59 (M59 x0 27) (M45 (M45 x0 12) 0) (M59 x0 14)) ((upM M59 (M59 x0 27) (M45 (M45 x0 12) 0) (M59 x0 14)) x0 28) ((upM M59 (M59 x0 27) (M45 (M45 x0 12) 0) (M59 x0 14)) x0 14) (M45 (M45 x0 12) 0)) x0 14)) ∧ WI 178 [vI y53] (upM (upM (upM M59 (M59 x0 27) (M45 (M45 x0 12) 0) (M59 x0 14)) ((upM M59 (M59 x0 27) (M45 (M45 x0 12) 0) (M59 x0 14)) x0 28) ((upM M59 (M59 x0 27) (M45 (M45 x0 12) 0) (M59 x0 14)) x0 14) (M45 (M45 x0 12) 0)) ((upM (upM M59 (M59 x0 27) (M45 (M45 x0 12) 0) (M59 x0 14)) ((upM M59 (M59 x0 27) (M45 (M45 x0 12) 0) (M59 x0 14)) x0 28) ((upM M59 (M59 x0 27) (M45 (M45 x0 12) 0) (M59 x0 14)) x0 14) (M45 (M45 x0 12) 0)) x0 29) ((upM (upM M59 (M59 x0 27) (M45 (M45 x0 12) 0) (M59 x0 14)) ((upM M59 (M59 x0 27) (M45 (M45 x0 12) 0) (M59 x0 14)) x0 28) ((upM M59 (M59 x0 27) (M45 (M45 x0 12) 0) (M59 x0 14)) x0 14) (M45 (M45 x0 12) 0)) x0 14) y51) (fun y63 M62 => (gA 20 ((upM (upM (upM M59 (M59 x0 27) (M45 (M45 x0 12) 0) (M59 x0 14)) ((upM M59 (M59 x0 27) (M45 (M45 x0 12) 0) (M59 x0 14)) x0 28) ((upM M59 (M59 x0 27) (M45 (M45 x0 12) 0) (M59 x0 14)) x0 14) (M45 (M45 x0 12) 0)) ((upM (upM M59 (M59 x0 27) (M45 (M45 x0 12) 0) (M59 x0 14)) ((upM M59 (M59 x0 27) (M45 (M45 x0 12) 0) (M59 x0 14)) x0 28) ((upM M59 (M59 x0 27) (M45 (M45 x0 12) 0) (M59 x0 14)) x0 14) (M45 (M45 x0 12) 0)) x0 29) ((upM (upM M59 (M59 x0 27) (M45 (M45 x0 12) 0) (M59 x0 14)) ((upM M59 (M59 x0 27) (M45 (M45 x0 12) 0) (M59 x0 14)) x0 28) ((upM M59 (M59 x0 27) (M45 (M45 x0 12) 0) (M59 x0 14)) x0 14) (M45 (M45 x0 12) 0)) x0 14) y51) x0 30) ((upM (upM (upM M59 (M59 x0 27) (M45 (M45 x0 12) 0) (M59 x0 14)) ((upM M59 (M59 x0 27) (M45 (M45 x0 12) 0) (M59 x0 14)) x0 28) ((upM M59 (M59 x0 27) (M45 (M45 x0 12) 0) (M59 x0 14)) x0 14) (M45 (M45 x0 12) 0)) ((upM (upM M59 (M59 x0 27) (M45 (M45 x0 12) 0) (M59 x0 14)) ((upM M59 (M59 x0 27) (M45 (M45 x0 12) 0) (M59 x0 14)) x0 28) ((upM M59 (M59 x0 27) (M45 (M45 x0 12) 0) (M59 x0 14)) x0 14) (M45 (M45 x0 12) 0)) x0 29) ((upM (upM M59 (M59 x0 27) (M45 (M45 x0 12) 0) (M59 x0 14)) ((upM M59 (M59 x0 27) (M45 (M45 x0 12) 0) (M59 x0 14)) x0 28) ((upM M59 (M59 x0 27) (M45 (M45 x0 12) 0) (M59 x0 14)) x0 14) (M45 (M45 x0 12) 0)) x0 14) y51) x0 14)) ∧ Q (vI 0) (upM (upM M62 ((upM (upM (upM M59 (M59 x0 27) (M45 (M45 x0 12) 0) (M59 x0 14)) ((upM M59 (M59 x0 27) (M45 (M45 x0 12) 0) (M59 x0 14)) x0 28) ((upM M59 (M59 x0 27) (M45 (M45 x0 12) 0) (M59 x0 14)) x0 14) (M45 (M45 x0 12) 0)) ((upM (upM M59 (M59 x0 27) (M45 (M45 x0 12) 0) (M59 x0 14)) ((upM M59 (M59 x0 27) (M45 (M45 x0 12) 0) (M59 x0 14)) x0 28) ((upM M59 (M59 x0 27) (M45 (M45 x0 12) 0) (M59 x0 14)) x0 14) (M45 (M45 x0 12) 0)) x0 29) ((upM (upM M59 (M59 x0 27) (M45 (M45 x0 12) 0) (M59 x0 14)) ((upM M59 (M59 x0 27) (M45 (M45 x0 12) 0) (M59 x0 14)) x0 28) ((upM M59 (M59 x0 27) (M45 (M45 x0 12) 0) (M59 x0 14)) x0 14) (M45 (M45 x0 12) 0)) x0 14) y51) x0 30) ((upM (upM (upM M59 (M59 x0 27) (M45 (M45 x0 12) 0) (M59 x0 14)) ((upM M59 (M59 x0 27) (M45 (M45 x0 12) 0) (M59 x0 14)) x0 28) ((upM M59 (M59 x0 27) (M45 (M45 x0 12) 0) (M59 x0 14)) x0 14) (M45 (M45 x0 12) 0)) ((upM (upM M59 (M59 x0 27) (M45 (M45 x0 12) 0) (M59 x0 14)) ((upM M59 (M59 x0 27) (M45 (M45 x0 12) 0) (M59 x0 14)) x0 28) ((upM M59 (M59 x0 27) (M45 (M45 x0 12) 0) (M59 x0 14)) x0 14) (M45 (M45 x0 12) 0)) x0 29) ((upM (upM M59 (M59 x0 27) (M45 (M45 x0 12) 0) (M59 x0 14)) ((upM M59 (M59 x0 27) (M45 (M45 x0 12) 0) (M59 x0 14)) x0 28) ((upM M59 (M59 x0 27) (M45 (M45 x0 12) 0) (M59 x0 14)) x0 14) (M45 (M45 x0 12) 0)) x0 14) y51) x0 14) y63) x0 14 (((upM M62 ((upM (upM (upM M59 (M59 x0 27) (M45 (M45 x0 12) 0) (M59 x0 14)) ((upM M59 (M59 x0 27) (M45 (M45 x0 12) 0) (M59 x0 14)) x0 28) ((upM M59 (M59 x0 27) (M45 (M45 x0 12) 0) (M59 x0 14)) x0 14) (M45 (M45 x0 12) 0)) ((upM (upM M59 (M59 x0 27) (M45 (M45 x0 12) 0) (M59 x0 14)) ((upM M59 (M59 x0 27) (M45 (M45 x0 12) 0) (M59 x0 14)) x0 28) ((upM M59 (M59 x0 27) (M45 (M45 x0 12) 0) (M59 x0 14)) x0 14) (M45 (M45 x0 12) 0)) x0 29) ((upM (upM M59 (M59 x0 27) (M45 (M45 x0 12) 0) (M59 x0 14)) ((upM M59 (M59 x0 27) (M45 (M45 x0 12) 0) (M59 x0 14)) x0 28) ((upM M59 (M59 x0 27) (M45 (M45 x0 12) 0) (M59 x0 14)) x0 14) (M45 (M45 x0 12) 0)) x0 14) y51) x0 30) ((upM (upM (upM M59 (M59 x0 27) (M45 (M45 x0 12) 0) (M59 x0 14)) ((upM M59 (M59 x0 27) (M45 (M45 x0 12) 0) (M59 x0 14)) x0 28) ((upM M59 (M59 x0 27) (M45 (M45 x0 12) 0) (M59 x0 14)) x0 14) (M45 (M45 x0 12) 0)) ((upM (upM M59 (M59 x0 27) (M45 (M45 x0 12) 0) (M59 x0 14)) ((upM M59 (M59 x0 27) (M45 (M45 x0 12) 0) (M59 x0 14)) x0 28) ((upM M59 (M59 x0 27) (M45 (M45 x0 12) 0) (M59 x0 14)) x0 14) (M45 (M45 x0 12) 0)) x0 29) ((upM (upM M59 (M59 x0 27) (M45 (M45 x0 12) 0) (M59 x0 14)) ((upM M59 (M59 x0 27) (M45 (M45 x0 12) 0) (M59 x0 14)) x0 28) ((upM M59 (M59 x0 27) (M45 (M45 x0 12) 0) (M59 x0 14)) x0 14) (M45 (M45 x0 12) 0)) x0 14) y51) x0 14) y63) x0 14) + 1)))) else (Q (vI 0) M59))))))))) else (Q (vI 0) M45))))))))) : WR 195 80 [some (vR x0), none, none, none] [] M Q := by
  refine g_7 (a := 0) (b := 0) (nx := 81) (by decide +kernel) rfl ?_
  refine g_80 (a := 189) (b := 0) (nx := 84) (by decide +kernel) (r := x0) (As := []) (st' := []) (z := 189) rfl rfl rfl (Nat.le_of_ble_eq_true rfl) h0.2 (Nat.le_of_ble_eq_true rfl) rfl (c_I (by decide +kernel) h (fun y2 M1 h => ?_))
  obtain ⟨r3, h⟩ := h
  by_cases c68 : y2 = 0
  · rw [if_pos c68] at h
    refine g_40t (a := 0) (b := 100) (nx := 87) (by decide +kernel) r3 (by exact (cb_0 _ _).mpr c68) ?_
    refine g_7 (a := 0) (b := 0) (nx := 101) (by decide +kernel) rfl ?_
    refine g_50 (a := 12) (b := 8) (nx := 104) (by decide +kernel) h0 ?_
    obtain ⟨r4, h⟩ := h
    by_cases c23 : (M1 x0 8) ≤ 0
    · rw [if_pos c23] at h
      refine g_40t (a := 5) (b := 108) (nx := 107) (by decide +kernel) r4 (by exact (cb_5 _ _).mpr c23) ?_
      refine g_7 (a := 0) (b := 0) (nx := 109) (by decide +kernel) rfl ?_
      refine g_52 (a := 12) (b := 12) (nx := 112) (by decide +kernel) h0 ?_
      refine g_1 (a := 0) (b := 0) (nx := 113) (by decide +kernel) ?_
      refine g_61 (a := 0) (b := 0) (nx := 114) (by decide +kernel) h.1 ?_
      replace h := h.2
      refine g_8 (a := 1) (b := 0) (nx := 115) (by decide +kernel) rfl (ls' := [some (vR x0), some (vI (M1 (M1 x0 12) 0)), none, none]) rfl ?_
      refine g_7 (a := 0) (b := 0) (nx := 116) (by decide +kernel) rfl ?_
      refine g_80 (a := 187) (b := 0) (nx := 119) (by decide +kernel) (r := x0) (As := []) (st' := []) (z := 187) rfl rfl rfl (Nat.le_of_ble_eq_true rfl) h0.2 (Nat.le_of_ble_eq_true rfl) rfl (c_V (by decide +kernel) h (fun M5 h => ?_))
      refine g_7 (a := 0) (b := 0) (nx := 120) (by decide +kernel) rfl ?_
      refine g_1 (a := 0) (b := 0) (nx := 121) (by decide +kernel) ?_
      refine g_1 (a := 9) (b := 0) (nx := 123) (by decide +kernel) ?_
      refine g_80 (a := 192) (b := 2) (nx := 126) (by decide +kernel) (r := x0) (As := [vI 0, vI 9]) (st' := []) (z := 192) rfl rfl rfl (Nat.le_of_ble_eq_true rfl) h0.2 (Nat.le_of_ble_eq_true rfl) rfl (c_I (by decide +kernel) h (fun y8 M7 h => ?_))
      refine g_8 (a := 2) (b := 0) (nx := 127) (by decide +kernel) rfl (ls' := [some (vR x0), some (vI (M1 (M1 x0 12) 0)), some (vI y8), none]) rfl ?_
      refine g_7 (a := 0) (b := 0) (nx := 128) (by decide +kernel) rfl ?_
      refine g_58 (a := 318611) (b := 9) (nx := 131) (by decide +kernel) ?_
      refine g_80 (a := 190) (b := 1) (nx := 134) (by decide +kernel) (r := x0) (As := [vL 318611]) (st' := []) (z := 190) rfl rfl rfl (Nat.le_of_ble_eq_true rfl) h0.2 (Nat.le_of_ble_eq_true rfl) rfl (c_I (by decide +kernel) h (fun y10 M9 h => ?_))
      refine g_8 (a := 3) (b := 0) (nx := 135) (by decide +kernel) rfl (ls' := [some (vR x0), some (vI (M1 (M1 x0 12) 0)), some (vI y8), some (vI y10)]) rfl ?_
      refine g_5 (a := 3) (b := 0) (nx := 136) (by decide +kernel) rfl ?_
      obtain ⟨r11, h⟩ := h
      by_cases c22 : y10 = 0
      · rw [if_pos c22] at h
        refine g_40t (a := 0) (b := 143) (nx := 139) (by decide +kernel) r11 (by exact (cb_0 _ _).mpr c22) ?_
        refine g_7 (a := 0) (b := 0) (nx := 144) (by decide +kernel) rfl ?_
        refine g_50 (a := 12) (b := 8) (nx := 147) (by decide +kernel) h0 ?_
        obtain ⟨r12, h⟩ := h
        by_cases c15 : (M9 x0 8) ≤ 0
        · rw [if_pos c15] at h
          refine g_40t (a := 5) (b := 151) (nx := 150) (by decide +kernel) r12 (by exact (cb_5 _ _).mpr c15) ?_
          refine g_7 (a := 0) (b := 0) (nx := 152) (by decide +kernel) rfl ?_
          refine g_52 (a := 12) (b := 27) (nx := 155) (by decide +kernel) h0 ?_
          refine g_5 (a := 1) (b := 0) (nx := 156) (by decide +kernel) rfl ?_
          refine g_7 (a := 0) (b := 0) (nx := 157) (by decide +kernel) rfl ?_
          refine g_50 (a := 12) (b := 14) (nx := 160) (by decide +kernel) h0 ?_
          refine g_62 (a := 0) (b := 0) (nx := 161) (by decide +kernel) h.1 ?_
          replace h := h.2
          refine g_7 (a := 0) (b := 0) (nx := 162) (by decide +kernel) rfl ?_
          refine g_52 (a := 12) (b := 28) (nx := 165) (by decide +kernel) h0 ?_
          refine g_7 (a := 0) (b := 0) (nx := 166) (by decide +kernel) rfl ?_
          refine g_50 (a := 12) (b := 14) (nx := 169) (by decide +kernel) h0 ?_
          refine g_5 (a := 1) (b := 0) (nx := 170) (by decide +kernel) rfl ?_
          refine g_62 (a := 0) (b := 0) (nx := 171) (by decide +kernel) h.1 ?_
          replace h := h.2
          refine g_7 (a := 0) (b := 0) (nx := 172) (by decide +kernel) rfl ?_
          refine g_52 (a := 12) (b := 29) (nx := 175) (by decide +kernel) h0 ?_
          refine g_7 (a := 0) (b := 0) (nx := 176) (by decide +kernel) rfl ?_
          refine g_50 (a := 12) (b := 14) (nx := 179) (by decide +kernel) h0 ?_
          refine g_5 (a := 2) (b := 0) (nx := 180) (by decide +kernel) rfl ?_
          refine g_62 (a := 0) (b := 0) (nx := 181) (by decide +kernel) h.1 ?_
          replace h := h.2
          refine g_7 (a := 0) (b := 0) (nx := 182) (by decide +kernel) rfl ?_
          refine g_52 (a := 12) (b := 30) (nx := 185) (by decide +kernel) h0 ?_
          refine g_7 (a := 0) (b := 0) (nx := 186) (by decide +kernel) rfl ?_
          refine g_50 (a := 12) (b := 14) (nx := 189) (by decide +kernel) h0 ?_
          refine g_5 (a := 3) (b := 0) (nx := 190) (by decide +kernel) rfl ?_
          refine g_82 (a := 178) (b := 1) (nx := 193) (by decide +kernel) (As := [vI y10]) (st' := [vI ((upM (upM (upM M9 (M9 x0 27) (M1 (M1 x0 12) 0) (M9 x0 14)) ((upM M9 (M9 x0 27) (M1 (M1 x0 12) 0) (M9 x0 14)) x0 28) ((upM M9 (M9 x0 27) (M1 (M1 x0 12) 0) (M9 x0 14)) x0 14) (M1 (M1 x0 12) 0)) ((upM (upM M9 (M9 x0 27) (M1 (M1 x0 12) 0) (M9 x0 14)) ((upM M9 (M9 x0 27) (M1 (M1 x0 12) 0) (M9 x0 14)) x0 28) ((upM M9 (M9 x0 27) (M1 (M1 x0 12) 0) (M9 x0 14)) x0 14) (M1 (M1 x0 12) 0)) x0 29) ((upM (upM M9 (M9 x0 27) (M1 (M1 x0 12) 0) (M9 x0 14)) ((upM M9 (M9 x0 27) (M1 (M1 x0 12) 0) (M9 x0 14)) x0 28) ((upM M9 (M9 x0 27) (M1 (M1 x0 12) 0) (M9 x0 14)) x0 14) (M1 (M1 x0 12) 0)) x0 14) y8) x0 14), vR ((upM (upM (upM M9 (M9 x0 27) (M1 (M1 x0 12) 0) (M9 x0 14)) ((upM M9 (M9 x0 27) (M1 (M1 x0 12) 0) (M9 x0 14)) x0 28) ((upM M9 (M9 x0 27) (M1 (M1 x0 12) 0) (M9 x0 14)) x0 14) (M1 (M1 x0 12) 0)) ((upM (upM M9 (M9 x0 27) (M1 (M1 x0 12) 0) (M9 x0 14)) ((upM M9 (M9 x0 27) (M1 (M1 x0 12) 0) (M9 x0 14)) x0 28) ((upM M9 (M9 x0 27) (M1 (M1 x0 12) 0) (M9 x0 14)) x0 14) (M1 (M1 x0 12) 0)) x0 29) ((upM (upM M9 (M9 x0 27) (M1 (M1 x0 12) 0) (M9 x0 14)) ((upM M9 (M9 x0 27) (M1 (M1 x0 12) 0) (M9 x0 14)) x0 28) ((upM M9 (M9 x0 27) (M1 (M1 x0 12) 0) (M9 x0 14)) x0 14) (M1 (M1 x0 12) 0)) x0 14) y8) x0 30)]) (z := 178) rfl rfl rfl (Nat.le_of_ble_eq_true rfl) (Nat.le_of_ble_eq_true rfl) rfl (c_I (by decide +kernel) h (fun y14 M13 h => ?_))
          refine g_62 (a := 0) (b := 0) (nx := 194) (by decide +kernel) h.1 ?_
          replace h := h.2
          refine g_7 (a := 0) (b := 0) (nx := 195) (by decide +kernel) rfl ?_
          refine g_13 (a := 0) (b := 0) (nx := 196) (by decide +kernel) rfl ?_
          refine g_50 (a := 12) (b := 14) (nx := 199) (by decide +kernel) h0 ?_
          refine g_1 (a := 1) (b := 0) (nx := 200) (by decide +kernel) ?_
          refine g_15 (a := 0) (b := 0) (nx := 201) (by decide +kernel) ?_
          refine g_53 (a := 12) (b := 14) (nx := 204) (by decide +kernel) h0 ?_
          exact g_90 (a := 0) (b := 0) (nx := 205) (by decide +kernel) h
        · rw [if_neg c15] at h
          refine g_40f (a := 5) (b := 151) (nx := 150) (by decide +kernel) r12 (by exact fun hz => c15 ((cb_5 _ _).mp hz)) ?_
          exact g_90 (a := 0) (b := 0) (nx := 151) (by decide +kernel) h
      · rw [if_neg c22] at h
        refine g_40f (a := 0) (b := 143) (nx := 139) (by decide +kernel) r11 (by exact fun hz => c22 ((cb_0 _ _).mp hz)) ?_
        refine g_7 (a := 0) (b := 0) (nx := 140) (by decide +kernel) rfl ?_
        refine g_80 (a := 187) (b := 0) (nx := 143) (by decide +kernel) (r := x0) (As := []) (st' := []) (z := 187) rfl rfl rfl (Nat.le_of_ble_eq_true rfl) h0.2 (Nat.le_of_ble_eq_true rfl) rfl (c_V (by decide +kernel) h (fun M16 h => ?_))
        refine g_7 (a := 0) (b := 0) (nx := 144) (by decide +kernel) rfl ?_
        refine g_50 (a := 12) (b := 8) (nx := 147) (by decide +kernel) h0 ?_
        obtain ⟨r18, h⟩ := h
        by_cases c21 : (M16 x0 8) ≤ 0
        · rw [if_pos c21] at h
          refine g_40t (a := 5) (b := 151) (nx := 150) (by decide +kernel) r18 (by exact (cb_5 _ _).mpr c21) ?_
          refine g_7 (a := 0) (b := 0) (nx := 152) (by decide +kernel) rfl ?_
          refine g_52 (a := 12) (b := 27) (nx := 155) (by decide +kernel) h0 ?_
          refine g_5 (a := 1) (b := 0) (nx := 156) (by decide +kernel) rfl ?_
          refine g_7 (a := 0) (b := 0) (nx := 157) (by decide +kernel) rfl ?_
          refine g_50 (a := 12) (b := 14) (nx := 160) (by decide +kernel) h0 ?_
          refine g_62 (a := 0) (b := 0) (nx := 161) (by decide +kernel) h.1 ?_
          replace h := h.2
          refine g_7 (a := 0) (b := 0) (nx := 162) (by decide +kernel) rfl ?_
          refine g_52 (a := 12) (b := 28) (nx := 165) (by decide +kernel) h0 ?_
          refine g_7 (a := 0) (b := 0) (nx := 166) (by decide +kernel) rfl ?_
          refine g_50 (a := 12) (b := 14) (nx := 169) (by decide +kernel) h0 ?_
          refine g_5 (a := 1) (b := 0) (nx := 170) (by decide +kernel) rfl ?_
          refine g_62 (a := 0) (b := 0) (nx := 171) (by decide +kernel) h.1 ?_
          replace h := h.2
          refine g_7 (a := 0) (b := 0) (nx := 172) (by decide +kernel) rfl ?_
          refine g_52 (a := 12) (b := 29) (nx := 175) (by decide +kernel) h0 ?_
          refine g_7 (a := 0) (b := 0) (nx := 176) (by decide +kernel) rfl ?_
          refine g_50 (a := 12) (b := 14) (nx := 179) (by decide +kernel) h0 ?_
          refine g_5 (a := 2) (b := 0) (nx := 180) (by decide +kernel) rfl ?_
          refine g_62 (a := 0) (b := 0) (nx := 181) (by decide +kernel) h.1 ?_
          replace h := h.2
          refine g_7 (a := 0) (b := 0) (nx := 182) (by decide +kernel) rfl ?_
          refine g_52 (a := 12) (b := 30) (nx := 185) (by decide +kernel) h0 ?_
          refine g_7 (a := 0) (b := 0) (nx := 186) (by decide +kernel) rfl ?_
          refine g_50 (a := 12) (b := 14) (nx := 189) (by decide +kernel) h0 ?_
          refine g_5 (a := 3) (b := 0) (nx := 190) (by decide +kernel) rfl ?_
          refine g_82 (a := 178) (b := 1) (nx := 193) (by decide +kernel) (As := [vI y10]) (st' := [vI ((upM (upM (upM M16 (M16 x0 27) (M1 (M1 x0 12) 0) (M16 x0 14)) ((upM M16 (M16 x0 27) (M1 (M1 x0 12) 0) (M16 x0 14)) x0 28) ((upM M16 (M16 x0 27) (M1 (M1 x0 12) 0) (M16 x0 14)) x0 14) (M1 (M1 x0 12) 0)) ((upM (upM M16 (M16 x0 27) (M1 (M1 x0 12) 0) (M16 x0 14)) ((upM M16 (M16 x0 27) (M1 (M1 x0 12) 0) (M16 x0 14)) x0 28) ((upM M16 (M16 x0 27) (M1 (M1 x0 12) 0) (M16 x0 14)) x0 14) (M1 (M1 x0 12) 0)) x0 29) ((upM (upM M16 (M16 x0 27) (M1 (M1 x0 12) 0) (M16 x0 14)) ((upM M16 (M16 x0 27) (M1 (M1 x0 12) 0) (M16 x0 14)) x0 28) ((upM M16 (M16 x0 27) (M1 (M1 x0 12) 0) (M16 x0 14)) x0 14) (M1 (M1 x0 12) 0)) x0 14) y8) x0 14), vR ((upM (upM (upM M16 (M16 x0 27) (M1 (M1 x0 12) 0) (M16 x0 14)) ((upM M16 (M16 x0 27) (M1 (M1 x0 12) 0) (M16 x0 14)) x0 28) ((upM M16 (M16 x0 27) (M1 (M1 x0 12) 0) (M16 x0 14)) x0 14) (M1 (M1 x0 12) 0)) ((upM (upM M16 (M16 x0 27) (M1 (M1 x0 12) 0) (M16 x0 14)) ((upM M16 (M16 x0 27) (M1 (M1 x0 12) 0) (M16 x0 14)) x0 28) ((upM M16 (M16 x0 27) (M1 (M1 x0 12) 0) (M16 x0 14)) x0 14) (M1 (M1 x0 12) 0)) x0 29) ((upM (upM M16 (M16 x0 27) (M1 (M1 x0 12) 0) (M16 x0 14)) ((upM M16 (M16 x0 27) (M1 (M1 x0 12) 0) (M16 x0 14)) x0 28) ((upM M16 (M16 x0 27) (M1 (M1 x0 12) 0) (M16 x0 14)) x0 14) (M1 (M1 x0 12) 0)) x0 14) y8) x0 30)]) (z := 178) rfl rfl rfl (Nat.le_of_ble_eq_true rfl) (Nat.le_of_ble_eq_true rfl) rfl (c_I (by decide +kernel) h (fun y20 M19 h => ?_))
          refine g_62 (a := 0) (b := 0) (nx := 194) (by decide +kernel) h.1 ?_
          replace h := h.2
          refine g_7 (a := 0) (b := 0) (nx := 195) (by decide +kernel) rfl ?_
          refine g_13 (a := 0) (b := 0) (nx := 196) (by decide +kernel) rfl ?_
          refine g_50 (a := 12) (b := 14) (nx := 199) (by decide +kernel) h0 ?_
          refine g_1 (a := 1) (b := 0) (nx := 200) (by decide +kernel) ?_
          refine g_15 (a := 0) (b := 0) (nx := 201) (by decide +kernel) ?_
          refine g_53 (a := 12) (b := 14) (nx := 204) (by decide +kernel) h0 ?_
          exact g_90 (a := 0) (b := 0) (nx := 205) (by decide +kernel) h
        · rw [if_neg c21] at h
          refine g_40f (a := 5) (b := 151) (nx := 150) (by decide +kernel) r18 (by exact fun hz => c21 ((cb_5 _ _).mp hz)) ?_
          exact g_90 (a := 0) (b := 0) (nx := 151) (by decide +kernel) h
    · rw [if_neg c23] at h
      refine g_40f (a := 5) (b := 108) (nx := 107) (by decide +kernel) r4 (by exact fun hz => c23 ((cb_5 _ _).mp hz)) ?_
      exact g_90 (a := 0) (b := 0) (nx := 108) (by decide +kernel) h
  · rw [if_neg c68] at h
    refine g_40f (a := 0) (b := 100) (nx := 87) (by decide +kernel) r3 (by exact fun hz => c68 ((cb_0 _ _).mp hz)) ?_
    refine g_7 (a := 0) (b := 0) (nx := 88) (by decide +kernel) rfl ?_
    refine g_50 (a := 12) (b := 7) (nx := 91) (by decide +kernel) h0 ?_
    refine g_1 (a := 1) (b := 0) (nx := 92) (by decide +kernel) ?_
    obtain ⟨r24, h⟩ := h
    by_cases c67 : (M1 x0 7) = 1
    · rw [if_pos c67] at h
      refine g_41t (a := 0) (b := 100) (nx := 95) (by decide +kernel) (by rw [wr_id r24, wr_id (show inR 1 by decide)]; exact (cb_0 _ _).mpr c67) ?_
      refine g_7 (a := 0) (b := 0) (nx := 101) (by decide +kernel) rfl ?_
      refine g_50 (a := 12) (b := 8) (nx := 104) (by decide +kernel) h0 ?_
      obtain ⟨r25, h⟩ := h
      by_cases c44 : (M1 x0 8) ≤ 0
      · rw [if_pos c44] at h
        refine g_40t (a := 5) (b := 108) (nx := 107) (by decide +kernel) r25 (by exact (cb_5 _ _).mpr c44) ?_
        refine g_7 (a := 0) (b := 0) (nx := 109) (by decide +kernel) rfl ?_
        refine g_52 (a := 12) (b := 12) (nx := 112) (by decide +kernel) h0 ?_
        refine g_1 (a := 0) (b := 0) (nx := 113) (by decide +kernel) ?_
        refine g_61 (a := 0) (b := 0) (nx := 114) (by decide +kernel) h.1 ?_
        replace h := h.2
        refine g_8 (a := 1) (b := 0) (nx := 115) (by decide +kernel) rfl (ls' := [some (vR x0), some (vI (M1 (M1 x0 12) 0)), none, none]) rfl ?_
        refine g_7 (a := 0) (b := 0) (nx := 116) (by decide +kernel) rfl ?_
        refine g_80 (a := 187) (b := 0) (nx := 119) (by decide +kernel) (r := x0) (As := []) (st' := []) (z := 187) rfl rfl rfl (Nat.le_of_ble_eq_true rfl) h0.2 (Nat.le_of_ble_eq_true rfl) rfl (c_V (by decide +kernel) h (fun M26 h => ?_))
        refine g_7 (a := 0) (b := 0) (nx := 120) (by decide +kernel) rfl ?_
        refine g_1 (a := 0) (b := 0) (nx := 121) (by decide +kernel) ?_
        refine g_1 (a := 9) (b := 0) (nx := 123) (by decide +kernel) ?_
        refine g_80 (a := 192) (b := 2) (nx := 126) (by decide +kernel) (r := x0) (As := [vI 0, vI 9]) (st' := []) (z := 192) rfl rfl rfl (Nat.le_of_ble_eq_true rfl) h0.2 (Nat.le_of_ble_eq_true rfl) rfl (c_I (by decide +kernel) h (fun y29 M28 h => ?_))
        refine g_8 (a := 2) (b := 0) (nx := 127) (by decide +kernel) rfl (ls' := [some (vR x0), some (vI (M1 (M1 x0 12) 0)), some (vI y29), none]) rfl ?_
        refine g_7 (a := 0) (b := 0) (nx := 128) (by decide +kernel) rfl ?_
        refine g_58 (a := 318611) (b := 9) (nx := 131) (by decide +kernel) ?_
        refine g_80 (a := 190) (b := 1) (nx := 134) (by decide +kernel) (r := x0) (As := [vL 318611]) (st' := []) (z := 190) rfl rfl rfl (Nat.le_of_ble_eq_true rfl) h0.2 (Nat.le_of_ble_eq_true rfl) rfl (c_I (by decide +kernel) h (fun y31 M30 h => ?_))
        refine g_8 (a := 3) (b := 0) (nx := 135) (by decide +kernel) rfl (ls' := [some (vR x0), some (vI (M1 (M1 x0 12) 0)), some (vI y29), some (vI y31)]) rfl ?_
        refine g_5 (a := 3) (b := 0) (nx := 136) (by decide +kernel) rfl ?_
        obtain ⟨r32, h⟩ := h
        by_cases c43 : y31 = 0
        · rw [if_pos c43] at h
          refine g_40t (a := 0) (b := 143) (nx := 139) (by decide +kernel) r32 (by exact (cb_0 _ _).mpr c43) ?_
          refine g_7 (a := 0) (b := 0) (nx := 144) (by decide +kernel) rfl ?_
          refine g_50 (a := 12) (b := 8) (nx := 147) (by decide +kernel) h0 ?_
          obtain ⟨r33, h⟩ := h
          by_cases c36 : (M30 x0 8) ≤ 0
          · rw [if_pos c36] at h
            refine g_40t (a := 5) (b := 151) (nx := 150) (by decide +kernel) r33 (by exact (cb_5 _ _).mpr c36) ?_
            refine g_7 (a := 0) (b := 0) (nx := 152) (by decide +kernel) rfl ?_
            refine g_52 (a := 12) (b := 27) (nx := 155) (by decide +kernel) h0 ?_
            refine g_5 (a := 1) (b := 0) (nx := 156) (by decide +kernel) rfl ?_
            refine g_7 (a := 0) (b := 0) (nx := 157) (by decide +kernel) rfl ?_
            refine g_50 (a := 12) (b := 14) (nx := 160) (by decide +kernel) h0 ?_
            refine g_62 (a := 0) (b := 0) (nx := 161) (by decide +kernel) h.1 ?_
            replace h := h.2
            refine g_7 (a := 0) (b := 0) (nx := 162) (by decide +kernel) rfl ?_
            refine g_52 (a := 12) (b := 28) (nx := 165) (by decide +kernel) h0 ?_
            refine g_7 (a := 0) (b := 0) (nx := 166) (by decide +kernel) rfl ?_
            refine g_50 (a := 12) (b := 14) (nx := 169) (by decide +kernel) h0 ?_
            refine g_5 (a := 1) (b := 0) (nx := 170) (by decide +kernel) rfl ?_
            refine g_62 (a := 0) (b := 0) (nx := 171) (by decide +kernel) h.1 ?_
            replace h := h.2
            refine g_7 (a := 0) (b := 0) (nx := 172) (by decide +kernel) rfl ?_
            refine g_52 (a := 12) (b := 29) (nx := 175) (by decide +kernel) h0 ?_
            refine g_7 (a := 0) (b := 0) (nx := 176) (by decide +kernel) rfl ?_
            refine g_50 (a := 12) (b := 14) (nx := 179) (by decide +kernel) h0 ?_
            refine g_5 (a := 2) (b := 0) (nx := 180) (by decide +kernel) rfl ?_
            refine g_62 (a := 0) (b := 0) (nx := 181) (by decide +kernel) h.1 ?_
            replace h := h.2
            refine g_7 (a := 0) (b := 0) (nx := 182) (by decide +kernel) rfl ?_
            refine g_52 (a := 12) (b := 30) (nx := 185) (by decide +kernel) h0 ?_
            refine g_7 (a := 0) (b := 0) (nx := 186) (by decide +kernel) rfl ?_
            refine g_50 (a := 12) (b := 14) (nx := 189) (by decide +kernel) h0 ?_
            refine g_5 (a := 3) (b := 0) (nx := 190) (by decide +kernel) rfl ?_
            refine g_82 (a := 178) (b := 1) (nx := 193) (by decide +kernel) (As := [vI y31]) (st' := [vI ((upM (upM (upM M30 (M30 x0 27) (M1 (M1 x0 12) 0) (M30 x0 14)) ((upM M30 (M30 x0 27) (M1 (M1 x0 12) 0) (M30 x0 14)) x0 28) ((upM M30 (M30 x0 27) (M1 (M1 x0 12) 0) (M30 x0 14)) x0 14) (M1 (M1 x0 12) 0)) ((upM (upM M30 (M30 x0 27) (M1 (M1 x0 12) 0) (M30 x0 14)) ((upM M30 (M30 x0 27) (M1 (M1 x0 12) 0) (M30 x0 14)) x0 28) ((upM M30 (M30 x0 27) (M1 (M1 x0 12) 0) (M30 x0 14)) x0 14) (M1 (M1 x0 12) 0)) x0 29) ((upM (upM M30 (M30 x0 27) (M1 (M1 x0 12) 0) (M30 x0 14)) ((upM M30 (M30 x0 27) (M1 (M1 x0 12) 0) (M30 x0 14)) x0 28) ((upM M30 (M30 x0 27) (M1 (M1 x0 12) 0) (M30 x0 14)) x0 14) (M1 (M1 x0 12) 0)) x0 14) y29) x0 14), vR ((upM (upM (upM M30 (M30 x0 27) (M1 (M1 x0 12) 0) (M30 x0 14)) ((upM M30 (M30 x0 27) (M1 (M1 x0 12) 0) (M30 x0 14)) x0 28) ((upM M30 (M30 x0 27) (M1 (M1 x0 12) 0) (M30 x0 14)) x0 14) (M1 (M1 x0 12) 0)) ((upM (upM M30 (M30 x0 27) (M1 (M1 x0 12) 0) (M30 x0 14)) ((upM M30 (M30 x0 27) (M1 (M1 x0 12) 0) (M30 x0 14)) x0 28) ((upM M30 (M30 x0 27) (M1 (M1 x0 12) 0) (M30 x0 14)) x0 14) (M1 (M1 x0 12) 0)) x0 29) ((upM (upM M30 (M30 x0 27) (M1 (M1 x0 12) 0) (M30 x0 14)) ((upM M30 (M30 x0 27) (M1 (M1 x0 12) 0) (M30 x0 14)) x0 28) ((upM M30 (M30 x0 27) (M1 (M1 x0 12) 0) (M30 x0 14)) x0 14) (M1 (M1 x0 12) 0)) x0 14) y29) x0 30)]) (z := 178) rfl rfl rfl (Nat.le_of_ble_eq_true rfl) (Nat.le_of_ble_eq_true rfl) rfl (c_I (by decide +kernel) h (fun y35 M34 h => ?_))
            refine g_62 (a := 0) (b := 0) (nx := 194) (by decide +kernel) h.1 ?_
            replace h := h.2
            refine g_7 (a := 0) (b := 0) (nx := 195) (by decide +kernel) rfl ?_
            refine g_13 (a := 0) (b := 0) (nx := 196) (by decide +kernel) rfl ?_
            refine g_50 (a := 12) (b := 14) (nx := 199) (by decide +kernel) h0 ?_
            refine g_1 (a := 1) (b := 0) (nx := 200) (by decide +kernel) ?_
            refine g_15 (a := 0) (b := 0) (nx := 201) (by decide +kernel) ?_
            refine g_53 (a := 12) (b := 14) (nx := 204) (by decide +kernel) h0 ?_
            exact g_90 (a := 0) (b := 0) (nx := 205) (by decide +kernel) h
          · rw [if_neg c36] at h
            refine g_40f (a := 5) (b := 151) (nx := 150) (by decide +kernel) r33 (by exact fun hz => c36 ((cb_5 _ _).mp hz)) ?_
            exact g_90 (a := 0) (b := 0) (nx := 151) (by decide +kernel) h
        · rw [if_neg c43] at h
          refine g_40f (a := 0) (b := 143) (nx := 139) (by decide +kernel) r32 (by exact fun hz => c43 ((cb_0 _ _).mp hz)) ?_
          refine g_7 (a := 0) (b := 0) (nx := 140) (by decide +kernel) rfl ?_
          refine g_80 (a := 187) (b := 0) (nx := 143) (by decide +kernel) (r := x0) (As := []) (st' := []) (z := 187) rfl rfl rfl (Nat.le_of_ble_eq_true rfl) h0.2 (Nat.le_of_ble_eq_true rfl) rfl (c_V (by decide +kernel) h (fun M37 h => ?_))
          refine g_7 (a := 0) (b := 0) (nx := 144) (by decide +kernel) rfl ?_
          refine g_50 (a := 12) (b := 8) (nx := 147) (by decide +kernel) h0 ?_
          obtain ⟨r39, h⟩ := h
          by_cases c42 : (M37 x0 8) ≤ 0
          · rw [if_pos c42] at h
            refine g_40t (a := 5) (b := 151) (nx := 150) (by decide +kernel) r39 (by exact (cb_5 _ _).mpr c42) ?_
            refine g_7 (a := 0) (b := 0) (nx := 152) (by decide +kernel) rfl ?_
            refine g_52 (a := 12) (b := 27) (nx := 155) (by decide +kernel) h0 ?_
            refine g_5 (a := 1) (b := 0) (nx := 156) (by decide +kernel) rfl ?_
            refine g_7 (a := 0) (b := 0) (nx := 157) (by decide +kernel) rfl ?_
            refine g_50 (a := 12) (b := 14) (nx := 160) (by decide +kernel) h0 ?_
            refine g_62 (a := 0) (b := 0) (nx := 161) (by decide +kernel) h.1 ?_
            replace h := h.2
            refine g_7 (a := 0) (b := 0) (nx := 162) (by decide +kernel) rfl ?_
            refine g_52 (a := 12) (b := 28) (nx := 165) (by decide +kernel) h0 ?_
            refine g_7 (a := 0) (b := 0) (nx := 166) (by decide +kernel) rfl ?_
            refine g_50 (a := 12) (b := 14) (nx := 169) (by decide +kernel) h0 ?_
            refine g_5 (a := 1) (b := 0) (nx := 170) (by decide +kernel) rfl ?_
            refine g_62 (a := 0) (b := 0) (nx := 171) (by decide +kernel) h.1 ?_
            replace h := h.2
            refine g_7 (a := 0) (b := 0) (nx := 172) (by decide +kernel) rfl ?_
            refine g_52 (a := 12) (b := 29) (nx := 175) (by decide +kernel) h0 ?_
            refine g_7 (a := 0) (b := 0) (nx := 176) (by decide +kernel) rfl ?_
            refine g_50 (a := 12) (b := 14) (nx := 179) (by decide +kernel) h0 ?_
            refine g_5 (a := 2) (b := 0) (nx := 180) (by decide +kernel) rfl ?_
            refine g_62 (a := 0) (b := 0) (nx := 181) (by decide +kernel) h.1 ?_
            replace h := h.2
            refine g_7 (a := 0) (b := 0) (nx := 182) (by decide +kernel) rfl ?_
            refine g_52 (a := 12) (b := 30) (nx := 185) (by decide +kernel) h0 ?_
            refine g_7 (a := 0) (b := 0) (nx := 186) (by decide +kernel) rfl ?_
            refine g_50 (a := 12) (b := 14) (nx := 189) (by decide +kernel) h0 ?_
            refine g_5 (a := 3) (b := 0) (nx := 190) (by decide +kernel) rfl ?_
            refine g_82 (a := 178) (b := 1) (nx := 193) (by decide +kernel) (As := [vI y31]) (st' := [vI ((upM (upM (upM M37 (M37 x0 27) (M1 (M1 x0 12) 0) (M37 x0 14)) ((upM M37 (M37 x0 27) (M1 (M1 x0 12) 0) (M37 x0 14)) x0 28) ((upM M37 (M37 x0 27) (M1 (M1 x0 12) 0) (M37 x0 14)) x0 14) (M1 (M1 x0 12) 0)) ((upM (upM M37 (M37 x0 27) (M1 (M1 x0 12) 0) (M37 x0 14)) ((upM M37 (M37 x0 27) (M1 (M1 x0 12) 0) (M37 x0 14)) x0 28) ((upM M37 (M37 x0 27) (M1 (M1 x0 12) 0) (M37 x0 14)) x0 14) (M1 (M1 x0 12) 0)) x0 29) ((upM (upM M37 (M37 x0 27) (M1 (M1 x0 12) 0) (M37 x0 14)) ((upM M37 (M37 x0 27) (M1 (M1 x0 12) 0) (M37 x0 14)) x0 28) ((upM M37 (M37 x0 27) (M1 (M1 x0 12) 0) (M37 x0 14)) x0 14) (M1 (M1 x0 12) 0)) x0 14) y29) x0 14), vR ((upM (upM (upM M37 (M37 x0 27) (M1 (M1 x0 12) 0) (M37 x0 14)) ((upM M37 (M37 x0 27) (M1 (M1 x0 12) 0) (M37 x0 14)) x0 28) ((upM M37 (M37 x0 27) (M1 (M1 x0 12) 0) (M37 x0 14)) x0 14) (M1 (M1 x0 12) 0)) ((upM (upM M37 (M37 x0 27) (M1 (M1 x0 12) 0) (M37 x0 14)) ((upM M37 (M37 x0 27) (M1 (M1 x0 12) 0) (M37 x0 14)) x0 28) ((upM M37 (M37 x0 27) (M1 (M1 x0 12) 0) (M37 x0 14)) x0 14) (M1 (M1 x0 12) 0)) x0 29) ((upM (upM M37 (M37 x0 27) (M1 (M1 x0 12) 0) (M37 x0 14)) ((upM M37 (M37 x0 27) (M1 (M1 x0 12) 0) (M37 x0 14)) x0 28) ((upM M37 (M37 x0 27) (M1 (M1 x0 12) 0) (M37 x0 14)) x0 14) (M1 (M1 x0 12) 0)) x0 14) y29) x0 30)]) (z := 178) rfl rfl rfl (Nat.le_of_ble_eq_true rfl) (Nat.le_of_ble_eq_true rfl) rfl (c_I (by decide +kernel) h (fun y41 M40 h => ?_))
            refine g_62 (a := 0) (b := 0) (nx := 194) (by decide +kernel) h.1 ?_
            replace h := h.2
            refine g_7 (a := 0) (b := 0) (nx := 195) (by decide +kernel) rfl ?_
            refine g_13 (a := 0) (b := 0) (nx := 196) (by decide +kernel) rfl ?_
            refine g_50 (a := 12) (b := 14) (nx := 199) (by decide +kernel) h0 ?_
            refine g_1 (a := 1) (b := 0) (nx := 200) (by decide +kernel) ?_
            refine g_15 (a := 0) (b := 0) (nx := 201) (by decide +kernel) ?_
            refine g_53 (a := 12) (b := 14) (nx := 204) (by decide +kernel) h0 ?_
            exact g_90 (a := 0) (b := 0) (nx := 205) (by decide +kernel) h
          · rw [if_neg c42] at h
            refine g_40f (a := 5) (b := 151) (nx := 150) (by decide +kernel) r39 (by exact fun hz => c42 ((cb_5 _ _).mp hz)) ?_
            exact g_90 (a := 0) (b := 0) (nx := 151) (by decide +kernel) h
      · rw [if_neg c44] at h
        refine g_40f (a := 5) (b := 108) (nx := 107) (by decide +kernel) r25 (by exact fun hz => c44 ((cb_5 _ _).mp hz)) ?_
        exact g_90 (a := 0) (b := 0) (nx := 108) (by decide +kernel) h
    · rw [if_neg c67] at h
      refine g_41f (a := 0) (b := 100) (nx := 95) (by decide +kernel) (by rw [wr_id r24, wr_id (show inR 1 by decide)]; exact fun hz => c67 ((cb_0 _ _).mp hz)) ?_
      refine g_7 (a := 0) (b := 0) (nx := 96) (by decide +kernel) rfl ?_
      refine g_1 (a := 4) (b := 0) (nx := 97) (by decide +kernel) ?_
      refine g_80 (a := 188) (b := 1) (nx := 100) (by decide +kernel) (r := x0) (As := [vI 4]) (st' := []) (z := 188) rfl rfl rfl (Nat.le_of_ble_eq_true rfl) h0.2 (Nat.le_of_ble_eq_true rfl) rfl (c_V (by decide +kernel) h (fun M45 h => ?_))
      refine g_7 (a := 0) (b := 0) (nx := 101) (by decide +kernel) rfl ?_
      refine g_50 (a := 12) (b := 8) (nx := 104) (by decide +kernel) h0 ?_
      obtain ⟨r47, h⟩ := h
      by_cases c66 : (M45 x0 8) ≤ 0
      · rw [if_pos c66] at h
        refine g_40t (a := 5) (b := 108) (nx := 107) (by decide +kernel) r47 (by exact (cb_5 _ _).mpr c66) ?_
        refine g_7 (a := 0) (b := 0) (nx := 109) (by decide +kernel) rfl ?_
        refine g_52 (a := 12) (b := 12) (nx := 112) (by decide +kernel) h0 ?_
        refine g_1 (a := 0) (b := 0) (nx := 113) (by decide +kernel) ?_
        refine g_61 (a := 0) (b := 0) (nx := 114) (by decide +kernel) h.1 ?_
        replace h := h.2
        refine g_8 (a := 1) (b := 0) (nx := 115) (by decide +kernel) rfl (ls' := [some (vR x0), some (vI (M45 (M45 x0 12) 0)), none, none]) rfl ?_
        refine g_7 (a := 0) (b := 0) (nx := 116) (by decide +kernel) rfl ?_
        refine g_80 (a := 187) (b := 0) (nx := 119) (by decide +kernel) (r := x0) (As := []) (st' := []) (z := 187) rfl rfl rfl (Nat.le_of_ble_eq_true rfl) h0.2 (Nat.le_of_ble_eq_true rfl) rfl (c_V (by decide +kernel) h (fun M48 h => ?_))
        refine g_7 (a := 0) (b := 0) (nx := 120) (by decide +kernel) rfl ?_
        refine g_1 (a := 0) (b := 0) (nx := 121) (by decide +kernel) ?_
        refine g_1 (a := 9) (b := 0) (nx := 123) (by decide +kernel) ?_
        refine g_80 (a := 192) (b := 2) (nx := 126) (by decide +kernel) (r := x0) (As := [vI 0, vI 9]) (st' := []) (z := 192) rfl rfl rfl (Nat.le_of_ble_eq_true rfl) h0.2 (Nat.le_of_ble_eq_true rfl) rfl (c_I (by decide +kernel) h (fun y51 M50 h => ?_))
        refine g_8 (a := 2) (b := 0) (nx := 127) (by decide +kernel) rfl (ls' := [some (vR x0), some (vI (M45 (M45 x0 12) 0)), some (vI y51), none]) rfl ?_
        refine g_7 (a := 0) (b := 0) (nx := 128) (by decide +kernel) rfl ?_
        refine g_58 (a := 318611) (b := 9) (nx := 131) (by decide +kernel) ?_
        refine g_80 (a := 190) (b := 1) (nx := 134) (by decide +kernel) (r := x0) (As := [vL 318611]) (st' := []) (z := 190) rfl rfl rfl (Nat.le_of_ble_eq_true rfl) h0.2 (Nat.le_of_ble_eq_true rfl) rfl (c_I (by decide +kernel) h (fun y53 M52 h => ?_))
        refine g_8 (a := 3) (b := 0) (nx := 135) (by decide +kernel) rfl (ls' := [some (vR x0), some (vI (M45 (M45 x0 12) 0)), some (vI y51), some (vI y53)]) rfl ?_
        refine g_5 (a := 3) (b := 0) (nx := 136) (by decide +kernel) rfl ?_
        obtain ⟨r54, h⟩ := h
        by_cases c65 : y53 = 0
        · rw [if_pos c65] at h
          refine g_40t (a := 0) (b := 143) (nx := 139) (by decide +kernel) r54 (by exact (cb_0 _ _).mpr c65) ?_
          refine g_7 (a := 0) (b := 0) (nx := 144) (by decide +kernel) rfl ?_
          refine g_50 (a := 12) (b := 8) (nx := 147) (by decide +kernel) h0 ?_
          obtain ⟨r55, h⟩ := h
          by_cases c58 : (M52 x0 8) ≤ 0
          · rw [if_pos c58] at h
            refine g_40t (a := 5) (b := 151) (nx := 150) (by decide +kernel) r55 (by exact (cb_5 _ _).mpr c58) ?_
            refine g_7 (a := 0) (b := 0) (nx := 152) (by decide +kernel) rfl ?_
            refine g_52 (a := 12) (b := 27) (nx := 155) (by decide +kernel) h0 ?_
            refine g_5 (a := 1) (b := 0) (nx := 156) (by decide +kernel) rfl ?_
            refine g_7 (a := 0) (b := 0) (nx := 157) (by decide +kernel) rfl ?_
            refine g_50 (a := 12) (b := 14) (nx := 160) (by decide +kernel) h0 ?_
            refine g_62 (a := 0) (b := 0) (nx := 161) (by decide +kernel) h.1 ?_
            replace h := h.2
            refine g_7 (a := 0) (b := 0) (nx := 162) (by decide +kernel) rfl ?_
            refine g_52 (a := 12) (b := 28) (nx := 165) (by decide +kernel) h0 ?_
            refine g_7 (a := 0) (b := 0) (nx := 166) (by decide +kernel) rfl ?_
            refine g_50 (a := 12) (b := 14) (nx := 169) (by decide +kernel) h0 ?_
            refine g_5 (a := 1) (b := 0) (nx := 170) (by decide +kernel) rfl ?_
            refine g_62 (a := 0) (b := 0) (nx := 171) (by decide +kernel) h.1 ?_
            replace h := h.2
            refine g_7 (a := 0) (b := 0) (nx := 172) (by decide +kernel) rfl ?_
            refine g_52 (a := 12) (b := 29) (nx := 175) (by decide +kernel) h0 ?_
            refine g_7 (a := 0) (b := 0) (nx := 176) (by decide +kernel) rfl ?_
            refine g_50 (a := 12) (b := 14) (nx := 179) (by decide +kernel) h0 ?_
            refine g_5 (a := 2) (b := 0) (nx := 180) (by decide +kernel) rfl ?_
            refine g_62 (a := 0) (b := 0) (nx := 181) (by decide +kernel) h.1 ?_
            replace h := h.2
            refine g_7 (a := 0) (b := 0) (nx := 182) (by decide +kernel) rfl ?_
            refine g_52 (a := 12) (b := 30) (nx := 185) (by decide +kernel) h0 ?_
            refine g_7 (a := 0) (b := 0) (nx := 186) (by decide +kernel) rfl ?_
            refine g_50 (a := 12) (b := 14) (nx := 189) (by decide +kernel) h0 ?_
            refine g_5 (a := 3) (b := 0) (nx := 190) (by decide +kernel) rfl ?_
            refine g_82 (a := 178) (b := 1) (nx := 193) (by decide +kernel) (As := [vI y53]) (st' := [vI ((upM (upM (upM M52 (M52 x0 27) (M45 (M45 x0 12) 0) (M52 x0 14)) ((upM M52 (M52 x0 27) (M45 (M45 x0 12) 0) (M52 x0 14)) x0 28) ((upM M52 (M52 x0 27) (M45 (M45 x0 12) 0) (M52 x0 14)) x0 14) (M45 (M45 x0 12) 0)) ((upM (upM M52 (M52 x0 27) (M45 (M45 x0 12) 0) (M52 x0 14)) ((upM M52 (M52 x0 27) (M45 (M45 x0 12) 0) (M52 x0 14)) x0 28) ((upM M52 (M52 x0 27) (M45 (M45 x0 12) 0) (M52 x0 14)) x0 14) (M45 (M45 x0 12) 0)) x0 29) ((upM (upM M52 (M52 x0 27) (M45 (M45 x0 12) 0) (M52 x0 14)) ((upM M52 (M52 x0 27) (M45 (M45 x0 12) 0) (M52 x0 14)) x0 28) ((upM M52 (M52 x0 27) (M45 (M45 x0 12) 0) (M52 x0 14)) x0 14) (M45 (M45 x0 12) 0)) x0 14) y51) x0 14), vR ((upM (upM (upM M52 (M52 x0 27) (M45 (M45 x0 12) 0) (M52 x0 14)) ((upM M52 (M52 x0 27) (M45 (M45 x0 12) 0) (M52 x0 14)) x0 28) ((upM M52 (M52 x0 27) (M45 (M45 x0 12) 0) (M52 x0 14)) x0 14) (M45 (M45 x0 12) 0)) ((upM (upM M52 (M52 x0 27) (M45 (M45 x0 12) 0) (M52 x0 14)) ((upM M52 (M52 x0 27) (M45 (M45 x0 12) 0) (M52 x0 14)) x0 28) ((upM M52 (M52 x0 27) (M45 (M45 x0 12) 0) (M52 x0 14)) x0 14) (M45 (M45 x0 12) 0)) x0 29) ((upM (upM M52 (M52 x0 27) (M45 (M45 x0 12) 0) (M52 x0 14)) ((upM M52 (M52 x0 27) (M45 (M45 x0 12) 0) (M52 x0 14)) x0 28) ((upM M52 (M52 x0 27) (M45 (M45 x0 12) 0) (M52 x0 14)) x0 14) (M45 (M45 x0 12) 0)) x0 14) y51) x0 30)]) (z := 178) rfl rfl rfl (Nat.le_of_ble_eq_true rfl) (Nat.le_of_ble_eq_true rfl) rfl (c_I (by decide +kernel) h (fun y57 M56 h => ?_))
            refine g_62 (a := 0) (b := 0) (nx := 194) (by decide +kernel) h.1 ?_
            replace h := h.2
            refine g_7 (a := 0) (b := 0) (nx := 195) (by decide +kernel) rfl ?_
            refine g_13 (a := 0) (b := 0) (nx := 196) (by decide +kernel) rfl ?_
            refine g_50 (a := 12) (b := 14) (nx := 199) (by decide +kernel) h0 ?_
            refine g_1 (a := 1) (b := 0) (nx := 200) (by decide +kernel) ?_
            refine g_15 (a := 0) (b := 0) (nx := 201) (by decide +kernel) ?_
            refine g_53 (a := 12) (b := 14) (nx := 204) (by decide +kernel) h0 ?_
            exact g_90 (a := 0) (b := 0) (nx := 205) (by decide +kernel) h
          · rw [if_neg c58] at h
            refine g_40f (a := 5) (b := 151) (nx := 150) (by decide +kernel) r55 (by exact fun hz => c58 ((cb_5 _ _).mp hz)) ?_
            exact g_90 (a := 0) (b := 0) (nx := 151) (by decide +kernel) h
        · rw [if_neg c65] at h
          refine g_40f (a := 0) (b := 143) (nx := 139) (by decide +kernel) r54 (by exact fun hz => c65 ((cb_0 _ _).mp hz)) ?_
          refine g_7 (a := 0) (b := 0) (nx := 140) (by decide +kernel) rfl ?_
          refine g_80 (a := 187) (b := 0) (nx := 143) (by decide +kernel) (r := x0) (As := []) (st' := []) (z := 187) rfl rfl rfl (Nat.le_of_ble_eq_true rfl) h0.2 (Nat.le_of_ble_eq_true rfl) rfl (c_V (by decide +kernel) h (fun M59 h => ?_))
          refine g_7 (a := 0) (b := 0) (nx := 144) (by decide +kernel) rfl ?_
          refine g_50 (a := 12) (b := 8) (nx := 147) (by decide +kernel) h0 ?_
          obtain ⟨r61, h⟩ := h
          by_cases c64 : (M59 x0 8) ≤ 0
          · rw [if_pos c64] at h
            refine g_40t (a := 5) (b := 151) (nx := 150) (by decide +kernel) r61 (by exact (cb_5 _ _).mpr c64) ?_
            refine g_7 (a := 0) (b := 0) (nx := 152) (by decide +kernel) rfl ?_
            refine g_52 (a := 12) (b := 27) (nx := 155) (by decide +kernel) h0 ?_
            refine g_5 (a := 1) (b := 0) (nx := 156) (by decide +kernel) rfl ?_
            refine g_7 (a := 0) (b := 0) (nx := 157) (by decide +kernel) rfl ?_
            refine g_50 (a := 12) (b := 14) (nx := 160) (by decide +kernel) h0 ?_
            refine g_62 (a := 0) (b := 0) (nx := 161) (by decide +kernel) h.1 ?_
            replace h := h.2
            refine g_7 (a := 0) (b := 0) (nx := 162) (by decide +kernel) rfl ?_
            refine g_52 (a := 12) (b := 28) (nx := 165) (by decide +kernel) h0 ?_
            refine g_7 (a := 0) (b := 0) (nx := 166) (by decide +kernel) rfl ?_
            refine g_50 (a := 12) (b := 14) (nx := 169) (by decide +kernel) h0 ?_
            refine g_5 (a := 1) (b := 0) (nx := 170) (by decide +kernel) rfl ?_
            refine g_62 (a := 0) (b := 0) (nx := 171) (by decide +kernel) h.1 ?_
            replace h := h.2
            refine g_7 (a := 0) (b := 0) (nx := 172) (by decide +kernel) rfl ?_
            refine g_52 (a := 12) (b := 29) (nx := 175) (by decide +kernel) h0 ?_
            refine g_7 (a := 0) (b := 0) (nx := 176) (by decide +kernel) rfl ?_
            refine g_50 (a := 12) (b := 14) (nx := 179) (by decide +kernel) h0 ?_
            refine g_5 (a := 2) (b := 0) (nx := 180) (by decide +kernel) rfl ?_
            refine g_62 (a := 0) (b := 0) (nx := 181) (by decide +kernel) h.1 ?_
            replace h := h.2
            refine g_7 (a := 0) (b := 0) (nx := 182) (by decide +kernel) rfl ?_
            refine g_52 (a := 12) (b := 30) (nx := 185) (by decide +kernel) h0 ?_
            refine g_7 (a := 0) (b := 0) (nx := 186) (by decide +kernel) rfl ?_
            refine g_50 (a := 12) (b := 14) (nx := 189) (by decide +kernel) h0 ?_
            refine g_5 (a := 3) (b := 0) (nx := 190) (by decide +kernel) rfl ?_
            refine g_82 (a := 178) (b := 1) (nx := 193) (by decide +kernel) (As := [vI y53]) (st' := [vI ((upM (upM (upM M59 (M59 x0 27) (M45 (M45 x0 12) 0) (M59 x0 14)) ((upM M59 (M59 x0 27) (M45 (M45 x0 12) 0) (M59 x0 14)) x0 28) ((upM M59 (M59 x0 27) (M45 (M45 x0 12) 0) (M59 x0 14)) x0 14) (M45 (M45 x0 12) 0)) ((upM (upM M59 (M59 x0 27) (M45 (M45 x0 12) 0) (M59 x0 14)) ((upM M59 (M59 x0 27) (M45 (M45 x0 12) 0) (M59 x0 14)) x0 28) ((upM M59 (M59 x0 27) (M45 (M45 x0 12) 0) (M59 x0 14)) x0 14) (M45 (M45 x0 12) 0)) x0 29) ((upM (upM M59 (M59 x0 27) (M45 (M45 x0 12) 0) (M59 x0 14)) ((upM M59 (M59 x0 27) (M45 (M45 x0 12) 0) (M59 x0 14)) x0 28) ((upM M59 (M59 x0 27) (M45 (M45 x0 12) 0) (M59 x0 14)) x0 14) (M45 (M45 x0 12) 0)) x0 14) y51) x0 14), vR ((upM (upM (upM M59 (M59 x0 27) (M45 (M45 x0 12) 0) (M59 x0 14)) ((upM M59 (M59 x0 27) (M45 (M45 x0 12) 0) (M59 x0 14)) x0 28) ((upM M59 (M59 x0 27) (M45 (M45 x0 12) 0) (M59 x0 14)) x0 14) (M45 (M45 x0 12) 0)) ((upM (upM M59 (M59 x0 27) (M45 (M45 x0 12) 0) (M59 x0 14)) ((upM M59 (M59 x0 27) (M45 (M45 x0 12) 0) (M59 x0 14)) x0 28) ((upM M59 (M59 x0 27) (M45 (M45 x0 12) 0) (M59 x0 14)) x0 14) (M45 (M45 x0 12) 0)) x0 29) ((upM (upM M59 (M59 x0 27) (M45 (M45 x0 12) 0) (M59 x0 14)) ((upM M59 (M59 x0 27) (M45 (M45 x0 12) 0) (M59 x0 14)) x0 28) ((upM M59 (M59 x0 27) (M45 (M45 x0 12) 0) (M59 x0 14)) x0 14) (M45 (M45 x0 12) 0)) x0 14) y51) x0 30)]) (z := 178) rfl rfl rfl (Nat.le_of_ble_eq_true rfl) (Nat.le_of_ble_eq_true rfl) rfl (c_I (by decide +kernel) h (fun y63 M62 h => ?_))
            refine g_62 (a := 0) (b := 0) (nx := 194) (by decide +kernel) h.1 ?_
            replace h := h.2
            refine g_7 (a := 0) (b := 0) (nx := 195) (by decide +kernel) rfl ?_
            refine g_13 (a := 0) (b := 0) (nx := 196) (by decide +kernel) rfl ?_
            refine g_50 (a := 12) (b := 14) (nx := 199) (by decide +kernel) h0 ?_
            refine g_1 (a := 1) (b := 0) (nx := 200) (by decide +kernel) ?_
            refine g_15 (a := 0) (b := 0) (nx := 201) (by decide +kernel) ?_
            refine g_53 (a := 12) (b := 14) (nx := 204) (by decide +kernel) h0 ?_
            exact g_90 (a := 0) (b := 0) (nx := 205) (by decide +kernel) h
          · rw [if_neg c64] at h
            refine g_40f (a := 5) (b := 151) (nx := 150) (by decide +kernel) r61 (by exact fun hz => c64 ((cb_5 _ _).mp hz)) ?_
            exact g_90 (a := 0) (b := 0) (nx := 151) (by decide +kernel) h
      · rw [if_neg c66] at h
        refine g_40f (a := 5) (b := 108) (nx := 107) (by decide +kernel) r47 (by exact fun hz => c66 ((cb_5 _ _).mp hz)) ?_
        exact g_90 (a := 0) (b := 0) (nx := 108) (by decide +kernel) h
