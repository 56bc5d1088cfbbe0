/-! TREES, printed by a program: what each method's run comes to. -/
-- 196 SyllableMakerModel.openLine()V
theorem t_196 {x0 : Int} {M : Mem} {Q : AV → Mem → Prop} (h0 : gO 12 x0) (h : inR (M x0 15) ∧ (if (M x0 15) = 12 then (WV 188 [vR x0, vI 5] M (fun M32 => WI 189 [vR x0] M32 (fun y35 M34 => inR y35 ∧ (if y35 = 0 then (WV 194 [vR x0, vI 0] M34 (fun M37 => WI 189 [vR x0] M37 (fun y40 M39 => inR y40 ∧ (if y40 = 0 then (WR 196 61 [some (vR x0), some (vI 0), none, none] [] M39 Q) else (WI 177 [vL (wr32 (M39 x0 7)), vL 2, vL 4] M39 (fun y43 M42 => inR y43 ∧ (if y43 = 0 then (WV 188 [vR x0, vI 4] M42 (fun M45 => WR 196 61 [some (vR x0), some (vI 0), none, none] [] M45 Q)) else (WR 196 61 [some (vR x0), some (vI 0), none, none] [] M42 Q)))))))) else (WV 187 [vR x0] M34 (fun M49 => WV 194 [vR x0, vI 0] M49 (fun M51 => WI 189 [vR x0] M51 (fun y54 M53 => inR y54 ∧ (if y54 = 0 then (WR 196 61 [some (vR x0), some (vI 0), none, none] [] M53 Q) else (WI 177 [vL (wr32 (M53 x0 7)), vL 2, vL 4] M53 (fun y57 M56 => inR y57 ∧ (if y57 = 0 then (WV 188 [vR x0, vI 4] M56 (fun M59 => WR 196 61 [some (vR x0), some (vI 0), none, none] [] M59 Q)) else (WR 196 61 [some (vR x0), some (vI 0), none, none] [] M56 Q))))))))))))) else (WI 189 [vR x0] M (fun y3 M2 => inR y3 ∧ (if y3 = 0 then (WV 194 [vR x0, vI 0] M2 (fun M5 => WI 189 [vR x0] M5 (fun y8 M7 => inR y8 ∧ (if y8 = 0 then (WR 196 61 [some (vR x0), some (vI 0), none, none] [] M7 Q) else (WI 177 [vL (wr32 (M7 x0 7)), vL 2, vL 4] M7 (fun y11 M10 => inR y11 ∧ (if y11 = 0 then (WV 188 [vR x0, vI 4] M10 (fun M13 => WR 196 61 [some (vR x0), some (vI 0), none, none] [] M13 Q)) else (WR 196 61 [some (vR x0), some (vI 0), none, none] [] M10 Q)))))))) else (WV 187 [vR x0] M2 (fun M17 => WV 194 [vR x0, vI 0] M17 (fun M19 => WI 189 [vR x0] M19 (fun y22 M21 => inR y22 ∧ (if y22 = 0 then (WR 196 61 [some (vR x0), some (vI 0), none, none] [] M21 Q) else (WI 177 [vL (wr32 (M21 x0 7)), vL 2, vL 4] M21 (fun y25 M24 => inR y25 ∧ (if y25 = 0 then (WV 188 [vR x0, vI 4] M24 (fun M27 => WR 196 61 [some (vR x0), some (vI 0), none, none] [] M27 Q)) else (WR 196 61 [some (vR x0), some (vI 0), none, none] [] M24 Q)))))))))))))) : WC 196 [vR x0] M Q := by
  show WR 196 0 [some (vR x0), none, none, none] [] M Q
  refine g_7 (a := 0) (b := 0) (nx := 1) (by decide +kernel) rfl ?_
  refine g_50 (a := 12) (b := 15) (nx := 4) (by decide +kernel) h0 ?_
  refine g_1 (a := 12) (b := 0) (nx := 6) (by decide +kernel) ?_
  obtain ⟨r1, h⟩ := h
  by_cases c64 : (M x0 15) = 12
  · rw [if_pos c64] at h
    refine g_41f (a := 1) (b := 14) (nx := 9) (by decide +kernel) (by rw [wr_id r1, wr_id (show inR 12 by decide)]; exact fun hz => ((cb_1 _ _).mp hz) c64) ?_
    refine g_7 (a := 0) (b := 0) (nx := 10) (by decide +kernel) rfl ?_
    refine g_1 (a := 5) (b := 0) (nx := 11) (by decide +kernel) ?_
    refine g_80 (a := 188) (b := 1) (nx := 14) (by decide +kernel) (r := x0) (As := [vI 5]) (st' := []) (z := 188) rfl rfl rfl (Nat.le_of_ble_eq_true rfl) h0.2 (Nat.le_of_ble_eq_true rfl) rfl (c_V (by decide +kernel) h (fun M32 h => ?_))
    refine g_7 (a := 0) (b := 0) (nx := 15) (by decide +kernel) rfl ?_
    refine g_80 (a := 189) (b := 0) (nx := 18) (by decide +kernel) (r := x0) (As := []) (st' := []) (z := 189) rfl rfl rfl (Nat.le_of_ble_eq_true rfl) h0.2 (Nat.le_of_ble_eq_true rfl) rfl (c_I (by decide +kernel) h (fun y35 M34 h => ?_))
    obtain ⟨r36, h⟩ := h
    by_cases c63 : y35 = 0
    · rw [if_pos c63] at h
      refine g_40t (a := 0) (b := 25) (nx := 21) (by decide +kernel) r36 (by exact (cb_0 _ _).mpr c63) ?_
      refine g_7 (a := 0) (b := 0) (nx := 26) (by decide +kernel) rfl ?_
      refine g_1 (a := 0) (b := 0) (nx := 27) (by decide +kernel) ?_
      refine g_80 (a := 194) (b := 1) (nx := 30) (by decide +kernel) (r := x0) (As := [vI 0]) (st' := []) (z := 194) rfl rfl rfl (Nat.le_of_ble_eq_true rfl) h0.2 (Nat.le_of_ble_eq_true rfl) rfl (c_V (by decide +kernel) h (fun M37 h => ?_))
      refine g_7 (a := 0) (b := 0) (nx := 31) (by decide +kernel) rfl ?_
      refine g_80 (a := 189) (b := 0) (nx := 34) (by decide +kernel) (r := x0) (As := []) (st' := []) (z := 189) rfl rfl rfl (Nat.le_of_ble_eq_true rfl) h0.2 (Nat.le_of_ble_eq_true rfl) rfl (c_I (by decide +kernel) h (fun y40 M39 h => ?_))
      obtain ⟨r41, h⟩ := h
      by_cases c48 : y40 = 0
      · rw [if_pos c48] at h
        refine g_40t (a := 0) (b := 59) (nx := 37) (by decide +kernel) r41 (by exact (cb_0 _ _).mpr c48) ?_
        refine g_1 (a := 0) (b := 0) (nx := 60) (by decide +kernel) ?_
        refine g_8 (a := 1) (b := 0) (nx := 61) (by decide +kernel) rfl (ls' := [some (vR x0), some (vI 0), none, none]) rfl ?_
        exact h
      · rw [if_neg c48] at h
        refine g_40f (a := 0) (b := 59) (nx := 37) (by decide +kernel) r41 (by exact fun hz => c48 ((cb_0 _ _).mp hz)) ?_
        refine g_7 (a := 0) (b := 0) (nx := 38) (by decide +kernel) rfl ?_
        refine g_50 (a := 12) (b := 7) (nx := 41) (by decide +kernel) h0 ?_
        refine g_35 (a := 0) (b := 0) (nx := 42) (by decide +kernel) ?_
        refine g_2 (a := 2) (b := 0) (nx := 45) (by decide +kernel) ?_
        refine g_2 (a := 4) (b := 0) (nx := 48) (by decide +kernel) ?_
        refine g_82 (a := 177) (b := 3) (nx := 51) (by decide +kernel) (As := [vL (wr32 (M39 x0 7)), vL 2, vL 4]) (st' := []) (z := 177) rfl rfl rfl (Nat.le_of_ble_eq_true rfl) (Nat.le_of_ble_eq_true rfl) rfl (c_I (by decide +kernel) h (fun y43 M42 h => ?_))
        obtain ⟨r44, h⟩ := h
        by_cases c47 : y43 = 0
        · rw [if_pos c47] at h
          refine g_40f (a := 1) (b := 59) (nx := 54) (by decide +kernel) r44 (by exact fun hz => ((cb_1 _ _).mp hz) c47) ?_
          refine g_7 (a := 0) (b := 0) (nx := 55) (by decide +kernel) rfl ?_
          refine g_1 (a := 4) (b := 0) (nx := 56) (by decide +kernel) ?_
          refine g_80 (a := 188) (b := 1) (nx := 59) (by decide +kernel) (r := x0) (As := [vI 4]) (st' := []) (z := 188) rfl rfl rfl (Nat.le_of_ble_eq_true rfl) h0.2 (Nat.le_of_ble_eq_true rfl) rfl (c_V (by decide +kernel) h (fun M45 h => ?_))
          refine g_1 (a := 0) (b := 0) (nx := 60) (by decide +kernel) ?_
          refine g_8 (a := 1) (b := 0) (nx := 61) (by decide +kernel) rfl (ls' := [some (vR x0), some (vI 0), none, none]) rfl ?_
          exact h
        · rw [if_neg c47] at h
          refine g_40t (a := 1) (b := 59) (nx := 54) (by decide +kernel) r44 (by exact (cb_1 _ _).mpr c47) ?_
          refine g_1 (a := 0) (b := 0) (nx := 60) (by decide +kernel) ?_
          refine g_8 (a := 1) (b := 0) (nx := 61) (by decide +kernel) rfl (ls' := [some (vR x0), some (vI 0), none, none]) rfl ?_
          exact h
    · rw [if_neg c63] at h
      refine g_40f (a := 0) (b := 25) (nx := 21) (by decide +kernel) r36 (by exact fun hz => c63 ((cb_0 _ _).mp hz)) ?_
      refine g_7 (a := 0) (b := 0) (nx := 22) (by decide +kernel) rfl ?_
      refine g_80 (a := 187) (b := 0) (nx := 25) (by decide +kernel) (r := x0) (As := []) (st' := []) (z := 187) rfl rfl rfl (Nat.le_of_ble_eq_true rfl) h0.2 (Nat.le_of_ble_eq_true rfl) rfl (c_V (by decide +kernel) h (fun M49 h => ?_))
      refine g_7 (a := 0) (b := 0) (nx := 26) (by decide +kernel) rfl ?_
      refine g_1 (a := 0) (b := 0) (nx := 27) (by decide +kernel) ?_
      refine g_80 (a := 194) (b := 1) (nx := 30) (by decide +kernel) (r := x0) (As := [vI 0]) (st' := []) (z := 194) rfl rfl rfl (Nat.le_of_ble_eq_true rfl) h0.2 (Nat.le_of_ble_eq_true rfl) rfl (c_V (by decide +kernel) h (fun M51 h => ?_))
      refine g_7 (a := 0) (b := 0) (nx := 31) (by decide +kernel) rfl ?_
      refine g_80 (a := 189) (b := 0) (nx := 34) (by decide +kernel) (r := x0) (As := []) (st' := []) (z := 189) rfl rfl rfl (Nat.le_of_ble_eq_true rfl) h0.2 (Nat.le_of_ble_eq_true rfl) rfl (c_I (by decide +kernel) h (fun y54 M53 h => ?_))
      obtain ⟨r55, h⟩ := h
      by_cases c62 : y54 = 0
      · rw [if_pos c62] at h
        refine g_40t (a := 0) (b := 59) (nx := 37) (by decide +kernel) r55 (by exact (cb_0 _ _).mpr c62) ?_
        refine g_1 (a := 0) (b := 0) (nx := 60) (by decide +kernel) ?_
        refine g_8 (a := 1) (b := 0) (nx := 61) (by decide +kernel) rfl (ls' := [some (vR x0), some (vI 0), none, none]) rfl ?_
        exact h
      · rw [if_neg c62] at h
        refine g_40f (a := 0) (b := 59) (nx := 37) (by decide +kernel) r55 (by exact fun hz => c62 ((cb_0 _ _).mp hz)) ?_
        refine g_7 (a := 0) (b := 0) (nx := 38) (by decide +kernel) rfl ?_
        refine g_50 (a := 12) (b := 7) (nx := 41) (by decide +kernel) h0 ?_
        refine g_35 (a := 0) (b := 0) (nx := 42) (by decide +kernel) ?_
        refine g_2 (a := 2) (b := 0) (nx := 45) (by decide +kernel) ?_
        refine g_2 (a := 4) (b := 0) (nx := 48) (by decide +kernel) ?_
        refine g_82 (a := 177) (b := 3) (nx := 51) (by decide +kernel) (As := [vL (wr32 (M53 x0 7)), vL 2, vL 4]) (st' := []) (z := 177) rfl rfl rfl (Nat.le_of_ble_eq_true rfl) (Nat.le_of_ble_eq_true rfl) rfl (c_I (by decide +kernel) h (fun y57 M56 h => ?_))
        obtain ⟨r58, h⟩ := h
        by_cases c61 : y57 = 0
        · rw [if_pos c61] at h
          refine g_40f (a := 1) (b := 59) (nx := 54) (by decide +kernel) r58 (by exact fun hz => ((cb_1 _ _).mp hz) c61) ?_
          refine g_7 (a := 0) (b := 0) (nx := 55) (by decide +kernel) rfl ?_
          refine g_1 (a := 4) (b := 0) (nx := 56) (by decide +kernel) ?_
          refine g_80 (a := 188) (b := 1) (nx := 59) (by decide +kernel) (r := x0) (As := [vI 4]) (st' := []) (z := 188) rfl rfl rfl (Nat.le_of_ble_eq_true rfl) h0.2 (Nat.le_of_ble_eq_true rfl) rfl (c_V (by decide +kernel) h (fun M59 h => ?_))
          refine g_1 (a := 0) (b := 0) (nx := 60) (by decide +kernel) ?_
          refine g_8 (a := 1) (b := 0) (nx := 61) (by decide +kernel) rfl (ls' := [some (vR x0), some (vI 0), none, none]) rfl ?_
          exact h
        · rw [if_neg c61] at h
          refine g_40t (a := 1) (b := 59) (nx := 54) (by decide +kernel) r58 (by exact (cb_1 _ _).mpr c61) ?_
          refine g_1 (a := 0) (b := 0) (nx := 60) (by decide +kernel) ?_
          refine g_8 (a := 1) (b := 0) (nx := 61) (by decide +kernel) rfl (ls' := [some (vR x0), some (vI 0), none, none]) rfl ?_
          exact h
  · rw [if_neg c64] at h
    refine g_41t (a := 1) (b := 14) (nx := 9) (by decide +kernel) (by rw [wr_id r1, wr_id (show inR 12 by decide)]; exact (cb_1 _ _).mpr c64) ?_
    refine g_7 (a := 0) (b := 0) (nx := 15) (by decide +kernel) rfl ?_
    refine g_80 (a := 189) (b := 0) (nx := 18) (by decide +kernel) (r := x0) (As := []) (st' := []) (z := 189) rfl rfl rfl (Nat.le_of_ble_eq_true rfl) h0.2 (Nat.le_of_ble_eq_true rfl) rfl (c_I (by decide +kernel) h (fun y3 M2 h => ?_))
    obtain ⟨r4, h⟩ := h
    by_cases c31 : y3 = 0
    · rw [if_pos c31] at h
      refine g_40t (a := 0) (b := 25) (nx := 21) (by decide +kernel) r4 (by exact (cb_0 _ _).mpr c31) ?_
      refine g_7 (a := 0) (b := 0) (nx := 26) (by decide +kernel) rfl ?_
      refine g_1 (a := 0) (b := 0) (nx := 27) (by decide +kernel) ?_
      refine g_80 (a := 194) (b := 1) (nx := 30) (by decide +kernel) (r := x0) (As := [vI 0]) (st' := []) (z := 194) rfl rfl rfl (Nat.le_of_ble_eq_true rfl) h0.2 (Nat.le_of_ble_eq_true rfl) rfl (c_V (by decide +kernel) h (fun M5 h => ?_))
      refine g_7 (a := 0) (b := 0) (nx := 31) (by decide +kernel) rfl ?_
      refine g_80 (a := 189) (b := 0) (nx := 34) (by decide +kernel) (r := x0) (As := []) (st' := []) (z := 189) rfl rfl rfl (Nat.le_of_ble_eq_true rfl) h0.2 (Nat.le_of_ble_eq_true rfl) rfl (c_I (by decide +kernel) h (fun y8 M7 h => ?_))
      obtain ⟨r9, h⟩ := h
      by_cases c16 : y8 = 0
      · rw [if_pos c16] at h
        refine g_40t (a := 0) (b := 59) (nx := 37) (by decide +kernel) r9 (by exact (cb_0 _ _).mpr c16) ?_
        refine g_1 (a := 0) (b := 0) (nx := 60) (by decide +kernel) ?_
        refine g_8 (a := 1) (b := 0) (nx := 61) (by decide +kernel) rfl (ls' := [some (vR x0), some (vI 0), none, none]) rfl ?_
        exact h
      · rw [if_neg c16] at h
        refine g_40f (a := 0) (b := 59) (nx := 37) (by decide +kernel) r9 (by exact fun hz => c16 ((cb_0 _ _).mp hz)) ?_
        refine g_7 (a := 0) (b := 0) (nx := 38) (by decide +kernel) rfl ?_
        refine g_50 (a := 12) (b := 7) (nx := 41) (by decide +kernel) h0 ?_
        refine g_35 (a := 0) (b := 0) (nx := 42) (by decide +kernel) ?_
        refine g_2 (a := 2) (b := 0) (nx := 45) (by decide +kernel) ?_
        refine g_2 (a := 4) (b := 0) (nx := 48) (by decide +kernel) ?_
        refine g_82 (a := 177) (b := 3) (nx := 51) (by decide +kernel) (As := [vL (wr32 (M7 x0 7)), vL 2, vL 4]) (st' := []) (z := 177) rfl rfl rfl (Nat.le_of_ble_eq_true rfl) (Nat.le_of_ble_eq_true rfl) rfl (c_I (by decide +kernel) h (fun y11 M10 h => ?_))
        obtain ⟨r12, h⟩ := h
        by_cases c15 : y11 = 0
        · rw [if_pos c15] at h
          refine g_40f (a := 1) (b := 59) (nx := 54) (by decide +kernel) r12 (by exact fun hz => ((cb_1 _ _).mp hz) c15) ?_
          refine g_7 (a := 0) (b := 0) (nx := 55) (by decide +kernel) rfl ?_
          refine g_1 (a := 4) (b := 0) (nx := 56) (by decide +kernel) ?_
          refine g_80 (a := 188) (b := 1) (nx := 59) (by decide +kernel) (r := x0) (As := [vI 4]) (st' := []) (z := 188) rfl rfl rfl (Nat.le_of_ble_eq_true rfl) h0.2 (Nat.le_of_ble_eq_true rfl) rfl (c_V (by decide +kernel) h (fun M13 h => ?_))
          refine g_1 (a := 0) (b := 0) (nx := 60) (by decide +kernel) ?_
          refine g_8 (a := 1) (b := 0) (nx := 61) (by decide +kernel) rfl (ls' := [some (vR x0), some (vI 0), none, none]) rfl ?_
          exact h
        · rw [if_neg c15] at h
          refine g_40t (a := 1) (b := 59) (nx := 54) (by decide +kernel) r12 (by exact (cb_1 _ _).mpr c15) ?_
          refine g_1 (a := 0) (b := 0) (nx := 60) (by decide +kernel) ?_
          refine g_8 (a := 1) (b := 0) (nx := 61) (by decide +kernel) rfl (ls' := [some (vR x0), some (vI 0), none, none]) rfl ?_
          exact h
    · rw [if_neg c31] at h
      refine g_40f (a := 0) (b := 25) (nx := 21) (by decide +kernel) r4 (by exact fun hz => c31 ((cb_0 _ _).mp hz)) ?_
      refine g_7 (a := 0) (b := 0) (nx := 22) (by decide +kernel) rfl ?_
      refine g_80 (a := 187) (b := 0) (nx := 25) (by decide +kernel) (r := x0) (As := []) (st' := []) (z := 187) rfl rfl rfl (Nat.le_of_ble_eq_true rfl) h0.2 (Nat.le_of_ble_eq_true rfl) rfl (c_V (by decide +kernel) h (fun M17 h => ?_))
      refine g_7 (a := 0) (b := 0) (nx := 26) (by decide +kernel) rfl ?_
      refine g_1 (a := 0) (b := 0) (nx := 27) (by decide +kernel) ?_
      refine g_80 (a := 194) (b := 1) (nx := 30) (by decide +kernel) (r := x0) (As := [vI 0]) (st' := []) (z := 194) rfl rfl rfl (Nat.le_of_ble_eq_true rfl) h0.2 (Nat.le_of_ble_eq_true rfl) rfl (c_V (by decide +kernel) h (fun M19 h => ?_))
      refine g_7 (a := 0) (b := 0) (nx := 31) (by decide +kernel) rfl ?_
      refine g_80 (a := 189) (b := 0) (nx := 34) (by decide +kernel) (r := x0) (As := []) (st' := []) (z := 189) rfl rfl rfl (Nat.le_of_ble_eq_true rfl) h0.2 (Nat.le_of_ble_eq_true rfl) rfl (c_I (by decide +kernel) h (fun y22 M21 h => ?_))
      obtain ⟨r23, h⟩ := h
      by_cases c30 : y22 = 0
      · rw [if_pos c30] at h
        refine g_40t (a := 0) (b := 59) (nx := 37) (by decide +kernel) r23 (by exact (cb_0 _ _).mpr c30) ?_
        refine g_1 (a := 0) (b := 0) (nx := 60) (by decide +kernel) ?_
        refine g_8 (a := 1) (b := 0) (nx := 61) (by decide +kernel) rfl (ls' := [some (vR x0), some (vI 0), none, none]) rfl ?_
        exact h
      · rw [if_neg c30] at h
        refine g_40f (a := 0) (b := 59) (nx := 37) (by decide +kernel) r23 (by exact fun hz => c30 ((cb_0 _ _).mp hz)) ?_
        refine g_7 (a := 0) (b := 0) (nx := 38) (by decide +kernel) rfl ?_
        refine g_50 (a := 12) (b := 7) (nx := 41) (by decide +kernel) h0 ?_
        refine g_35 (a := 0) (b := 0) (nx := 42) (by decide +kernel) ?_
        refine g_2 (a := 2) (b := 0) (nx := 45) (by decide +kernel) ?_
        refine g_2 (a := 4) (b := 0) (nx := 48) (by decide +kernel) ?_
        refine g_82 (a := 177) (b := 3) (nx := 51) (by decide +kernel) (As := [vL (wr32 (M21 x0 7)), vL 2, vL 4]) (st' := []) (z := 177) rfl rfl rfl (Nat.le_of_ble_eq_true rfl) (Nat.le_of_ble_eq_true rfl) rfl (c_I (by decide +kernel) h (fun y25 M24 h => ?_))
        obtain ⟨r26, h⟩ := h
        by_cases c29 : y25 = 0
        · rw [if_pos c29] at h
          refine g_40f (a := 1) (b := 59) (nx := 54) (by decide +kernel) r26 (by exact fun hz => ((cb_1 _ _).mp hz) c29) ?_
          refine g_7 (a := 0) (b := 0) (nx := 55) (by decide +kernel) rfl ?_
          refine g_1 (a := 4) (b := 0) (nx := 56) (by decide +kernel) ?_
          refine g_80 (a := 188) (b := 1) (nx := 59) (by decide +kernel) (r := x0) (As := [vI 4]) (st' := []) (z := 188) rfl rfl rfl (Nat.le_of_ble_eq_true rfl) h0.2 (Nat.le_of_ble_eq_true rfl) rfl (c_V (by decide +kernel) h (fun M27 h => ?_))
          refine g_1 (a := 0) (b := 0) (nx := 60) (by decide +kernel) ?_
          refine g_8 (a := 1) (b := 0) (nx := 61) (by decide +kernel) rfl (ls' := [some (vR x0), some (vI 0), none, none]) rfl ?_
          exact h
        · rw [if_neg c29] at h
          refine g_40t (a := 1) (b := 59) (nx := 54) (by decide +kernel) r26 (by exact (cb_1 _ _).mpr c29) ?_
          refine g_1 (a := 0) (b := 0) (nx := 60) (by decide +kernel) ?_
          refine g_8 (a := 1) (b := 0) (nx := 61) (by decide +kernel) rfl (ls' := [some (vR x0), some (vI 0), none, none]) rfl ?_
          exact h
theorem t_196_61 {x0 x1 : Int} {l2 l3 : Option AV} {M : Mem} {Q : AV → Mem → Prop} (h0 : gO 12 x0) (h : inR x1 ∧ (inR (M x0 15) ∧ (if (M x0 15) ≤ x1 then (inR (M x0 8) ∧ (if (M x0 8) ≤ 0 then (WR 196 170 [some (vR x0), some (vI 0), l2, l3] [] M Q) else (Q (vI 0) M))) else (WI 189 [vR x0] M (fun y6 M5 => inR y6 ∧ (if y6 = 0 then (inR (M5 x0 8) ∧ (if (M5 x0 8) ≤ 0 then (WR 196 170 [some (vR x0), some (vI 0), l2, l3] [] M5 Q) else (Q (vI 0) M5))) else ((gA 20 (M5 x0 32) x1) ∧ inR (M5 (M5 x0 32) x1) ∧ (inR (M5 x0 7) ∧ (if (M5 (M5 x0 32) x1) = (M5 x0 7) then (WR 196 97 [some (vR x0), some (vI x1), some (vI 1), some (vI 0)] [] M5 Q) else (WR 196 97 [some (vR x0), some (vI x1), some (vI 0), some (vI 0)] [] M5 Q)))))))))) : WR 196 61 [some (vR x0), some (vI x1), l2, l3] [] M Q := by
  refine g_5 (a := 1) (b := 0) (nx := 62) (by decide +kernel) rfl ?_
  refine g_7 (a := 0) (b := 0) (nx := 63) (by decide +kernel) rfl ?_
  refine g_50 (a := 12) (b := 15) (nx := 66) (by decide +kernel) h0 ?_
  obtain ⟨r1, h⟩ := h
  obtain ⟨r2, h⟩ := h
  by_cases c14 : (M x0 15) ≤ x1
  · rw [if_pos c14] at h
    refine g_41t (a := 3) (b := 160) (nx := 69) (by decide +kernel) (by rw [wr_id r1, wr_id r2]; exact (cb_3 _ _).mpr c14) ?_
    refine g_7 (a := 0) (b := 0) (nx := 161) (by decide +kernel) rfl ?_
    refine g_50 (a := 12) (b := 8) (nx := 164) (by decide +kernel) h0 ?_
    obtain ⟨r3, h⟩ := h
    by_cases c4 : (M x0 8) ≤ 0
    · rw [if_pos c4] at h
      refine g_40t (a := 5) (b := 168) (nx := 167) (by decide +kernel) r3 (by exact (cb_5 _ _).mpr c4) ?_
      refine g_1 (a := 0) (b := 0) (nx := 169) (by decide +kernel) ?_
      refine g_8 (a := 1) (b := 0) (nx := 170) (by decide +kernel) rfl (ls' := [some (vR x0), some (vI 0), l2, l3]) rfl ?_
      exact h
    · rw [if_neg c4] at h
      refine g_40f (a := 5) (b := 168) (nx := 167) (by decide +kernel) r3 (by exact fun hz => c4 ((cb_5 _ _).mp hz)) ?_
      exact g_90 (a := 0) (b := 0) (nx := 168) (by decide +kernel) h
  · rw [if_neg c14] at h
    refine g_41f (a := 3) (b := 160) (nx := 69) (by decide +kernel) (by rw [wr_id r1, wr_id r2]; exact fun hz => c14 ((cb_3 _ _).mp hz)) ?_
    refine g_7 (a := 0) (b := 0) (nx := 70) (by decide +kernel) rfl ?_
    refine g_80 (a := 189) (b := 0) (nx := 73) (by decide +kernel) (r := x0) (As := []) (st' := []) (z := 189) rfl rfl rfl (Nat.le_of_ble_eq_true rfl) h0.2 (Nat.le_of_ble_eq_true rfl) rfl (c_I (by decide +kernel) h (fun y6 M5 h => ?_))
    obtain ⟨r7, h⟩ := h
    by_cases c13 : y6 = 0
    · rw [if_pos c13] at h
      refine g_40t (a := 0) (b := 160) (nx := 76) (by decide +kernel) r7 (by exact (cb_0 _ _).mpr c13) ?_
      refine g_7 (a := 0) (b := 0) (nx := 161) (by decide +kernel) rfl ?_
      refine g_50 (a := 12) (b := 8) (nx := 164) (by decide +kernel) h0 ?_
      obtain ⟨r8, h⟩ := h
      by_cases c9 : (M5 x0 8) ≤ 0
      · rw [if_pos c9] at h
        refine g_40t (a := 5) (b := 168) (nx := 167) (by decide +kernel) r8 (by exact (cb_5 _ _).mpr c9) ?_
        refine g_1 (a := 0) (b := 0) (nx := 169) (by decide +kernel) ?_
        refine g_8 (a := 1) (b := 0) (nx := 170) (by decide +kernel) rfl (ls' := [some (vR x0), some (vI 0), l2, l3]) rfl ?_
        exact h
      · rw [if_neg c9] at h
        refine g_40f (a := 5) (b := 168) (nx := 167) (by decide +kernel) r8 (by exact fun hz => c9 ((cb_5 _ _).mp hz)) ?_
        exact g_90 (a := 0) (b := 0) (nx := 168) (by decide +kernel) h
    · rw [if_neg c13] at h
      refine g_40f (a := 0) (b := 160) (nx := 76) (by decide +kernel) r7 (by exact fun hz => c13 ((cb_0 _ _).mp hz)) ?_
      refine g_7 (a := 0) (b := 0) (nx := 77) (by decide +kernel) rfl ?_
      refine g_52 (a := 12) (b := 32) (nx := 80) (by decide +kernel) h0 ?_
      refine g_5 (a := 1) (b := 0) (nx := 81) (by decide +kernel) rfl ?_
      refine g_61 (a := 0) (b := 0) (nx := 82) (by decide +kernel) h.1 ?_
      replace h := h.2
      refine g_7 (a := 0) (b := 0) (nx := 83) (by decide +kernel) rfl ?_
      refine g_50 (a := 12) (b := 7) (nx := 86) (by decide +kernel) h0 ?_
      obtain ⟨r10, h⟩ := h
      obtain ⟨r11, h⟩ := h
      by_cases c12 : (M5 (M5 x0 32) x1) = (M5 x0 7)
      · rw [if_pos c12] at h
        refine g_41f (a := 1) (b := 93) (nx := 89) (by decide +kernel) (by rw [wr_id r10, wr_id r11]; exact fun hz => ((cb_1 _ _).mp hz) c12) ?_
        refine g_1 (a := 1) (b := 0) (nx := 90) (by decide +kernel) ?_
        refine g_44 (a := 0) (b := 94) (nx := 93) (by decide +kernel) ?_
        refine g_8 (a := 2) (b := 0) (nx := 95) (by decide +kernel) rfl (ls' := [some (vR x0), some (vI x1), some (vI 1), l3]) rfl ?_
        refine g_1 (a := 0) (b := 0) (nx := 96) (by decide +kernel) ?_
        refine g_8 (a := 3) (b := 0) (nx := 97) (by decide +kernel) rfl (ls' := [some (vR x0), some (vI x1), some (vI 1), some (vI 0)]) rfl ?_
        exact h
      · rw [if_neg c12] at h
        refine g_41t (a := 1) (b := 93) (nx := 89) (by decide +kernel) (by rw [wr_id r10, wr_id r11]; exact (cb_1 _ _).mpr c12) ?_
        refine g_1 (a := 0) (b := 0) (nx := 94) (by decide +kernel) ?_
        refine g_8 (a := 2) (b := 0) (nx := 95) (by decide +kernel) rfl (ls' := [some (vR x0), some (vI x1), some (vI 0), l3]) rfl ?_
        refine g_1 (a := 0) (b := 0) (nx := 96) (by decide +kernel) ?_
        refine g_8 (a := 3) (b := 0) (nx := 97) (by decide +kernel) rfl (ls' := [some (vR x0), some (vI x1), some (vI 0), some (vI 0)]) rfl ?_
        exact h
theorem t_196_97 {x0 x1 x2 x3 : Int} {M : Mem} {Q : AV → Mem → Prop} (h0 : gO 12 x0) (h : inR x3 ∧ (inR (M x0 7) ∧ (if (M x0 7) ≤ x3 then (inR x2 ∧ (if x2 = 0 then (WR 196 61 [some (vR x0), some (vI (x1 + 1)), some (vI x2), some (vI x3)] [] M Q) else (WV 188 [vR x0, vI 4] M (fun M4 => WR 196 61 [some (vR x0), some (vI (x1 + 1)), some (vI x2), some (vI x3)] [] M4 Q)))) else (inR x2 ∧ (if x2 = 0 then (if x2 = 0 then (WR 196 61 [some (vR x0), some (vI (x1 + 1)), some (vI x2), some (vI x3)] [] M Q) else (WV 188 [vR x0, vI 4] M (fun M8 => WR 196 61 [some (vR x0), some (vI (x1 + 1)), some (vI x2), some (vI x3)] [] M8 Q))) else ((gA 20 (M x0 31) ((4 * x1) + x3)) ∧ (gA 20 (M x0 12) x3) ∧ (gA 20 (M x0 27) (M (M x0 12) x3)) ∧ inR (M (M x0 31) ((4 * x1) + x3)) ∧ (inR (M (M x0 27) (M (M x0 12) x3)) ∧ (if (M (M x0 31) ((4 * x1) + x3)) = (M (M x0 27) (M (M x0 12) x3)) then (WR 196 97 [some (vR x0), some (vI x1), some (vI 1), some (vI (x3 + 1))] [] M Q) else (WR 196 97 [some (vR x0), some (vI x1), some (vI 0), some (vI (x3 + 1))] [] M Q))))))))) : WR 196 97 [some (vR x0), some (vI x1), some (vI x2), some (vI x3)] [] M Q := by
  refine g_5 (a := 3) (b := 0) (nx := 98) (by decide +kernel) rfl ?_
  refine g_7 (a := 0) (b := 0) (nx := 99) (by decide +kernel) rfl ?_
  refine g_50 (a := 12) (b := 7) (nx := 102) (by decide +kernel) h0 ?_
  obtain ⟨r1, h⟩ := h
  obtain ⟨r2, h⟩ := h
  by_cases c15 : (M x0 7) ≤ x3
  · rw [if_pos c15] at h
    refine g_41t (a := 3) (b := 145) (nx := 105) (by decide +kernel) (by rw [wr_id r1, wr_id r2]; exact (cb_3 _ _).mpr c15) ?_
    refine g_5 (a := 2) (b := 0) (nx := 146) (by decide +kernel) rfl ?_
    obtain ⟨r3, h⟩ := h
    by_cases c6 : x2 = 0
    · rw [if_pos c6] at h
      refine g_40t (a := 0) (b := 154) (nx := 149) (by decide +kernel) r3 (by exact (cb_0 _ _).mpr c6) ?_
      refine g_11 (a := 1) (b := 1) (nx := 157) (by decide +kernel) rfl rfl (ls' := [some (vR x0), some (vI (x1 + 1)), some (vI x2), some (vI x3)]) rfl ?_
      refine g_44 (a := 0) (b := 61) (nx := 160) (by decide +kernel) ?_
      exact h
    · rw [if_neg c6] at h
      refine g_40f (a := 0) (b := 154) (nx := 149) (by decide +kernel) r3 (by exact fun hz => c6 ((cb_0 _ _).mp hz)) ?_
      refine g_7 (a := 0) (b := 0) (nx := 150) (by decide +kernel) rfl ?_
      refine g_1 (a := 4) (b := 0) (nx := 151) (by decide +kernel) ?_
      refine g_80 (a := 188) (b := 1) (nx := 154) (by decide +kernel) (r := x0) (As := [vI 4]) (st' := []) (z := 188) rfl rfl rfl (Nat.le_of_ble_eq_true rfl) h0.2 (Nat.le_of_ble_eq_true rfl) rfl (c_V (by decide +kernel) h (fun M4 h => ?_))
      refine g_11 (a := 1) (b := 1) (nx := 157) (by decide +kernel) rfl rfl (ls' := [some (vR x0), some (vI (x1 + 1)), some (vI x2), some (vI x3)]) rfl ?_
      refine g_44 (a := 0) (b := 61) (nx := 160) (by decide +kernel) ?_
      exact h
  · rw [if_neg c15] at h
    refine g_41f (a := 3) (b := 145) (nx := 105) (by decide +kernel) (by rw [wr_id r1, wr_id r2]; exact fun hz => c15 ((cb_3 _ _).mp hz)) ?_
    refine g_5 (a := 2) (b := 0) (nx := 106) (by decide +kernel) rfl ?_
    obtain ⟨r7, h⟩ := h
    by_cases c14 : x2 = 0
    · rw [if_pos c14] at h
      refine g_40t (a := 0) (b := 145) (nx := 109) (by decide +kernel) r7 (by exact (cb_0 _ _).mpr c14) ?_
      refine g_5 (a := 2) (b := 0) (nx := 146) (by decide +kernel) rfl ?_
      by_cases c10 : x2 = 0
      · rw [if_pos c10] at h
        refine g_40t (a := 0) (b := 154) (nx := 149) (by decide +kernel) r7 (by exact (cb_0 _ _).mpr c10) ?_
        refine g_11 (a := 1) (b := 1) (nx := 157) (by decide +kernel) rfl rfl (ls' := [some (vR x0), some (vI (x1 + 1)), some (vI x2), some (vI x3)]) rfl ?_
        refine g_44 (a := 0) (b := 61) (nx := 160) (by decide +kernel) ?_
        exact h
      · rw [if_neg c10] at h
        refine g_40f (a := 0) (b := 154) (nx := 149) (by decide +kernel) r7 (by exact fun hz => c10 ((cb_0 _ _).mp hz)) ?_
        refine g_7 (a := 0) (b := 0) (nx := 150) (by decide +kernel) rfl ?_
        refine g_1 (a := 4) (b := 0) (nx := 151) (by decide +kernel) ?_
        refine g_80 (a := 188) (b := 1) (nx := 154) (by decide +kernel) (r := x0) (As := [vI 4]) (st' := []) (z := 188) rfl rfl rfl (Nat.le_of_ble_eq_true rfl) h0.2 (Nat.le_of_ble_eq_true rfl) rfl (c_V (by decide +kernel) h (fun M8 h => ?_))
        refine g_11 (a := 1) (b := 1) (nx := 157) (by decide +kernel) rfl rfl (ls' := [some (vR x0), some (vI (x1 + 1)), some (vI x2), some (vI x3)]) rfl ?_
        refine g_44 (a := 0) (b := 61) (nx := 160) (by decide +kernel) ?_
        exact h
    · rw [if_neg c14] at h
      refine g_40f (a := 0) (b := 145) (nx := 109) (by decide +kernel) r7 (by exact fun hz => c14 ((cb_0 _ _).mp hz)) ?_
      refine g_7 (a := 0) (b := 0) (nx := 110) (by decide +kernel) rfl ?_
      refine g_52 (a := 12) (b := 31) (nx := 113) (by decide +kernel) h0 ?_
      refine g_1 (a := 4) (b := 0) (nx := 114) (by decide +kernel) ?_
      refine g_5 (a := 1) (b := 0) (nx := 115) (by decide +kernel) rfl ?_
      refine g_17 (a := 0) (b := 0) (nx := 116) (by decide +kernel) ?_
      refine g_5 (a := 3) (b := 0) (nx := 117) (by decide +kernel) rfl ?_
      refine g_15 (a := 0) (b := 0) (nx := 118) (by decide +kernel) ?_
      refine g_61 (a := 0) (b := 0) (nx := 119) (by decide +kernel) h.1 ?_
      replace h := h.2
      refine g_7 (a := 0) (b := 0) (nx := 120) (by decide +kernel) rfl ?_
      refine g_52 (a := 12) (b := 27) (nx := 123) (by decide +kernel) h0 ?_
      refine g_7 (a := 0) (b := 0) (nx := 124) (by decide +kernel) rfl ?_
      refine g_52 (a := 12) (b := 12) (nx := 127) (by decide +kernel) h0 ?_
      refine g_5 (a := 3) (b := 0) (nx := 128) (by decide +kernel) rfl ?_
      refine g_61 (a := 0) (b := 0) (nx := 129) (by decide +kernel) h.1 ?_
      replace h := h.2
      refine g_61 (a := 0) (b := 0) (nx := 130) (by decide +kernel) h.1 ?_
      replace h := h.2
      obtain ⟨r11, h⟩ := h
      obtain ⟨r12, h⟩ := h
      by_cases c13 : (M (M x0 31) ((4 * x1) + x3)) = (M (M x0 27) (M (M x0 12) x3))
      · rw [if_pos c13] at h
        refine g_41f (a := 1) (b := 137) (nx := 133) (by decide +kernel) (by rw [wr_id r11, wr_id r12]; exact fun hz => ((cb_1 _ _).mp hz) c13) ?_
        refine g_1 (a := 1) (b := 0) (nx := 134) (by decide +kernel) ?_
        refine g_44 (a := 0) (b := 138) (nx := 137) (by decide +kernel) ?_
        refine g_8 (a := 2) (b := 0) (nx := 139) (by decide +kernel) rfl (ls' := [some (vR x0), some (vI x1), some (vI 1), some (vI x3)]) rfl ?_
        refine g_11 (a := 3) (b := 1) (nx := 142) (by decide +kernel) rfl rfl (ls' := [some (vR x0), some (vI x1), some (vI 1), some (vI (x3 + 1))]) rfl ?_
        refine g_44 (a := 0) (b := 97) (nx := 145) (by decide +kernel) ?_
        exact h
      · rw [if_neg c13] at h
        refine g_41t (a := 1) (b := 137) (nx := 133) (by decide +kernel) (by rw [wr_id r11, wr_id r12]; exact (cb_1 _ _).mpr c13) ?_
        refine g_1 (a := 0) (b := 0) (nx := 138) (by decide +kernel) ?_
        refine g_8 (a := 2) (b := 0) (nx := 139) (by decide +kernel) rfl (ls' := [some (vR x0), some (vI x1), some (vI 0), some (vI x3)]) rfl ?_
        refine g_11 (a := 3) (b := 1) (nx := 142) (by decide +kernel) rfl rfl (ls' := [some (vR x0), some (vI x1), some (vI 0), some (vI (x3 + 1))]) rfl ?_
        refine g_44 (a := 0) (b := 97) (nx := 145) (by decide +kernel) ?_
        exact h
theorem t_196_170 {x0 x1 : Int} {l2 l3 : Option AV} {M : Mem} {Q : AV → Mem → Prop} (h0 : gO 12 x0) (h : inR x1 ∧ (inR (M x0 7) ∧ (if (M x0 7) ≤ x1 then ((gA 20 (M x0 32) (M x0 15)) ∧ WV 187 [vR x0] (upM (upM M (M x0 32) (M x0 15) (M x0 7)) x0 15 (((upM M (M x0 32) (M x0 15) (M x0 7)) x0 15) + 1)) (fun M3 => Q (vI 0) M3)) else ((gA 20 (M x0 12) x1) ∧ (gA 20 (M x0 27) (M (M x0 12) x1)) ∧ (gA 20 (M x0 31) ((4 * (M x0 15)) + x1)) ∧ WR 196 170 [some (vR x0), some (vI (x1 + 1)), l2, l3] [] (upM M (M x0 31) ((4 * (M x0 15)) + x1) (M (M x0 27) (M (M x0 12) x1))) Q)))) : WR 196 170 [some (vR x0), some (vI x1), l2, l3] [] M Q := by
  refine g_5 (a := 1) (b := 0) (nx := 171) (by decide +kernel) rfl ?_
  refine g_7 (a := 0) (b := 0) (nx := 172) (by decide +kernel) rfl ?_
  refine g_50 (a := 12) (b := 7) (nx := 175) (by decide +kernel) h0 ?_
  obtain ⟨r1, h⟩ := h
  obtain ⟨r2, h⟩ := h
  by_cases c5 : (M x0 7) ≤ x1
  · rw [if_pos c5] at h
    refine g_41t (a := 3) (b := 208) (nx := 178) (by decide +kernel) (by rw [wr_id r1, wr_id r2]; exact (cb_3 _ _).mpr c5) ?_
    refine g_7 (a := 0) (b := 0) (nx := 209) (by decide +kernel) rfl ?_
    refine g_52 (a := 12) (b := 32) (nx := 212) (by decide +kernel) h0 ?_
    refine g_7 (a := 0) (b := 0) (nx := 213) (by decide +kernel) rfl ?_
    refine g_50 (a := 12) (b := 15) (nx := 216) (by decide +kernel) h0 ?_
    refine g_7 (a := 0) (b := 0) (nx := 217) (by decide +kernel) rfl ?_
    refine g_50 (a := 12) (b := 7) (nx := 220) (by decide +kernel) h0 ?_
    refine g_62 (a := 0) (b := 0) (nx := 221) (by decide +kernel) h.1 ?_
    replace h := h.2
    refine g_7 (a := 0) (b := 0) (nx := 222) (by decide +kernel) rfl ?_
    refine g_13 (a := 0) (b := 0) (nx := 223) (by decide +kernel) rfl ?_
    refine g_50 (a := 12) (b := 15) (nx := 226) (by decide +kernel) h0 ?_
    refine g_1 (a := 1) (b := 0) (nx := 227) (by decide +kernel) ?_
    refine g_15 (a := 0) (b := 0) (nx := 228) (by decide +kernel) ?_
    refine g_53 (a := 12) (b := 15) (nx := 231) (by decide +kernel) h0 ?_
    refine g_7 (a := 0) (b := 0) (nx := 232) (by decide +kernel) rfl ?_
    refine g_80 (a := 187) (b := 0) (nx := 235) (by decide +kernel) (r := x0) (As := []) (st' := []) (z := 187) rfl rfl rfl (Nat.le_of_ble_eq_true rfl) h0.2 (Nat.le_of_ble_eq_true rfl) rfl (c_V (by decide +kernel) h (fun M3 h => ?_))
    exact g_90 (a := 0) (b := 0) (nx := 236) (by decide +kernel) h
  · rw [if_neg c5] at h
    refine g_41f (a := 3) (b := 208) (nx := 178) (by decide +kernel) (by rw [wr_id r1, wr_id r2]; exact fun hz => c5 ((cb_3 _ _).mp hz)) ?_
    refine g_7 (a := 0) (b := 0) (nx := 179) (by decide +kernel) rfl ?_
    refine g_52 (a := 12) (b := 31) (nx := 182) (by decide +kernel) h0 ?_
    refine g_1 (a := 4) (b := 0) (nx := 183) (by decide +kernel) ?_
    refine g_7 (a := 0) (b := 0) (nx := 184) (by decide +kernel) rfl ?_
    refine g_50 (a := 12) (b := 15) (nx := 187) (by decide +kernel) h0 ?_
    refine g_17 (a := 0) (b := 0) (nx := 188) (by decide +kernel) ?_
    refine g_5 (a := 1) (b := 0) (nx := 189) (by decide +kernel) rfl ?_
    refine g_15 (a := 0) (b := 0) (nx := 190) (by decide +kernel) ?_
    refine g_7 (a := 0) (b := 0) (nx := 191) (by decide +kernel) rfl ?_
    refine g_52 (a := 12) (b := 27) (nx := 194) (by decide +kernel) h0 ?_
    refine g_7 (a := 0) (b := 0) (nx := 195) (by decide +kernel) rfl ?_
    refine g_52 (a := 12) (b := 12) (nx := 198) (by decide +kernel) h0 ?_
    refine g_5 (a := 1) (b := 0) (nx := 199) (by decide +kernel) rfl ?_
    refine g_61 (a := 0) (b := 0) (nx := 200) (by decide +kernel) h.1 ?_
    replace h := h.2
    refine g_61 (a := 0) (b := 0) (nx := 201) (by decide +kernel) h.1 ?_
    replace h := h.2
    refine g_62 (a := 0) (b := 0) (nx := 202) (by decide +kernel) h.1 ?_
    replace h := h.2
    refine g_11 (a := 1) (b := 1) (nx := 205) (by decide +kernel) rfl rfl (ls' := [some (vR x0), some (vI (x1 + 1)), l2, l3]) rfl ?_
    refine g_44 (a := 0) (b := 170) (nx := 208) (by decide +kernel) ?_
    exact h
-- 197 SyllableMakerModel.glideLine()V
theorem t_197 {x0 : Int} {M : Mem} {Q : AV → Mem → Prop} (h0 : gO 12 x0) (h : inR (M x0 16) ∧ (if (M x0 16) = 6 then (WV 188 [vR x0, vI 5] M (fun M38 => WI 189 [vR x0] M38 (fun y41 M40 => inR y41 ∧ (if y41 = 0 then (WV 194 [vR x0, vI 1] M40 (fun M43 => WI 189 [vR x0] M43 (fun y46 M45 => inR y46 ∧ (if y46 = 0 then (WR 197 67 [some (vR x0), some (vI 0)] [] M45 Q) else (inR (M45 x0 7) ∧ (if (M45 x0 7) = 2 then ((gA 20 (M45 x0 12) 0) ∧ (gA 20 (M45 x0 12) 1) ∧ inR (M45 (M45 x0 12) 0) ∧ (inR (M45 (M45 x0 12) 1) ∧ (if (M45 (M45 x0 12) 0) = (M45 (M45 x0 12) 1) then (WV 188 [vR x0, vI 4] M45 (fun M53 => WR 197 67 [some (vR x0), some (vI 0)] [] M53 Q)) else (WR 197 67 [some (vR x0), some (vI 0)] [] M45 Q)))) else (WV 188 [vR x0, vI 4] M45 (fun M49 => WR 197 67 [some (vR x0), some (vI 0)] [] M49 Q)))))))) else (WV 187 [vR x0] M40 (fun M58 => WV 194 [vR x0, vI 1] M58 (fun M60 => WI 189 [vR x0] M60 (fun y63 M62 => inR y63 ∧ (if y63 = 0 then (WR 197 67 [some (vR x0), some (vI 0)] [] M62 Q) else (inR (M62 x0 7) ∧ (if (M62 x0 7) = 2 then ((gA 20 (M62 x0 12) 0) ∧ (gA 20 (M62 x0 12) 1) ∧ inR (M62 (M62 x0 12) 0) ∧ (inR (M62 (M62 x0 12) 1) ∧ (if (M62 (M62 x0 12) 0) = (M62 (M62 x0 12) 1) then (WV 188 [vR x0, vI 4] M62 (fun M70 => WR 197 67 [some (vR x0), some (vI 0)] [] M70 Q)) else (WR 197 67 [some (vR x0), some (vI 0)] [] M62 Q)))) else (WV 188 [vR x0, vI 4] M62 (fun M66 => WR 197 67 [some (vR x0), some (vI 0)] [] M66 Q))))))))))))) else (WI 189 [vR x0] M (fun y3 M2 => inR y3 ∧ (if y3 = 0 then (WV 194 [vR x0, vI 1] M2 (fun M5 => WI 189 [vR x0] M5 (fun y8 M7 => inR y8 ∧ (if y8 = 0 then (WR 197 67 [some (vR x0), some (vI 0)] [] M7 Q) else (inR (M7 x0 7) ∧ (if (M7 x0 7) = 2 then ((gA 20 (M7 x0 12) 0) ∧ (gA 20 (M7 x0 12) 1) ∧ inR (M7 (M7 x0 12) 0) ∧ (inR (M7 (M7 x0 12) 1) ∧ (if (M7 (M7 x0 12) 0) = (M7 (M7 x0 12) 1) then (WV 188 [vR x0, vI 4] M7 (fun M15 => WR 197 67 [some (vR x0), some (vI 0)] [] M15 Q)) else (WR 197 67 [some (vR x0), some (vI 0)] [] M7 Q)))) else (WV 188 [vR x0, vI 4] M7 (fun M11 => WR 197 67 [some (vR x0), some (vI 0)] [] M11 Q)))))))) else (WV 187 [vR x0] M2 (fun M20 => WV 194 [vR x0, vI 1] M20 (fun M22 => WI 189 [vR x0] M22 (fun y25 M24 => inR y25 ∧ (if y25 = 0 then (WR 197 67 [some (vR x0), some (vI 0)] [] M24 Q) else (inR (M24 x0 7) ∧ (if (M24 x0 7) = 2 then ((gA 20 (M24 x0 12) 0) ∧ (gA 20 (M24 x0 12) 1) ∧ inR (M24 (M24 x0 12) 0) ∧ (inR (M24 (M24 x0 12) 1) ∧ (if (M24 (M24 x0 12) 0) = (M24 (M24 x0 12) 1) then (WV 188 [vR x0, vI 4] M24 (fun M32 => WR 197 67 [some (vR x0), some (vI 0)] [] M32 Q)) else (WR 197 67 [some (vR x0), some (vI 0)] [] M24 Q)))) else (WV 188 [vR x0, vI 4] M24 (fun M28 => WR 197 67 [some (vR x0), some (vI 0)] [] M28 Q)))))))))))))) : WC 197 [vR x0] M Q := by
  show WR 197 0 [some (vR x0), none] [] M Q
  refine g_7 (a := 0) (b := 0) (nx := 1) (by decide +kernel) rfl ?_
  refine g_50 (a := 12) (b := 16) (nx := 4) (by decide +kernel) h0 ?_
  refine g_1 (a := 6) (b := 0) (nx := 6) (by decide +kernel) ?_
  obtain ⟨r1, h⟩ := h
  by_cases c76 : (M x0 16) = 6
  · rw [if_pos c76] at h
    refine g_41f (a := 1) (b := 14) (nx := 9) (by decide +kernel) (by rw [wr_id r1, wr_id (show inR 6 by decide)]; exact fun hz => ((cb_1 _ _).mp hz) c76) ?_
    refine g_7 (a := 0) (b := 0) (nx := 10) (by decide +kernel) rfl ?_
    refine g_1 (a := 5) (b := 0) (nx := 11) (by decide +kernel) ?_
    refine g_80 (a := 188) (b := 1) (nx := 14) (by decide +kernel) (r := x0) (As := [vI 5]) (st' := []) (z := 188) rfl rfl rfl (Nat.le_of_ble_eq_true rfl) h0.2 (Nat.le_of_ble_eq_true rfl) rfl (c_V (by decide +kernel) h (fun M38 h => ?_))
    refine g_7 (a := 0) (b := 0) (nx := 15) (by decide +kernel) rfl ?_
    refine g_80 (a := 189) (b := 0) (nx := 18) (by decide +kernel) (r := x0) (As := []) (st' := []) (z := 189) rfl rfl rfl (Nat.le_of_ble_eq_true rfl) h0.2 (Nat.le_of_ble_eq_true rfl) rfl (c_I (by decide +kernel) h (fun y41 M40 h => ?_))
    obtain ⟨r42, h⟩ := h
    by_cases c75 : y41 = 0
    · rw [if_pos c75] at h
      refine g_40t (a := 0) (b := 25) (nx := 21) (by decide +kernel) r42 (by exact (cb_0 _ _).mpr c75) ?_
      refine g_7 (a := 0) (b := 0) (nx := 26) (by decide +kernel) rfl ?_
      refine g_1 (a := 1) (b := 0) (nx := 27) (by decide +kernel) ?_
      refine g_80 (a := 194) (b := 1) (nx := 30) (by decide +kernel) (r := x0) (As := [vI 1]) (st' := []) (z := 194) rfl rfl rfl (Nat.le_of_ble_eq_true rfl) h0.2 (Nat.le_of_ble_eq_true rfl) rfl (c_V (by decide +kernel) h (fun M43 h => ?_))
      refine g_7 (a := 0) (b := 0) (nx := 31) (by decide +kernel) rfl ?_
      refine g_80 (a := 189) (b := 0) (nx := 34) (by decide +kernel) (r := x0) (As := []) (st' := []) (z := 189) rfl rfl rfl (Nat.le_of_ble_eq_true rfl) h0.2 (Nat.le_of_ble_eq_true rfl) rfl (c_I (by decide +kernel) h (fun y46 M45 h => ?_))
      obtain ⟨r47, h⟩ := h
      by_cases c57 : y46 = 0
      · rw [if_pos c57] at h
        refine g_40t (a := 0) (b := 65) (nx := 37) (by decide +kernel) r47 (by exact (cb_0 _ _).mpr c57) ?_
        refine g_1 (a := 0) (b := 0) (nx := 66) (by decide +kernel) ?_
        refine g_8 (a := 1) (b := 0) (nx := 67) (by decide +kernel) rfl (ls' := [some (vR x0), some (vI 0)]) rfl ?_
        exact h
      · rw [if_neg c57] at h
        refine g_40f (a := 0) (b := 65) (nx := 37) (by decide +kernel) r47 (by exact fun hz => c57 ((cb_0 _ _).mp hz)) ?_
        refine g_7 (a := 0) (b := 0) (nx := 38) (by decide +kernel) rfl ?_
        refine g_50 (a := 12) (b := 7) (nx := 41) (by decide +kernel) h0 ?_
        refine g_1 (a := 2) (b := 0) (nx := 42) (by decide +kernel) ?_
        obtain ⟨r48, h⟩ := h
        by_cases c56 : (M45 x0 7) = 2
        · rw [if_pos c56] at h
          refine g_41f (a := 1) (b := 60) (nx := 45) (by decide +kernel) (by rw [wr_id r48, wr_id (show inR 2 by decide)]; exact fun hz => ((cb_1 _ _).mp hz) c56) ?_
          refine g_7 (a := 0) (b := 0) (nx := 46) (by decide +kernel) rfl ?_
          refine g_52 (a := 12) (b := 12) (nx := 49) (by decide +kernel) h0 ?_
          refine g_1 (a := 0) (b := 0) (nx := 50) (by decide +kernel) ?_
          refine g_61 (a := 0) (b := 0) (nx := 51) (by decide +kernel) h.1 ?_
          replace h := h.2
          refine g_7 (a := 0) (b := 0) (nx := 52) (by decide +kernel) rfl ?_
          refine g_52 (a := 12) (b := 12) (nx := 55) (by decide +kernel) h0 ?_
          refine g_1 (a := 1) (b := 0) (nx := 56) (by decide +kernel) ?_
          refine g_61 (a := 0) (b := 0) (nx := 57) (by decide +kernel) h.1 ?_
          replace h := h.2
          obtain ⟨r51, h⟩ := h
          obtain ⟨r52, h⟩ := h
          by_cases c55 : (M45 (M45 x0 12) 0) = (M45 (M45 x0 12) 1)
          · rw [if_pos c55] at h
            refine g_41f (a := 1) (b := 65) (nx := 60) (by decide +kernel) (by rw [wr_id r51, wr_id r52]; exact fun hz => ((cb_1 _ _).mp hz) c55) ?_
            refine g_7 (a := 0) (b := 0) (nx := 61) (by decide +kernel) rfl ?_
            refine g_1 (a := 4) (b := 0) (nx := 62) (by decide +kernel) ?_
            refine g_80 (a := 188) (b := 1) (nx := 65) (by decide +kernel) (r := x0) (As := [vI 4]) (st' := []) (z := 188) rfl rfl rfl (Nat.le_of_ble_eq_true rfl) h0.2 (Nat.le_of_ble_eq_true rfl) rfl (c_V (by decide +kernel) h (fun M53 h => ?_))
            refine g_1 (a := 0) (b := 0) (nx := 66) (by decide +kernel) ?_
            refine g_8 (a := 1) (b := 0) (nx := 67) (by decide +kernel) rfl (ls' := [some (vR x0), some (vI 0)]) rfl ?_
            exact h
          · rw [if_neg c55] at h
            refine g_41t (a := 1) (b := 65) (nx := 60) (by decide +kernel) (by rw [wr_id r51, wr_id r52]; exact (cb_1 _ _).mpr c55) ?_
            refine g_1 (a := 0) (b := 0) (nx := 66) (by decide +kernel) ?_
            refine g_8 (a := 1) (b := 0) (nx := 67) (by decide +kernel) rfl (ls' := [some (vR x0), some (vI 0)]) rfl ?_
            exact h
        · rw [if_neg c56] at h
          refine g_41t (a := 1) (b := 60) (nx := 45) (by decide +kernel) (by rw [wr_id r48, wr_id (show inR 2 by decide)]; exact (cb_1 _ _).mpr c56) ?_
          refine g_7 (a := 0) (b := 0) (nx := 61) (by decide +kernel) rfl ?_
          refine g_1 (a := 4) (b := 0) (nx := 62) (by decide +kernel) ?_
          refine g_80 (a := 188) (b := 1) (nx := 65) (by decide +kernel) (r := x0) (As := [vI 4]) (st' := []) (z := 188) rfl rfl rfl (Nat.le_of_ble_eq_true rfl) h0.2 (Nat.le_of_ble_eq_true rfl) rfl (c_V (by decide +kernel) h (fun M49 h => ?_))
          refine g_1 (a := 0) (b := 0) (nx := 66) (by decide +kernel) ?_
          refine g_8 (a := 1) (b := 0) (nx := 67) (by decide +kernel) rfl (ls' := [some (vR x0), some (vI 0)]) rfl ?_
          exact h
    · rw [if_neg c75] at h
      refine g_40f (a := 0) (b := 25) (nx := 21) (by decide +kernel) r42 (by exact fun hz => c75 ((cb_0 _ _).mp hz)) ?_
      refine g_7 (a := 0) (b := 0) (nx := 22) (by decide +kernel) rfl ?_
      refine g_80 (a := 187) (b := 0) (nx := 25) (by decide +kernel) (r := x0) (As := []) (st' := []) (z := 187) rfl rfl rfl (Nat.le_of_ble_eq_true rfl) h0.2 (Nat.le_of_ble_eq_true rfl) rfl (c_V (by decide +kernel) h (fun M58 h => ?_))
      refine g_7 (a := 0) (b := 0) (nx := 26) (by decide +kernel) rfl ?_
      refine g_1 (a := 1) (b := 0) (nx := 27) (by decide +kernel) ?_
      refine g_80 (a := 194) (b := 1) (nx := 30) (by decide +kernel) (r := x0) (As := [vI 1]) (st' := []) (z := 194) rfl rfl rfl (Nat.le_of_ble_eq_true rfl) h0.2 (Nat.le_of_ble_eq_true rfl) rfl (c_V (by decide +kernel) h (fun M60 h => ?_))
      refine g_7 (a := 0) (b := 0) (nx := 31) (by decide +kernel) rfl ?_
      refine g_80 (a := 189) (b := 0) (nx := 34) (by decide +kernel) (r := x0) (As := []) (st' := []) (z := 189) rfl rfl rfl (Nat.le_of_ble_eq_true rfl) h0.2 (Nat.le_of_ble_eq_true rfl) rfl (c_I (by decide +kernel) h (fun y63 M62 h => ?_))
      obtain ⟨r64, h⟩ := h
      by_cases c74 : y63 = 0
      · rw [if_pos c74] at h
        refine g_40t (a := 0) (b := 65) (nx := 37) (by decide +kernel) r64 (by exact (cb_0 _ _).mpr c74) ?_
        refine g_1 (a := 0) (b := 0) (nx := 66) (by decide +kernel) ?_
        refine g_8 (a := 1) (b := 0) (nx := 67) (by decide +kernel) rfl (ls' := [some (vR x0), some (vI 0)]) rfl ?_
        exact h
      · rw [if_neg c74] at h
        refine g_40f (a := 0) (b := 65) (nx := 37) (by decide +kernel) r64 (by exact fun hz => c74 ((cb_0 _ _).mp hz)) ?_
        refine g_7 (a := 0) (b := 0) (nx := 38) (by decide +kernel) rfl ?_
        refine g_50 (a := 12) (b := 7) (nx := 41) (by decide +kernel) h0 ?_
        refine g_1 (a := 2) (b := 0) (nx := 42) (by decide +kernel) ?_
        obtain ⟨r65, h⟩ := h
        by_cases c73 : (M62 x0 7) = 2
        · rw [if_pos c73] at h
          refine g_41f (a := 1) (b := 60) (nx := 45) (by decide +kernel) (by rw [wr_id r65, wr_id (show inR 2 by decide)]; exact fun hz => ((cb_1 _ _).mp hz) c73) ?_
          refine g_7 (a := 0) (b := 0) (nx := 46) (by decide +kernel) rfl ?_
          refine g_52 (a := 12) (b := 12) (nx := 49) (by decide +kernel) h0 ?_
          refine g_1 (a := 0) (b := 0) (nx := 50) (by decide +kernel) ?_
          refine g_61 (a := 0) (b := 0) (nx := 51) (by decide +kernel) h.1 ?_
          replace h := h.2
          refine g_7 (a := 0) (b := 0) (nx := 52) (by decide +kernel) rfl ?_
          refine g_52 (a := 12) (b := 12) (nx := 55) (by decide +kernel) h0 ?_
          refine g_1 (a := 1) (b := 0) (nx := 56) (by decide +kernel) ?_
          refine g_61 (a := 0) (b := 0) (nx := 57) (by decide +kernel) h.1 ?_
          replace h := h.2
          obtain ⟨r68, h⟩ := h
          obtain ⟨r69, h⟩ := h
          by_cases c72 : (M62 (M62 x0 12) 0) = (M62 (M62 x0 12) 1)
          · rw [if_pos c72] at h
            refine g_41f (a := 1) (b := 65) (nx := 60) (by decide +kernel) (by rw [wr_id r68, wr_id r69]; exact fun hz => ((cb_1 _ _).mp hz) c72) ?_
            refine g_7 (a := 0) (b := 0) (nx := 61) (by decide +kernel) rfl ?_
            refine g_1 (a := 4) (b := 0) (nx := 62) (by decide +kernel) ?_
            refine g_80 (a := 188) (b := 1) (nx := 65) (by decide +kernel) (r := x0) (As := [vI 4]) (st' := []) (z := 188) rfl rfl rfl (Nat.le_of_ble_eq_true rfl) h0.2 (Nat.le_of_ble_eq_true rfl) rfl (c_V (by decide +kernel) h (fun M70 h => ?_))
            refine g_1 (a := 0) (b := 0) (nx := 66) (by decide +kernel) ?_
            refine g_8 (a := 1) (b := 0) (nx := 67) (by decide +kernel) rfl (ls' := [some (vR x0), some (vI 0)]) rfl ?_
            exact h
          · rw [if_neg c72] at h
            refine g_41t (a := 1) (b := 65) (nx := 60) (by decide +kernel) (by rw [wr_id r68, wr_id r69]; exact (cb_1 _ _).mpr c72) ?_
            refine g_1 (a := 0) (b := 0) (nx := 66) (by decide +kernel) ?_
            refine g_8 (a := 1) (b := 0) (nx := 67) (by decide +kernel) rfl (ls' := [some (vR x0), some (vI 0)]) rfl ?_
            exact h
        · rw [if_neg c73] at h
          refine g_41t (a := 1) (b := 60) (nx := 45) (by decide +kernel) (by rw [wr_id r65, wr_id (show inR 2 by decide)]; exact (cb_1 _ _).mpr c73) ?_
          refine g_7 (a := 0) (b := 0) (nx := 61) (by decide +kernel) rfl ?_
          refine g_1 (a := 4) (b := 0) (nx := 62) (by decide +kernel) ?_
          refine g_80 (a := 188) (b := 1) (nx := 65) (by decide +kernel) (r := x0) (As := [vI 4]) (st' := []) (z := 188) rfl rfl rfl (Nat.le_of_ble_eq_true rfl) h0.2 (Nat.le_of_ble_eq_true rfl) rfl (c_V (by decide +kernel) h (fun M66 h => ?_))
          refine g_1 (a := 0) (b := 0) (nx := 66) (by decide +kernel) ?_
          refine g_8 (a := 1) (b := 0) (nx := 67) (by decide +kernel) rfl (ls' := [some (vR x0), some (vI 0)]) rfl ?_
          exact h
  · rw [if_neg c76] at h
    refine g_41t (a := 1) (b := 14) (nx := 9) (by decide +kernel) (by rw [wr_id r1, wr_id (show inR 6 by decide)]; exact (cb_1 _ _).mpr c76) ?_
    refine g_7 (a := 0) (b := 0) (nx := 15) (by decide +kernel) rfl ?_
    refine g_80 (a := 189) (b := 0) (nx := 18) (by decide +kernel) (r := x0) (As := []) (st' := []) (z := 189) rfl rfl rfl (Nat.le_of_ble_eq_true rfl) h0.2 (Nat.le_of_ble_eq_true rfl) rfl (c_I (by decide +kernel) h (fun y3 M2 h => ?_))
    obtain ⟨r4, h⟩ := h
    by_cases c37 : y3 = 0
    · rw [if_pos c37] at h
      refine g_40t (a := 0) (b := 25) (nx := 21) (by decide +kernel) r4 (by exact (cb_0 _ _).mpr c37) ?_
      refine g_7 (a := 0) (b := 0) (nx := 26) (by decide +kernel) rfl ?_
      refine g_1 (a := 1) (b := 0) (nx := 27) (by decide +kernel) ?_
      refine g_80 (a := 194) (b := 1) (nx := 30) (by decide +kernel) (r := x0) (As := [vI 1]) (st' := []) (z := 194) rfl rfl rfl (Nat.le_of_ble_eq_true rfl) h0.2 (Nat.le_of_ble_eq_true rfl) rfl (c_V (by decide +kernel) h (fun M5 h => ?_))
      refine g_7 (a := 0) (b := 0) (nx := 31) (by decide +kernel) rfl ?_
      refine g_80 (a := 189) (b := 0) (nx := 34) (by decide +kernel) (r := x0) (As := []) (st' := []) (z := 189) rfl rfl rfl (Nat.le_of_ble_eq_true rfl) h0.2 (Nat.le_of_ble_eq_true rfl) rfl (c_I (by decide +kernel) h (fun y8 M7 h => ?_))
      obtain ⟨r9, h⟩ := h
      by_cases c19 : y8 = 0
      · rw [if_pos c19] at h
        refine g_40t (a := 0) (b := 65) (nx := 37) (by decide +kernel) r9 (by exact (cb_0 _ _).mpr c19) ?_
        refine g_1 (a := 0) (b := 0) (nx := 66) (by decide +kernel) ?_
        refine g_8 (a := 1) (b := 0) (nx := 67) (by decide +kernel) rfl (ls' := [some (vR x0), some (vI 0)]) rfl ?_
        exact h
      · rw [if_neg c19] at h
        refine g_40f (a := 0) (b := 65) (nx := 37) (by decide +kernel) r9 (by exact fun hz => c19 ((cb_0 _ _).mp hz)) ?_
        refine g_7 (a := 0) (b := 0) (nx := 38) (by decide +kernel) rfl ?_
        refine g_50 (a := 12) (b := 7) (nx := 41) (by decide +kernel) h0 ?_
        refine g_1 (a := 2) (b := 0) (nx := 42) (by decide +kernel) ?_
        obtain ⟨r10, h⟩ := h
        by_cases c18 : (M7 x0 7) = 2
        · rw [if_pos c18] at h
          refine g_41f (a := 1) (b := 60) (nx := 45) (by decide +kernel) (by rw [wr_id r10, wr_id (show inR 2 by decide)]; exact fun hz => ((cb_1 _ _).mp hz) c18) ?_
          refine g_7 (a := 0) (b := 0) (nx := 46) (by decide +kernel) rfl ?_
          refine g_52 (a := 12) (b := 12) (nx := 49) (by decide +kernel) h0 ?_
          refine g_1 (a := 0) (b := 0) (nx := 50) (by decide +kernel) ?_
          refine g_61 (a := 0) (b := 0) (nx := 51) (by decide +kernel) h.1 ?_
          replace h := h.2
          refine g_7 (a := 0) (b := 0) (nx := 52) (by decide +kernel) rfl ?_
          refine g_52 (a := 12) (b := 12) (nx := 55) (by decide +kernel) h0 ?_
          refine g_1 (a := 1) (b := 0) (nx := 56) (by decide +kernel) ?_
          refine g_61 (a := 0) (b := 0) (nx := 57) (by decide +kernel) h.1 ?_
          replace h := h.2
          obtain ⟨r13, h⟩ := h
          obtain ⟨r14, h⟩ := h
          by_cases c17 : (M7 (M7 x0 12) 0) = (M7 (M7 x0 12) 1)
          · rw [if_pos c17] at h
            refine g_41f (a := 1) (b := 65) (nx := 60) (by decide +kernel) (by rw [wr_id r13, wr_id r14]; exact fun hz => ((cb_1 _ _).mp hz) c17) ?_
            refine g_7 (a := 0) (b := 0) (nx := 61) (by decide +kernel) rfl ?_
            refine g_1 (a := 4) (b := 0) (nx := 62) (by decide +kernel) ?_
            refine g_80 (a := 188) (b := 1) (nx := 65) (by decide +kernel) (r := x0) (As := [vI 4]) (st' := []) (z := 188) rfl rfl rfl (Nat.le_of_ble_eq_true rfl) h0.2 (Nat.le_of_ble_eq_true rfl) rfl (c_V (by decide +kernel) h (fun M15 h => ?_))
            refine g_1 (a := 0) (b := 0) (nx := 66) (by decide +kernel) ?_
            refine g_8 (a := 1) (b := 0) (nx := 67) (by decide +kernel) rfl (ls' := [some (vR x0), some (vI 0)]) rfl ?_
            exact h
          · rw [if_neg c17] at h
            refine g_41t (a := 1) (b := 65) (nx := 60) (by decide +kernel) (by rw [wr_id r13, wr_id r14]; exact (cb_1 _ _).mpr c17) ?_
            refine g_1 (a := 0) (b := 0) (nx := 66) (by decide +kernel) ?_
            refine g_8 (a := 1) (b := 0) (nx := 67) (by decide +kernel) rfl (ls' := [some (vR x0), some (vI 0)]) rfl ?_
            exact h
        · rw [if_neg c18] at h
          refine g_41t (a := 1) (b := 60) (nx := 45) (by decide +kernel) (by rw [wr_id r10, wr_id (show inR 2 by decide)]; exact (cb_1 _ _).mpr c18) ?_
          refine g_7 (a := 0) (b := 0) (nx := 61) (by decide +kernel) rfl ?_
          refine g_1 (a := 4) (b := 0) (nx := 62) (by decide +kernel) ?_
          refine g_80 (a := 188) (b := 1) (nx := 65) (by decide +kernel) (r := x0) (As := [vI 4]) (st' := []) (z := 188) rfl rfl rfl (Nat.le_of_ble_eq_true rfl) h0.2 (Nat.le_of_ble_eq_true rfl) rfl (c_V (by decide +kernel) h (fun M11 h => ?_))
          refine g_1 (a := 0) (b := 0) (nx := 66) (by decide +kernel) ?_
          refine g_8 (a := 1) (b := 0) (nx := 67) (by decide +kernel) rfl (ls' := [some (vR x0), some (vI 0)]) rfl ?_
          exact h
    · rw [if_neg c37] at h
      refine g_40f (a := 0) (b := 25) (nx := 21) (by decide +kernel) r4 (by exact fun hz => c37 ((cb_0 _ _).mp hz)) ?_
      refine g_7 (a := 0) (b := 0) (nx := 22) (by decide +kernel) rfl ?_
      refine g_80 (a := 187) (b := 0) (nx := 25) (by decide +kernel) (r := x0) (As := []) (st' := []) (z := 187) rfl rfl rfl (Nat.le_of_ble_eq_true rfl) h0.2 (Nat.le_of_ble_eq_true rfl) rfl (c_V (by decide +kernel) h (fun M20 h => ?_))
      refine g_7 (a := 0) (b := 0) (nx := 26) (by decide +kernel) rfl ?_
      refine g_1 (a := 1) (b := 0) (nx := 27) (by decide +kernel) ?_
      refine g_80 (a := 194) (b := 1) (nx := 30) (by decide +kernel) (r := x0) (As := [vI 1]) (st' := []) (z := 194) rfl rfl rfl (Nat.le_of_ble_eq_true rfl) h0.2 (Nat.le_of_ble_eq_true rfl) rfl (c_V (by decide +kernel) h (fun M22 h => ?_))
      refine g_7 (a := 0) (b := 0) (nx := 31) (by decide +kernel) rfl ?_
      refine g_80 (a := 189) (b := 0) (nx := 34) (by decide +kernel) (r := x0) (As := []) (st' := []) (z := 189) rfl rfl rfl (Nat.le_of_ble_eq_true rfl) h0.2 (Nat.le_of_ble_eq_true rfl) rfl (c_I (by decide +kernel) h (fun y25 M24 h => ?_))
      obtain ⟨r26, h⟩ := h
      by_cases c36 : y25 = 0
      · rw [if_pos c36] at h
        refine g_40t (a := 0) (b := 65) (nx := 37) (by decide +kernel) r26 (by exact (cb_0 _ _).mpr c36) ?_
        refine g_1 (a := 0) (b := 0) (nx := 66) (by decide +kernel) ?_
        refine g_8 (a := 1) (b := 0) (nx := 67) (by decide +kernel) rfl (ls' := [some (vR x0), some (vI 0)]) rfl ?_
        exact h
      · rw [if_neg c36] at h
        refine g_40f (a := 0) (b := 65) (nx := 37) (by decide +kernel) r26 (by exact fun hz => c36 ((cb_0 _ _).mp hz)) ?_
        refine g_7 (a := 0) (b := 0) (nx := 38) (by decide +kernel) rfl ?_
        refine g_50 (a := 12) (b := 7) (nx := 41) (by decide +kernel) h0 ?_
        refine g_1 (a := 2) (b := 0) (nx := 42) (by decide +kernel) ?_
        obtain ⟨r27, h⟩ := h
        by_cases c35 : (M24 x0 7) = 2
        · rw [if_pos c35] at h
          refine g_41f (a := 1) (b := 60) (nx := 45) (by decide +kernel) (by rw [wr_id r27, wr_id (show inR 2 by decide)]; exact fun hz => ((cb_1 _ _).mp hz) c35) ?_
          refine g_7 (a := 0) (b := 0) (nx := 46) (by decide +kernel) rfl ?_
          refine g_52 (a := 12) (b := 12) (nx := 49) (by decide +kernel) h0 ?_
          refine g_1 (a := 0) (b := 0) (nx := 50) (by decide +kernel) ?_
          refine g_61 (a := 0) (b := 0) (nx := 51) (by decide +kernel) h.1 ?_
          replace h := h.2
          refine g_7 (a := 0) (b := 0) (nx := 52) (by decide +kernel) rfl ?_
          refine g_52 (a := 12) (b := 12) (nx := 55) (by decide +kernel) h0 ?_
          refine g_1 (a := 1) (b := 0) (nx := 56) (by decide +kernel) ?_
          refine g_61 (a := 0) (b := 0) (nx := 57) (by decide +kernel) h.1 ?_
          replace h := h.2
          obtain ⟨r30, h⟩ := h
          obtain ⟨r31, h⟩ := h
          by_cases c34 : (M24 (M24 x0 12) 0) = (M24 (M24 x0 12) 1)
          · rw [if_pos c34] at h
            refine g_41f (a := 1) (b := 65) (nx := 60) (by decide +kernel) (by rw [wr_id r30, wr_id r31]; exact fun hz => ((cb_1 _ _).mp hz) c34) ?_
            refine g_7 (a := 0) (b := 0) (nx := 61) (by decide +kernel) rfl ?_
            refine g_1 (a := 4) (b := 0) (nx := 62) (by decide +kernel) ?_
            refine g_80 (a := 188) (b := 1) (nx := 65) (by decide +kernel) (r := x0) (As := [vI 4]) (st' := []) (z := 188) rfl rfl rfl (Nat.le_of_ble_eq_true rfl) h0.2 (Nat.le_of_ble_eq_true rfl) rfl (c_V (by decide +kernel) h (fun M32 h => ?_))
            refine g_1 (a := 0) (b := 0) (nx := 66) (by decide +kernel) ?_
            refine g_8 (a := 1) (b := 0) (nx := 67) (by decide +kernel) rfl (ls' := [some (vR x0), some (vI 0)]) rfl ?_
            exact h
          · rw [if_neg c34] at h
            refine g_41t (a := 1) (b := 65) (nx := 60) (by decide +kernel) (by rw [wr_id r30, wr_id r31]; exact (cb_1 _ _).mpr c34) ?_
            refine g_1 (a := 0) (b := 0) (nx := 66) (by decide +kernel) ?_
            refine g_8 (a := 1) (b := 0) (nx := 67) (by decide +kernel) rfl (ls' := [some (vR x0), some (vI 0)]) rfl ?_
            exact h
        · rw [if_neg c35] at h
          refine g_41t (a := 1) (b := 60) (nx := 45) (by decide +kernel) (by rw [wr_id r27, wr_id (show inR 2 by decide)]; exact (cb_1 _ _).mpr c35) ?_
          refine g_7 (a := 0) (b := 0) (nx := 61) (by decide +kernel) rfl ?_
          refine g_1 (a := 4) (b := 0) (nx := 62) (by decide +kernel) ?_
          refine g_80 (a := 188) (b := 1) (nx := 65) (by decide +kernel) (r := x0) (As := [vI 4]) (st' := []) (z := 188) rfl rfl rfl (Nat.le_of_ble_eq_true rfl) h0.2 (Nat.le_of_ble_eq_true rfl) rfl (c_V (by decide +kernel) h (fun M28 h => ?_))
          refine g_1 (a := 0) (b := 0) (nx := 66) (by decide +kernel) ?_
          refine g_8 (a := 1) (b := 0) (nx := 67) (by decide +kernel) rfl (ls' := [some (vR x0), some (vI 0)]) rfl ?_
          exact h
theorem t_197_67 {x0 x1 : Int} {M : Mem} {Q : AV → Mem → Prop} (h0 : gO 12 x0) (h : inR x1 ∧ (inR (M x0 16) ∧ (if (M x0 16) ≤ x1 then (inR (M x0 8) ∧ (if (M x0 8) ≤ 0 then ((gA 20 (M x0 12) 0) ∧ (gA 20 (M x0 27) (M (M x0 12) 0)) ∧ (gA 20 (M x0 33) (2 * (M x0 16))) ∧ (gA 20 ((upM M (M x0 33) (2 * (M x0 16)) (M (M x0 27) (M (M x0 12) 0))) x0 12) 1) ∧ (gA 20 ((upM M (M x0 33) (2 * (M x0 16)) (M (M x0 27) (M (M x0 12) 0))) x0 27) ((upM M (M x0 33) (2 * (M x0 16)) (M (M x0 27) (M (M x0 12) 0))) ((upM M (M x0 33) (2 * (M x0 16)) (M (M x0 27) (M (M x0 12) 0))) x0 12) 1)) ∧ (gA 20 ((upM M (M x0 33) (2 * (M x0 16)) (M (M x0 27) (M (M x0 12) 0))) x0 33) ((2 * ((upM M (M x0 33) (2 * (M x0 16)) (M (M x0 27) (M (M x0 12) 0))) x0 16)) + 1)) ∧ WV 187 [vR x0] (upM (upM (upM M (M x0 33) (2 * (M x0 16)) (M (M x0 27) (M (M x0 12) 0))) ((upM M (M x0 33) (2 * (M x0 16)) (M (M x0 27) (M (M x0 12) 0))) x0 33) ((2 * ((upM M (M x0 33) (2 * (M x0 16)) (M (M x0 27) (M (M x0 12) 0))) x0 16)) + 1) ((upM M (M x0 33) (2 * (M x0 16)) (M (M x0 27) (M (M x0 12) 0))) ((upM M (M x0 33) (2 * (M x0 16)) (M (M x0 27) (M (M x0 12) 0))) x0 27) ((upM M (M x0 33) (2 * (M x0 16)) (M (M x0 27) (M (M x0 12) 0))) ((upM M (M x0 33) (2 * (M x0 16)) (M (M x0 27) (M (M x0 12) 0))) x0 12) 1))) x0 16 (((upM (upM M (M x0 33) (2 * (M x0 16)) (M (M x0 27) (M (M x0 12) 0))) ((upM M (M x0 33) (2 * (M x0 16)) (M (M x0 27) (M (M x0 12) 0))) x0 33) ((2 * ((upM M (M x0 33) (2 * (M x0 16)) (M (M x0 27) (M (M x0 12) 0))) x0 16)) + 1) ((upM M (M x0 33) (2 * (M x0 16)) (M (M x0 27) (M (M x0 12) 0))) ((upM M (M x0 33) (2 * (M x0 16)) (M (M x0 27) (M (M x0 12) 0))) x0 27) ((upM M (M x0 33) (2 * (M x0 16)) (M (M x0 27) (M (M x0 12) 0))) ((upM M (M x0 33) (2 * (M x0 16)) (M (M x0 27) (M (M x0 12) 0))) x0 12) 1))) x0 16) + 1)) (fun M4 => Q (vI 0) M4)) else (Q (vI 0) M))) else (WI 189 [vR x0] M (fun y8 M7 => inR y8 ∧ (if y8 = 0 then (inR (M7 x0 8) ∧ (if (M7 x0 8) ≤ 0 then ((gA 20 (M7 x0 12) 0) ∧ (gA 20 (M7 x0 27) (M7 (M7 x0 12) 0)) ∧ (gA 20 (M7 x0 33) (2 * (M7 x0 16))) ∧ (gA 20 ((upM M7 (M7 x0 33) (2 * (M7 x0 16)) (M7 (M7 x0 27) (M7 (M7 x0 12) 0))) x0 12) 1) ∧ (gA 20 ((upM M7 (M7 x0 33) (2 * (M7 x0 16)) (M7 (M7 x0 27) (M7 (M7 x0 12) 0))) x0 27) ((upM M7 (M7 x0 33) (2 * (M7 x0 16)) (M7 (M7 x0 27) (M7 (M7 x0 12) 0))) ((upM M7 (M7 x0 33) (2 * (M7 x0 16)) (M7 (M7 x0 27) (M7 (M7 x0 12) 0))) x0 12) 1)) ∧ (gA 20 ((upM M7 (M7 x0 33) (2 * (M7 x0 16)) (M7 (M7 x0 27) (M7 (M7 x0 12) 0))) x0 33) ((2 * ((upM M7 (M7 x0 33) (2 * (M7 x0 16)) (M7 (M7 x0 27) (M7 (M7 x0 12) 0))) x0 16)) + 1)) ∧ WV 187 [vR x0] (upM (upM (upM M7 (M7 x0 33) (2 * (M7 x0 16)) (M7 (M7 x0 27) (M7 (M7 x0 12) 0))) ((upM M7 (M7 x0 33) (2 * (M7 x0 16)) (M7 (M7 x0 27) (M7 (M7 x0 12) 0))) x0 33) ((2 * ((upM M7 (M7 x0 33) (2 * (M7 x0 16)) (M7 (M7 x0 27) (M7 (M7 x0 12) 0))) x0 16)) + 1) ((upM M7 (M7 x0 33) (2 * (M7 x0 16)) (M7 (M7 x0 27) (M7 (M7 x0 12) 0))) ((upM M7 (M7 x0 33) (2 * (M7 x0 16)) (M7 (M7 x0 27) (M7 (M7 x0 12) 0))) x0 27) ((upM M7 (M7 x0 33) (2 * (M7 x0 16)) (M7 (M7 x0 27) (M7 (M7 x0 12) 0))) ((upM M7 (M7 x0 33) (2 * (M7 x0 16)) (M7 (M7 x0 27) (M7 (M7 x0 12) 0))) x0 12) 1))) x0 16 (((upM (upM M7 (M7 x0 33) (2 * (M7 x0 16)) (M7 (M7 x0 27) (M7 (M7 x0 12) 0))) ((upM M7 (M7 x0 33) (2 * (M7 x0 16)) (M7 (M7 x0 27) (M7 (M7 x0 12) 0))) x0 33) ((2 * ((upM M7 (M7 x0 33) (2 * (M7 x0 16)) (M7 (M7 x0 27) (M7 (M7 x0 12) 0))) x0 16)) + 1) ((upM M7 (M7 x0 33) (2 * (M7 x0 16)) (M7 (M7 x0 27) (M7 (M7 x0 12) 0))) ((upM M7 (M7 x0 33) (2 * (M7 x0 16)) (M7 (M7 x0 27) (M7 (M7 x0 12) 0))) x0 27) ((upM M7 (M7 x0 33) (2 * (M7 x0 16)) (M7 (M7 x0 27) (M7 (M7 x0 12) 0))) ((upM M7 (M7 x0 33) (2 * (M7 x0 16)) (M7 (M7 x0 27) (M7 (M7 x0 12) 0))) x0 12) 1))) x0 16) + 1)) (fun M11 => Q (vI 0) M11)) else (Q (vI 0) M7))) else ((gA 20 (M7 x0 33) (2 * x1)) ∧ (gA 20 (M7 x0 12) 0) ∧ (gA 20 (M7 x0 27) (M7 (M7 x0 12) 0)) ∧ inR (M7 (M7 x0 33) (2 * x1)) ∧ (inR (M7 (M7 x0 27) (M7 (M7 x0 12) 0)) ∧ (if (M7 (M7 x0 33) (2 * x1)) = (M7 (M7 x0 27) (M7 (M7 x0 12) 0)) then ((gA 20 (M7 x0 33) ((2 * x1) + 1)) ∧ (gA 20 (M7 x0 12) 1) ∧ (gA 20 (M7 x0 27) (M7 (M7 x0 12) 1)) ∧ inR (M7 (M7 x0 33) ((2 * x1) + 1)) ∧ (inR (M7 (M7 x0 27) (M7 (M7 x0 12) 1)) ∧ (if (M7 (M7 x0 33) ((2 * x1) + 1)) = (M7 (M7 x0 27) (M7 (M7 x0 12) 1)) then (WV 188 [vR x0, vI 4] M7 (fun M18 => WR 197 67 [some (vR x0), some (vI (x1 + 1))] [] M18 Q)) else (WR 197 67 [some (vR x0), some (vI (x1 + 1))] [] M7 Q)))) else (WR 197 67 [some (vR x0), some (vI (x1 + 1))] [] M7 Q)))))))))) : WR 197 67 [some (vR x0), some (vI x1)] [] M Q := by
  refine g_5 (a := 1) (b := 0) (nx := 68) (by decide +kernel) rfl ?_
  refine g_7 (a := 0) (b := 0) (nx := 69) (by decide +kernel) rfl ?_
  refine g_50 (a := 12) (b := 16) (nx := 72) (by decide +kernel) h0 ?_
  obtain ⟨r1, h⟩ := h
  obtain ⟨r2, h⟩ := h
  by_cases c23 : (M x0 16) ≤ x1
  · rw [if_pos c23] at h
    refine g_41t (a := 3) (b := 139) (nx := 75) (by decide +kernel) (by rw [wr_id r1, wr_id r2]; exact (cb_3 _ _).mpr c23) ?_
    refine g_7 (a := 0) (b := 0) (nx := 140) (by decide +kernel) rfl ?_
    refine g_50 (a := 12) (b := 8) (nx := 143) (by decide +kernel) h0 ?_
    obtain ⟨r3, h⟩ := h
    by_cases c6 : (M x0 8) ≤ 0
    · rw [if_pos c6] at h
      refine g_40t (a := 5) (b := 147) (nx := 146) (by decide +kernel) r3 (by exact (cb_5 _ _).mpr c6) ?_
      refine g_7 (a := 0) (b := 0) (nx := 148) (by decide +kernel) rfl ?_
      refine g_52 (a := 12) (b := 33) (nx := 151) (by decide +kernel) h0 ?_
      refine g_1 (a := 2) (b := 0) (nx := 152) (by decide +kernel) ?_
      refine g_7 (a := 0) (b := 0) (nx := 153) (by decide +kernel) rfl ?_
      refine g_50 (a := 12) (b := 16) (nx := 156) (by decide +kernel) h0 ?_
      refine g_17 (a := 0) (b := 0) (nx := 157) (by decide +kernel) ?_
      refine g_7 (a := 0) (b := 0) (nx := 158) (by decide +kernel) rfl ?_
      refine g_52 (a := 12) (b := 27) (nx := 161) (by decide +kernel) h0 ?_
      refine g_7 (a := 0) (b := 0) (nx := 162) (by decide +kernel) rfl ?_
      refine g_52 (a := 12) (b := 12) (nx := 165) (by decide +kernel) h0 ?_
      refine g_1 (a := 0) (b := 0) (nx := 166) (by decide +kernel) ?_
      refine g_61 (a := 0) (b := 0) (nx := 167) (by decide +kernel) h.1 ?_
      replace h := h.2
      refine g_61 (a := 0) (b := 0) (nx := 168) (by decide +kernel) h.1 ?_
      replace h := h.2
      refine g_62 (a := 0) (b := 0) (nx := 169) (by decide +kernel) h.1 ?_
      replace h := h.2
      refine g_7 (a := 0) (b := 0) (nx := 170) (by decide +kernel) rfl ?_
      refine g_52 (a := 12) (b := 33) (nx := 173) (by decide +kernel) h0 ?_
      refine g_1 (a := 2) (b := 0) (nx := 174) (by decide +kernel) ?_
      refine g_7 (a := 0) (b := 0) (nx := 175) (by decide +kernel) rfl ?_
      refine g_50 (a := 12) (b := 16) (nx := 178) (by decide +kernel) h0 ?_
      refine g_17 (a := 0) (b := 0) (nx := 179) (by decide +kernel) ?_
      refine g_1 (a := 1) (b := 0) (nx := 180) (by decide +kernel) ?_
      refine g_15 (a := 0) (b := 0) (nx := 181) (by decide +kernel) ?_
      refine g_7 (a := 0) (b := 0) (nx := 182) (by decide +kernel) rfl ?_
      refine g_52 (a := 12) (b := 27) (nx := 185) (by decide +kernel) h0 ?_
      refine g_7 (a := 0) (b := 0) (nx := 186) (by decide +kernel) rfl ?_
      refine g_52 (a := 12) (b := 12) (nx := 189) (by decide +kernel) h0 ?_
      refine g_1 (a := 1) (b := 0) (nx := 190) (by decide +kernel) ?_
      refine g_61 (a := 0) (b := 0) (nx := 191) (by decide +kernel) h.1 ?_
      replace h := h.2
      refine g_61 (a := 0) (b := 0) (nx := 192) (by decide +kernel) h.1 ?_
      replace h := h.2
      refine g_62 (a := 0) (b := 0) (nx := 193) (by decide +kernel) h.1 ?_
      replace h := h.2
      refine g_7 (a := 0) (b := 0) (nx := 194) (by decide +kernel) rfl ?_
      refine g_13 (a := 0) (b := 0) (nx := 195) (by decide +kernel) rfl ?_
      refine g_50 (a := 12) (b := 16) (nx := 198) (by decide +kernel) h0 ?_
      refine g_1 (a := 1) (b := 0) (nx := 199) (by decide +kernel) ?_
      refine g_15 (a := 0) (b := 0) (nx := 200) (by decide +kernel) ?_
      refine g_53 (a := 12) (b := 16) (nx := 203) (by decide +kernel) h0 ?_
      refine g_7 (a := 0) (b := 0) (nx := 204) (by decide +kernel) rfl ?_
      refine g_80 (a := 187) (b := 0) (nx := 207) (by decide +kernel) (r := x0) (As := []) (st' := []) (z := 187) rfl rfl rfl (Nat.le_of_ble_eq_true rfl) h0.2 (Nat.le_of_ble_eq_true rfl) rfl (c_V (by decide +kernel) h (fun M4 h => ?_))
      exact g_90 (a := 0) (b := 0) (nx := 208) (by decide +kernel) h
    · rw [if_neg c6] at h
      refine g_40f (a := 5) (b := 147) (nx := 146) (by decide +kernel) r3 (by exact fun hz => c6 ((cb_5 _ _).mp hz)) ?_
      exact g_90 (a := 0) (b := 0) (nx := 147) (by decide +kernel) h
  · rw [if_neg c23] at h
    refine g_41f (a := 3) (b := 139) (nx := 75) (by decide +kernel) (by rw [wr_id r1, wr_id r2]; exact fun hz => c23 ((cb_3 _ _).mp hz)) ?_
    refine g_7 (a := 0) (b := 0) (nx := 76) (by decide +kernel) rfl ?_
    refine g_80 (a := 189) (b := 0) (nx := 79) (by decide +kernel) (r := x0) (As := []) (st' := []) (z := 189) rfl rfl rfl (Nat.le_of_ble_eq_true rfl) h0.2 (Nat.le_of_ble_eq_true rfl) rfl (c_I (by decide +kernel) h (fun y8 M7 h => ?_))
    obtain ⟨r9, h⟩ := h
    by_cases c22 : y8 = 0
    · rw [if_pos c22] at h
      refine g_40t (a := 0) (b := 139) (nx := 82) (by decide +kernel) r9 (by exact (cb_0 _ _).mpr c22) ?_
      refine g_7 (a := 0) (b := 0) (nx := 140) (by decide +kernel) rfl ?_
      refine g_50 (a := 12) (b := 8) (nx := 143) (by decide +kernel) h0 ?_
      obtain ⟨r10, h⟩ := h
      by_cases c13 : (M7 x0 8) ≤ 0
      · rw [if_pos c13] at h
        refine g_40t (a := 5) (b := 147) (nx := 146) (by decide +kernel) r10 (by exact (cb_5 _ _).mpr c13) ?_
        refine g_7 (a := 0) (b := 0) (nx := 148) (by decide +kernel) rfl ?_
        refine g_52 (a := 12) (b := 33) (nx := 151) (by decide +kernel) h0 ?_
        refine g_1 (a := 2) (b := 0) (nx := 152) (by decide +kernel) ?_
        refine g_7 (a := 0) (b := 0) (nx := 153) (by decide +kernel) rfl ?_
        refine g_50 (a := 12) (b := 16) (nx := 156) (by decide +kernel) h0 ?_
        refine g_17 (a := 0) (b := 0) (nx := 157) (by decide +kernel) ?_
        refine g_7 (a := 0) (b := 0) (nx := 158) (by decide +kernel) rfl ?_
        refine g_52 (a := 12) (b := 27) (nx := 161) (by decide +kernel) h0 ?_
        refine g_7 (a := 0) (b := 0) (nx := 162) (by decide +kernel) rfl ?_
        refine g_52 (a := 12) (b := 12) (nx := 165) (by decide +kernel) h0 ?_
        refine g_1 (a := 0) (b := 0) (nx := 166) (by decide +kernel) ?_
        refine g_61 (a := 0) (b := 0) (nx := 167) (by decide +kernel) h.1 ?_
        replace h := h.2
        refine g_61 (a := 0) (b := 0) (nx := 168) (by decide +kernel) h.1 ?_
        replace h := h.2
        refine g_62 (a := 0) (b := 0) (nx := 169) (by decide +kernel) h.1 ?_
        replace h := h.2
        refine g_7 (a := 0) (b := 0) (nx := 170) (by decide +kernel) rfl ?_
        refine g_52 (a := 12) (b := 33) (nx := 173) (by decide +kernel) h0 ?_
        refine g_1 (a := 2) (b := 0) (nx := 174) (by decide +kernel) ?_
        refine g_7 (a := 0) (b := 0) (nx := 175) (by decide +kernel) rfl ?_
        refine g_50 (a := 12) (b := 16) (nx := 178) (by decide +kernel) h0 ?_
        refine g_17 (a := 0) (b := 0) (nx := 179) (by decide +kernel) ?_
        refine g_1 (a := 1) (b := 0) (nx := 180) (by decide +kernel) ?_
        refine g_15 (a := 0) (b := 0) (nx := 181) (by decide +kernel) ?_
        refine g_7 (a := 0) (b := 0) (nx := 182) (by decide +kernel) rfl ?_
        refine g_52 (a := 12) (b := 27) (nx := 185) (by decide +kernel) h0 ?_
        refine g_7 (a := 0) (b := 0) (nx := 186) (by decide +kernel) rfl ?_
        refine g_52 (a := 12) (b := 12) (nx := 189) (by decide +kernel) h0 ?_
        refine g_1 (a := 1) (b := 0) (nx := 190) (by decide +kernel) ?_
        refine g_61 (a := 0) (b := 0) (nx := 191) (by decide +kernel) h.1 ?_
        replace h := h.2
        refine g_61 (a := 0) (b := 0) (nx := 192) (by decide +kernel) h.1 ?_
        replace h := h.2
        refine g_62 (a := 0) (b := 0) (nx := 193) (by decide +kernel) h.1 ?_
        replace h := h.2
        refine g_7 (a := 0) (b := 0) (nx := 194) (by decide +kernel) rfl ?_
        refine g_13 (a := 0) (b := 0) (nx := 195) (by decide +kernel) rfl ?_
        refine g_50 (a := 12) (b := 16) (nx := 198) (by decide +kernel) h0 ?_
        refine g_1 (a := 1) (b := 0) (nx := 199) (by decide +kernel) ?_
        refine g_15 (a := 0) (b := 0) (nx := 200) (by decide +kernel) ?_
        refine g_53 (a := 12) (b := 16) (nx := 203) (by decide +kernel) h0 ?_
        refine g_7 (a := 0) (b := 0) (nx := 204) (by decide +kernel) rfl ?_
        refine g_80 (a := 187) (b := 0) (nx := 207) (by decide +kernel) (r := x0) (As := []) (st' := []) (z := 187) rfl rfl rfl (Nat.le_of_ble_eq_true rfl) h0.2 (Nat.le_of_ble_eq_true rfl) rfl (c_V (by decide +kernel) h (fun M11 h => ?_))
        exact g_90 (a := 0) (b := 0) (nx := 208) (by decide +kernel) h
      · rw [if_neg c13] at h
        refine g_40f (a := 5) (b := 147) (nx := 146) (by decide +kernel) r10 (by exact fun hz => c13 ((cb_5 _ _).mp hz)) ?_
        exact g_90 (a := 0) (b := 0) (nx := 147) (by decide +kernel) h
    · rw [if_neg c22] at h
      refine g_40f (a := 0) (b := 139) (nx := 82) (by decide +kernel) r9 (by exact fun hz => c22 ((cb_0 _ _).mp hz)) ?_
      refine g_7 (a := 0) (b := 0) (nx := 83) (by decide +kernel) rfl ?_
      refine g_52 (a := 12) (b := 33) (nx := 86) (by decide +kernel) h0 ?_
      refine g_1 (a := 2) (b := 0) (nx := 87) (by decide +kernel) ?_
      refine g_5 (a := 1) (b := 0) (nx := 88) (by decide +kernel) rfl ?_
      refine g_17 (a := 0) (b := 0) (nx := 89) (by decide +kernel) ?_
      refine g_61 (a := 0) (b := 0) (nx := 90) (by decide +kernel) h.1 ?_
      replace h := h.2
      refine g_7 (a := 0) (b := 0) (nx := 91) (by decide +kernel) rfl ?_
      refine g_52 (a := 12) (b := 27) (nx := 94) (by decide +kernel) h0 ?_
      refine g_7 (a := 0) (b := 0) (nx := 95) (by decide +kernel) rfl ?_
      refine g_52 (a := 12) (b := 12) (nx := 98) (by decide +kernel) h0 ?_
      refine g_1 (a := 0) (b := 0) (nx := 99) (by decide +kernel) ?_
      refine g_61 (a := 0) (b := 0) (nx := 100) (by decide +kernel) h.1 ?_
      replace h := h.2
      refine g_61 (a := 0) (b := 0) (nx := 101) (by decide +kernel) h.1 ?_
      replace h := h.2
      obtain ⟨r14, h⟩ := h
      obtain ⟨r15, h⟩ := h
      by_cases c21 : (M7 (M7 x0 33) (2 * x1)) = (M7 (M7 x0 27) (M7 (M7 x0 12) 0))
      · rw [if_pos c21] at h
        refine g_41f (a := 1) (b := 133) (nx := 104) (by decide +kernel) (by rw [wr_id r14, wr_id r15]; exact fun hz => ((cb_1 _ _).mp hz) c21) ?_
        refine g_7 (a := 0) (b := 0) (nx := 105) (by decide +kernel) rfl ?_
        refine g_52 (a := 12) (b := 33) (nx := 108) (by decide +kernel) h0 ?_
        refine g_1 (a := 2) (b := 0) (nx := 109) (by decide +kernel) ?_
        refine g_5 (a := 1) (b := 0) (nx := 110) (by decide +kernel) rfl ?_
        refine g_17 (a := 0) (b := 0) (nx := 111) (by decide +kernel) ?_
        refine g_1 (a := 1) (b := 0) (nx := 112) (by decide +kernel) ?_
        refine g_15 (a := 0) (b := 0) (nx := 113) (by decide +kernel) ?_
        refine g_61 (a := 0) (b := 0) (nx := 114) (by decide +kernel) h.1 ?_
        replace h := h.2
        refine g_7 (a := 0) (b := 0) (nx := 115) (by decide +kernel) rfl ?_
        refine g_52 (a := 12) (b := 27) (nx := 118) (by decide +kernel) h0 ?_
        refine g_7 (a := 0) (b := 0) (nx := 119) (by decide +kernel) rfl ?_
        refine g_52 (a := 12) (b := 12) (nx := 122) (by decide +kernel) h0 ?_
        refine g_1 (a := 1) (b := 0) (nx := 123) (by decide +kernel) ?_
        refine g_61 (a := 0) (b := 0) (nx := 124) (by decide +kernel) h.1 ?_
        replace h := h.2
        refine g_61 (a := 0) (b := 0) (nx := 125) (by decide +kernel) h.1 ?_
        replace h := h.2
        obtain ⟨r16, h⟩ := h
        obtain ⟨r17, h⟩ := h
        by_cases c20 : (M7 (M7 x0 33) ((2 * x1) + 1)) = (M7 (M7 x0 27) (M7 (M7 x0 12) 1))
        · rw [if_pos c20] at h
          refine g_41f (a := 1) (b := 133) (nx := 128) (by decide +kernel) (by rw [wr_id r16, wr_id r17]; exact fun hz => ((cb_1 _ _).mp hz) c20) ?_
          refine g_7 (a := 0) (b := 0) (nx := 129) (by decide +kernel) rfl ?_
          refine g_1 (a := 4) (b := 0) (nx := 130) (by decide +kernel) ?_
          refine g_80 (a := 188) (b := 1) (nx := 133) (by decide +kernel) (r := x0) (As := [vI 4]) (st' := []) (z := 188) rfl rfl rfl (Nat.le_of_ble_eq_true rfl) h0.2 (Nat.le_of_ble_eq_true rfl) rfl (c_V (by decide +kernel) h (fun M18 h => ?_))
          refine g_11 (a := 1) (b := 1) (nx := 136) (by decide +kernel) rfl rfl (ls' := [some (vR x0), some (vI (x1 + 1))]) rfl ?_
          refine g_44 (a := 0) (b := 67) (nx := 139) (by decide +kernel) ?_
          exact h
        · rw [if_neg c20] at h
          refine g_41t (a := 1) (b := 133) (nx := 128) (by decide +kernel) (by rw [wr_id r16, wr_id r17]; exact (cb_1 _ _).mpr c20) ?_
          refine g_11 (a := 1) (b := 1) (nx := 136) (by decide +kernel) rfl rfl (ls' := [some (vR x0), some (vI (x1 + 1))]) rfl ?_
          refine g_44 (a := 0) (b := 67) (nx := 139) (by decide +kernel) ?_
          exact h
      · rw [if_neg c21] at h
        refine g_41t (a := 1) (b := 133) (nx := 104) (by decide +kernel) (by rw [wr_id r14, wr_id r15]; exact (cb_1 _ _).mpr c21) ?_
        refine g_11 (a := 1) (b := 1) (nx := 136) (by decide +kernel) rfl rfl (ls' := [some (vR x0), some (vI (x1 + 1))]) rfl ?_
        refine g_44 (a := 0) (b := 67) (nx := 139) (by decide +kernel) ?_
        exact h
-- 198 SyllableMakerModel.once(I)V
theorem t_198 {x0 x1 : Int} {M : Mem} {Q : AV → Mem → Prop} (h0 : gO 12 x0) (h : WI 189 [vR x0] M (fun y2 M1 => inR y2 ∧ (if y2 = 0 then ((0 ≤ x1 ∧ x1 < 32) ∧ WI 189 [vR x0] (upM M1 x0 25 (or32 (M1 x0 25) ((1 : Int) * 2 ^ (x1).toNat))) (fun y5 M4 => inR y5 ∧ (if y5 = 0 then (Q (vI 0) M4) else (WV 187 [vR x0] M4 (fun M7 => Q (vI 0) M7))))) else ((0 ≤ x1 ∧ x1 < 32 ∧ -2147483648 ≤ (M1 x0 25) ∧ (M1 x0 25) < 2147483648) ∧ inR (and32 ((M1 x0 25) / 2 ^ (x1).toNat) 1) ∧ (if (and32 ((M1 x0 25) / 2 ^ (x1).toNat) 1) = 1 then (WV 188 [vR x0, vI 2] M1 (fun M17 => (0 ≤ x1 ∧ x1 < 32) ∧ WI 189 [vR x0] (upM M17 x0 25 (or32 (M17 x0 25) ((1 : Int) * 2 ^ (x1).toNat))) (fun y20 M19 => inR y20 ∧ (if y20 = 0 then (Q (vI 0) M19) else (WV 187 [vR x0] M19 (fun M22 => Q (vI 0) M22)))))) else ((0 ≤ x1 ∧ x1 < 32) ∧ WI 189 [vR x0] (upM M1 x0 25 (or32 (M1 x0 25) ((1 : Int) * 2 ^ (x1).toNat))) (fun y12 M11 => inR y12 ∧ (if y12 = 0 then (Q (vI 0) M11) else (WV 187 [vR x0] M11 (fun M14 => Q (vI 0) M14)))))))))) : WC 198 [vR x0, vI x1] M Q := by
  show WR 198 0 [some (vR x0), some (vI x1)] [] M Q
  refine g_7 (a := 0) (b := 0) (nx := 1) (by decide +kernel) rfl ?_
  refine g_80 (a := 189) (b := 0) (nx := 4) (by decide +kernel) (r := x0) (As := []) (st' := []) (z := 189) rfl rfl rfl (Nat.le_of_ble_eq_true rfl) h0.2 (Nat.le_of_ble_eq_true rfl) rfl (c_I (by decide +kernel) h (fun y2 M1 h => ?_))
  obtain ⟨r3, h⟩ := h
  by_cases c26 : y2 = 0
  · rw [if_pos c26] at h
    refine g_40t (a := 0) (b := 24) (nx := 7) (by decide +kernel) r3 (by exact (cb_0 _ _).mpr c26) ?_
    refine g_7 (a := 0) (b := 0) (nx := 25) (by decide +kernel) rfl ?_
    refine g_13 (a := 0) (b := 0) (nx := 26) (by decide +kernel) rfl ?_
    refine g_50 (a := 12) (b := 25) (nx := 29) (by decide +kernel) h0 ?_
    refine g_1 (a := 1) (b := 0) (nx := 30) (by decide +kernel) ?_
    refine g_5 (a := 1) (b := 0) (nx := 31) (by decide +kernel) rfl ?_
    refine g_22 (a := 0) (b := 0) (nx := 32) (by decide +kernel) h.1 ?_
    show WR 198 32 [some (vR x0), some (vI x1)] [vI ((1 : Int) * 2 ^ (x1).toNat), vI (M1 x0 25), vR x0] M1 Q
    replace h := h.2
    refine g_21 (a := 0) (b := 0) (nx := 33) (by decide +kernel) ?_
    refine g_53 (a := 12) (b := 25) (nx := 36) (by decide +kernel) h0 ?_
    refine g_7 (a := 0) (b := 0) (nx := 37) (by decide +kernel) rfl ?_
    refine g_80 (a := 189) (b := 0) (nx := 40) (by decide +kernel) (r := x0) (As := []) (st' := []) (z := 189) rfl rfl rfl (Nat.le_of_ble_eq_true rfl) h0.2 (Nat.le_of_ble_eq_true rfl) rfl (c_I (by decide +kernel) h (fun y5 M4 h => ?_))
    obtain ⟨r6, h⟩ := h
    by_cases c9 : y5 = 0
    · rw [if_pos c9] at h
      refine g_40t (a := 0) (b := 47) (nx := 43) (by decide +kernel) r6 (by exact (cb_0 _ _).mpr c9) ?_
      exact g_90 (a := 0) (b := 0) (nx := 48) (by decide +kernel) h
    · rw [if_neg c9] at h
      refine g_40f (a := 0) (b := 47) (nx := 43) (by decide +kernel) r6 (by exact fun hz => c9 ((cb_0 _ _).mp hz)) ?_
      refine g_7 (a := 0) (b := 0) (nx := 44) (by decide +kernel) rfl ?_
      refine g_80 (a := 187) (b := 0) (nx := 47) (by decide +kernel) (r := x0) (As := []) (st' := []) (z := 187) rfl rfl rfl (Nat.le_of_ble_eq_true rfl) h0.2 (Nat.le_of_ble_eq_true rfl) rfl (c_V (by decide +kernel) h (fun M7 h => ?_))
      exact g_90 (a := 0) (b := 0) (nx := 48) (by decide +kernel) h
  · rw [if_neg c26] at h
    refine g_40f (a := 0) (b := 24) (nx := 7) (by decide +kernel) r3 (by exact fun hz => c26 ((cb_0 _ _).mp hz)) ?_
    refine g_7 (a := 0) (b := 0) (nx := 8) (by decide +kernel) rfl ?_
    refine g_50 (a := 12) (b := 25) (nx := 11) (by decide +kernel) h0 ?_
    refine g_5 (a := 1) (b := 0) (nx := 12) (by decide +kernel) rfl ?_
    refine g_23 (a := 0) (b := 0) (nx := 13) (by decide +kernel) h.1 ?_
    show WR 198 13 [some (vR x0), some (vI x1)] [vI ((M1 x0 25) / 2 ^ (x1).toNat)] M1 Q
    replace h := h.2
    refine g_1 (a := 1) (b := 0) (nx := 14) (by decide +kernel) ?_
    refine g_20 (a := 0) (b := 0) (nx := 15) (by decide +kernel) ?_
    refine g_1 (a := 1) (b := 0) (nx := 16) (by decide +kernel) ?_
    obtain ⟨r10, h⟩ := h
    by_cases c25 : (and32 ((M1 x0 25) / 2 ^ (x1).toNat) 1) = 1
    · rw [if_pos c25] at h
      refine g_41f (a := 1) (b := 24) (nx := 19) (by decide +kernel) (by rw [wr_id r10, wr_id (show inR 1 by decide)]; exact fun hz => ((cb_1 _ _).mp hz) c25) ?_
      refine g_7 (a := 0) (b := 0) (nx := 20) (by decide +kernel) rfl ?_
      refine g_1 (a := 2) (b := 0) (nx := 21) (by decide +kernel) ?_
      refine g_80 (a := 188) (b := 1) (nx := 24) (by decide +kernel) (r := x0) (As := [vI 2]) (st' := []) (z := 188) rfl rfl rfl (Nat.le_of_ble_eq_true rfl) h0.2 (Nat.le_of_ble_eq_true rfl) rfl (c_V (by decide +kernel) h (fun M17 h => ?_))
      refine g_7 (a := 0) (b := 0) (nx := 25) (by decide +kernel) rfl ?_
      refine g_13 (a := 0) (b := 0) (nx := 26) (by decide +kernel) rfl ?_
      refine g_50 (a := 12) (b := 25) (nx := 29) (by decide +kernel) h0 ?_
      refine g_1 (a := 1) (b := 0) (nx := 30) (by decide +kernel) ?_
      refine g_5 (a := 1) (b := 0) (nx := 31) (by decide +kernel) rfl ?_
      refine g_22 (a := 0) (b := 0) (nx := 32) (by decide +kernel) h.1 ?_
      show WR 198 32 [some (vR x0), some (vI x1)] [vI ((1 : Int) * 2 ^ (x1).toNat), vI (M17 x0 25), vR x0] M17 Q
      replace h := h.2
      refine g_21 (a := 0) (b := 0) (nx := 33) (by decide +kernel) ?_
      refine g_53 (a := 12) (b := 25) (nx := 36) (by decide +kernel) h0 ?_
      refine g_7 (a := 0) (b := 0) (nx := 37) (by decide +kernel) rfl ?_
      refine g_80 (a := 189) (b := 0) (nx := 40) (by decide +kernel) (r := x0) (As := []) (st' := []) (z := 189) rfl rfl rfl (Nat.le_of_ble_eq_true rfl) h0.2 (Nat.le_of_ble_eq_true rfl) rfl (c_I (by decide +kernel) h (fun y20 M19 h => ?_))
      obtain ⟨r21, h⟩ := h
      by_cases c24 : y20 = 0
      · rw [if_pos c24] at h
        refine g_40t (a := 0) (b := 47) (nx := 43) (by decide +kernel) r21 (by exact (cb_0 _ _).mpr c24) ?_
        exact g_90 (a := 0) (b := 0) (nx := 48) (by decide +kernel) h
      · rw [if_neg c24] at h
        refine g_40f (a := 0) (b := 47) (nx := 43) (by decide +kernel) r21 (by exact fun hz => c24 ((cb_0 _ _).mp hz)) ?_
        refine g_7 (a := 0) (b := 0) (nx := 44) (by decide +kernel) rfl ?_
        refine g_80 (a := 187) (b := 0) (nx := 47) (by decide +kernel) (r := x0) (As := []) (st' := []) (z := 187) rfl rfl rfl (Nat.le_of_ble_eq_true rfl) h0.2 (Nat.le_of_ble_eq_true rfl) rfl (c_V (by decide +kernel) h (fun M22 h => ?_))
        exact g_90 (a := 0) (b := 0) (nx := 48) (by decide +kernel) h
    · rw [if_neg c25] at h
      refine g_41t (a := 1) (b := 24) (nx := 19) (by decide +kernel) (by rw [wr_id r10, wr_id (show inR 1 by decide)]; exact (cb_1 _ _).mpr c25) ?_
      refine g_7 (a := 0) (b := 0) (nx := 25) (by decide +kernel) rfl ?_
      refine g_13 (a := 0) (b := 0) (nx := 26) (by decide +kernel) rfl ?_
      refine g_50 (a := 12) (b := 25) (nx := 29) (by decide +kernel) h0 ?_
      refine g_1 (a := 1) (b := 0) (nx := 30) (by decide +kernel) ?_
      refine g_5 (a := 1) (b := 0) (nx := 31) (by decide +kernel) rfl ?_
      refine g_22 (a := 0) (b := 0) (nx := 32) (by decide +kernel) h.1 ?_
      show WR 198 32 [some (vR x0), some (vI x1)] [vI ((1 : Int) * 2 ^ (x1).toNat), vI (M1 x0 25), vR x0] M1 Q
      replace h := h.2
      refine g_21 (a := 0) (b := 0) (nx := 33) (by decide +kernel) ?_
      refine g_53 (a := 12) (b := 25) (nx := 36) (by decide +kernel) h0 ?_
      refine g_7 (a := 0) (b := 0) (nx := 37) (by decide +kernel) rfl ?_
      refine g_80 (a := 189) (b := 0) (nx := 40) (by decide +kernel) (r := x0) (As := []) (st' := []) (z := 189) rfl rfl rfl (Nat.le_of_ble_eq_true rfl) h0.2 (Nat.le_of_ble_eq_true rfl) rfl (c_I (by decide +kernel) h (fun y12 M11 h => ?_))
      obtain ⟨r13, h⟩ := h
      by_cases c16 : y12 = 0
      · rw [if_pos c16] at h
        refine g_40t (a := 0) (b := 47) (nx := 43) (by decide +kernel) r13 (by exact (cb_0 _ _).mpr c16) ?_
        exact g_90 (a := 0) (b := 0) (nx := 48) (by decide +kernel) h
      · rw [if_neg c16] at h
        refine g_40f (a := 0) (b := 47) (nx := 43) (by decide +kernel) r13 (by exact fun hz => c16 ((cb_0 _ _).mp hz)) ?_
        refine g_7 (a := 0) (b := 0) (nx := 44) (by decide +kernel) rfl ?_
        refine g_80 (a := 187) (b := 0) (nx := 47) (by decide +kernel) (r := x0) (As := []) (st' := []) (z := 187) rfl rfl rfl (Nat.le_of_ble_eq_true rfl) h0.2 (Nat.le_of_ble_eq_true rfl) rfl (c_V (by decide +kernel) h (fun M14 h => ?_))
        exact g_90 (a := 0) (b := 0) (nx := 48) (by decide +kernel) h
-- 199 SyllableMakerModel.costLine()V
theorem t_199 {x0 : Int} {M : Mem} {Q : AV → Mem → Prop} (h0 : gO 12 x0) (h : WV 187 [vR x0] M (fun M1 => WI 189 [vR x0] M1 (fun y4 M3 => inR y4 ∧ (if y4 = 0 then (WR 199 24 [some (vR x0), none, none] [] M3 Q) else (inR (M3 x0 5) ∧ (if (M3 x0 5) = 1 then (WR 199 24 [some (vR x0), none, none] [] M3 Q) else (WV 188 [vR x0, vI 2] M3 (fun M7 => WR 199 24 [some (vR x0), none, none] [] M7 Q)))))))) : WC 199 [vR x0] M Q := by
  show WR 199 0 [some (vR x0), none, none] [] M Q
  refine g_7 (a := 0) (b := 0) (nx := 1) (by decide +kernel) rfl ?_
  refine g_80 (a := 187) (b := 0) (nx := 4) (by decide +kernel) (r := x0) (As := []) (st' := []) (z := 187) rfl rfl rfl (Nat.le_of_ble_eq_true rfl) h0.2 (Nat.le_of_ble_eq_true rfl) rfl (c_V (by decide +kernel) h (fun M1 h => ?_))
  refine g_7 (a := 0) (b := 0) (nx := 5) (by decide +kernel) rfl ?_
  refine g_80 (a := 189) (b := 0) (nx := 8) (by decide +kernel) (r := x0) (As := []) (st' := []) (z := 189) rfl rfl rfl (Nat.le_of_ble_eq_true rfl) h0.2 (Nat.le_of_ble_eq_true rfl) rfl (c_I (by decide +kernel) h (fun y4 M3 h => ?_))
  obtain ⟨r5, h⟩ := h
  by_cases c10 : y4 = 0
  · rw [if_pos c10] at h
    refine g_40t (a := 0) (b := 24) (nx := 11) (by decide +kernel) r5 (by exact (cb_0 _ _).mpr c10) ?_
    exact h
  · rw [if_neg c10] at h
    refine g_40f (a := 0) (b := 24) (nx := 11) (by decide +kernel) r5 (by exact fun hz => c10 ((cb_0 _ _).mp hz)) ?_
    refine g_7 (a := 0) (b := 0) (nx := 12) (by decide +kernel) rfl ?_
    refine g_50 (a := 12) (b := 5) (nx := 15) (by decide +kernel) h0 ?_
    refine g_1 (a := 1) (b := 0) (nx := 16) (by decide +kernel) ?_
    obtain ⟨r6, h⟩ := h
    by_cases c9 : (M3 x0 5) = 1
    · rw [if_pos c9] at h
      refine g_41t (a := 0) (b := 24) (nx := 19) (by decide +kernel) (by rw [wr_id r6, wr_id (show inR 1 by decide)]; exact (cb_0 _ _).mpr c9) ?_
      exact h
    · rw [if_neg c9] at h
      refine g_41f (a := 0) (b := 24) (nx := 19) (by decide +kernel) (by rw [wr_id r6, wr_id (show inR 1 by decide)]; exact fun hz => c9 ((cb_0 _ _).mp hz)) ?_
      refine g_7 (a := 0) (b := 0) (nx := 20) (by decide +kernel) rfl ?_
      refine g_1 (a := 2) (b := 0) (nx := 21) (by decide +kernel) ?_
      refine g_80 (a := 188) (b := 1) (nx := 24) (by decide +kernel) (r := x0) (As := [vI 2]) (st' := []) (z := 188) rfl rfl rfl (Nat.le_of_ble_eq_true rfl) h0.2 (Nat.le_of_ble_eq_true rfl) rfl (c_V (by decide +kernel) h (fun M7 h => ?_))
      exact h
theorem t_199_24 {x0 : Int} {M : Mem} {Q : AV → Mem → Prop} (h0 : gO 12 x0) (h : WI 190 [vR x0, vL 40586] M (fun y2 M1 => inR y2 ∧ (if y2 = 0 then (WI 190 [vR x0, vL 380396] M1 (fun y5 M4 => inR y5 ∧ (if y5 = 0 then (WI 190 [vR x0, vL 9876689] M4 (fun y8 M7 => inR y8 ∧ (if y8 = 0 then (WI 190 [vR x0, vL 459598] M7 (fun y11 M10 => inR y11 ∧ (if y11 = 0 then (WI 190 [vR x0, vL 1489880] M10 (fun y14 M13 => inR y14 ∧ (if y14 = 0 then (WI 190 [vR x0, vL 1831769] M13 (fun y17 M16 => inR y17 ∧ (if y17 = 0 then (WI 189 [vR x0] M16 (fun y20 M19 => inR y20 ∧ (if y20 = 0 then (WR 199 139 [some (vR x0), some (vI (-1)), none] [] M19 Q) else (WR 199 134 [some (vR x0), some (vI (-1)), none] [] M19 Q)))) else (WI 189 [vR x0] M16 (fun y24 M23 => inR y24 ∧ (if y24 = 0 then (WR 199 139 [some (vR x0), some (vI 5), none] [] M23 Q) else ((-2147483648 ≤ (M23 x0 26) ∧ (M23 x0 26) < 2147483648) ∧ inR (and32 ((M23 x0 26) / 32) 1) ∧ (if (and32 ((M23 x0 26) / 32) 1) = 1 then (WR 199 134 [some (vR x0), some (vI 5), none] [] M23 Q) else (WR 199 139 [some (vR x0), some (vI 5), none] [] M23 Q))))))))) else (WI 189 [vR x0] M13 (fun y31 M30 => inR y31 ∧ (if y31 = 0 then (WR 199 139 [some (vR x0), some (vI 4), none] [] M30 Q) else ((-2147483648 ≤ (M30 x0 26) ∧ (M30 x0 26) < 2147483648) ∧ inR (and32 ((M30 x0 26) / 16) 1) ∧ (if (and32 ((M30 x0 26) / 16) 1) = 1 then (WR 199 134 [some (vR x0), some (vI 4), none] [] M30 Q) else (WR 199 139 [some (vR x0), some (vI 4), none] [] M30 Q))))))))) else (WI 189 [vR x0] M10 (fun y38 M37 => inR y38 ∧ (if y38 = 0 then (WR 199 139 [some (vR x0), some (vI 3), none] [] M37 Q) else ((-2147483648 ≤ (M37 x0 26) ∧ (M37 x0 26) < 2147483648) ∧ inR (and32 ((M37 x0 26) / 8) 1) ∧ (if (and32 ((M37 x0 26) / 8) 1) = 1 then (WR 199 134 [some (vR x0), some (vI 3), none] [] M37 Q) else (WR 199 139 [some (vR x0), some (vI 3), none] [] M37 Q))))))))) else (WI 189 [vR x0] M7 (fun y45 M44 => inR y45 ∧ (if y45 = 0 then (WR 199 139 [some (vR x0), some (vI 2), none] [] M44 Q) else ((-2147483648 ≤ (M44 x0 26) ∧ (M44 x0 26) < 2147483648) ∧ inR (and32 ((M44 x0 26) / 4) 1) ∧ (if (and32 ((M44 x0 26) / 4) 1) = 1 then (WR 199 134 [some (vR x0), some (vI 2), none] [] M44 Q) else (WR 199 139 [some (vR x0), some (vI 2), none] [] M44 Q))))))))) else (WI 189 [vR x0] M4 (fun y52 M51 => inR y52 ∧ (if y52 = 0 then (WR 199 139 [some (vR x0), some (vI 1), none] [] M51 Q) else ((-2147483648 ≤ (M51 x0 26) ∧ (M51 x0 26) < 2147483648) ∧ inR (and32 ((M51 x0 26) / 2) 1) ∧ (if (and32 ((M51 x0 26) / 2) 1) = 1 then (WR 199 134 [some (vR x0), some (vI 1), none] [] M51 Q) else (WR 199 139 [some (vR x0), some (vI 1), none] [] M51 Q))))))))) else (WI 189 [vR x0] M1 (fun y59 M58 => inR y59 ∧ (if y59 = 0 then (WR 199 139 [some (vR x0), some (vI 0), none] [] M58 Q) else ((-2147483648 ≤ (M58 x0 26) ∧ (M58 x0 26) < 2147483648) ∧ inR (and32 ((M58 x0 26) / 1) 1) ∧ (if (and32 ((M58 x0 26) / 1) 1) = 1 then (WR 199 134 [some (vR x0), some (vI 0), none] [] M58 Q) else (WR 199 139 [some (vR x0), some (vI 0), none] [] M58 Q))))))))) : WR 199 24 [some (vR x0), none, none] [] M Q := by
  refine g_7 (a := 0) (b := 0) (nx := 25) (by decide +kernel) rfl ?_
  refine g_58 (a := 40586) (b := 0) (nx := 28) (by decide +kernel) ?_
  refine g_80 (a := 190) (b := 1) (nx := 31) (by decide +kernel) (r := x0) (As := [vL 40586]) (st' := []) (z := 190) rfl rfl rfl (Nat.le_of_ble_eq_true rfl) h0.2 (Nat.le_of_ble_eq_true rfl) rfl (c_I (by decide +kernel) h (fun y2 M1 h => ?_))
  obtain ⟨r3, h⟩ := h
  by_cases c64 : y2 = 0
  · rw [if_pos c64] at h
    refine g_40t (a := 0) (b := 38) (nx := 34) (by decide +kernel) r3 (by exact (cb_0 _ _).mpr c64) ?_
    refine g_7 (a := 0) (b := 0) (nx := 39) (by decide +kernel) rfl ?_
    refine g_58 (a := 380396) (b := 12) (nx := 42) (by decide +kernel) ?_
    refine g_80 (a := 190) (b := 1) (nx := 45) (by decide +kernel) (r := x0) (As := [vL 380396]) (st' := []) (z := 190) rfl rfl rfl (Nat.le_of_ble_eq_true rfl) h0.2 (Nat.le_of_ble_eq_true rfl) rfl (c_I (by decide +kernel) h (fun y5 M4 h => ?_))
    obtain ⟨r6, h⟩ := h
    by_cases c57 : y5 = 0
    · rw [if_pos c57] at h
      refine g_40t (a := 0) (b := 52) (nx := 48) (by decide +kernel) r6 (by exact (cb_0 _ _).mpr c57) ?_
      refine g_7 (a := 0) (b := 0) (nx := 53) (by decide +kernel) rfl ?_
      refine g_58 (a := 9876689) (b := 11) (nx := 56) (by decide +kernel) ?_
      refine g_80 (a := 190) (b := 1) (nx := 59) (by decide +kernel) (r := x0) (As := [vL 9876689]) (st' := []) (z := 190) rfl rfl rfl (Nat.le_of_ble_eq_true rfl) h0.2 (Nat.le_of_ble_eq_true rfl) rfl (c_I (by decide +kernel) h (fun y8 M7 h => ?_))
      obtain ⟨r9, h⟩ := h
      by_cases c50 : y8 = 0
      · rw [if_pos c50] at h
        refine g_40t (a := 0) (b := 66) (nx := 62) (by decide +kernel) r9 (by exact (cb_0 _ _).mpr c50) ?_
        refine g_7 (a := 0) (b := 0) (nx := 67) (by decide +kernel) rfl ?_
        refine g_58 (a := 459598) (b := 16) (nx := 70) (by decide +kernel) ?_
        refine g_80 (a := 190) (b := 1) (nx := 73) (by decide +kernel) (r := x0) (As := [vL 459598]) (st' := []) (z := 190) rfl rfl rfl (Nat.le_of_ble_eq_true rfl) h0.2 (Nat.le_of_ble_eq_true rfl) rfl (c_I (by decide +kernel) h (fun y11 M10 h => ?_))
        obtain ⟨r12, h⟩ := h
        by_cases c43 : y11 = 0
        · rw [if_pos c43] at h
          refine g_40t (a := 0) (b := 80) (nx := 76) (by decide +kernel) r12 (by exact (cb_0 _ _).mpr c43) ?_
          refine g_7 (a := 0) (b := 0) (nx := 81) (by decide +kernel) rfl ?_
          refine g_58 (a := 1489880) (b := 1) (nx := 84) (by decide +kernel) ?_
          refine g_80 (a := 190) (b := 1) (nx := 87) (by decide +kernel) (r := x0) (As := [vL 1489880]) (st' := []) (z := 190) rfl rfl rfl (Nat.le_of_ble_eq_true rfl) h0.2 (Nat.le_of_ble_eq_true rfl) rfl (c_I (by decide +kernel) h (fun y14 M13 h => ?_))
          obtain ⟨r15, h⟩ := h
          by_cases c36 : y14 = 0
          · rw [if_pos c36] at h
            refine g_40t (a := 0) (b := 94) (nx := 90) (by decide +kernel) r15 (by exact (cb_0 _ _).mpr c36) ?_
            refine g_7 (a := 0) (b := 0) (nx := 95) (by decide +kernel) rfl ?_
            refine g_58 (a := 1831769) (b := 2) (nx := 98) (by decide +kernel) ?_
            refine g_80 (a := 190) (b := 1) (nx := 101) (by decide +kernel) (r := x0) (As := [vL 1831769]) (st' := []) (z := 190) rfl rfl rfl (Nat.le_of_ble_eq_true rfl) h0.2 (Nat.le_of_ble_eq_true rfl) rfl (c_I (by decide +kernel) h (fun y17 M16 h => ?_))
            obtain ⟨r18, h⟩ := h
            by_cases c29 : y17 = 0
            · rw [if_pos c29] at h
              refine g_40t (a := 0) (b := 108) (nx := 104) (by decide +kernel) r18 (by exact (cb_0 _ _).mpr c29) ?_
              refine g_1 (a := (-1)) (b := 0) (nx := 109) (by decide +kernel) ?_
              refine g_8 (a := 1) (b := 0) (nx := 110) (by decide +kernel) rfl (ls' := [some (vR x0), some (vI (-1)), none]) rfl ?_
              refine g_7 (a := 0) (b := 0) (nx := 111) (by decide +kernel) rfl ?_
              refine g_80 (a := 189) (b := 0) (nx := 114) (by decide +kernel) (r := x0) (As := []) (st' := []) (z := 189) rfl rfl rfl (Nat.le_of_ble_eq_true rfl) h0.2 (Nat.le_of_ble_eq_true rfl) rfl (c_I (by decide +kernel) h (fun y20 M19 h => ?_))
              obtain ⟨r21, h⟩ := h
              by_cases c22 : y20 = 0
              · rw [if_pos c22] at h
                refine g_40t (a := 0) (b := 139) (nx := 117) (by decide +kernel) r21 (by exact (cb_0 _ _).mpr c22) ?_
                exact h
              · rw [if_neg c22] at h
                refine g_40f (a := 0) (b := 139) (nx := 117) (by decide +kernel) r21 (by exact fun hz => c22 ((cb_0 _ _).mp hz)) ?_
                refine g_5 (a := 1) (b := 0) (nx := 118) (by decide +kernel) rfl ?_
                refine g_1 (a := (-1)) (b := 0) (nx := 119) (by decide +kernel) ?_
                refine g_41t (a := 0) (b := 134) (nx := 122) (by decide +kernel) (by decide +kernel) ?_
                exact h
            · rw [if_neg c29] at h
              refine g_40f (a := 0) (b := 108) (nx := 104) (by decide +kernel) r18 (by exact fun hz => c29 ((cb_0 _ _).mp hz)) ?_
              refine g_1 (a := 5) (b := 0) (nx := 105) (by decide +kernel) ?_
              refine g_44 (a := 0) (b := 109) (nx := 108) (by decide +kernel) ?_
              refine g_8 (a := 1) (b := 0) (nx := 110) (by decide +kernel) rfl (ls' := [some (vR x0), some (vI 5), none]) rfl ?_
              refine g_7 (a := 0) (b := 0) (nx := 111) (by decide +kernel) rfl ?_
              refine g_80 (a := 189) (b := 0) (nx := 114) (by decide +kernel) (r := x0) (As := []) (st' := []) (z := 189) rfl rfl rfl (Nat.le_of_ble_eq_true rfl) h0.2 (Nat.le_of_ble_eq_true rfl) rfl (c_I (by decide +kernel) h (fun y24 M23 h => ?_))
              obtain ⟨r25, h⟩ := h
              by_cases c28 : y24 = 0
              · rw [if_pos c28] at h
                refine g_40t (a := 0) (b := 139) (nx := 117) (by decide +kernel) r25 (by exact (cb_0 _ _).mpr c28) ?_
                exact h
              · rw [if_neg c28] at h
                refine g_40f (a := 0) (b := 139) (nx := 117) (by decide +kernel) r25 (by exact fun hz => c28 ((cb_0 _ _).mp hz)) ?_
                refine g_5 (a := 1) (b := 0) (nx := 118) (by decide +kernel) rfl ?_
                refine g_1 (a := (-1)) (b := 0) (nx := 119) (by decide +kernel) ?_
                refine g_41f (a := 0) (b := 134) (nx := 122) (by decide +kernel) (by decide +kernel) ?_
                refine g_7 (a := 0) (b := 0) (nx := 123) (by decide +kernel) rfl ?_
                refine g_50 (a := 12) (b := 26) (nx := 126) (by decide +kernel) h0 ?_
                refine g_5 (a := 1) (b := 0) (nx := 127) (by decide +kernel) rfl ?_
                refine g_23 (a := 0) (b := 0) (nx := 128) (by decide +kernel) ⟨by decide, by decide, h.1⟩ ?_
                show WR 199 128 [some (vR x0), some (vI 5), none] [vI ((M23 x0 26) / 32)] M23 Q
                replace h := h.2
                refine g_1 (a := 1) (b := 0) (nx := 129) (by decide +kernel) ?_
                refine g_20 (a := 0) (b := 0) (nx := 130) (by decide +kernel) ?_
                refine g_1 (a := 1) (b := 0) (nx := 131) (by decide +kernel) ?_
                obtain ⟨r26, h⟩ := h
                by_cases c27 : (and32 ((M23 x0 26) / 32) 1) = 1
                · rw [if_pos c27] at h
                  refine g_41f (a := 1) (b := 139) (nx := 134) (by decide +kernel) (by rw [wr_id r26, wr_id (show inR 1 by decide)]; exact fun hz => ((cb_1 _ _).mp hz) c27) ?_
                  exact h
                · rw [if_neg c27] at h
                  refine g_41t (a := 1) (b := 139) (nx := 134) (by decide +kernel) (by rw [wr_id r26, wr_id (show inR 1 by decide)]; exact (cb_1 _ _).mpr c27) ?_
                  exact h
          · rw [if_neg c36] at h
            refine g_40f (a := 0) (b := 94) (nx := 90) (by decide +kernel) r15 (by exact fun hz => c36 ((cb_0 _ _).mp hz)) ?_
            refine g_1 (a := 4) (b := 0) (nx := 91) (by decide +kernel) ?_
            refine g_44 (a := 0) (b := 109) (nx := 94) (by decide +kernel) ?_
            refine g_8 (a := 1) (b := 0) (nx := 110) (by decide +kernel) rfl (ls' := [some (vR x0), some (vI 4), none]) rfl ?_
            refine g_7 (a := 0) (b := 0) (nx := 111) (by decide +kernel) rfl ?_
            refine g_80 (a := 189) (b := 0) (nx := 114) (by decide +kernel) (r := x0) (As := []) (st' := []) (z := 189) rfl rfl rfl (Nat.le_of_ble_eq_true rfl) h0.2 (Nat.le_of_ble_eq_true rfl) rfl (c_I (by decide +kernel) h (fun y31 M30 h => ?_))
            obtain ⟨r32, h⟩ := h
            by_cases c35 : y31 = 0
            · rw [if_pos c35] at h
              refine g_40t (a := 0) (b := 139) (nx := 117) (by decide +kernel) r32 (by exact (cb_0 _ _).mpr c35) ?_
              exact h
            · rw [if_neg c35] at h
              refine g_40f (a := 0) (b := 139) (nx := 117) (by decide +kernel) r32 (by exact fun hz => c35 ((cb_0 _ _).mp hz)) ?_
              refine g_5 (a := 1) (b := 0) (nx := 118) (by decide +kernel) rfl ?_
              refine g_1 (a := (-1)) (b := 0) (nx := 119) (by decide +kernel) ?_
              refine g_41f (a := 0) (b := 134) (nx := 122) (by decide +kernel) (by decide +kernel) ?_
              refine g_7 (a := 0) (b := 0) (nx := 123) (by decide +kernel) rfl ?_
              refine g_50 (a := 12) (b := 26) (nx := 126) (by decide +kernel) h0 ?_
              refine g_5 (a := 1) (b := 0) (nx := 127) (by decide +kernel) rfl ?_
              refine g_23 (a := 0) (b := 0) (nx := 128) (by decide +kernel) ⟨by decide, by decide, h.1⟩ ?_
              show WR 199 128 [some (vR x0), some (vI 4), none] [vI ((M30 x0 26) / 16)] M30 Q
              replace h := h.2
              refine g_1 (a := 1) (b := 0) (nx := 129) (by decide +kernel) ?_
              refine g_20 (a := 0) (b := 0) (nx := 130) (by decide +kernel) ?_
              refine g_1 (a := 1) (b := 0) (nx := 131) (by decide +kernel) ?_
              obtain ⟨r33, h⟩ := h
              by_cases c34 : (and32 ((M30 x0 26) / 16) 1) = 1
              · rw [if_pos c34] at h
                refine g_41f (a := 1) (b := 139) (nx := 134) (by decide +kernel) (by rw [wr_id r33, wr_id (show inR 1 by decide)]; exact fun hz => ((cb_1 _ _).mp hz) c34) ?_
                exact h
              · rw [if_neg c34] at h
                refine g_41t (a := 1) (b := 139) (nx := 134) (by decide +kernel) (by rw [wr_id r33, wr_id (show inR 1 by decide)]; exact (cb_1 _ _).mpr c34) ?_
                exact h
        · rw [if_neg c43] at h
          refine g_40f (a := 0) (b := 80) (nx := 76) (by decide +kernel) r12 (by exact fun hz => c43 ((cb_0 _ _).mp hz)) ?_
          refine g_1 (a := 3) (b := 0) (nx := 77) (by decide +kernel) ?_
          refine g_44 (a := 0) (b := 109) (nx := 80) (by decide +kernel) ?_
          refine g_8 (a := 1) (b := 0) (nx := 110) (by decide +kernel) rfl (ls' := [some (vR x0), some (vI 3), none]) rfl ?_
          refine g_7 (a := 0) (b := 0) (nx := 111) (by decide +kernel) rfl ?_
          refine g_80 (a := 189) (b := 0) (nx := 114) (by decide +kernel) (r := x0) (As := []) (st' := []) (z := 189) rfl rfl rfl (Nat.le_of_ble_eq_true rfl) h0.2 (Nat.le_of_ble_eq_true rfl) rfl (c_I (by decide +kernel) h (fun y38 M37 h => ?_))
          obtain ⟨r39, h⟩ := h
          by_cases c42 : y38 = 0
          · rw [if_pos c42] at h
            refine g_40t (a := 0) (b := 139) (nx := 117) (by decide +kernel) r39 (by exact (cb_0 _ _).mpr c42) ?_
            exact h
          · rw [if_neg c42] at h
            refine g_40f (a := 0) (b := 139) (nx := 117) (by decide +kernel) r39 (by exact fun hz => c42 ((cb_0 _ _).mp hz)) ?_
            refine g_5 (a := 1) (b := 0) (nx := 118) (by decide +kernel) rfl ?_
            refine g_1 (a := (-1)) (b := 0) (nx := 119) (by decide +kernel) ?_
            refine g_41f (a := 0) (b := 134) (nx := 122) (by decide +kernel) (by decide +kernel) ?_
            refine g_7 (a := 0) (b := 0) (nx := 123) (by decide +kernel) rfl ?_
            refine g_50 (a := 12) (b := 26) (nx := 126) (by decide +kernel) h0 ?_
            refine g_5 (a := 1) (b := 0) (nx := 127) (by decide +kernel) rfl ?_
            refine g_23 (a := 0) (b := 0) (nx := 128) (by decide +kernel) ⟨by decide, by decide, h.1⟩ ?_
            show WR 199 128 [some (vR x0), some (vI 3), none] [vI ((M37 x0 26) / 8)] M37 Q
            replace h := h.2
            refine g_1 (a := 1) (b := 0) (nx := 129) (by decide +kernel) ?_
            refine g_20 (a := 0) (b := 0) (nx := 130) (by decide +kernel) ?_
            refine g_1 (a := 1) (b := 0) (nx := 131) (by decide +kernel) ?_
            obtain ⟨r40, h⟩ := h
            by_cases c41 : (and32 ((M37 x0 26) / 8) 1) = 1
            · rw [if_pos c41] at h
              refine g_41f (a := 1) (b := 139) (nx := 134) (by decide +kernel) (by rw [wr_id r40, wr_id (show inR 1 by decide)]; exact fun hz => ((cb_1 _ _).mp hz) c41) ?_
              exact h
            · rw [if_neg c41] at h
              refine g_41t (a := 1) (b := 139) (nx := 134) (by decide +kernel) (by rw [wr_id r40, wr_id (show inR 1 by decide)]; exact (cb_1 _ _).mpr c41) ?_
              exact h
      · rw [if_neg c50] at h
        refine g_40f (a := 0) (b := 66) (nx := 62) (by decide +kernel) r9 (by exact fun hz => c50 ((cb_0 _ _).mp hz)) ?_
        refine g_1 (a := 2) (b := 0) (nx := 63) (by decide +kernel) ?_
        refine g_44 (a := 0) (b := 109) (nx := 66) (by decide +kernel) ?_
        refine g_8 (a := 1) (b := 0) (nx := 110) (by decide +kernel) rfl (ls' := [some (vR x0), some (vI 2), none]) rfl ?_
        refine g_7 (a := 0) (b := 0) (nx := 111) (by decide +kernel) rfl ?_
        refine g_80 (a := 189) (b := 0) (nx := 114) (by decide +kernel) (r := x0) (As := []) (st' := []) (z := 189) rfl rfl rfl (Nat.le_of_ble_eq_true rfl) h0.2 (Nat.le_of_ble_eq_true rfl) rfl (c_I (by decide +kernel) h (fun y45 M44 h => ?_))
        obtain ⟨r46, h⟩ := h
        by_cases c49 : y45 = 0
        · rw [if_pos c49] at h
          refine g_40t (a := 0) (b := 139) (nx := 117) (by decide +kernel) r46 (by exact (cb_0 _ _).mpr c49) ?_
          exact h
        · rw [if_neg c49] at h
          refine g_40f (a := 0) (b := 139) (nx := 117) (by decide +kernel) r46 (by exact fun hz => c49 ((cb_0 _ _).mp hz)) ?_
          refine g_5 (a := 1) (b := 0) (nx := 118) (by decide +kernel) rfl ?_
          refine g_1 (a := (-1)) (b := 0) (nx := 119) (by decide +kernel) ?_
          refine g_41f (a := 0) (b := 134) (nx := 122) (by decide +kernel) (by decide +kernel) ?_
          refine g_7 (a := 0) (b := 0) (nx := 123) (by decide +kernel) rfl ?_
          refine g_50 (a := 12) (b := 26) (nx := 126) (by decide +kernel) h0 ?_
          refine g_5 (a := 1) (b := 0) (nx := 127) (by decide +kernel) rfl ?_
          refine g_23 (a := 0) (b := 0) (nx := 128) (by decide +kernel) ⟨by decide, by decide, h.1⟩ ?_
          show WR 199 128 [some (vR x0), some (vI 2), none] [vI ((M44 x0 26) / 4)] M44 Q
          replace h := h.2
          refine g_1 (a := 1) (b := 0) (nx := 129) (by decide +kernel) ?_
          refine g_20 (a := 0) (b := 0) (nx := 130) (by decide +kernel) ?_
          refine g_1 (a := 1) (b := 0) (nx := 131) (by decide +kernel) ?_
          obtain ⟨r47, h⟩ := h
          by_cases c48 : (and32 ((M44 x0 26) / 4) 1) = 1
          · rw [if_pos c48] at h
            refine g_41f (a := 1) (b := 139) (nx := 134) (by decide +kernel) (by rw [wr_id r47, wr_id (show inR 1 by decide)]; exact fun hz => ((cb_1 _ _).mp hz) c48) ?_
            exact h
          · rw [if_neg c48] at h
            refine g_41t (a := 1) (b := 139) (nx := 134) (by decide +kernel) (by rw [wr_id r47, wr_id (show inR 1 by decide)]; exact (cb_1 _ _).mpr c48) ?_
            exact h
    · rw [if_neg c57] at h
      refine g_40f (a := 0) (b := 52) (nx := 48) (by decide +kernel) r6 (by exact fun hz => c57 ((cb_0 _ _).mp hz)) ?_
      refine g_1 (a := 1) (b := 0) (nx := 49) (by decide +kernel) ?_
      refine g_44 (a := 0) (b := 109) (nx := 52) (by decide +kernel) ?_
      refine g_8 (a := 1) (b := 0) (nx := 110) (by decide +kernel) rfl (ls' := [some (vR x0), some (vI 1), none]) rfl ?_
      refine g_7 (a := 0) (b := 0) (nx := 111) (by decide +kernel) rfl ?_
      refine g_80 (a := 189) (b := 0) (nx := 114) (by decide +kernel) (r := x0) (As := []) (st' := []) (z := 189) rfl rfl rfl (Nat.le_of_ble_eq_true rfl) h0.2 (Nat.le_of_ble_eq_true rfl) rfl (c_I (by decide +kernel) h (fun y52 M51 h => ?_))
      obtain ⟨r53, h⟩ := h
      by_cases c56 : y52 = 0
      · rw [if_pos c56] at h
        refine g_40t (a := 0) (b := 139) (nx := 117) (by decide +kernel) r53 (by exact (cb_0 _ _).mpr c56) ?_
        exact h
      · rw [if_neg c56] at h
        refine g_40f (a := 0) (b := 139) (nx := 117) (by decide +kernel) r53 (by exact fun hz => c56 ((cb_0 _ _).mp hz)) ?_
        refine g_5 (a := 1) (b := 0) (nx := 118) (by decide +kernel) rfl ?_
        refine g_1 (a := (-1)) (b := 0) (nx := 119) (by decide +kernel) ?_
        refine g_41f (a := 0) (b := 134) (nx := 122) (by decide +kernel) (by decide +kernel) ?_
        refine g_7 (a := 0) (b := 0) (nx := 123) (by decide +kernel) rfl ?_
        refine g_50 (a := 12) (b := 26) (nx := 126) (by decide +kernel) h0 ?_
        refine g_5 (a := 1) (b := 0) (nx := 127) (by decide +kernel) rfl ?_
        refine g_23 (a := 0) (b := 0) (nx := 128) (by decide +kernel) ⟨by decide, by decide, h.1⟩ ?_
        show WR 199 128 [some (vR x0), some (vI 1), none] [vI ((M51 x0 26) / 2)] M51 Q
        replace h := h.2
        refine g_1 (a := 1) (b := 0) (nx := 129) (by decide +kernel) ?_
        refine g_20 (a := 0) (b := 0) (nx := 130) (by decide +kernel) ?_
        refine g_1 (a := 1) (b := 0) (nx := 131) (by decide +kernel) ?_
        obtain ⟨r54, h⟩ := h
        by_cases c55 : (and32 ((M51 x0 26) / 2) 1) = 1
        · rw [if_pos c55] at h
          refine g_41f (a := 1) (b := 139) (nx := 134) (by decide +kernel) (by rw [wr_id r54, wr_id (show inR 1 by decide)]; exact fun hz => ((cb_1 _ _).mp hz) c55) ?_
          exact h
        · rw [if_neg c55] at h
          refine g_41t (a := 1) (b := 139) (nx := 134) (by decide +kernel) (by rw [wr_id r54, wr_id (show inR 1 by decide)]; exact (cb_1 _ _).mpr c55) ?_
          exact h
  · rw [if_neg c64] at h
    refine g_40f (a := 0) (b := 38) (nx := 34) (by decide +kernel) r3 (by exact fun hz => c64 ((cb_0 _ _).mp hz)) ?_
    refine g_1 (a := 0) (b := 0) (nx := 35) (by decide +kernel) ?_
    refine g_44 (a := 0) (b := 109) (nx := 38) (by decide +kernel) ?_
    refine g_8 (a := 1) (b := 0) (nx := 110) (by decide +kernel) rfl (ls' := [some (vR x0), some (vI 0), none]) rfl ?_
    refine g_7 (a := 0) (b := 0) (nx := 111) (by decide +kernel) rfl ?_
    refine g_80 (a := 189) (b := 0) (nx := 114) (by decide +kernel) (r := x0) (As := []) (st' := []) (z := 189) rfl rfl rfl (Nat.le_of_ble_eq_true rfl) h0.2 (Nat.le_of_ble_eq_true rfl) rfl (c_I (by decide +kernel) h (fun y59 M58 h => ?_))
    obtain ⟨r60, h⟩ := h
    by_cases c63 : y59 = 0
    · rw [if_pos c63] at h
      refine g_40t (a := 0) (b := 139) (nx := 117) (by decide +kernel) r60 (by exact (cb_0 _ _).mpr c63) ?_
      exact h
    · rw [if_neg c63] at h
      refine g_40f (a := 0) (b := 139) (nx := 117) (by decide +kernel) r60 (by exact fun hz => c63 ((cb_0 _ _).mp hz)) ?_
      refine g_5 (a := 1) (b := 0) (nx := 118) (by decide +kernel) rfl ?_
      refine g_1 (a := (-1)) (b := 0) (nx := 119) (by decide +kernel) ?_
      refine g_41f (a := 0) (b := 134) (nx := 122) (by decide +kernel) (by decide +kernel) ?_
      refine g_7 (a := 0) (b := 0) (nx := 123) (by decide +kernel) rfl ?_
      refine g_50 (a := 12) (b := 26) (nx := 126) (by decide +kernel) h0 ?_
      refine g_5 (a := 1) (b := 0) (nx := 127) (by decide +kernel) rfl ?_
      refine g_23 (a := 0) (b := 0) (nx := 128) (by decide +kernel) ⟨by decide, by decide, h.1⟩ ?_
      show WR 199 128 [some (vR x0), some (vI 0), none] [vI ((M58 x0 26) / 1)] M58 Q
      replace h := h.2
      refine g_1 (a := 1) (b := 0) (nx := 129) (by decide +kernel) ?_
      refine g_20 (a := 0) (b := 0) (nx := 130) (by decide +kernel) ?_
      refine g_1 (a := 1) (b := 0) (nx := 131) (by decide +kernel) ?_
      obtain ⟨r61, h⟩ := h
      by_cases c62 : (and32 ((M58 x0 26) / 1) 1) = 1
      · rw [if_pos c62] at h
        refine g_41f (a := 1) (b := 139) (nx := 134) (by decide +kernel) (by rw [wr_id r61, wr_id (show inR 1 by decide)]; exact fun hz => ((cb_1 _ _).mp hz) c62) ?_
        exact h
      · rw [if_neg c62] at h
        refine g_41t (a := 1) (b := 139) (nx := 134) (by decide +kernel) (by rw [wr_id r61, wr_id (show inR 1 by decide)]; exact (cb_1 _ _).mpr c62) ?_
        exact h
theorem t_199_134 {x0 x1 : Int} {M : Mem} {Q : AV → Mem → Prop} (h0 : gO 12 x0) (h : WV 188 [vR x0, vI 2] M (fun M1 => WR 199 139 [some (vR x0), some (vI x1), none] [] M1 Q)) : WR 199 134 [some (vR x0), some (vI x1), none] [] M Q := by
  refine g_7 (a := 0) (b := 0) (nx := 135) (by decide +kernel) rfl ?_
  refine g_1 (a := 2) (b := 0) (nx := 136) (by decide +kernel) ?_
  refine g_80 (a := 188) (b := 1) (nx := 139) (by decide +kernel) (r := x0) (As := [vI 2]) (st' := []) (z := 188) rfl rfl rfl (Nat.le_of_ble_eq_true rfl) h0.2 (Nat.le_of_ble_eq_true rfl) rfl (c_V (by decide +kernel) h (fun M1 h => ?_))
  exact h
theorem t_199_139 {x0 x1 : Int} {M : Mem} {Q : AV → Mem → Prop} (h0 : gO 12 x0) (h : inR (M x0 8) ∧ (if (M x0 8) ≤ 0 then ((0 ≤ x1 ∧ x1 < 32) ∧ WV 187 [vR x0] (upM M x0 26 (or32 (M x0 26) ((1 : Int) * 2 ^ (x1).toNat))) (fun M2 => WI 192 [vR x0, vI 0, vI 999] M2 (fun y5 M4 => WI 189 [vR x0] M4 (fun y7 M6 => inR y7 ∧ (if y7 = 0 then (WR 199 186 [some (vR x0), some (vI x1), some (vI y5)] [] M6 Q) else ((gA 20 (M6 x0 36) x1) ∧ WR 199 186 [some (vR x0), some (vI x1), some (vI y5)] [] (upM M6 (M6 x0 36) x1 y5) Q)))))) else (Q (vI 0) M))) : WR 199 139 [some (vR x0), some (vI x1), none] [] M Q := by
  refine g_7 (a := 0) (b := 0) (nx := 140) (by decide +kernel) rfl ?_
  refine g_50 (a := 12) (b := 8) (nx := 143) (by decide +kernel) h0 ?_
  obtain ⟨r1, h⟩ := h
  by_cases c10 : (M x0 8) ≤ 0
  · rw [if_pos c10] at h
    refine g_40t (a := 5) (b := 147) (nx := 146) (by decide +kernel) r1 (by exact (cb_5 _ _).mpr c10) ?_
    refine g_7 (a := 0) (b := 0) (nx := 148) (by decide +kernel) rfl ?_
    refine g_13 (a := 0) (b := 0) (nx := 149) (by decide +kernel) rfl ?_
    refine g_50 (a := 12) (b := 26) (nx := 152) (by decide +kernel) h0 ?_
    refine g_1 (a := 1) (b := 0) (nx := 153) (by decide +kernel) ?_
    refine g_5 (a := 1) (b := 0) (nx := 154) (by decide +kernel) rfl ?_
    refine g_22 (a := 0) (b := 0) (nx := 155) (by decide +kernel) h.1 ?_
    show WR 199 155 [some (vR x0), some (vI x1), none] [vI ((1 : Int) * 2 ^ (x1).toNat), vI (M x0 26), vR x0] M Q
    replace h := h.2
    refine g_21 (a := 0) (b := 0) (nx := 156) (by decide +kernel) ?_
    refine g_53 (a := 12) (b := 26) (nx := 159) (by decide +kernel) h0 ?_
    refine g_7 (a := 0) (b := 0) (nx := 160) (by decide +kernel) rfl ?_
    refine g_80 (a := 187) (b := 0) (nx := 163) (by decide +kernel) (r := x0) (As := []) (st' := []) (z := 187) rfl rfl rfl (Nat.le_of_ble_eq_true rfl) h0.2 (Nat.le_of_ble_eq_true rfl) rfl (c_V (by decide +kernel) h (fun M2 h => ?_))
    refine g_7 (a := 0) (b := 0) (nx := 164) (by decide +kernel) rfl ?_
    refine g_1 (a := 0) (b := 0) (nx := 165) (by decide +kernel) ?_
    refine g_1 (a := 999) (b := 0) (nx := 168) (by decide +kernel) ?_
    refine g_80 (a := 192) (b := 2) (nx := 171) (by decide +kernel) (r := x0) (As := [vI 0, vI 999]) (st' := []) (z := 192) rfl rfl rfl (Nat.le_of_ble_eq_true rfl) h0.2 (Nat.le_of_ble_eq_true rfl) rfl (c_I (by decide +kernel) h (fun y5 M4 h => ?_))
    refine g_8 (a := 2) (b := 0) (nx := 172) (by decide +kernel) rfl (ls' := [some (vR x0), some (vI x1), some (vI y5)]) rfl ?_
    refine g_7 (a := 0) (b := 0) (nx := 173) (by decide +kernel) rfl ?_
    refine g_80 (a := 189) (b := 0) (nx := 176) (by decide +kernel) (r := x0) (As := []) (st' := []) (z := 189) rfl rfl rfl (Nat.le_of_ble_eq_true rfl) h0.2 (Nat.le_of_ble_eq_true rfl) rfl (c_I (by decide +kernel) h (fun y7 M6 h => ?_))
    obtain ⟨r8, h⟩ := h
    by_cases c9 : y7 = 0
    · rw [if_pos c9] at h
      refine g_40t (a := 0) (b := 186) (nx := 179) (by decide +kernel) r8 (by exact (cb_0 _ _).mpr c9) ?_
      exact h
    · rw [if_neg c9] at h
      refine g_40f (a := 0) (b := 186) (nx := 179) (by decide +kernel) r8 (by exact fun hz => c9 ((cb_0 _ _).mp hz)) ?_
      refine g_7 (a := 0) (b := 0) (nx := 180) (by decide +kernel) rfl ?_
      refine g_52 (a := 12) (b := 36) (nx := 183) (by decide +kernel) h0 ?_
      refine g_5 (a := 1) (b := 0) (nx := 184) (by decide +kernel) rfl ?_
      refine g_5 (a := 2) (b := 0) (nx := 185) (by decide +kernel) rfl ?_
      refine g_62 (a := 0) (b := 0) (nx := 186) (by decide +kernel) h.1 ?_
      replace h := h.2
      exact h
  · rw [if_neg c10] at h
    refine g_40f (a := 5) (b := 147) (nx := 146) (by decide +kernel) r1 (by exact fun hz => c10 ((cb_5 _ _).mp hz)) ?_
    exact g_90 (a := 0) (b := 0) (nx := 147) (by decide +kernel) h
theorem t_199_186 {x0 x1 x2 : Int} {M : Mem} {Q : AV → Mem → Prop} (h0 : gO 12 x0) (h : Q (vI 0) M) : WR 199 186 [some (vR x0), some (vI x1), some (vI x2)] [] M Q := by
  exact g_90 (a := 0) (b := 0) (nx := 187) (by decide +kernel) h
-- 200 SyllableMakerModel.closeLine()V
theorem t_200 {x0 : Int} {M : Mem} {Q : AV → Mem → Prop} (h0 : gO 12 x0) (h : WV 198 [vR x0, vI 1] M (fun M1 => WI 192 [vR x0, vI 0, vI 4] M1 (fun y4 M3 => WI 192 [vR x0, vI 0, vI 9] (upM M3 x0 19 y4) (fun y6 M5 => Q (vI 0) (upM M5 x0 20 y6))))) : WC 200 [vR x0] M Q := by
  show WR 200 0 [some (vR x0)] [] M Q
  refine g_7 (a := 0) (b := 0) (nx := 1) (by decide +kernel) rfl ?_
  refine g_1 (a := 1) (b := 0) (nx := 2) (by decide +kernel) ?_
  refine g_80 (a := 198) (b := 1) (nx := 5) (by decide +kernel) (r := x0) (As := [vI 1]) (st' := []) (z := 198) rfl rfl rfl (Nat.le_of_ble_eq_true rfl) h0.2 (Nat.le_of_ble_eq_true rfl) rfl (c_V (by decide +kernel) h (fun M1 h => ?_))
  refine g_7 (a := 0) (b := 0) (nx := 6) (by decide +kernel) rfl ?_
  refine g_7 (a := 0) (b := 0) (nx := 7) (by decide +kernel) rfl ?_
  refine g_1 (a := 0) (b := 0) (nx := 8) (by decide +kernel) ?_
  refine g_1 (a := 4) (b := 0) (nx := 9) (by decide +kernel) ?_
  refine g_80 (a := 192) (b := 2) (nx := 12) (by decide +kernel) (r := x0) (As := [vI 0, vI 4]) (st' := [vR x0]) (z := 192) rfl rfl rfl (Nat.le_of_ble_eq_true rfl) h0.2 (Nat.le_of_ble_eq_true rfl) rfl (c_I (by decide +kernel) h (fun y4 M3 h => ?_))
  refine g_53 (a := 12) (b := 19) (nx := 15) (by decide +kernel) h0 ?_
  refine g_7 (a := 0) (b := 0) (nx := 16) (by decide +kernel) rfl ?_
  refine g_7 (a := 0) (b := 0) (nx := 17) (by decide +kernel) rfl ?_
  refine g_1 (a := 0) (b := 0) (nx := 18) (by decide +kernel) ?_
  refine g_1 (a := 9) (b := 0) (nx := 20) (by decide +kernel) ?_
  refine g_80 (a := 192) (b := 2) (nx := 23) (by decide +kernel) (r := x0) (As := [vI 0, vI 9]) (st' := [vR x0]) (z := 192) rfl rfl rfl (Nat.le_of_ble_eq_true rfl) h0.2 (Nat.le_of_ble_eq_true rfl) rfl (c_I (by decide +kernel) h (fun y6 M5 h => ?_))
  refine g_53 (a := 12) (b := 20) (nx := 26) (by decide +kernel) h0 ?_
  exact g_90 (a := 0) (b := 0) (nx := 27) (by decide +kernel) h
-- 201 SyllableMakerModel.weighLine()V
theorem t_201 {x0 : Int} {M : Mem} {Q : AV → Mem → Prop} (h0 : gO 12 x0) (h : WV 198 [vR x0, vI 2] M (fun M1 => WR 201 7 [some (vR x0), some (vI 0)] [] M1 Q)) : WC 201 [vR x0] M Q := by
  show WR 201 0 [some (vR x0), none] [] M Q
  refine g_7 (a := 0) (b := 0) (nx := 1) (by decide +kernel) rfl ?_
  refine g_1 (a := 2) (b := 0) (nx := 2) (by decide +kernel) ?_
  refine g_80 (a := 198) (b := 1) (nx := 5) (by decide +kernel) (r := x0) (As := [vI 2]) (st' := []) (z := 198) rfl rfl rfl (Nat.le_of_ble_eq_true rfl) h0.2 (Nat.le_of_ble_eq_true rfl) rfl (c_V (by decide +kernel) h (fun M1 h => ?_))
  refine g_1 (a := 0) (b := 0) (nx := 6) (by decide +kernel) ?_
  refine g_8 (a := 1) (b := 0) (nx := 7) (by decide +kernel) rfl (ls' := [some (vR x0), some (vI 0)]) rfl ?_
  exact h
theorem t_201_7 {x0 x1 : Int} {M : Mem} {Q : AV → Mem → Prop} (h0 : gO 12 x0) (h : inR x1 ∧ (if 3 ≤ x1 then (WI 192 [vR x0, vI 1, vI 99] M (fun y3 M2 => (gA 20 (M x0 37) 3) ∧ Q (vI 0) (upM M2 (M x0 37) 3 y3))) else (WI 192 [vR x0, vI 0, vI 9] M (fun y5 M4 => (gA 20 (M x0 37) x1) ∧ WR 201 7 [some (vR x0), some (vI (x1 + 1))] [] (upM M4 (M x0 37) x1 y5) Q)))) : WR 201 7 [some (vR x0), some (vI x1)] [] M Q := by
  refine g_5 (a := 1) (b := 0) (nx := 8) (by decide +kernel) rfl ?_
  refine g_1 (a := 3) (b := 0) (nx := 9) (by decide +kernel) ?_
  obtain ⟨r1, h⟩ := h
  by_cases c6 : 3 ≤ x1
  · rw [if_pos c6] at h
    refine g_41t (a := 3) (b := 31) (nx := 12) (by decide +kernel) (by rw [wr_id r1, wr_id (show inR 3 by decide)]; exact (cb_3 _ _).mpr c6) ?_
    refine g_7 (a := 0) (b := 0) (nx := 32) (by decide +kernel) rfl ?_
    refine g_52 (a := 12) (b := 37) (nx := 35) (by decide +kernel) h0 ?_
    refine g_1 (a := 3) (b := 0) (nx := 36) (by decide +kernel) ?_
    refine g_7 (a := 0) (b := 0) (nx := 37) (by decide +kernel) rfl ?_
    refine g_1 (a := 1) (b := 0) (nx := 38) (by decide +kernel) ?_
    refine g_1 (a := 99) (b := 0) (nx := 40) (by decide +kernel) ?_
    refine g_80 (a := 192) (b := 2) (nx := 43) (by decide +kernel) (r := x0) (As := [vI 1, vI 99]) (st' := [vI 3, vR (M x0 37)]) (z := 192) rfl rfl rfl (Nat.le_of_ble_eq_true rfl) h0.2 (Nat.le_of_ble_eq_true rfl) rfl (c_I (by decide +kernel) h (fun y3 M2 h => ?_))
    refine g_62 (a := 0) (b := 0) (nx := 44) (by decide +kernel) h.1 ?_
    replace h := h.2
    exact g_90 (a := 0) (b := 0) (nx := 45) (by decide +kernel) h
  · rw [if_neg c6] at h
    refine g_41f (a := 3) (b := 31) (nx := 12) (by decide +kernel) (by rw [wr_id r1, wr_id (show inR 3 by decide)]; exact fun hz => c6 ((cb_3 _ _).mp hz)) ?_
    refine g_7 (a := 0) (b := 0) (nx := 13) (by decide +kernel) rfl ?_
    refine g_52 (a := 12) (b := 37) (nx := 16) (by decide +kernel) h0 ?_
    refine g_5 (a := 1) (b := 0) (nx := 17) (by decide +kernel) rfl ?_
    refine g_7 (a := 0) (b := 0) (nx := 18) (by decide +kernel) rfl ?_
    refine g_1 (a := 0) (b := 0) (nx := 19) (by decide +kernel) ?_
    refine g_1 (a := 9) (b := 0) (nx := 21) (by decide +kernel) ?_
    refine g_80 (a := 192) (b := 2) (nx := 24) (by decide +kernel) (r := x0) (As := [vI 0, vI 9]) (st' := [vI x1, vR (M x0 37)]) (z := 192) rfl rfl rfl (Nat.le_of_ble_eq_true rfl) h0.2 (Nat.le_of_ble_eq_true rfl) rfl (c_I (by decide +kernel) h (fun y5 M4 h => ?_))
    refine g_62 (a := 0) (b := 0) (nx := 25) (by decide +kernel) h.1 ?_
    replace h := h.2
    refine g_11 (a := 1) (b := 1) (nx := 28) (by decide +kernel) rfl rfl (ls' := [some (vR x0), some (vI (x1 + 1))]) rfl ?_
    refine g_44 (a := 0) (b := 7) (nx := 31) (by decide +kernel) ?_
    exact h
-- 202 SyllableMakerModel.stressLine()V
theorem t_202 {x0 : Int} {M : Mem} {Q : AV → Mem → Prop} (h0 : gO 12 x0) (h : WV 198 [vR x0, vI 3] M (fun M1 => WI 192 [vR x0, vI 1, vI 4] M1 (fun y4 M3 => WI 189 [vR x0] (upM M3 x0 23 y4) (fun y6 M5 => inR y6 ∧ (if y6 = 0 then (Q (vI 0) M5) else (inR (M5 x0 5) ∧ (if (M5 x0 5) = 2 then (WI 192 [vR x0, vI 0, vI 9] M5 (fun y10 M9 => Q (vI 0) (upM M9 x0 24 y10))) else (Q (vI 0) M5)))))))) : WC 202 [vR x0] M Q := by
  show WR 202 0 [some (vR x0)] [] M Q
  refine g_7 (a := 0) (b := 0) (nx := 1) (by decide +kernel) rfl ?_
  refine g_1 (a := 3) (b := 0) (nx := 2) (by decide +kernel) ?_
  refine g_80 (a := 198) (b := 1) (nx := 5) (by decide +kernel) (r := x0) (As := [vI 3]) (st' := []) (z := 198) rfl rfl rfl (Nat.le_of_ble_eq_true rfl) h0.2 (Nat.le_of_ble_eq_true rfl) rfl (c_V (by decide +kernel) h (fun M1 h => ?_))
  refine g_7 (a := 0) (b := 0) (nx := 6) (by decide +kernel) rfl ?_
  refine g_7 (a := 0) (b := 0) (nx := 7) (by decide +kernel) rfl ?_
  refine g_1 (a := 1) (b := 0) (nx := 8) (by decide +kernel) ?_
  refine g_1 (a := 4) (b := 0) (nx := 9) (by decide +kernel) ?_
  refine g_80 (a := 192) (b := 2) (nx := 12) (by decide +kernel) (r := x0) (As := [vI 1, vI 4]) (st' := [vR x0]) (z := 192) rfl rfl rfl (Nat.le_of_ble_eq_true rfl) h0.2 (Nat.le_of_ble_eq_true rfl) rfl (c_I (by decide +kernel) h (fun y4 M3 h => ?_))
  refine g_53 (a := 12) (b := 23) (nx := 15) (by decide +kernel) h0 ?_
  refine g_7 (a := 0) (b := 0) (nx := 16) (by decide +kernel) rfl ?_
  refine g_80 (a := 189) (b := 0) (nx := 19) (by decide +kernel) (r := x0) (As := []) (st' := []) (z := 189) rfl rfl rfl (Nat.le_of_ble_eq_true rfl) h0.2 (Nat.le_of_ble_eq_true rfl) rfl (c_I (by decide +kernel) h (fun y6 M5 h => ?_))
  obtain ⟨r7, h⟩ := h
  by_cases c12 : y6 = 0
  · rw [if_pos c12] at h
    refine g_40t (a := 0) (b := 41) (nx := 22) (by decide +kernel) r7 (by exact (cb_0 _ _).mpr c12) ?_
    exact g_90 (a := 0) (b := 0) (nx := 42) (by decide +kernel) h
  · rw [if_neg c12] at h
    refine g_40f (a := 0) (b := 41) (nx := 22) (by decide +kernel) r7 (by exact fun hz => c12 ((cb_0 _ _).mp hz)) ?_
    refine g_7 (a := 0) (b := 0) (nx := 23) (by decide +kernel) rfl ?_
    refine g_50 (a := 12) (b := 5) (nx := 26) (by decide +kernel) h0 ?_
    refine g_1 (a := 2) (b := 0) (nx := 27) (by decide +kernel) ?_
    obtain ⟨r8, h⟩ := h
    by_cases c11 : (M5 x0 5) = 2
    · rw [if_pos c11] at h
      refine g_41f (a := 1) (b := 41) (nx := 30) (by decide +kernel) (by rw [wr_id r8, wr_id (show inR 2 by decide)]; exact fun hz => ((cb_1 _ _).mp hz) c11) ?_
      refine g_7 (a := 0) (b := 0) (nx := 31) (by decide +kernel) rfl ?_
      refine g_7 (a := 0) (b := 0) (nx := 32) (by decide +kernel) rfl ?_
      refine g_1 (a := 0) (b := 0) (nx := 33) (by decide +kernel) ?_
      refine g_1 (a := 9) (b := 0) (nx := 35) (by decide +kernel) ?_
      refine g_80 (a := 192) (b := 2) (nx := 38) (by decide +kernel) (r := x0) (As := [vI 0, vI 9]) (st' := [vR x0]) (z := 192) rfl rfl rfl (Nat.le_of_ble_eq_true rfl) h0.2 (Nat.le_of_ble_eq_true rfl) rfl (c_I (by decide +kernel) h (fun y10 M9 h => ?_))
      refine g_53 (a := 12) (b := 24) (nx := 41) (by decide +kernel) h0 ?_
      exact g_90 (a := 0) (b := 0) (nx := 42) (by decide +kernel) h
    · rw [if_neg c11] at h
      refine g_41t (a := 1) (b := 41) (nx := 30) (by decide +kernel) (by rw [wr_id r8, wr_id (show inR 2 by decide)]; exact (cb_1 _ _).mpr c11) ?_
      exact g_90 (a := 0) (b := 0) (nx := 42) (by decide +kernel) h
-- 203 SyllableMakerModel.helpLine()V
theorem t_203 {x0 : Int} {M : Mem} {Q : AV → Mem → Prop} (h0 : gO 12 x0) (h : WV 198 [vR x0, vI 4] M (fun M1 => WV 194 [vR x0, vI 1] M1 (fun M3 => WI 189 [vR x0] M3 (fun y6 M5 => inR y6 ∧ (if y6 = 0 then (inR (M5 x0 8) ∧ (if (M5 x0 8) ≤ 0 then ((gA 20 (M5 x0 12) 0) ∧ (gA 20 (M5 x0 27) (M5 (M5 x0 12) 0)) ∧ WV 187 [vR x0] (upM M5 x0 21 (M5 (M5 x0 27) (M5 (M5 x0 12) 0))) (fun M9 => Q (vI 0) M9)) else (Q (vI 0) M5))) else (inR (M5 x0 7) ∧ (if (M5 x0 7) = 1 then (inR (M5 x0 8) ∧ (if (M5 x0 8) ≤ 0 then ((gA 20 (M5 x0 12) 0) ∧ (gA 20 (M5 x0 27) (M5 (M5 x0 12) 0)) ∧ WV 187 [vR x0] (upM M5 x0 21 (M5 (M5 x0 27) (M5 (M5 x0 12) 0))) (fun M14 => Q (vI 0) M14)) else (Q (vI 0) M5))) else (WV 188 [vR x0, vI 4] M5 (fun M17 => inR (M17 x0 8) ∧ (if (M17 x0 8) ≤ 0 then ((gA 20 (M17 x0 12) 0) ∧ (gA 20 (M17 x0 27) (M17 (M17 x0 12) 0)) ∧ WV 187 [vR x0] (upM M17 x0 21 (M17 (M17 x0 27) (M17 (M17 x0 12) 0))) (fun M20 => Q (vI 0) M20)) else (Q (vI 0) M17))))))))))) : WC 203 [vR x0] M Q := by
  show WR 203 0 [some (vR x0)] [] M Q
  refine g_7 (a := 0) (b := 0) (nx := 1) (by decide +kernel) rfl ?_
  refine g_1 (a := 4) (b := 0) (nx := 2) (by decide +kernel) ?_
  refine g_80 (a := 198) (b := 1) (nx := 5) (by decide +kernel) (r := x0) (As := [vI 4]) (st' := []) (z := 198) rfl rfl rfl (Nat.le_of_ble_eq_true rfl) h0.2 (Nat.le_of_ble_eq_true rfl) rfl (c_V (by decide +kernel) h (fun M1 h => ?_))
  refine g_7 (a := 0) (b := 0) (nx := 6) (by decide +kernel) rfl ?_
  refine g_1 (a := 1) (b := 0) (nx := 7) (by decide +kernel) ?_
  refine g_80 (a := 194) (b := 1) (nx := 10) (by decide +kernel) (r := x0) (As := [vI 1]) (st' := []) (z := 194) rfl rfl rfl (Nat.le_of_ble_eq_true rfl) h0.2 (Nat.le_of_ble_eq_true rfl) rfl (c_V (by decide +kernel) h (fun M3 h => ?_))
  refine g_7 (a := 0) (b := 0) (nx := 11) (by decide +kernel) rfl ?_
  refine g_80 (a := 189) (b := 0) (nx := 14) (by decide +kernel) (r := x0) (As := []) (st' := []) (z := 189) rfl rfl rfl (Nat.le_of_ble_eq_true rfl) h0.2 (Nat.le_of_ble_eq_true rfl) rfl (c_I (by decide +kernel) h (fun y6 M5 h => ?_))
  obtain ⟨r7, h⟩ := h
  by_cases c24 : y6 = 0
  · rw [if_pos c24] at h
    refine g_40t (a := 0) (b := 30) (nx := 17) (by decide +kernel) r7 (by exact (cb_0 _ _).mpr c24) ?_
    refine g_7 (a := 0) (b := 0) (nx := 31) (by decide +kernel) rfl ?_
    refine g_50 (a := 12) (b := 8) (nx := 34) (by decide +kernel) h0 ?_
    obtain ⟨r8, h⟩ := h
    by_cases c11 : (M5 x0 8) ≤ 0
    · rw [if_pos c11] at h
      refine g_40t (a := 5) (b := 38) (nx := 37) (by decide +kernel) r8 (by exact (cb_5 _ _).mpr c11) ?_
      refine g_7 (a := 0) (b := 0) (nx := 39) (by decide +kernel) rfl ?_
      refine g_7 (a := 0) (b := 0) (nx := 40) (by decide +kernel) rfl ?_
      refine g_52 (a := 12) (b := 27) (nx := 43) (by decide +kernel) h0 ?_
      refine g_7 (a := 0) (b := 0) (nx := 44) (by decide +kernel) rfl ?_
      refine g_52 (a := 12) (b := 12) (nx := 47) (by decide +kernel) h0 ?_
      refine g_1 (a := 0) (b := 0) (nx := 48) (by decide +kernel) ?_
      refine g_61 (a := 0) (b := 0) (nx := 49) (by decide +kernel) h.1 ?_
      replace h := h.2
      refine g_61 (a := 0) (b := 0) (nx := 50) (by decide +kernel) h.1 ?_
      replace h := h.2
      refine g_53 (a := 12) (b := 21) (nx := 53) (by decide +kernel) h0 ?_
      refine g_7 (a := 0) (b := 0) (nx := 54) (by decide +kernel) rfl ?_
      refine g_80 (a := 187) (b := 0) (nx := 57) (by decide +kernel) (r := x0) (As := []) (st' := []) (z := 187) rfl rfl rfl (Nat.le_of_ble_eq_true rfl) h0.2 (Nat.le_of_ble_eq_true rfl) rfl (c_V (by decide +kernel) h (fun M9 h => ?_))
      exact g_90 (a := 0) (b := 0) (nx := 58) (by decide +kernel) h
    · rw [if_neg c11] at h
      refine g_40f (a := 5) (b := 38) (nx := 37) (by decide +kernel) r8 (by exact fun hz => c11 ((cb_5 _ _).mp hz)) ?_
      exact g_90 (a := 0) (b := 0) (nx := 38) (by decide +kernel) h
  · rw [if_neg c24] at h
    refine g_40f (a := 0) (b := 30) (nx := 17) (by decide +kernel) r7 (by exact fun hz => c24 ((cb_0 _ _).mp hz)) ?_
    refine g_7 (a := 0) (b := 0) (nx := 18) (by decide +kernel) rfl ?_
    refine g_50 (a := 12) (b := 7) (nx := 21) (by decide +kernel) h0 ?_
    refine g_1 (a := 1) (b := 0) (nx := 22) (by decide +kernel) ?_
    obtain ⟨r12, h⟩ := h
    by_cases c23 : (M5 x0 7) = 1
    · rw [if_pos c23] at h
      refine g_41t (a := 0) (b := 30) (nx := 25) (by decide +kernel) (by rw [wr_id r12, wr_id (show inR 1 by decide)]; exact (cb_0 _ _).mpr c23) ?_
      refine g_7 (a := 0) (b := 0) (nx := 31) (by decide +kernel) rfl ?_
      refine g_50 (a := 12) (b := 8) (nx := 34) (by decide +kernel) h0 ?_
      obtain ⟨r13, h⟩ := h
      by_cases c16 : (M5 x0 8) ≤ 0
      · rw [if_pos c16] at h
        refine g_40t (a := 5) (b := 38) (nx := 37) (by decide +kernel) r13 (by exact (cb_5 _ _).mpr c16) ?_
        refine g_7 (a := 0) (b := 0) (nx := 39) (by decide +kernel) rfl ?_
        refine g_7 (a := 0) (b := 0) (nx := 40) (by decide +kernel) rfl ?_
        refine g_52 (a := 12) (b := 27) (nx := 43) (by decide +kernel) h0 ?_
        refine g_7 (a := 0) (b := 0) (nx := 44) (by decide +kernel) rfl ?_
        refine g_52 (a := 12) (b := 12) (nx := 47) (by decide +kernel) h0 ?_
        refine g_1 (a := 0) (b := 0) (nx := 48) (by decide +kernel) ?_
        refine g_61 (a := 0) (b := 0) (nx := 49) (by decide +kernel) h.1 ?_
        replace h := h.2
        refine g_61 (a := 0) (b := 0) (nx := 50) (by decide +kernel) h.1 ?_
        replace h := h.2
        refine g_53 (a := 12) (b := 21) (nx := 53) (by decide +kernel) h0 ?_
        refine g_7 (a := 0) (b := 0) (nx := 54) (by decide +kernel) rfl ?_
        refine g_80 (a := 187) (b := 0) (nx := 57) (by decide +kernel) (r := x0) (As := []) (st' := []) (z := 187) rfl rfl rfl (Nat.le_of_ble_eq_true rfl) h0.2 (Nat.le_of_ble_eq_true rfl) rfl (c_V (by decide +kernel) h (fun M14 h => ?_))
        exact g_90 (a := 0) (b := 0) (nx := 58) (by decide +kernel) h
      · rw [if_neg c16] at h
        refine g_40f (a := 5) (b := 38) (nx := 37) (by decide +kernel) r13 (by exact fun hz => c16 ((cb_5 _ _).mp hz)) ?_
        exact g_90 (a := 0) (b := 0) (nx := 38) (by decide +kernel) h
    · rw [if_neg c23] at h
      refine g_41f (a := 0) (b := 30) (nx := 25) (by decide +kernel) (by rw [wr_id r12, wr_id (show inR 1 by decide)]; exact fun hz => c23 ((cb_0 _ _).mp hz)) ?_
      refine g_7 (a := 0) (b := 0) (nx := 26) (by decide +kernel) rfl ?_
      refine g_1 (a := 4) (b := 0) (nx := 27) (by decide +kernel) ?_
      refine g_80 (a := 188) (b := 1) (nx := 30) (by decide +kernel) (r := x0) (As := [vI 4]) (st' := []) (z := 188) rfl rfl rfl (Nat.le_of_ble_eq_true rfl) h0.2 (Nat.le_of_ble_eq_true rfl) rfl (c_V (by decide +kernel) h (fun M17 h => ?_))
      refine g_7 (a := 0) (b := 0) (nx := 31) (by decide +kernel) rfl ?_
      refine g_50 (a := 12) (b := 8) (nx := 34) (by decide +kernel) h0 ?_
      obtain ⟨r19, h⟩ := h
      by_cases c22 : (M17 x0 8) ≤ 0
      · rw [if_pos c22] at h
        refine g_40t (a := 5) (b := 38) (nx := 37) (by decide +kernel) r19 (by exact (cb_5 _ _).mpr c22) ?_
        refine g_7 (a := 0) (b := 0) (nx := 39) (by decide +kernel) rfl ?_
        refine g_7 (a := 0) (b := 0) (nx := 40) (by decide +kernel) rfl ?_
        refine g_52 (a := 12) (b := 27) (nx := 43) (by decide +kernel) h0 ?_
        refine g_7 (a := 0) (b := 0) (nx := 44) (by decide +kernel) rfl ?_
        refine g_52 (a := 12) (b := 12) (nx := 47) (by decide +kernel) h0 ?_
        refine g_1 (a := 0) (b := 0) (nx := 48) (by decide +kernel) ?_
        refine g_61 (a := 0) (b := 0) (nx := 49) (by decide +kernel) h.1 ?_
        replace h := h.2
        refine g_61 (a := 0) (b := 0) (nx := 50) (by decide +kernel) h.1 ?_
        replace h := h.2
        refine g_53 (a := 12) (b := 21) (nx := 53) (by decide +kernel) h0 ?_
        refine g_7 (a := 0) (b := 0) (nx := 54) (by decide +kernel) rfl ?_
        refine g_80 (a := 187) (b := 0) (nx := 57) (by decide +kernel) (r := x0) (As := []) (st' := []) (z := 187) rfl rfl rfl (Nat.le_of_ble_eq_true rfl) h0.2 (Nat.le_of_ble_eq_true rfl) rfl (c_V (by decide +kernel) h (fun M20 h => ?_))
        exact g_90 (a := 0) (b := 0) (nx := 58) (by decide +kernel) h
      · rw [if_neg c22] at h
        refine g_40f (a := 5) (b := 38) (nx := 37) (by decide +kernel) r19 (by exact fun hz => c22 ((cb_5 _ _).mp hz)) ?_
        exact g_90 (a := 0) (b := 0) (nx := 38) (by decide +kernel) h
-- 204 SyllableMakerModel.wordLine()V
theorem t_204 {x0 : Int} {M : Mem} {Q : AV → Mem → Prop} (h0 : gO 12 x0) (h : inR (M x0 17) ∧ (if (M x0 17) = 20 then (WV 188 [vR x0, vI 5] M (fun M16 => WI 189 [vR x0] M16 (fun y19 M18 => inR y19 ∧ (if y19 = 0 then (WV 194 [vR x0, vI 2] M18 (fun M21 => inR (M21 x0 8) ∧ (if (M21 x0 8) ≤ 0 then (WR 204 40 [some (vR x0), some (vI 0)] [] M21 Q) else (Q (vI 0) M21)))) else (WV 187 [vR x0] M18 (fun M25 => WV 194 [vR x0, vI 2] M25 (fun M27 => inR (M27 x0 8) ∧ (if (M27 x0 8) ≤ 0 then (WR 204 40 [some (vR x0), some (vI 0)] [] M27 Q) else (Q (vI 0) M27))))))))) else (WI 189 [vR x0] M (fun y3 M2 => inR y3 ∧ (if y3 = 0 then (WV 194 [vR x0, vI 2] M2 (fun M5 => inR (M5 x0 8) ∧ (if (M5 x0 8) ≤ 0 then (WR 204 40 [some (vR x0), some (vI 0)] [] M5 Q) else (Q (vI 0) M5)))) else (WV 187 [vR x0] M2 (fun M9 => WV 194 [vR x0, vI 2] M9 (fun M11 => inR (M11 x0 8) ∧ (if (M11 x0 8) ≤ 0 then (WR 204 40 [some (vR x0), some (vI 0)] [] M11 Q) else (Q (vI 0) M11)))))))))) : WC 204 [vR x0] M Q := by
  show WR 204 0 [some (vR x0), none] [] M Q
  refine g_7 (a := 0) (b := 0) (nx := 1) (by decide +kernel) rfl ?_
  refine g_50 (a := 12) (b := 17) (nx := 4) (by decide +kernel) h0 ?_
  refine g_1 (a := 20) (b := 0) (nx := 6) (by decide +kernel) ?_
  obtain ⟨r1, h⟩ := h
  by_cases c32 : (M x0 17) = 20
  · rw [if_pos c32] at h
    refine g_41f (a := 1) (b := 14) (nx := 9) (by decide +kernel) (by rw [wr_id r1, wr_id (show inR 20 by decide)]; exact fun hz => ((cb_1 _ _).mp hz) c32) ?_
    refine g_7 (a := 0) (b := 0) (nx := 10) (by decide +kernel) rfl ?_
    refine g_1 (a := 5) (b := 0) (nx := 11) (by decide +kernel) ?_
    refine g_80 (a := 188) (b := 1) (nx := 14) (by decide +kernel) (r := x0) (As := [vI 5]) (st' := []) (z := 188) rfl rfl rfl (Nat.le_of_ble_eq_true rfl) h0.2 (Nat.le_of_ble_eq_true rfl) rfl (c_V (by decide +kernel) h (fun M16 h => ?_))
    refine g_7 (a := 0) (b := 0) (nx := 15) (by decide +kernel) rfl ?_
    refine g_80 (a := 189) (b := 0) (nx := 18) (by decide +kernel) (r := x0) (As := []) (st' := []) (z := 189) rfl rfl rfl (Nat.le_of_ble_eq_true rfl) h0.2 (Nat.le_of_ble_eq_true rfl) rfl (c_I (by decide +kernel) h (fun y19 M18 h => ?_))
    obtain ⟨r20, h⟩ := h
    by_cases c31 : y19 = 0
    · rw [if_pos c31] at h
      refine g_40t (a := 0) (b := 25) (nx := 21) (by decide +kernel) r20 (by exact (cb_0 _ _).mpr c31) ?_
      refine g_7 (a := 0) (b := 0) (nx := 26) (by decide +kernel) rfl ?_
      refine g_1 (a := 2) (b := 0) (nx := 27) (by decide +kernel) ?_
      refine g_80 (a := 194) (b := 1) (nx := 30) (by decide +kernel) (r := x0) (As := [vI 2]) (st' := []) (z := 194) rfl rfl rfl (Nat.le_of_ble_eq_true rfl) h0.2 (Nat.le_of_ble_eq_true rfl) rfl (c_V (by decide +kernel) h (fun M21 h => ?_))
      refine g_7 (a := 0) (b := 0) (nx := 31) (by decide +kernel) rfl ?_
      refine g_50 (a := 12) (b := 8) (nx := 34) (by decide +kernel) h0 ?_
      obtain ⟨r23, h⟩ := h
      by_cases c24 : (M21 x0 8) ≤ 0
      · rw [if_pos c24] at h
        refine g_40t (a := 5) (b := 38) (nx := 37) (by decide +kernel) r23 (by exact (cb_5 _ _).mpr c24) ?_
        refine g_1 (a := 0) (b := 0) (nx := 39) (by decide +kernel) ?_
        refine g_8 (a := 1) (b := 0) (nx := 40) (by decide +kernel) rfl (ls' := [some (vR x0), some (vI 0)]) rfl ?_
        exact h
      · rw [if_neg c24] at h
        refine g_40f (a := 5) (b := 38) (nx := 37) (by decide +kernel) r23 (by exact fun hz => c24 ((cb_5 _ _).mp hz)) ?_
        exact g_90 (a := 0) (b := 0) (nx := 38) (by decide +kernel) h
    · rw [if_neg c31] at h
      refine g_40f (a := 0) (b := 25) (nx := 21) (by decide +kernel) r20 (by exact fun hz => c31 ((cb_0 _ _).mp hz)) ?_
      refine g_7 (a := 0) (b := 0) (nx := 22) (by decide +kernel) rfl ?_
      refine g_80 (a := 187) (b := 0) (nx := 25) (by decide +kernel) (r := x0) (As := []) (st' := []) (z := 187) rfl rfl rfl (Nat.le_of_ble_eq_true rfl) h0.2 (Nat.le_of_ble_eq_true rfl) rfl (c_V (by decide +kernel) h (fun M25 h => ?_))
      refine g_7 (a := 0) (b := 0) (nx := 26) (by decide +kernel) rfl ?_
      refine g_1 (a := 2) (b := 0) (nx := 27) (by decide +kernel) ?_
      refine g_80 (a := 194) (b := 1) (nx := 30) (by decide +kernel) (r := x0) (As := [vI 2]) (st' := []) (z := 194) rfl rfl rfl (Nat.le_of_ble_eq_true rfl) h0.2 (Nat.le_of_ble_eq_true rfl) rfl (c_V (by decide +kernel) h (fun M27 h => ?_))
      refine g_7 (a := 0) (b := 0) (nx := 31) (by decide +kernel) rfl ?_
      refine g_50 (a := 12) (b := 8) (nx := 34) (by decide +kernel) h0 ?_
      obtain ⟨r29, h⟩ := h
      by_cases c30 : (M27 x0 8) ≤ 0
      · rw [if_pos c30] at h
        refine g_40t (a := 5) (b := 38) (nx := 37) (by decide +kernel) r29 (by exact (cb_5 _ _).mpr c30) ?_
        refine g_1 (a := 0) (b := 0) (nx := 39) (by decide +kernel) ?_
        refine g_8 (a := 1) (b := 0) (nx := 40) (by decide +kernel) rfl (ls' := [some (vR x0), some (vI 0)]) rfl ?_
        exact h
      · rw [if_neg c30] at h
        refine g_40f (a := 5) (b := 38) (nx := 37) (by decide +kernel) r29 (by exact fun hz => c30 ((cb_5 _ _).mp hz)) ?_
        exact g_90 (a := 0) (b := 0) (nx := 38) (by decide +kernel) h
  · rw [if_neg c32] at h
    refine g_41t (a := 1) (b := 14) (nx := 9) (by decide +kernel) (by rw [wr_id r1, wr_id (show inR 20 by decide)]; exact (cb_1 _ _).mpr c32) ?_
    refine g_7 (a := 0) (b := 0) (nx := 15) (by decide +kernel) rfl ?_
    refine g_80 (a := 189) (b := 0) (nx := 18) (by decide +kernel) (r := x0) (As := []) (st' := []) (z := 189) rfl rfl rfl (Nat.le_of_ble_eq_true rfl) h0.2 (Nat.le_of_ble_eq_true rfl) rfl (c_I (by decide +kernel) h (fun y3 M2 h => ?_))
    obtain ⟨r4, h⟩ := h
    by_cases c15 : y3 = 0
    · rw [if_pos c15] at h
      refine g_40t (a := 0) (b := 25) (nx := 21) (by decide +kernel) r4 (by exact (cb_0 _ _).mpr c15) ?_
      refine g_7 (a := 0) (b := 0) (nx := 26) (by decide +kernel) rfl ?_
      refine g_1 (a := 2) (b := 0) (nx := 27) (by decide +kernel) ?_
      refine g_80 (a := 194) (b := 1) (nx := 30) (by decide +kernel) (r := x0) (As := [vI 2]) (st' := []) (z := 194) rfl rfl rfl (Nat.le_of_ble_eq_true rfl) h0.2 (Nat.le_of_ble_eq_true rfl) rfl (c_V (by decide +kernel) h (fun M5 h => ?_))
      refine g_7 (a := 0) (b := 0) (nx := 31) (by decide +kernel) rfl ?_
      refine g_50 (a := 12) (b := 8) (nx := 34) (by decide +kernel) h0 ?_
      obtain ⟨r7, h⟩ := h
      by_cases c8 : (M5 x0 8) ≤ 0
      · rw [if_pos c8] at h
        refine g_40t (a := 5) (b := 38) (nx := 37) (by decide +kernel) r7 (by exact (cb_5 _ _).mpr c8) ?_
        refine g_1 (a := 0) (b := 0) (nx := 39) (by decide +kernel) ?_
        refine g_8 (a := 1) (b := 0) (nx := 40) (by decide +kernel) rfl (ls' := [some (vR x0), some (vI 0)]) rfl ?_
        exact h
      · rw [if_neg c8] at h
        refine g_40f (a := 5) (b := 38) (nx := 37) (by decide +kernel) r7 (by exact fun hz => c8 ((cb_5 _ _).mp hz)) ?_
        exact g_90 (a := 0) (b := 0) (nx := 38) (by decide +kernel) h
    · rw [if_neg c15] at h
      refine g_40f (a := 0) (b := 25) (nx := 21) (by decide +kernel) r4 (by exact fun hz => c15 ((cb_0 _ _).mp hz)) ?_
      refine g_7 (a := 0) (b := 0) (nx := 22) (by decide +kernel) rfl ?_
      refine g_80 (a := 187) (b := 0) (nx := 25) (by decide +kernel) (r := x0) (As := []) (st' := []) (z := 187) rfl rfl rfl (Nat.le_of_ble_eq_true rfl) h0.2 (Nat.le_of_ble_eq_true rfl) rfl (c_V (by decide +kernel) h (fun M9 h => ?_))
      refine g_7 (a := 0) (b := 0) (nx := 26) (by decide +kernel) rfl ?_
      refine g_1 (a := 2) (b := 0) (nx := 27) (by decide +kernel) ?_
      refine g_80 (a := 194) (b := 1) (nx := 30) (by decide +kernel) (r := x0) (As := [vI 2]) (st' := []) (z := 194) rfl rfl rfl (Nat.le_of_ble_eq_true rfl) h0.2 (Nat.le_of_ble_eq_true rfl) rfl (c_V (by decide +kernel) h (fun M11 h => ?_))
      refine g_7 (a := 0) (b := 0) (nx := 31) (by decide +kernel) rfl ?_
      refine g_50 (a := 12) (b := 8) (nx := 34) (by decide +kernel) h0 ?_
      obtain ⟨r13, h⟩ := h
      by_cases c14 : (M11 x0 8) ≤ 0
      · rw [if_pos c14] at h
        refine g_40t (a := 5) (b := 38) (nx := 37) (by decide +kernel) r13 (by exact (cb_5 _ _).mpr c14) ?_
        refine g_1 (a := 0) (b := 0) (nx := 39) (by decide +kernel) ?_
        refine g_8 (a := 1) (b := 0) (nx := 40) (by decide +kernel) rfl (ls' := [some (vR x0), some (vI 0)]) rfl ?_
        exact h
      · rw [if_neg c14] at h
        refine g_40f (a := 5) (b := 38) (nx := 37) (by decide +kernel) r13 (by exact fun hz => c14 ((cb_5 _ _).mp hz)) ?_
        exact g_90 (a := 0) (b := 0) (nx := 38) (by decide +kernel) h
theorem t_204_40 {x0 x1 : Int} {M : Mem} {Q : AV → Mem → Prop} (h0 : gO 12 x0) (h : inR x1 ∧ (inR (M x0 7) ∧ (if (M x0 7) ≤ x1 then ((gA 20 (M x0 35) (M x0 17)) ∧ WV 187 [vR x0] (upM (upM M (M x0 35) (M x0 17) (M x0 7)) x0 17 (((upM M (M x0 35) (M x0 17) (M x0 7)) x0 17) + 1)) (fun M3 => Q (vI 0) M3)) else ((gA 20 (M x0 12) x1) ∧ (gA 20 (M x0 27) (M (M x0 12) x1)) ∧ (gA 20 (M x0 34) ((12 * (M x0 17)) + x1)) ∧ WR 204 40 [some (vR x0), some (vI (x1 + 1))] [] (upM M (M x0 34) ((12 * (M x0 17)) + x1) (M (M x0 27) (M (M x0 12) x1))) Q)))) : WR 204 40 [some (vR x0), some (vI x1)] [] M Q := by
  refine g_5 (a := 1) (b := 0) (nx := 41) (by decide +kernel) rfl ?_
  refine g_7 (a := 0) (b := 0) (nx := 42) (by decide +kernel) rfl ?_
  refine g_50 (a := 12) (b := 7) (nx := 45) (by decide +kernel) h0 ?_
  obtain ⟨r1, h⟩ := h
  obtain ⟨r2, h⟩ := h
  by_cases c5 : (M x0 7) ≤ x1
  · rw [if_pos c5] at h
    refine g_41t (a := 3) (b := 79) (nx := 48) (by decide +kernel) (by rw [wr_id r1, wr_id r2]; exact (cb_3 _ _).mpr c5) ?_
    refine g_7 (a := 0) (b := 0) (nx := 80) (by decide +kernel) rfl ?_
    refine g_52 (a := 12) (b := 35) (nx := 83) (by decide +kernel) h0 ?_
    refine g_7 (a := 0) (b := 0) (nx := 84) (by decide +kernel) rfl ?_
    refine g_50 (a := 12) (b := 17) (nx := 87) (by decide +kernel) h0 ?_
    refine g_7 (a := 0) (b := 0) (nx := 88) (by decide +kernel) rfl ?_
    refine g_50 (a := 12) (b := 7) (nx := 91) (by decide +kernel) h0 ?_
    refine g_62 (a := 0) (b := 0) (nx := 92) (by decide +kernel) h.1 ?_
    replace h := h.2
    refine g_7 (a := 0) (b := 0) (nx := 93) (by decide +kernel) rfl ?_
    refine g_13 (a := 0) (b := 0) (nx := 94) (by decide +kernel) rfl ?_
    refine g_50 (a := 12) (b := 17) (nx := 97) (by decide +kernel) h0 ?_
    refine g_1 (a := 1) (b := 0) (nx := 98) (by decide +kernel) ?_
    refine g_15 (a := 0) (b := 0) (nx := 99) (by decide +kernel) ?_
    refine g_53 (a := 12) (b := 17) (nx := 102) (by decide +kernel) h0 ?_
    refine g_7 (a := 0) (b := 0) (nx := 103) (by decide +kernel) rfl ?_
    refine g_80 (a := 187) (b := 0) (nx := 106) (by decide +kernel) (r := x0) (As := []) (st' := []) (z := 187) rfl rfl rfl (Nat.le_of_ble_eq_true rfl) h0.2 (Nat.le_of_ble_eq_true rfl) rfl (c_V (by decide +kernel) h (fun M3 h => ?_))
    exact g_90 (a := 0) (b := 0) (nx := 107) (by decide +kernel) h
  · rw [if_neg c5] at h
    refine g_41f (a := 3) (b := 79) (nx := 48) (by decide +kernel) (by rw [wr_id r1, wr_id r2]; exact fun hz => c5 ((cb_3 _ _).mp hz)) ?_
    refine g_7 (a := 0) (b := 0) (nx := 49) (by decide +kernel) rfl ?_
    refine g_52 (a := 12) (b := 34) (nx := 52) (by decide +kernel) h0 ?_
    refine g_1 (a := 12) (b := 0) (nx := 54) (by decide +kernel) ?_
    refine g_7 (a := 0) (b := 0) (nx := 55) (by decide +kernel) rfl ?_
    refine g_50 (a := 12) (b := 17) (nx := 58) (by decide +kernel) h0 ?_
    refine g_17 (a := 0) (b := 0) (nx := 59) (by decide +kernel) ?_
    refine g_5 (a := 1) (b := 0) (nx := 60) (by decide +kernel) rfl ?_
    refine g_15 (a := 0) (b := 0) (nx := 61) (by decide +kernel) ?_
    refine g_7 (a := 0) (b := 0) (nx := 62) (by decide +kernel) rfl ?_
    refine g_52 (a := 12) (b := 27) (nx := 65) (by decide +kernel) h0 ?_
    refine g_7 (a := 0) (b := 0) (nx := 66) (by decide +kernel) rfl ?_
    refine g_52 (a := 12) (b := 12) (nx := 69) (by decide +kernel) h0 ?_
    refine g_5 (a := 1) (b := 0) (nx := 70) (by decide +kernel) rfl ?_
    refine g_61 (a := 0) (b := 0) (nx := 71) (by decide +kernel) h.1 ?_
    replace h := h.2
    refine g_61 (a := 0) (b := 0) (nx := 72) (by decide +kernel) h.1 ?_
    replace h := h.2
    refine g_62 (a := 0) (b := 0) (nx := 73) (by decide +kernel) h.1 ?_
    replace h := h.2
    refine g_11 (a := 1) (b := 1) (nx := 76) (by decide +kernel) rfl rfl (ls' := [some (vR x0), some (vI (x1 + 1))]) rfl ?_
    refine g_44 (a := 0) (b := 40) (nx := 79) (by decide +kernel) ?_
    exact h
-- 205 SyllableMakerModel.riseLine()V
theorem t_205 {x0 : Int} {M : Mem} {Q : AV → Mem → Prop} (h0 : gO 12 x0) (h : WV 198 [vR x0, vI 0] M (fun M1 => WI 192 [vR x0, vI 0, vI 9] M1 (fun y4 M3 => Q (vI 0) (upM M3 x0 18 y4)))) : WC 205 [vR x0] M Q := by
  show WR 205 0 [some (vR x0)] [] M Q
  refine g_7 (a := 0) (b := 0) (nx := 1) (by decide +kernel) rfl ?_
  refine g_1 (a := 0) (b := 0) (nx := 2) (by decide +kernel) ?_
  refine g_80 (a := 198) (b := 1) (nx := 5) (by decide +kernel) (r := x0) (As := [vI 0]) (st' := []) (z := 198) rfl rfl rfl (Nat.le_of_ble_eq_true rfl) h0.2 (Nat.le_of_ble_eq_true rfl) rfl (c_V (by decide +kernel) h (fun M1 h => ?_))
  refine g_7 (a := 0) (b := 0) (nx := 6) (by decide +kernel) rfl ?_
  refine g_7 (a := 0) (b := 0) (nx := 7) (by decide +kernel) rfl ?_
  refine g_1 (a := 0) (b := 0) (nx := 8) (by decide +kernel) ?_
  refine g_1 (a := 9) (b := 0) (nx := 10) (by decide +kernel) ?_
  refine g_80 (a := 192) (b := 2) (nx := 13) (by decide +kernel) (r := x0) (As := [vI 0, vI 9]) (st' := [vR x0]) (z := 192) rfl rfl rfl (Nat.le_of_ble_eq_true rfl) h0.2 (Nat.le_of_ble_eq_true rfl) rfl (c_I (by decide +kernel) h (fun y4 M3 h => ?_))
  refine g_53 (a := 12) (b := 18) (nx := 16) (by decide +kernel) h0 ?_
  exact g_90 (a := 0) (b := 0) (nx := 17) (by decide +kernel) h
-- 206 SyllableMakerModel.moveLine()V
theorem t_206 {x0 : Int} {M : Mem} {Q : AV → Mem → Prop} (h0 : gO 12 x0) (h : WV 198 [vR x0, vI 5] M (fun M1 => WI 192 [vR x0, vI 0, vI 4] M1 (fun y4 M3 => Q (vI 0) (upM M3 x0 22 y4)))) : WC 206 [vR x0] M Q := by
  show WR 206 0 [some (vR x0)] [] M Q
  refine g_7 (a := 0) (b := 0) (nx := 1) (by decide +kernel) rfl ?_
  refine g_1 (a := 5) (b := 0) (nx := 2) (by decide +kernel) ?_
  refine g_80 (a := 198) (b := 1) (nx := 5) (by decide +kernel) (r := x0) (As := [vI 5]) (st' := []) (z := 198) rfl rfl rfl (Nat.le_of_ble_eq_true rfl) h0.2 (Nat.le_of_ble_eq_true rfl) rfl (c_V (by decide +kernel) h (fun M1 h => ?_))
  refine g_7 (a := 0) (b := 0) (nx := 6) (by decide +kernel) rfl ?_
  refine g_7 (a := 0) (b := 0) (nx := 7) (by decide +kernel) rfl ?_
  refine g_1 (a := 0) (b := 0) (nx := 8) (by decide +kernel) ?_
  refine g_1 (a := 4) (b := 0) (nx := 9) (by decide +kernel) ?_
  refine g_80 (a := 192) (b := 2) (nx := 12) (by decide +kernel) (r := x0) (As := [vI 0, vI 4]) (st' := [vR x0]) (z := 192) rfl rfl rfl (Nat.le_of_ble_eq_true rfl) h0.2 (Nat.le_of_ble_eq_true rfl) rfl (c_I (by decide +kernel) h (fun y4 M3 h => ?_))
  refine g_53 (a := 12) (b := 22) (nx := 15) (by decide +kernel) h0 ?_
  exact g_90 (a := 0) (b := 0) (nx := 16) (by decide +kernel) h
-- 207 SyllableMakerModel.line()V
theorem t_207 {x0 : Int} {M : Mem} {Q : AV → Mem → Prop} (h0 : gO 12 x0) (h : WI 190 [vR x0, vL 10408315] M (fun y2 M1 => inR y2 ∧ (if y2 = 0 then (WI 190 [vR x0, vL 307058] M1 (fun y5 M4 => inR y5 ∧ (if y5 = 0 then (WI 190 [vR x0, vL 3962957] M4 (fun y8 M7 => inR y8 ∧ (if y8 = 0 then (WI 190 [vR x0, vL 361373] M7 (fun y11 M10 => inR y11 ∧ (if y11 = 0 then (WI 190 [vR x0, vL 1841972] M10 (fun y14 M13 => inR y14 ∧ (if y14 = 0 then (WI 190 [vR x0, vL 70517] M13 (fun y17 M16 => inR y17 ∧ (if y17 = 0 then (WI 190 [vR x0, vL 12328316] M16 (fun y20 M19 => inR y20 ∧ (if y20 = 0 then (WI 190 [vR x0, vL 283616524] M19 (fun y23 M22 => inR y23 ∧ (if y23 = 0 then (WI 190 [vR x0, vL 161449] M22 (fun y26 M25 => inR y26 ∧ (if y26 = 0 then (WI 190 [vR x0, vL 267413] M25 (fun y29 M28 => inR y29 ∧ (if y29 = 0 then (WI 190 [vR x0, vL 464134] M28 (fun y32 M31 => inR y32 ∧ (if y32 = 0 then (WV 188 [vR x0, vI 2] M31 (fun M34 => WV 191 [vR x0, vI 3] M34 (fun M36 => Q (vI 0) M36))) else (WV 204 [vR x0] M31 (fun M38 => WV 191 [vR x0, vI 3] M38 (fun M40 => Q (vI 0) M40)))))) else (WV 206 [vR x0] M28 (fun M43 => WV 191 [vR x0, vI 3] M43 (fun M45 => Q (vI 0) M45)))))) else (WV 203 [vR x0] M25 (fun M48 => WV 191 [vR x0, vI 3] M48 (fun M50 => Q (vI 0) M50)))))) else (WV 202 [vR x0] M22 (fun M53 => WV 191 [vR x0, vI 3] M53 (fun M55 => Q (vI 0) M55)))))) else (WV 201 [vR x0] M19 (fun M58 => WV 191 [vR x0, vI 3] M58 (fun M60 => Q (vI 0) M60)))))) else (WV 199 [vR x0] M16 (fun M63 => WV 191 [vR x0, vI 3] M63 (fun M65 => Q (vI 0) M65)))))) else (WV 200 [vR x0] M13 (fun M68 => WV 191 [vR x0, vI 3] M68 (fun M70 => Q (vI 0) M70)))))) else (WV 205 [vR x0] M10 (fun M73 => WV 191 [vR x0, vI 3] M73 (fun M75 => Q (vI 0) M75)))))) else (WV 197 [vR x0] M7 (fun M78 => WV 191 [vR x0, vI 3] M78 (fun M80 => Q (vI 0) M80)))))) else (WV 196 [vR x0] M4 (fun M83 => WV 191 [vR x0, vI 3] M83 (fun M85 => Q (vI 0) M85)))))) else (WV 195 [vR x0] M1 (fun M88 => WV 191 [vR x0, vI 3] M88 (fun M90 => Q (vI 0) M90)))))) : WC 207 [vR x0] M Q := by
  show WR 207 0 [some (vR x0)] [] M Q
  refine g_7 (a := 0) (b := 0) (nx := 1) (by decide +kernel) rfl ?_
  refine g_58 (a := 10408315) (b := 13) (nx := 4) (by decide +kernel) ?_
  refine g_80 (a := 190) (b := 1) (nx := 7) (by decide +kernel) (r := x0) (As := [vL 10408315]) (st' := []) (z := 190) rfl rfl rfl (Nat.le_of_ble_eq_true rfl) h0.2 (Nat.le_of_ble_eq_true rfl) rfl (c_I (by decide +kernel) h (fun y2 M1 h => ?_))
  obtain ⟨r3, h⟩ := h
  by_cases c92 : y2 = 0
  · rw [if_pos c92] at h
    refine g_40t (a := 0) (b := 17) (nx := 10) (by decide +kernel) r3 (by exact (cb_0 _ _).mpr c92) ?_
    refine g_7 (a := 0) (b := 0) (nx := 18) (by decide +kernel) rfl ?_
    refine g_58 (a := 307058) (b := 8) (nx := 21) (by decide +kernel) ?_
    refine g_80 (a := 190) (b := 1) (nx := 24) (by decide +kernel) (r := x0) (As := [vL 307058]) (st' := []) (z := 190) rfl rfl rfl (Nat.le_of_ble_eq_true rfl) h0.2 (Nat.le_of_ble_eq_true rfl) rfl (c_I (by decide +kernel) h (fun y5 M4 h => ?_))
    obtain ⟨r6, h⟩ := h
    by_cases c87 : y5 = 0
    · rw [if_pos c87] at h
      refine g_40t (a := 0) (b := 34) (nx := 27) (by decide +kernel) r6 (by exact (cb_0 _ _).mpr c87) ?_
      refine g_7 (a := 0) (b := 0) (nx := 35) (by decide +kernel) rfl ?_
      refine g_58 (a := 3962957) (b := 5) (nx := 38) (by decide +kernel) ?_
      refine g_80 (a := 190) (b := 1) (nx := 41) (by decide +kernel) (r := x0) (As := [vL 3962957]) (st' := []) (z := 190) rfl rfl rfl (Nat.le_of_ble_eq_true rfl) h0.2 (Nat.le_of_ble_eq_true rfl) rfl (c_I (by decide +kernel) h (fun y8 M7 h => ?_))
      obtain ⟨r9, h⟩ := h
      by_cases c82 : y8 = 0
      · rw [if_pos c82] at h
        refine g_40t (a := 0) (b := 51) (nx := 44) (by decide +kernel) r9 (by exact (cb_0 _ _).mpr c82) ?_
        refine g_7 (a := 0) (b := 0) (nx := 52) (by decide +kernel) rfl ?_
        refine g_58 (a := 361373) (b := 10) (nx := 55) (by decide +kernel) ?_
        refine g_80 (a := 190) (b := 1) (nx := 58) (by decide +kernel) (r := x0) (As := [vL 361373]) (st' := []) (z := 190) rfl rfl rfl (Nat.le_of_ble_eq_true rfl) h0.2 (Nat.le_of_ble_eq_true rfl) rfl (c_I (by decide +kernel) h (fun y11 M10 h => ?_))
        obtain ⟨r12, h⟩ := h
        by_cases c77 : y11 = 0
        · rw [if_pos c77] at h
          refine g_40t (a := 0) (b := 68) (nx := 61) (by decide +kernel) r12 (by exact (cb_0 _ _).mpr c77) ?_
          refine g_7 (a := 0) (b := 0) (nx := 69) (by decide +kernel) rfl ?_
          refine g_58 (a := 1841972) (b := 3) (nx := 72) (by decide +kernel) ?_
          refine g_80 (a := 190) (b := 1) (nx := 75) (by decide +kernel) (r := x0) (As := [vL 1841972]) (st' := []) (z := 190) rfl rfl rfl (Nat.le_of_ble_eq_true rfl) h0.2 (Nat.le_of_ble_eq_true rfl) rfl (c_I (by decide +kernel) h (fun y14 M13 h => ?_))
          obtain ⟨r15, h⟩ := h
          by_cases c72 : y14 = 0
          · rw [if_pos c72] at h
            refine g_40t (a := 0) (b := 85) (nx := 78) (by decide +kernel) r15 (by exact (cb_0 _ _).mpr c72) ?_
            refine g_7 (a := 0) (b := 0) (nx := 86) (by decide +kernel) rfl ?_
            refine g_58 (a := 70517) (b := 4) (nx := 89) (by decide +kernel) ?_
            refine g_80 (a := 190) (b := 1) (nx := 92) (by decide +kernel) (r := x0) (As := [vL 70517]) (st' := []) (z := 190) rfl rfl rfl (Nat.le_of_ble_eq_true rfl) h0.2 (Nat.le_of_ble_eq_true rfl) rfl (c_I (by decide +kernel) h (fun y17 M16 h => ?_))
            obtain ⟨r18, h⟩ := h
            by_cases c67 : y17 = 0
            · rw [if_pos c67] at h
              refine g_40t (a := 0) (b := 102) (nx := 95) (by decide +kernel) r18 (by exact (cb_0 _ _).mpr c67) ?_
              refine g_7 (a := 0) (b := 0) (nx := 103) (by decide +kernel) rfl ?_
              refine g_58 (a := 12328316) (b := 15) (nx := 106) (by decide +kernel) ?_
              refine g_80 (a := 190) (b := 1) (nx := 109) (by decide +kernel) (r := x0) (As := [vL 12328316]) (st' := []) (z := 190) rfl rfl rfl (Nat.le_of_ble_eq_true rfl) h0.2 (Nat.le_of_ble_eq_true rfl) rfl (c_I (by decide +kernel) h (fun y20 M19 h => ?_))
              obtain ⟨r21, h⟩ := h
              by_cases c62 : y20 = 0
              · rw [if_pos c62] at h
                refine g_40t (a := 0) (b := 119) (nx := 112) (by decide +kernel) r21 (by exact (cb_0 _ _).mpr c62) ?_
                refine g_7 (a := 0) (b := 0) (nx := 120) (by decide +kernel) rfl ?_
                refine g_58 (a := 283616524) (b := 14) (nx := 123) (by decide +kernel) ?_
                refine g_80 (a := 190) (b := 1) (nx := 126) (by decide +kernel) (r := x0) (As := [vL 283616524]) (st' := []) (z := 190) rfl rfl rfl (Nat.le_of_ble_eq_true rfl) h0.2 (Nat.le_of_ble_eq_true rfl) rfl (c_I (by decide +kernel) h (fun y23 M22 h => ?_))
                obtain ⟨r24, h⟩ := h
                by_cases c57 : y23 = 0
                · rw [if_pos c57] at h
                  refine g_40t (a := 0) (b := 136) (nx := 129) (by decide +kernel) r24 (by exact (cb_0 _ _).mpr c57) ?_
                  refine g_7 (a := 0) (b := 0) (nx := 137) (by decide +kernel) rfl ?_
                  refine g_58 (a := 161449) (b := 6) (nx := 140) (by decide +kernel) ?_
                  refine g_80 (a := 190) (b := 1) (nx := 143) (by decide +kernel) (r := x0) (As := [vL 161449]) (st' := []) (z := 190) rfl rfl rfl (Nat.le_of_ble_eq_true rfl) h0.2 (Nat.le_of_ble_eq_true rfl) rfl (c_I (by decide +kernel) h (fun y26 M25 h => ?_))
                  obtain ⟨r27, h⟩ := h
                  by_cases c52 : y26 = 0
                  · rw [if_pos c52] at h
                    refine g_40t (a := 0) (b := 153) (nx := 146) (by decide +kernel) r27 (by exact (cb_0 _ _).mpr c52) ?_
                    refine g_7 (a := 0) (b := 0) (nx := 154) (by decide +kernel) rfl ?_
                    refine g_58 (a := 267413) (b := 7) (nx := 157) (by decide +kernel) ?_
                    refine g_80 (a := 190) (b := 1) (nx := 160) (by decide +kernel) (r := x0) (As := [vL 267413]) (st' := []) (z := 190) rfl rfl rfl (Nat.le_of_ble_eq_true rfl) h0.2 (Nat.le_of_ble_eq_true rfl) rfl (c_I (by decide +kernel) h (fun y29 M28 h => ?_))
                    obtain ⟨r30, h⟩ := h
                    by_cases c47 : y29 = 0
                    · rw [if_pos c47] at h
                      refine g_40t (a := 0) (b := 170) (nx := 163) (by decide +kernel) r30 (by exact (cb_0 _ _).mpr c47) ?_
                      refine g_7 (a := 0) (b := 0) (nx := 171) (by decide +kernel) rfl ?_
                      refine g_58 (a := 464134) (b := 17) (nx := 174) (by decide +kernel) ?_
                      refine g_80 (a := 190) (b := 1) (nx := 177) (by decide +kernel) (r := x0) (As := [vL 464134]) (st' := []) (z := 190) rfl rfl rfl (Nat.le_of_ble_eq_true rfl) h0.2 (Nat.le_of_ble_eq_true rfl) rfl (c_I (by decide +kernel) h (fun y32 M31 h => ?_))
                      obtain ⟨r33, h⟩ := h
                      by_cases c42 : y32 = 0
                      · rw [if_pos c42] at h
                        refine g_40t (a := 0) (b := 187) (nx := 180) (by decide +kernel) r33 (by exact (cb_0 _ _).mpr c42) ?_
                        refine g_7 (a := 0) (b := 0) (nx := 188) (by decide +kernel) rfl ?_
                        refine g_1 (a := 2) (b := 0) (nx := 189) (by decide +kernel) ?_
                        refine g_80 (a := 188) (b := 1) (nx := 192) (by decide +kernel) (r := x0) (As := [vI 2]) (st' := []) (z := 188) rfl rfl rfl (Nat.le_of_ble_eq_true rfl) h0.2 (Nat.le_of_ble_eq_true rfl) rfl (c_V (by decide +kernel) h (fun M34 h => ?_))
                        refine g_7 (a := 0) (b := 0) (nx := 193) (by decide +kernel) rfl ?_
                        refine g_1 (a := 3) (b := 0) (nx := 194) (by decide +kernel) ?_
                        refine g_80 (a := 191) (b := 1) (nx := 197) (by decide +kernel) (r := x0) (As := [vI 3]) (st' := []) (z := 191) rfl rfl rfl (Nat.le_of_ble_eq_true rfl) h0.2 (Nat.le_of_ble_eq_true rfl) rfl (c_V (by decide +kernel) h (fun M36 h => ?_))
                        exact g_90 (a := 0) (b := 0) (nx := 198) (by decide +kernel) h
                      · rw [if_neg c42] at h
                        refine g_40f (a := 0) (b := 187) (nx := 180) (by decide +kernel) r33 (by exact fun hz => c42 ((cb_0 _ _).mp hz)) ?_
                        refine g_7 (a := 0) (b := 0) (nx := 181) (by decide +kernel) rfl ?_
                        refine g_80 (a := 204) (b := 0) (nx := 184) (by decide +kernel) (r := x0) (As := []) (st' := []) (z := 204) rfl rfl rfl (Nat.le_of_ble_eq_true rfl) h0.2 (Nat.le_of_ble_eq_true rfl) rfl (c_V (by decide +kernel) h (fun M38 h => ?_))
                        refine g_44 (a := 0) (b := 192) (nx := 187) (by decide +kernel) ?_
                        refine g_7 (a := 0) (b := 0) (nx := 193) (by decide +kernel) rfl ?_
                        refine g_1 (a := 3) (b := 0) (nx := 194) (by decide +kernel) ?_
                        refine g_80 (a := 191) (b := 1) (nx := 197) (by decide +kernel) (r := x0) (As := [vI 3]) (st' := []) (z := 191) rfl rfl rfl (Nat.le_of_ble_eq_true rfl) h0.2 (Nat.le_of_ble_eq_true rfl) rfl (c_V (by decide +kernel) h (fun M40 h => ?_))
                        exact g_90 (a := 0) (b := 0) (nx := 198) (by decide +kernel) h
                    · rw [if_neg c47] at h
                      refine g_40f (a := 0) (b := 170) (nx := 163) (by decide +kernel) r30 (by exact fun hz => c47 ((cb_0 _ _).mp hz)) ?_
                      refine g_7 (a := 0) (b := 0) (nx := 164) (by decide +kernel) rfl ?_
                      refine g_80 (a := 206) (b := 0) (nx := 167) (by decide +kernel) (r := x0) (As := []) (st' := []) (z := 206) rfl rfl rfl (Nat.le_of_ble_eq_true rfl) h0.2 (Nat.le_of_ble_eq_true rfl) rfl (c_V (by decide +kernel) h (fun M43 h => ?_))
                      refine g_44 (a := 0) (b := 192) (nx := 170) (by decide +kernel) ?_
                      refine g_7 (a := 0) (b := 0) (nx := 193) (by decide +kernel) rfl ?_
                      refine g_1 (a := 3) (b := 0) (nx := 194) (by decide +kernel) ?_
                      refine g_80 (a := 191) (b := 1) (nx := 197) (by decide +kernel) (r := x0) (As := [vI 3]) (st' := []) (z := 191) rfl rfl rfl (Nat.le_of_ble_eq_true rfl) h0.2 (Nat.le_of_ble_eq_true rfl) rfl (c_V (by decide +kernel) h (fun M45 h => ?_))
                      exact g_90 (a := 0) (b := 0) (nx := 198) (by decide +kernel) h
                  · rw [if_neg c52] at h
                    refine g_40f (a := 0) (b := 153) (nx := 146) (by decide +kernel) r27 (by exact fun hz => c52 ((cb_0 _ _).mp hz)) ?_
                    refine g_7 (a := 0) (b := 0) (nx := 147) (by decide +kernel) rfl ?_
                    refine g_80 (a := 203) (b := 0) (nx := 150) (by decide +kernel) (r := x0) (As := []) (st' := []) (z := 203) rfl rfl rfl (Nat.le_of_ble_eq_true rfl) h0.2 (Nat.le_of_ble_eq_true rfl) rfl (c_V (by decide +kernel) h (fun M48 h => ?_))
                    refine g_44 (a := 0) (b := 192) (nx := 153) (by decide +kernel) ?_
                    refine g_7 (a := 0) (b := 0) (nx := 193) (by decide +kernel) rfl ?_
                    refine g_1 (a := 3) (b := 0) (nx := 194) (by decide +kernel) ?_
                    refine g_80 (a := 191) (b := 1) (nx := 197) (by decide +kernel) (r := x0) (As := [vI 3]) (st' := []) (z := 191) rfl rfl rfl (Nat.le_of_ble_eq_true rfl) h0.2 (Nat.le_of_ble_eq_true rfl) rfl (c_V (by decide +kernel) h (fun M50 h => ?_))
                    exact g_90 (a := 0) (b := 0) (nx := 198) (by decide +kernel) h
                · rw [if_neg c57] at h
                  refine g_40f (a := 0) (b := 136) (nx := 129) (by decide +kernel) r24 (by exact fun hz => c57 ((cb_0 _ _).mp hz)) ?_
                  refine g_7 (a := 0) (b := 0) (nx := 130) (by decide +kernel) rfl ?_
                  refine g_80 (a := 202) (b := 0) (nx := 133) (by decide +kernel) (r := x0) (As := []) (st' := []) (z := 202) rfl rfl rfl (Nat.le_of_ble_eq_true rfl) h0.2 (Nat.le_of_ble_eq_true rfl) rfl (c_V (by decide +kernel) h (fun M53 h => ?_))
                  refine g_44 (a := 0) (b := 192) (nx := 136) (by decide +kernel) ?_
                  refine g_7 (a := 0) (b := 0) (nx := 193) (by decide +kernel) rfl ?_
                  refine g_1 (a := 3) (b := 0) (nx := 194) (by decide +kernel) ?_
                  refine g_80 (a := 191) (b := 1) (nx := 197) (by decide +kernel) (r := x0) (As := [vI 3]) (st' := []) (z := 191) rfl rfl rfl (Nat.le_of_ble_eq_true rfl) h0.2 (Nat.le_of_ble_eq_true rfl) rfl (c_V (by decide +kernel) h (fun M55 h => ?_))
                  exact g_90 (a := 0) (b := 0) (nx := 198) (by decide +kernel) h
              · rw [if_neg c62] at h
                refine g_40f (a := 0) (b := 119) (nx := 112) (by decide +kernel) r21 (by exact fun hz => c62 ((cb_0 _ _).mp hz)) ?_
                refine g_7 (a := 0) (b := 0) (nx := 113) (by decide +kernel) rfl ?_
                refine g_80 (a := 201) (b := 0) (nx := 116) (by decide +kernel) (r := x0) (As := []) (st' := []) (z := 201) rfl rfl rfl (Nat.le_of_ble_eq_true rfl) h0.2 (Nat.le_of_ble_eq_true rfl) rfl (c_V (by decide +kernel) h (fun M58 h => ?_))
                refine g_44 (a := 0) (b := 192) (nx := 119) (by decide +kernel) ?_
                refine g_7 (a := 0) (b := 0) (nx := 193) (by decide +kernel) rfl ?_
                refine g_1 (a := 3) (b := 0) (nx := 194) (by decide +kernel) ?_
                refine g_80 (a := 191) (b := 1) (nx := 197) (by decide +kernel) (r := x0) (As := [vI 3]) (st' := []) (z := 191) rfl rfl rfl (Nat.le_of_ble_eq_true rfl) h0.2 (Nat.le_of_ble_eq_true rfl) rfl (c_V (by decide +kernel) h (fun M60 h => ?_))
                exact g_90 (a := 0) (b := 0) (nx := 198) (by decide +kernel) h
            · rw [if_neg c67] at h
              refine g_40f (a := 0) (b := 102) (nx := 95) (by decide +kernel) r18 (by exact fun hz => c67 ((cb_0 _ _).mp hz)) ?_
              refine g_7 (a := 0) (b := 0) (nx := 96) (by decide +kernel) rfl ?_
              refine g_80 (a := 199) (b := 0) (nx := 99) (by decide +kernel) (r := x0) (As := []) (st' := []) (z := 199) rfl rfl rfl (Nat.le_of_ble_eq_true rfl) h0.2 (Nat.le_of_ble_eq_true rfl) rfl (c_V (by decide +kernel) h (fun M63 h => ?_))
              refine g_44 (a := 0) (b := 192) (nx := 102) (by decide +kernel) ?_
              refine g_7 (a := 0) (b := 0) (nx := 193) (by decide +kernel) rfl ?_
              refine g_1 (a := 3) (b := 0) (nx := 194) (by decide +kernel) ?_
              refine g_80 (a := 191) (b := 1) (nx := 197) (by decide +kernel) (r := x0) (As := [vI 3]) (st' := []) (z := 191) rfl rfl rfl (Nat.le_of_ble_eq_true rfl) h0.2 (Nat.le_of_ble_eq_true rfl) rfl (c_V (by decide +kernel) h (fun M65 h => ?_))
              exact g_90 (a := 0) (b := 0) (nx := 198) (by decide +kernel) h
          · rw [if_neg c72] at h
            refine g_40f (a := 0) (b := 85) (nx := 78) (by decide +kernel) r15 (by exact fun hz => c72 ((cb_0 _ _).mp hz)) ?_
            refine g_7 (a := 0) (b := 0) (nx := 79) (by decide +kernel) rfl ?_
            refine g_80 (a := 200) (b := 0) (nx := 82) (by decide +kernel) (r := x0) (As := []) (st' := []) (z := 200) rfl rfl rfl (Nat.le_of_ble_eq_true rfl) h0.2 (Nat.le_of_ble_eq_true rfl) rfl (c_V (by decide +kernel) h (fun M68 h => ?_))
            refine g_44 (a := 0) (b := 192) (nx := 85) (by decide +kernel) ?_
            refine g_7 (a := 0) (b := 0) (nx := 193) (by decide +kernel) rfl ?_
            refine g_1 (a := 3) (b := 0) (nx := 194) (by decide +kernel) ?_
            refine g_80 (a := 191) (b := 1) (nx := 197) (by decide +kernel) (r := x0) (As := [vI 3]) (st' := []) (z := 191) rfl rfl rfl (Nat.le_of_ble_eq_true rfl) h0.2 (Nat.le_of_ble_eq_true rfl) rfl (c_V (by decide +kernel) h (fun M70 h => ?_))
            exact g_90 (a := 0) (b := 0) (nx := 198) (by decide +kernel) h
        · rw [if_neg c77] at h
          refine g_40f (a := 0) (b := 68) (nx := 61) (by decide +kernel) r12 (by exact fun hz => c77 ((cb_0 _ _).mp hz)) ?_
          refine g_7 (a := 0) (b := 0) (nx := 62) (by decide +kernel) rfl ?_
          refine g_80 (a := 205) (b := 0) (nx := 65) (by decide +kernel) (r := x0) (As := []) (st' := []) (z := 205) rfl rfl rfl (Nat.le_of_ble_eq_true rfl) h0.2 (Nat.le_of_ble_eq_true rfl) rfl (c_V (by decide +kernel) h (fun M73 h => ?_))
          refine g_44 (a := 0) (b := 192) (nx := 68) (by decide +kernel) ?_
          refine g_7 (a := 0) (b := 0) (nx := 193) (by decide +kernel) rfl ?_
          refine g_1 (a := 3) (b := 0) (nx := 194) (by decide +kernel) ?_
          refine g_80 (a := 191) (b := 1) (nx := 197) (by decide +kernel) (r := x0) (As := [vI 3]) (st' := []) (z := 191) rfl rfl rfl (Nat.le_of_ble_eq_true rfl) h0.2 (Nat.le_of_ble_eq_true rfl) rfl (c_V (by decide +kernel) h (fun M75 h => ?_))
          exact g_90 (a := 0) (b := 0) (nx := 198) (by decide +kernel) h
      · rw [if_neg c82] at h
        refine g_40f (a := 0) (b := 51) (nx := 44) (by decide +kernel) r9 (by exact fun hz => c82 ((cb_0 _ _).mp hz)) ?_
        refine g_7 (a := 0) (b := 0) (nx := 45) (by decide +kernel) rfl ?_
        refine g_80 (a := 197) (b := 0) (nx := 48) (by decide +kernel) (r := x0) (As := []) (st' := []) (z := 197) rfl rfl rfl (Nat.le_of_ble_eq_true rfl) h0.2 (Nat.le_of_ble_eq_true rfl) rfl (c_V (by decide +kernel) h (fun M78 h => ?_))
        refine g_44 (a := 0) (b := 192) (nx := 51) (by decide +kernel) ?_
        refine g_7 (a := 0) (b := 0) (nx := 193) (by decide +kernel) rfl ?_
        refine g_1 (a := 3) (b := 0) (nx := 194) (by decide +kernel) ?_
        refine g_80 (a := 191) (b := 1) (nx := 197) (by decide +kernel) (r := x0) (As := [vI 3]) (st' := []) (z := 191) rfl rfl rfl (Nat.le_of_ble_eq_true rfl) h0.2 (Nat.le_of_ble_eq_true rfl) rfl (c_V (by decide +kernel) h (fun M80 h => ?_))
        exact g_90 (a := 0) (b := 0) (nx := 198) (by decide +kernel) h
    · rw [if_neg c87] at h
      refine g_40f (a := 0) (b := 34) (nx := 27) (by decide +kernel) r6 (by exact fun hz => c87 ((cb_0 _ _).mp hz)) ?_
      refine g_7 (a := 0) (b := 0) (nx := 28) (by decide +kernel) rfl ?_
      refine g_80 (a := 196) (b := 0) (nx := 31) (by decide +kernel) (r := x0) (As := []) (st' := []) (z := 196) rfl rfl rfl (Nat.le_of_ble_eq_true rfl) h0.2 (Nat.le_of_ble_eq_true rfl) rfl (c_V (by decide +kernel) h (fun M83 h => ?_))
      refine g_44 (a := 0) (b := 192) (nx := 34) (by decide +kernel) ?_
      refine g_7 (a := 0) (b := 0) (nx := 193) (by decide +kernel) rfl ?_
      refine g_1 (a := 3) (b := 0) (nx := 194) (by decide +kernel) ?_
      refine g_80 (a := 191) (b := 1) (nx := 197) (by decide +kernel) (r := x0) (As := [vI 3]) (st' := []) (z := 191) rfl rfl rfl (Nat.le_of_ble_eq_true rfl) h0.2 (Nat.le_of_ble_eq_true rfl) rfl (c_V (by decide +kernel) h (fun M85 h => ?_))
      exact g_90 (a := 0) (b := 0) (nx := 198) (by decide +kernel) h
  · rw [if_neg c92] at h
    refine g_40f (a := 0) (b := 17) (nx := 10) (by decide +kernel) r3 (by exact fun hz => c92 ((cb_0 _ _).mp hz)) ?_
    refine g_7 (a := 0) (b := 0) (nx := 11) (by decide +kernel) rfl ?_
    refine g_80 (a := 195) (b := 0) (nx := 14) (by decide +kernel) (r := x0) (As := []) (st' := []) (z := 195) rfl rfl rfl (Nat.le_of_ble_eq_true rfl) h0.2 (Nat.le_of_ble_eq_true rfl) rfl (c_V (by decide +kernel) h (fun M88 h => ?_))
    refine g_44 (a := 0) (b := 192) (nx := 17) (by decide +kernel) ?_
    refine g_7 (a := 0) (b := 0) (nx := 193) (by decide +kernel) rfl ?_
    refine g_1 (a := 3) (b := 0) (nx := 194) (by decide +kernel) ?_
    refine g_80 (a := 191) (b := 1) (nx := 197) (by decide +kernel) (r := x0) (As := [vI 3]) (st' := []) (z := 191) rfl rfl rfl (Nat.le_of_ble_eq_true rfl) h0.2 (Nat.le_of_ble_eq_true rfl) rfl (c_V (by decide +kernel) h (fun M90 h => ?_))
    exact g_90 (a := 0) (b := 0) (nx := 198) (by decide +kernel) h
-- 208 SyllableMakerModel.begins()V
theorem t_208 {x0 : Int} {M : Mem} {Q : AV → Mem → Prop} (h0 : gO 12 x0) (h : WV 187 [vR x0] (upM (upM (upM (upM (upM M x0 2 (M x0 1)) x0 1 0) x0 3 0) x0 8 0) x0 9 (-1)) (fun M1 => Q (vI 0) M1)) : WC 208 [vR x0] M Q := by
  show WR 208 0 [some (vR x0)] [] M Q
  refine g_7 (a := 0) (b := 0) (nx := 1) (by decide +kernel) rfl ?_
  refine g_7 (a := 0) (b := 0) (nx := 2) (by decide +kernel) rfl ?_
  refine g_50 (a := 12) (b := 1) (nx := 5) (by decide +kernel) h0 ?_
  refine g_53 (a := 12) (b := 2) (nx := 8) (by decide +kernel) h0 ?_
  refine g_7 (a := 0) (b := 0) (nx := 9) (by decide +kernel) rfl ?_
  refine g_1 (a := 0) (b := 0) (nx := 10) (by decide +kernel) ?_
  refine g_53 (a := 12) (b := 1) (nx := 13) (by decide +kernel) h0 ?_
  refine g_7 (a := 0) (b := 0) (nx := 14) (by decide +kernel) rfl ?_
  refine g_1 (a := 0) (b := 0) (nx := 15) (by decide +kernel) ?_
  refine g_53 (a := 12) (b := 3) (nx := 18) (by decide +kernel) h0 ?_
  refine g_7 (a := 0) (b := 0) (nx := 19) (by decide +kernel) rfl ?_
  refine g_1 (a := 0) (b := 0) (nx := 20) (by decide +kernel) ?_
  refine g_53 (a := 12) (b := 8) (nx := 23) (by decide +kernel) h0 ?_
  refine g_7 (a := 0) (b := 0) (nx := 24) (by decide +kernel) rfl ?_
  refine g_1 (a := (-1)) (b := 0) (nx := 25) (by decide +kernel) ?_
  refine g_53 (a := 12) (b := 9) (nx := 28) (by decide +kernel) h0 ?_
  refine g_7 (a := 0) (b := 0) (nx := 29) (by decide +kernel) rfl ?_
  refine g_80 (a := 187) (b := 0) (nx := 32) (by decide +kernel) (r := x0) (As := []) (st' := []) (z := 187) rfl rfl rfl (Nat.le_of_ble_eq_true rfl) h0.2 (Nat.le_of_ble_eq_true rfl) rfl (c_V (by decide +kernel) h (fun M1 h => ?_))
  exact g_90 (a := 0) (b := 0) (nx := 33) (by decide +kernel) h
-- 209 SyllableMakerModel.law()I
theorem t_209 {x0 : Int} {M : Mem} {Q : AV → Mem → Prop} (h0 : gO 12 x0) (h : WV 193 [vR x0] M (fun M1 => WV 208 [vR x0] M1 (fun M3 => WR 209 8 [some (vR x0)] [] M3 Q))) : WC 209 [vR x0] M Q := by
  show WR 209 0 [some (vR x0)] [] M Q
  refine g_7 (a := 0) (b := 0) (nx := 1) (by decide +kernel) rfl ?_
  refine g_80 (a := 193) (b := 0) (nx := 4) (by decide +kernel) (r := x0) (As := []) (st' := []) (z := 193) rfl rfl rfl (Nat.le_of_ble_eq_true rfl) h0.2 (Nat.le_of_ble_eq_true rfl) rfl (c_V (by decide +kernel) h (fun M1 h => ?_))
  refine g_7 (a := 0) (b := 0) (nx := 5) (by decide +kernel) rfl ?_
  refine g_80 (a := 208) (b := 0) (nx := 8) (by decide +kernel) (r := x0) (As := []) (st' := []) (z := 208) rfl rfl rfl (Nat.le_of_ble_eq_true rfl) h0.2 (Nat.le_of_ble_eq_true rfl) rfl (c_V (by decide +kernel) h (fun M3 h => ?_))
  exact h
theorem t_209_8 {x0 : Int} {M : Mem} {Q : AV → Mem → Prop} (h0 : gO 12 x0) (h : WI 189 [vR x0] M (fun y2 M1 => inR y2 ∧ (if y2 = 0 then (inR ((upM (upM M1 x0 10 (M1 x0 8)) x0 11 ((upM M1 x0 10 (M1 x0 8)) x0 9)) x0 8) ∧ (if ((upM (upM M1 x0 10 (M1 x0 8)) x0 11 ((upM M1 x0 10 (M1 x0 8)) x0 9)) x0 8) ≤ 0 then (WV 210 [vR x0] (upM (upM M1 x0 10 (M1 x0 8)) x0 11 ((upM M1 x0 10 (M1 x0 8)) x0 9)) (fun M5 => Q (vI (M5 x0 38)) M5)) else (Q (vI (-1)) (upM (upM M1 x0 10 (M1 x0 8)) x0 11 ((upM M1 x0 10 (M1 x0 8)) x0 9))))) else (inR (M1 x0 5) ∧ (if (M1 x0 5) = 0 then (inR ((upM (upM M1 x0 10 (M1 x0 8)) x0 11 ((upM M1 x0 10 (M1 x0 8)) x0 9)) x0 8) ∧ (if ((upM (upM M1 x0 10 (M1 x0 8)) x0 11 ((upM M1 x0 10 (M1 x0 8)) x0 9)) x0 8) ≤ 0 then (WV 210 [vR x0] (upM (upM M1 x0 10 (M1 x0 8)) x0 11 ((upM M1 x0 10 (M1 x0 8)) x0 9)) (fun M10 => Q (vI (M10 x0 38)) M10)) else (Q (vI (-1)) (upM (upM M1 x0 10 (M1 x0 8)) x0 11 ((upM M1 x0 10 (M1 x0 8)) x0 9))))) else (WV 207 [vR x0] M1 (fun M13 => WR 209 8 [some (vR x0)] [] M13 Q))))))) : WR 209 8 [some (vR x0)] [] M Q := by
  refine g_7 (a := 0) (b := 0) (nx := 9) (by decide +kernel) rfl ?_
  refine g_80 (a := 189) (b := 0) (nx := 12) (by decide +kernel) (r := x0) (As := []) (st' := []) (z := 189) rfl rfl rfl (Nat.le_of_ble_eq_true rfl) h0.2 (Nat.le_of_ble_eq_true rfl) rfl (c_I (by decide +kernel) h (fun y2 M1 h => ?_))
  obtain ⟨r3, h⟩ := h
  by_cases c16 : y2 = 0
  · rw [if_pos c16] at h
    refine g_40t (a := 0) (b := 29) (nx := 15) (by decide +kernel) r3 (by exact (cb_0 _ _).mpr c16) ?_
    refine g_7 (a := 0) (b := 0) (nx := 30) (by decide +kernel) rfl ?_
    refine g_7 (a := 0) (b := 0) (nx := 31) (by decide +kernel) rfl ?_
    refine g_50 (a := 12) (b := 8) (nx := 34) (by decide +kernel) h0 ?_
    refine g_53 (a := 12) (b := 10) (nx := 37) (by decide +kernel) h0 ?_
    refine g_7 (a := 0) (b := 0) (nx := 38) (by decide +kernel) rfl ?_
    refine g_7 (a := 0) (b := 0) (nx := 39) (by decide +kernel) rfl ?_
    refine g_50 (a := 12) (b := 9) (nx := 42) (by decide +kernel) h0 ?_
    refine g_53 (a := 12) (b := 11) (nx := 45) (by decide +kernel) h0 ?_
    refine g_7 (a := 0) (b := 0) (nx := 46) (by decide +kernel) rfl ?_
    refine g_50 (a := 12) (b := 8) (nx := 49) (by decide +kernel) h0 ?_
    obtain ⟨r4, h⟩ := h
    by_cases c7 : ((upM (upM M1 x0 10 (M1 x0 8)) x0 11 ((upM M1 x0 10 (M1 x0 8)) x0 9)) x0 8) ≤ 0
    · rw [if_pos c7] at h
      refine g_40t (a := 5) (b := 54) (nx := 52) (by decide +kernel) r4 (by exact (cb_5 _ _).mpr c7) ?_
      refine g_7 (a := 0) (b := 0) (nx := 55) (by decide +kernel) rfl ?_
      refine g_80 (a := 210) (b := 0) (nx := 58) (by decide +kernel) (r := x0) (As := []) (st' := []) (z := 210) rfl rfl rfl (Nat.le_of_ble_eq_true rfl) h0.2 (Nat.le_of_ble_eq_true rfl) rfl (c_V (by decide +kernel) h (fun M5 h => ?_))
      refine g_7 (a := 0) (b := 0) (nx := 59) (by decide +kernel) rfl ?_
      refine g_50 (a := 12) (b := 38) (nx := 62) (by decide +kernel) h0 ?_
      exact g_91 (b := 0) (nx := 63) (by decide +kernel) h
    · rw [if_neg c7] at h
      refine g_40f (a := 5) (b := 54) (nx := 52) (by decide +kernel) r4 (by exact fun hz => c7 ((cb_5 _ _).mp hz)) ?_
      refine g_1 (a := (-1)) (b := 0) (nx := 53) (by decide +kernel) ?_
      exact g_91 (b := 0) (nx := 54) (by decide +kernel) h
  · rw [if_neg c16] at h
    refine g_40f (a := 0) (b := 29) (nx := 15) (by decide +kernel) r3 (by exact fun hz => c16 ((cb_0 _ _).mp hz)) ?_
    refine g_7 (a := 0) (b := 0) (nx := 16) (by decide +kernel) rfl ?_
    refine g_50 (a := 12) (b := 5) (nx := 19) (by decide +kernel) h0 ?_
    obtain ⟨r8, h⟩ := h
    by_cases c15 : (M1 x0 5) = 0
    · rw [if_pos c15] at h
      refine g_40t (a := 0) (b := 29) (nx := 22) (by decide +kernel) r8 (by exact (cb_0 _ _).mpr c15) ?_
      refine g_7 (a := 0) (b := 0) (nx := 30) (by decide +kernel) rfl ?_
      refine g_7 (a := 0) (b := 0) (nx := 31) (by decide +kernel) rfl ?_
      refine g_50 (a := 12) (b := 8) (nx := 34) (by decide +kernel) h0 ?_
      refine g_53 (a := 12) (b := 10) (nx := 37) (by decide +kernel) h0 ?_
      refine g_7 (a := 0) (b := 0) (nx := 38) (by decide +kernel) rfl ?_
      refine g_7 (a := 0) (b := 0) (nx := 39) (by decide +kernel) rfl ?_
      refine g_50 (a := 12) (b := 9) (nx := 42) (by decide +kernel) h0 ?_
      refine g_53 (a := 12) (b := 11) (nx := 45) (by decide +kernel) h0 ?_
      refine g_7 (a := 0) (b := 0) (nx := 46) (by decide +kernel) rfl ?_
      refine g_50 (a := 12) (b := 8) (nx := 49) (by decide +kernel) h0 ?_
      obtain ⟨r9, h⟩ := h
      by_cases c12 : ((upM (upM M1 x0 10 (M1 x0 8)) x0 11 ((upM M1 x0 10 (M1 x0 8)) x0 9)) x0 8) ≤ 0
      · rw [if_pos c12] at h
        refine g_40t (a := 5) (b := 54) (nx := 52) (by decide +kernel) r9 (by exact (cb_5 _ _).mpr c12) ?_
        refine g_7 (a := 0) (b := 0) (nx := 55) (by decide +kernel) rfl ?_
        refine g_80 (a := 210) (b := 0) (nx := 58) (by decide +kernel) (r := x0) (As := []) (st' := []) (z := 210) rfl rfl rfl (Nat.le_of_ble_eq_true rfl) h0.2 (Nat.le_of_ble_eq_true rfl) rfl (c_V (by decide +kernel) h (fun M10 h => ?_))
        refine g_7 (a := 0) (b := 0) (nx := 59) (by decide +kernel) rfl ?_
        refine g_50 (a := 12) (b := 38) (nx := 62) (by decide +kernel) h0 ?_
        exact g_91 (b := 0) (nx := 63) (by decide +kernel) h
      · rw [if_neg c12] at h
        refine g_40f (a := 5) (b := 54) (nx := 52) (by decide +kernel) r9 (by exact fun hz => c12 ((cb_5 _ _).mp hz)) ?_
        refine g_1 (a := (-1)) (b := 0) (nx := 53) (by decide +kernel) ?_
        exact g_91 (b := 0) (nx := 54) (by decide +kernel) h
    · rw [if_neg c15] at h
      refine g_40f (a := 0) (b := 29) (nx := 22) (by decide +kernel) r8 (by exact fun hz => c15 ((cb_0 _ _).mp hz)) ?_
      refine g_7 (a := 0) (b := 0) (nx := 23) (by decide +kernel) rfl ?_
      refine g_80 (a := 207) (b := 0) (nx := 26) (by decide +kernel) (r := x0) (As := []) (st' := []) (z := 207) rfl rfl rfl (Nat.le_of_ble_eq_true rfl) h0.2 (Nat.le_of_ble_eq_true rfl) rfl (c_V (by decide +kernel) h (fun M13 h => ?_))
      refine g_44 (a := 0) (b := 8) (nx := 29) (by decide +kernel) ?_
      exact h
-- 210 SyllableMakerModel.takes()V
theorem t_210 {x0 : Int} {M : Mem} {Q : AV → Mem → Prop} (h0 : gO 12 x0) (h : WR 210 82 [some (vR x0), some (vI 0)] [] (upM (upM (upM (upM (upM (upM (upM (upM (upM (upM M x0 38 (M x0 14)) x0 39 ((upM M x0 38 (M x0 14)) x0 15)) x0 40 ((upM (upM M x0 38 (M x0 14)) x0 39 ((upM M x0 38 (M x0 14)) x0 15)) x0 16)) x0 41 ((upM (upM (upM M x0 38 (M x0 14)) x0 39 ((upM M x0 38 (M x0 14)) x0 15)) x0 40 ((upM (upM M x0 38 (M x0 14)) x0 39 ((upM M x0 38 (M x0 14)) x0 15)) x0 16)) x0 18)) x0 42 ((upM (upM (upM (upM M x0 38 (M x0 14)) x0 39 ((upM M x0 38 (M x0 14)) x0 15)) x0 40 ((upM (upM M x0 38 (M x0 14)) x0 39 ((upM M x0 38 (M x0 14)) x0 15)) x0 16)) x0 41 ((upM (upM (upM M x0 38 (M x0 14)) x0 39 ((upM M x0 38 (M x0 14)) x0 15)) x0 40 ((upM (upM M x0 38 (M x0 14)) x0 39 ((upM M x0 38 (M x0 14)) x0 15)) x0 16)) x0 18)) x0 19)) x0 43 ((upM (upM (upM (upM (upM M x0 38 (M x0 14)) x0 39 ((upM M x0 38 (M x0 14)) x0 15)) x0 40 ((upM (upM M x0 38 (M x0 14)) x0 39 ((upM M x0 38 (M x0 14)) x0 15)) x0 16)) x0 41 ((upM (upM (upM M x0 38 (M x0 14)) x0 39 ((upM M x0 38 (M x0 14)) x0 15)) x0 40 ((upM (upM M x0 38 (M x0 14)) x0 39 ((upM M x0 38 (M x0 14)) x0 15)) x0 16)) x0 18)) x0 42 ((upM (upM (upM (upM M x0 38 (M x0 14)) x0 39 ((upM M x0 38 (M x0 14)) x0 15)) x0 40 ((upM (upM M x0 38 (M x0 14)) x0 39 ((upM M x0 38 (M x0 14)) x0 15)) x0 16)) x0 41 ((upM (upM (upM M x0 38 (M x0 14)) x0 39 ((upM M x0 38 (M x0 14)) x0 15)) x0 40 ((upM (upM M x0 38 (M x0 14)) x0 39 ((upM M x0 38 (M x0 14)) x0 15)) x0 16)) x0 18)) x0 19)) x0 20)) x0 44 ((upM (upM (upM (upM (upM (upM M x0 38 (M x0 14)) x0 39 ((upM M x0 38 (M x0 14)) x0 15)) x0 40 ((upM (upM M x0 38 (M x0 14)) x0 39 ((upM M x0 38 (M x0 14)) x0 15)) x0 16)) x0 41 ((upM (upM (upM M x0 38 (M x0 14)) x0 39 ((upM M x0 38 (M x0 14)) x0 15)) x0 40 ((upM (upM M x0 38 (M x0 14)) x0 39 ((upM M x0 38 (M x0 14)) x0 15)) x0 16)) x0 18)) x0 42 ((upM (upM (upM (upM M x0 38 (M x0 14)) x0 39 ((upM M x0 38 (M x0 14)) x0 15)) x0 40 ((upM (upM M x0 38 (M x0 14)) x0 39 ((upM M x0 38 (M x0 14)) x0 15)) x0 16)) x0 41 ((upM (upM (upM M x0 38 (M x0 14)) x0 39 ((upM M x0 38 (M x0 14)) x0 15)) x0 40 ((upM (upM M x0 38 (M x0 14)) x0 39 ((upM M x0 38 (M x0 14)) x0 15)) x0 16)) x0 18)) x0 19)) x0 43 ((upM (upM (upM (upM (upM M x0 38 (M x0 14)) x0 39 ((upM M x0 38 (M x0 14)) x0 15)) x0 40 ((upM (upM M x0 38 (M x0 14)) x0 39 ((upM M x0 38 (M x0 14)) x0 15)) x0 16)) x0 41 ((upM (upM (upM M x0 38 (M x0 14)) x0 39 ((upM M x0 38 (M x0 14)) x0 15)) x0 40 ((upM (upM M x0 38 (M x0 14)) x0 39 ((upM M x0 38 (M x0 14)) x0 15)) x0 16)) x0 18)) x0 42 ((upM (upM (upM (upM M x0 38 (M x0 14)) x0 39 ((upM M x0 38 (M x0 14)) x0 15)) x0 40 ((upM (upM M x0 38 (M x0 14)) x0 39 ((upM M x0 38 (M x0 14)) x0 15)) x0 16)) x0 41 ((upM (upM (upM M x0 38 (M x0 14)) x0 39 ((upM M x0 38 (M x0 14)) x0 15)) x0 40 ((upM (upM M x0 38 (M x0 14)) x0 39 ((upM M x0 38 (M x0 14)) x0 15)) x0 16)) x0 18)) x0 19)) x0 20)) x0 21)) x0 45 ((upM (upM (upM (upM (upM (upM (upM M x0 38 (M x0 14)) x0 39 ((upM M x0 38 (M x0 14)) x0 15)) x0 40 ((upM (upM M x0 38 (M x0 14)) x0 39 ((upM M x0 38 (M x0 14)) x0 15)) x0 16)) x0 41 ((upM (upM (upM M x0 38 (M x0 14)) x0 39 ((upM M x0 38 (M x0 14)) x0 15)) x0 40 ((upM (upM M x0 38 (M x0 14)) x0 39 ((upM M x0 38 (M x0 14)) x0 15)) x0 16)) x0 18)) x0 42 ((upM (upM (upM (upM M x0 38 (M x0 14)) x0 39 ((upM M x0 38 (M x0 14)) x0 15)) x0 40 ((upM (upM M x0 38 (M x0 14)) x0 39 ((upM M x0 38 (M x0 14)) x0 15)) x0 16)) x0 41 ((upM (upM (upM M x0 38 (M x0 14)) x0 39 ((upM M x0 38 (M x0 14)) x0 15)) x0 40 ((upM (upM M x0 38 (M x0 14)) x0 39 ((upM M x0 38 (M x0 14)) x0 15)) x0 16)) x0 18)) x0 19)) x0 43 ((upM (upM (upM (upM (upM M x0 38 (M x0 14)) x0 39 ((upM M x0 38 (M x0 14)) x0 15)) x0 40 ((upM (upM M x0 38 (M x0 14)) x0 39 ((upM M x0 38 (M x0 14)) x0 15)) x0 16)) x0 41 ((upM (upM (upM M x0 38 (M x0 14)) x0 39 ((upM M x0 38 (M x0 14)) x0 15)) x0 40 ((upM (upM M x0 38 (M x0 14)) x0 39 ((upM M x0 38 (M x0 14)) x0 15)) x0 16)) x0 18)) x0 42 ((upM (upM (upM (upM M x0 38 (M x0 14)) x0 39 ((upM M x0 38 (M x0 14)) x0 15)) x0 40 ((upM (upM M x0 38 (M x0 14)) x0 39 ((upM M x0 38 (M x0 14)) x0 15)) x0 16)) x0 41 ((upM (upM (upM M x0 38 (M x0 14)) x0 39 ((upM M x0 38 (M x0 14)) x0 15)) x0 40 ((upM (upM M x0 38 (M x0 14)) x0 39 ((upM M x0 38 (M x0 14)) x0 15)) x0 16)) x0 18)) x0 19)) x0 20)) x0 44 ((upM (upM (upM (upM (upM (upM M x0 38 (M x0 14)) x0 39 ((upM M x0 38 (M x0 14)) x0 15)) x0 40 ((upM (upM M x0 38 (M x0 14)) x0 39 ((upM M x0 38 (M x0 14)) x0 15)) x0 16)) x0 41 ((upM (upM (upM M x0 38 (M x0 14)) x0 39 ((upM M x0 38 (M x0 14)) x0 15)) x0 40 ((upM (upM M x0 38 (M x0 14)) x0 39 ((upM M x0 38 (M x0 14)) x0 15)) x0 16)) x0 18)) x0 42 ((upM (upM (upM (upM M x0 38 (M x0 14)) x0 39 ((upM M x0 38 (M x0 14)) x0 15)) x0 40 ((upM (upM M x0 38 (M x0 14)) x0 39 ((upM M x0 38 (M x0 14)) x0 15)) x0 16)) x0 41 ((upM (upM (upM M x0 38 (M x0 14)) x0 39 ((upM M x0 38 (M x0 14)) x0 15)) x0 40 ((upM (upM M x0 38 (M x0 14)) x0 39 ((upM M x0 38 (M x0 14)) x0 15)) x0 16)) x0 18)) x0 19)) x0 43 ((upM (upM (upM (upM (upM M x0 38 (M x0 14)) x0 39 ((upM M x0 38 (M x0 14)) x0 15)) x0 40 ((upM (upM M x0 38 (M x0 14)) x0 39 ((upM M x0 38 (M x0 14)) x0 15)) x0 16)) x0 41 ((upM (upM (upM M x0 38 (M x0 14)) x0 39 ((upM M x0 38 (M x0 14)) x0 15)) x0 40 ((upM (upM M x0 38 (M x0 14)) x0 39 ((upM M x0 38 (M x0 14)) x0 15)) x0 16)) x0 18)) x0 42 ((upM (upM (upM (upM M x0 38 (M x0 14)) x0 39 ((upM M x0 38 (M x0 14)) x0 15)) x0 40 ((upM (upM M x0 38 (M x0 14)) x0 39 ((upM M x0 38 (M x0 14)) x0 15)) x0 16)) x0 41 ((upM (upM (upM M x0 38 (M x0 14)) x0 39 ((upM M x0 38 (M x0 14)) x0 15)) x0 40 ((upM (upM M x0 38 (M x0 14)) x0 39 ((upM M x0 38 (M x0 14)) x0 15)) x0 16)) x0 18)) x0 19)) x0 20)) x0 21)) x0 22)) x0 46 ((upM (upM (upM (upM (upM (upM (upM (upM M x0 38 (M x0 14)) x0 39 ((upM M x0 38 (M x0 14)) x0 15)) x0 40 ((upM (upM M x0 38 (M x0 14)) x0 39 ((upM M x0 38 (M x0 14)) x0 15)) x0 16)) x0 41 ((upM (upM (upM M x0 38 (M x0 14)) x0 39 ((upM M x0 38 (M x0 14)) x0 15)) x0 40 ((upM (upM M x0 38 (M x0 14)) x0 39 ((upM M x0 38 (M x0 14)) x0 15)) x0 16)) x0 18)) x0 42 ((upM (upM (upM (upM M x0 38 (M x0 14)) x0 39 ((upM M x0 38 (M x0 14)) x0 15)) x0 40 ((upM (upM M x0 38 (M x0 14)) x0 39 ((upM M x0 38 (M x0 14)) x0 15)) x0 16)) x0 41 ((upM (upM (upM M x0 38 (M x0 14)) x0 39 ((upM M x0 38 (M x0 14)) x0 15)) x0 40 ((upM (upM M x0 38 (M x0 14)) x0 39 ((upM M x0 38 (M x0 14)) x0 15)) x0 16)) x0 18)) x0 19)) x0 43 ((upM (upM (upM (upM (upM M x0 38 (M x0 14)) x0 39 ((upM M x0 38 (M x0 14)) x0 15)) x0 40 ((upM (upM M x0 38 (M x0 14)) x0 39 ((upM M x0 38 (M x0 14)) x0 15)) x0 16)) x0 41 ((upM (upM (upM M x0 38 (M x0 14)) x0 39 ((upM M x0 38 (M x0 14)) x0 15)) x0 40 ((upM (upM M x0 38 (M x0 14)) x0 39 ((upM M x0 38 (M x0 14)) x0 15)) x0 16)) x0 18)) x0 42 ((upM (upM (upM (upM M x0 38 (M x0 14)) x0 39 ((upM M x0 38 (M x0 14)) x0 15)) x0 40 ((upM (upM M x0 38 (M x0 14)) x0 39 ((upM M x0 38 (M x0 14)) x0 15)) x0 16)) x0 41 ((upM (upM (upM M x0 38 (M x0 14)) x0 39 ((upM M x0 38 (M x0 14)) x0 15)) x0 40 ((upM (upM M x0 38 (M x0 14)) x0 39 ((upM M x0 38 (M x0 14)) x0 15)) x0 16)) x0 18)) x0 19)) x0 20)) x0 44 ((upM (upM (upM (upM (upM (upM M x0 38 (M x0 14)) x0 39 ((upM M x0 38 (M x0 14)) x0 15)) x0 40 ((upM (upM M x0 38 (M x0 14)) x0 39 ((upM M x0 38 (M x0 14)) x0 15)) x0 16)) x0 41 ((upM (upM (upM M x0 38 (M x0 14)) x0 39 ((upM M x0 38 (M x0 14)) x0 15)) x0 40 ((upM (upM M x0 38 (M x0 14)) x0 39 ((upM M x0 38 (M x0 14)) x0 15)) x0 16)) x0 18)) x0 42 ((upM (upM (upM (upM M x0 38 (M x0 14)) x0 39 ((upM M x0 38 (M x0 14)) x0 15)) x0 40 ((upM (upM M x0 38 (M x0 14)) x0 39 ((upM M x0 38 (M x0 14)) x0 15)) x0 16)) x0 41 ((upM (upM (upM M x0 38 (M x0 14)) x0 39 ((upM M x0 38 (M x0 14)) x0 15)) x0 40 ((upM (upM M x0 38 (M x0 14)) x0 39 ((upM M x0 38 (M x0 14)) x0 15)) x0 16)) x0 18)) x0 19)) x0 43 ((upM (upM (upM (upM (upM M x0 38 (M x0 14)) x0 39 ((upM M x0 38 (M x0 14)) x0 15)) x0 40 ((upM (upM M x0 38 (M x0 14)) x0 39 ((upM M x0 38 (M x0 14)) x0 15)) x0 16)) x0 41 ((upM (upM (upM M x0 38 (M x0 14)) x0 39 ((upM M x0 38 (M x0 14)) x0 15)) x0 40 ((upM (upM M x0 38 (M x0 14)) x0 39 ((upM M x0 38 (M x0 14)) x0 15)) x0 16)) x0 18)) x0 42 ((upM (upM (upM (upM M x0 38 (M x0 14)) x0 39 ((upM M x0 38 (M x0 14)) x0 15)) x0 40 ((upM (upM M x0 38 (M x0 14)) x0 39 ((upM M x0 38 (M x0 14)) x0 15)) x0 16)) x0 41 ((upM (upM (upM M x0 38 (M x0 14)) x0 39 ((upM M x0 38 (M x0 14)) x0 15)) x0 40 ((upM (upM M x0 38 (M x0 14)) x0 39 ((upM M x0 38 (M x0 14)) x0 15)) x0 16)) x0 18)) x0 19)) x0 20)) x0 21)) x0 45 ((upM (upM (upM (upM (upM (upM (upM M x0 38 (M x0 14)) x0 39 ((upM M x0 38 (M x0 14)) x0 15)) x0 40 ((upM (upM M x0 38 (M x0 14)) x0 39 ((upM M x0 38 (M x0 14)) x0 15)) x0 16)) x0 41 ((upM (upM (upM M x0 38 (M x0 14)) x0 39 ((upM M x0 38 (M x0 14)) x0 15)) x0 40 ((upM (upM M x0 38 (M x0 14)) x0 39 ((upM M x0 38 (M x0 14)) x0 15)) x0 16)) x0 18)) x0 42 ((upM (upM (upM (upM M x0 38 (M x0 14)) x0 39 ((upM M x0 38 (M x0 14)) x0 15)) x0 40 ((upM (upM M x0 38 (M x0 14)) x0 39 ((upM M x0 38 (M x0 14)) x0 15)) x0 16)) x0 41 ((upM (upM (upM M x0 38 (M x0 14)) x0 39 ((upM M x0 38 (M x0 14)) x0 15)) x0 40 ((upM (upM M x0 38 (M x0 14)) x0 39 ((upM M x0 38 (M x0 14)) x0 15)) x0 16)) x0 18)) x0 19)) x0 43 ((upM (upM (upM (upM (upM M x0 38 (M x0 14)) x0 39 ((upM M x0 38 (M x0 14)) x0 15)) x0 40 ((upM (upM M x0 38 (M x0 14)) x0 39 ((upM M x0 38 (M x0 14)) x0 15)) x0 16)) x0 41 ((upM (upM (upM M x0 38 (M x0 14)) x0 39 ((upM M x0 38 (M x0 14)) x0 15)) x0 40 ((upM (upM M x0 38 (M x0 14)) x0 39 ((upM M x0 38 (M x0 14)) x0 15)) x0 16)) x0 18)) x0 42 ((upM (upM (upM (upM M x0 38 (M x0 14)) x0 39 ((upM M x0 38 (M x0 14)) x0 15)) x0 40 ((upM (upM M x0 38 (M x0 14)) x0 39 ((upM M x0 38 (M x0 14)) x0 15)) x0 16)) x0 41 ((upM (upM (upM M x0 38 (M x0 14)) x0 39 ((upM M x0 38 (M x0 14)) x0 15)) x0 40 ((upM (upM M x0 38 (M x0 14)) x0 39 ((upM M x0 38 (M x0 14)) x0 15)) x0 16)) x0 18)) x0 19)) x0 20)) x0 44 ((upM (upM (upM (upM (upM (upM M x0 38 (M x0 14)) x0 39 ((upM M x0 38 (M x0 14)) x0 15)) x0 40 ((upM (upM M x0 38 (M x0 14)) x0 39 ((upM M x0 38 (M x0 14)) x0 15)) x0 16)) x0 41 ((upM (upM (upM M x0 38 (M x0 14)) x0 39 ((upM M x0 38 (M x0 14)) x0 15)) x0 40 ((upM (upM M x0 38 (M x0 14)) x0 39 ((upM M x0 38 (M x0 14)) x0 15)) x0 16)) x0 18)) x0 42 ((upM (upM (upM (upM M x0 38 (M x0 14)) x0 39 ((upM M x0 38 (M x0 14)) x0 15)) x0 40 ((upM (upM M x0 38 (M x0 14)) x0 39 ((upM M x0 38 (M x0 14)) x0 15)) x0 16)) x0 41 ((upM (upM (upM M x0 38 (M x0 14)) x0 39 ((upM M x0 38 (M x0 14)) x0 15)) x0 40 ((upM (upM M x0 38 (M x0 14)) x0 39 ((upM M x0 38 (M x0 14)) x0 15)) x0 16)) x0 18)) x0 19)) x0 43 ((upM (upM (upM (upM (upM M x0 38 (M x0 14)) x0 39 ((upM M x0 38 (M x0 14)) x0 15)) x0 40 ((upM (upM M x0 38 (M x0 14)) x0 39 ((upM M x0 38 (M x0 14)) x0 15)) x0 16)) x0 41 ((upM (upM (upM M x0 38 (M x0 14)) x0 39 ((upM M x0 38 (M x0 14)) x0 15)) x0 40 ((upM (upM M x0 38 (M x0 14)) x0 39 ((upM M x0 38 (M x0 14)) x0 15)) x0 16)) x0 18)) x0 42 ((upM (upM (upM (upM M x0 38 (M x0 14)) x0 39 ((upM M x0 38 (M x0 14)) x0 15)) x0 40 ((upM (upM M x0 38 (M x0 14)) x0 39 ((upM M x0 38 (M x0 14)) x0 15)) x0 16)) x0 41 ((upM (upM (upM M x0 38 (M x0 14)) x0 39 ((upM M x0 38 (M x0 14)) x0 15)) x0 40 ((upM (upM M x0 38 (M x0 14)) x0 39 ((upM M x0 38 (M x0 14)) x0 15)) x0 16)) x0 18)) x0 19)) x0 20)) x0 21)) x0 22)) x0 23)) x0 47 ((upM (upM (upM (upM (upM (upM (upM (upM (upM M x0 38 (M x0 14)) x0 39 ((upM M x0 38 (M x0 14)) x0 15)) x0 40 ((upM (upM M x0 38 (M x0 14)) x0 39 ((upM M x0 38 (M x0 14)) x0 15)) x0 16)) x0 41 ((upM (upM (upM M x0 38 (M x0 14)) x0 39 ((upM M x0 38 (M x0 14)) x0 15)) x0 40 ((upM (upM M x0 38 (M x0 14)) x0 39 ((upM M x0 38 (M x0 14)) x0 15)) x0 16)) x0 18)) x0 42 ((upM (upM (upM (upM M x0 38 (M x0 14)) x0 39 ((upM M x0 38 (M x0 14)) x0 15)) x0 40 ((upM (upM M x0 38 (M x0 14)) x0 39 ((upM M x0 38 (M x0 14)) x0 15)) x0 16)) x0 41 ((upM (upM (upM M x0 38 (M x0 14)) x0 39 ((upM M x0 38 (M x0 14)) x0 15)) x0 40 ((upM (upM M x0 38 (M x0 14)) x0 39 ((upM M x0 38 (M x0 14)) x0 15)) x0 16)) x0 18)) x0 19)) x0 43 ((upM (upM (upM (upM (upM M x0 38 (M x0 14)) x0 39 ((upM M x0 38 (M x0 14)) x0 15)) x0 40 ((upM (upM M x0 38 (M x0 14)) x0 39 ((upM M x0 38 (M x0 14)) x0 15)) x0 16)) x0 41 ((upM (upM (upM M x0 38 (M x0 14)) x0 39 ((upM M x0 38 (M x0 14)) x0 15)) x0 40 ((upM (upM M x0 38 (M x0 14)) x0 39 ((upM M x0 38 (M x0 14)) x0 15)) x0 16)) x0 18)) x0 42 ((upM (upM (upM (upM M x0 38 (M x0 14)) x0 39 ((upM M x0 38 (M x0 14)) x0 15)) x0 40 ((upM (upM M x0 38 (M x0 14)) x0 39 ((upM M x0 38 (M x0 14)) x0 15)) x0 16)) x0 41 ((upM (upM (upM M x0 38 (M x0 14)) x0 39 ((upM M x0 38 (M x0 14)) x0 15)) x0 40 ((upM (upM M x0 38 (M x0 14)) x0 39 ((upM M x0 38 (M x0 14)) x0 15)) x0 16)) x0 18)) x0 19)) x0 20)) x0 44 ((upM (upM (upM (upM (upM (upM M x0 38 (M x0 14)) x0 39 ((upM M x0 38 (M x0 14)) x0 15)) x0 40 ((upM (upM M x0 38 (M x0 14)) x0 39 ((upM M x0 38 (M x0 14)) x0 15)) x0 16)) x0 41 ((upM (upM (upM M x0 38 (M x0 14)) x0 39 ((upM M x0 38 (M x0 14)) x0 15)) x0 40 ((upM (upM M x0 38 (M x0 14)) x0 39 ((upM M x0 38 (M x0 14)) x0 15)) x0 16)) x0 18)) x0 42 ((upM (upM (upM (upM M x0 38 (M x0 14)) x0 39 ((upM M x0 38 (M x0 14)) x0 15)) x0 40 ((upM (upM M x0 38 (M x0 14)) x0 39 ((upM M x0 38 (M x0 14)) x0 15)) x0 16)) x0 41 ((upM (upM (upM M x0 38 (M x0 14)) x0 39 ((upM M x0 38 (M x0 14)) x0 15)) x0 40 ((upM (upM M x0 38 (M x0 14)) x0 39 ((upM M x0 38 (M x0 14)) x0 15)) x0 16)) x0 18)) x0 19)) x0 43 ((upM (upM (upM (upM (upM M x0 38 (M x0 14)) x0 39 ((upM M x0 38 (M x0 14)) x0 15)) x0 40 ((upM (upM M x0 38 (M x0 14)) x0 39 ((upM M x0 38 (M x0 14)) x0 15)) x0 16)) x0 41 ((upM (upM (upM M x0 38 (M x0 14)) x0 39 ((upM M x0 38 (M x0 14)) x0 15)) x0 40 ((upM (upM M x0 38 (M x0 14)) x0 39 ((upM M x0 38 (M x0 14)) x0 15)) x0 16)) x0 18)) x0 42 ((upM (upM (upM (upM M x0 38 (M x0 14)) x0 39 ((upM M x0 38 (M x0 14)) x0 15)) x0 40 ((upM (upM M x0 38 (M x0 14)) x0 39 ((upM M x0 38 (M x0 14)) x0 15)) x0 16)) x0 41 ((upM (upM (upM M x0 38 (M x0 14)) x0 39 ((upM M x0 38 (M x0 14)) x0 15)) x0 40 ((upM (upM M x0 38 (M x0 14)) x0 39 ((upM M x0 38 (M x0 14)) x0 15)) x0 16)) x0 18)) x0 19)) x0 20)) x0 21)) x0 45 ((upM (upM (upM (upM (upM (upM (upM M x0 38 (M x0 14)) x0 39 ((upM M x0 38 (M x0 14)) x0 15)) x0 40 ((upM (upM M x0 38 (M x0 14)) x0 39 ((upM M x0 38 (M x0 14)) x0 15)) x0 16)) x0 41 ((upM (upM (upM M x0 38 (M x0 14)) x0 39 ((upM M x0 38 (M x0 14)) x0 15)) x0 40 ((upM (upM M x0 38 (M x0 14)) x0 39 ((upM M x0 38 (M x0 14)) x0 15)) x0 16)) x0 18)) x0 42 ((upM (upM (upM (upM M x0 38 (M x0 14)) x0 39 ((upM M x0 38 (M x0 14)) x0 15)) x0 40 ((upM (upM M x0 38 (M x0 14)) x0 39 ((upM M x0 38 (M x0 14)) x0 15)) x0 16)) x0 41 ((upM (upM (upM M x0 38 (M x0 14)) x0 39 ((upM M x0 38 (M x0 14)) x0 15)) x0 40 ((upM (upM M x0 38 (M x0 14)) x0 39 ((upM M x0 38 (M x0 14)) x0 15)) x0 16)) x0 18)) x0 19)) x0 43 ((upM (upM (upM (upM (upM M x0 38 (M x0 14)) x0 39 ((upM M x0 38 (M x0 14)) x0 15)) x0 40 ((upM (upM M x0 38 (M x0 14)) x0 39 ((upM M x0 38 (M x0 14)) x0 15)) x0 16)) x0 41 ((upM (upM (upM M x0 38 (M x0 14)) x0 39 ((upM M x0 38 (M x0 14)) x0 15)) x0 40 ((upM (upM M x0 38 (M x0 14)) x0 39 ((upM M x0 38 (M x0 14)) x0 15)) x0 16)) x0 18)) x0 42 ((upM (upM (upM (upM M x0 38 (M x0 14)) x0 39 ((upM M x0 38 (M x0 14)) x0 15)) x0 40 ((upM (upM M x0 38 (M x0 14)) x0 39 ((upM M x0 38 (M x0 14)) x0 15)) x0 16)) x0 41 ((upM (upM (upM M x0 38 (M x0 14)) x0 39 ((upM M x0 38 (M x0 14)) x0 15)) x0 40 ((upM (upM M x0 38 (M x0 14)) x0 39 ((upM M x0 38 (M x0 14)) x0 15)) x0 16)) x0 18)) x0 19)) x0 20)) x0 44 ((upM (upM (upM (upM (upM (upM M x0 38 (M x0 14)) x0 39 ((upM M x0 38 (M x0 14)) x0 15)) x0 40 ((upM (upM M x0 38 (M x0 14)) x0 39 ((upM M x0 38 (M x0 14)) x0 15)) x0 16)) x0 41 ((upM (upM (upM M x0 38 (M x0 14)) x0 39 ((upM M x0 38 (M x0 14)) x0 15)) x0 40 ((upM (upM M x0 38 (M x0 14)) x0 39 ((upM M x0 38 (M x0 14)) x0 15)) x0 16)) x0 18)) x0 42 ((upM (upM (upM (upM M x0 38 (M x0 14)) x0 39 ((upM M x0 38 (M x0 14)) x0 15)) x0 40 ((upM (upM M x0 38 (M x0 14)) x0 39 ((upM M x0 38 (M x0 14)) x0 15)) x0 16)) x0 41 ((upM (upM (upM M x0 38 (M x0 14)) x0 39 ((upM M x0 38 (M x0 14)) x0 15)) x0 40 ((upM (upM M x0 38 (M x0 14)) x0 39 ((upM M x0 38 (M x0 14)) x0 15)) x0 16)) x0 18)) x0 19)) x0 43 ((upM (upM (upM (upM (upM M x0 38 (M x0 14)) x0 39 ((upM M x0 38 (M x0 14)) x0 15)) x0 40 ((upM (upM M x0 38 (M x0 14)) x0 39 ((upM M x0 38 (M x0 14)) x0 15)) x0 16)) x0 41 ((upM (upM (upM M x0 38 (M x0 14)) x0 39 ((upM M x0 38 (M x0 14)) x0 15)) x0 40 ((upM (upM M x0 38 (M x0 14)) x0 39 ((upM M x0 38 (M x0 14)) x0 15)) x0 16)) x0 18)) x0 42 ((upM (upM (upM (upM M x0 38 (M x0 14)) x0 39 ((upM M x0 38 (M x0 14)) x0 15)) x0 40 ((upM (upM M x0 38 (M x0 14)) x0 39 ((upM M x0 38 (M x0 14)) x0 15)) x0 16)) x0 41 ((upM (upM (upM M x0 38 (M x0 14)) x0 39 ((upM M x0 38 (M x0 14)) x0 15)) x0 40 ((upM (upM M x0 38 (M x0 14)) x0 39 ((upM M x0 38 (M x0 14)) x0 15)) x0 16)) x0 18)) x0 19)) x0 20)) x0 21)) x0 22)) x0 46 ((upM (upM (upM (upM (upM (upM (upM (upM M x0 38 (M x0 14)) x0 39 ((upM M x0 38 (M x0 14)) x0 15)) x0 40 ((upM (upM M x0 38 (M x0 14)) x0 39 ((upM M x0 38 (M x0 14)) x0 15)) x0 16)) x0 41 ((upM (upM (upM M x0 38 (M x0 14)) x0 39 ((upM M x0 38 (M x0 14)) x0 15)) x0 40 ((upM (upM M x0 38 (M x0 14)) x0 39 ((upM M x0 38 (M x0 14)) x0 15)) x0 16)) x0 18)) x0 42 ((upM (upM (upM (upM M x0 38 (M x0 14)) x0 39 ((upM M x0 38 (M x0 14)) x0 15)) x0 40 ((upM (upM M x0 38 (M x0 14)) x0 39 ((upM M x0 38 (M x0 14)) x0 15)) x0 16)) x0 41 ((upM (upM (upM M x0 38 (M x0 14)) x0 39 ((upM M x0 38 (M x0 14)) x0 15)) x0 40 ((upM (upM M x0 38 (M x0 14)) x0 39 ((upM M x0 38 (M x0 14)) x0 15)) x0 16)) x0 18)) x0 19)) x0 43 ((upM (upM (upM (upM (upM M x0 38 (M x0 14)) x0 39 ((upM M x0 38 (M x0 14)) x0 15)) x0 40 ((upM (upM M x0 38 (M x0 14)) x0 39 ((upM M x0 38 (M x0 14)) x0 15)) x0 16)) x0 41 ((upM (upM (upM M x0 38 (M x0 14)) x0 39 ((upM M x0 38 (M x0 14)) x0 15)) x0 40 ((upM (upM M x0 38 (M x0 14)) x0 39 ((upM M x0 38 (M x0 14)) x0 15)) x0 16)) x0 18)) x0 42 ((upM (upM (upM (upM M x0 38 (M x0 14)) x0 39 ((upM M x0 38 (M x0 14)) x0 15)) x0 40 ((upM (upM M x0 38 (M x0 14)) x0 39 ((upM M x0 38 (M x0 14)) x0 15)) x0 16)) x0 41 ((upM (upM (upM M x0 38 (M x0 14)) x0 39 ((upM M x0 38 (M x0 14)) x0 15)) x0 40 ((upM (upM M x0 38 (M x0 14)) x0 39 ((upM M x0 38 (M x0 14)) x0 15)) x0 16)) x0 18)) x0 19)) x0 20)) x0 44 ((upM (upM (upM (upM (upM (upM M x0 38 (M x0 14)) x0 39 ((upM M x0 38 (M x0 14)) x0 15)) x0 40 ((upM (upM M x0 38 (M x0 14)) x0 39 ((upM M x0 38 (M x0 14)) x0 15)) x0 16)) x0 41 ((upM (upM (upM M x0 38 (M x0 14)) x0 39 ((upM M x0 38 (M x0 14)) x0 15)) x0 40 ((upM (upM M x0 38 (M x0 14)) x0 39 ((upM M x0 38 (M x0 14)) x0 15)) x0 16)) x0 18)) x0 42 ((upM (upM (upM (upM M x0 38 (M x0 14)) x0 39 ((upM M x0 38 (M x0 14)) x0 15)) x0 40 ((upM (upM M x0 38 (M x0 14)) x0 39 ((upM M x0 38 (M x0 14)) x0 15)) x0 16)) x0 41 ((upM (upM (upM M x0 38 (M x0 14)) x0 39 ((upM M x0 38 (M x0 14)) x0 15)) x0 40 ((upM (upM M x0 38 (M x0 14)) x0 39 ((upM M x0 38 (M x0 14)) x0 15)) x0 16)) x0 18)) x0 19)) x0 43 ((upM (upM (upM (upM (upM M x0 38 (M x0 14)) x0 39 ((upM M x0 38 (M x0 14)) x0 15)) x0 40 ((upM (upM M x0 38 (M x0 14)) x0 39 ((upM M x0 38 (M x0 14)) x0 15)) x0 16)) x0 41 ((upM (upM (upM M x0 38 (M x0 14)) x0 39 ((upM M x0 38 (M x0 14)) x0 15)) x0 40 ((upM (upM M x0 38 (M x0 14)) x0 39 ((upM M x0 38 (M x0 14)) x0 15)) x0 16)) x0 18)) x0 42 ((upM (upM (upM (upM M x0 38 (M x0 14)) x0 39 ((upM M x0 38 (M x0 14)) x0 15)) x0 40 ((upM (upM M x0 38 (M x0 14)) x0 39 ((upM M x0 38 (M x0 14)) x0 15)) x0 16)) x0 41 ((upM (upM (upM M x0 38 (M x0 14)) x0 39 ((upM M x0 38 (M x0 14)) x0 15)) x0 40 ((upM (upM M x0 38 (M x0 14)) x0 39 ((upM M x0 38 (M x0 14)) x0 15)) x0 16)) x0 18)) x0 19)) x0 20)) x0 21)) x0 45 ((upM (upM (upM (upM (upM (upM (upM M x0 38 (M x0 14)) x0 39 ((upM M x0 38 (M x0 14)) x0 15)) x0 40 ((upM (upM M x0 38 (M x0 14)) x0 39 ((upM M x0 38 (M x0 14)) x0 15)) x0 16)) x0 41 ((upM (upM (upM M x0 38 (M x0 14)) x0 39 ((upM M x0 38 (M x0 14)) x0 15)) x0 40 ((upM (upM M x0 38 (M x0 14)) x0 39 ((upM M x0 38 (M x0 14)) x0 15)) x0 16)) x0 18)) x0 42 ((upM (upM (upM (upM M x0 38 (M x0 14)) x0 39 ((upM M x0 38 (M x0 14)) x0 15)) x0 40 ((upM (upM M x0 38 (M x0 14)) x0 39 ((upM M x0 38 (M x0 14)) x0 15)) x0 16)) x0 41 ((upM (upM (upM M x0 38 (M x0 14)) x0 39 ((upM M x0 38 (M x0 14)) x0 15)) x0 40 ((upM (upM M x0 38 (M x0 14)) x0 39 ((upM M x0 38 (M x0 14)) x0 15)) x0 16)) x0 18)) x0 19)) x0 43 ((upM (upM (upM (upM (upM M x0 38 (M x0 14)) x0 39 ((upM M x0 38 (M x0 14)) x0 15)) x0 40 ((upM (upM M x0 38 (M x0 14)) x0 39 ((upM M x0 38 (M x0 14)) x0 15)) x0 16)) x0 41 ((upM (upM (upM M x0 38 (M x0 14)) x0 39 ((upM M x0 38 (M x0 14)) x0 15)) x0 40 ((upM (upM M x0 38 (M x0 14)) x0 39 ((upM M x0 38 (M x0 14)) x0 15)) x0 16)) x0 18)) x0 42 ((upM (upM (upM (upM M x0 38 (M x0 14)) x0 39 ((upM M x0 38 (M x0 14)) x0 15)) x0 40 ((upM (upM M x0 38 (M x0 14)) x0 39 ((upM M x0 38 (M x0 14)) x0 15)) x0 16)) x0 41 ((upM (upM (upM M x0 38 (M x0 14)) x0 39 ((upM M x0 38 (M x0 14)) x0 15)) x0 40 ((upM (upM M x0 38 (M x0 14)) x0 39 ((upM M x0 38 (M x0 14)) x0 15)) x0 16)) x0 18)) x0 19)) x0 20)) x0 44 ((upM (upM (upM (upM (upM (upM M x0 38 (M x0 14)) x0 39 ((upM M x0 38 (M x0 14)) x0 15)) x0 40 ((upM (upM M x0 38 (M x0 14)) x0 39 ((upM M x0 38 (M x0 14)) x0 15)) x0 16)) x0 41 ((upM (upM (upM M x0 38 (M x0 14)) x0 39 ((upM M x0 38 (M x0 14)) x0 15)) x0 40 ((upM (upM M x0 38 (M x0 14)) x0 39 ((upM M x0 38 (M x0 14)) x0 15)) x0 16)) x0 18)) x0 42 ((upM (upM (upM (upM M x0 38 (M x0 14)) x0 39 ((upM M x0 38 (M x0 14)) x0 15)) x0 40 ((upM (upM M x0 38 (M x0 14)) x0 39 ((upM M x0 38 (M x0 14)) x0 15)) x0 16)) x0 41 ((upM (upM (upM M x0 38 (M x0 14)) x0 39 ((upM M x0 38 (M x0 14)) x0 15)) x0 40 ((upM (upM M x0 38 (M x0 14)) x0 39 ((upM M x0 38 (M x0 14)) x0 15)) x0 16)) x0 18)) x0 19)) x0 43 ((upM (upM (upM (upM (upM M x0 38 (M x0 14)) x0 39 ((upM M x0 38 (M x0 14)) x0 15)) x0 40 ((upM (upM M x0 38 (M x0 14)) x0 39 ((upM M x0 38 (M x0 14)) x0 15)) x0 16)) x0 41 ((upM (upM (upM M x0 38 (M x0 14)) x0 39 ((upM M x0 38 (M x0 14)) x0 15)) x0 40 ((upM (upM M x0 38 (M x0 14)) x0 39 ((upM M x0 38 (M x0 14)) x0 15)) x0 16)) x0 18)) x0 42 ((upM (upM (upM (upM M x0 38 (M x0 14)) x0 39 ((upM M x0 38 (M x0 14)) x0 15)) x0 40 ((upM (upM M x0 38 (M x0 14)) x0 39 ((upM M x0 38 (M x0 14)) x0 15)) x0 16)) x0 41 ((upM (upM (upM M x0 38 (M x0 14)) x0 39 ((upM M x0 38 (M x0 14)) x0 15)) x0 40 ((upM (upM M x0 38 (M x0 14)) x0 39 ((upM M x0 38 (M x0 14)) x0 15)) x0 16)) x0 18)) x0 19)) x0 20)) x0 21)) x0 22)) x0 23)) x0 24)) Q) : WC 210 [vR x0] M Q := by
  show WR 210 0 [some (vR x0), none] [] M Q
  refine g_7 (a := 0) (b := 0) (nx := 1) (by decide +kernel) rfl ?_
  refine g_7 (a := 0) (b := 0) (nx := 2) (by decide +kernel) rfl ?_
  refine g_50 (a := 12) (b := 14) (nx := 5) (by decide +kernel) h0 ?_
  refine g_53 (a := 12) (b := 38) (nx := 8) (by decide +kernel) h0 ?_
  refine g_7 (a := 0) (b := 0) (nx := 9) (by decide +kernel) rfl ?_
  refine g_7 (a := 0) (b := 0) (nx := 10) (by decide +kernel) rfl ?_
  refine g_50 (a := 12) (b := 15) (nx := 13) (by decide +kernel) h0 ?_
  refine g_53 (a := 12) (b := 39) (nx := 16) (by decide +kernel) h0 ?_
  refine g_7 (a := 0) (b := 0) (nx := 17) (by decide +kernel) rfl ?_
  refine g_7 (a := 0) (b := 0) (nx := 18) (by decide +kernel) rfl ?_
  refine g_50 (a := 12) (b := 16) (nx := 21) (by decide +kernel) h0 ?_
  refine g_53 (a := 12) (b := 40) (nx := 24) (by decide +kernel) h0 ?_
  refine g_7 (a := 0) (b := 0) (nx := 25) (by decide +kernel) rfl ?_
  refine g_7 (a := 0) (b := 0) (nx := 26) (by decide +kernel) rfl ?_
  refine g_50 (a := 12) (b := 18) (nx := 29) (by decide +kernel) h0 ?_
  refine g_53 (a := 12) (b := 41) (nx := 32) (by decide +kernel) h0 ?_
  refine g_7 (a := 0) (b := 0) (nx := 33) (by decide +kernel) rfl ?_
  refine g_7 (a := 0) (b := 0) (nx := 34) (by decide +kernel) rfl ?_
  refine g_50 (a := 12) (b := 19) (nx := 37) (by decide +kernel) h0 ?_
  refine g_53 (a := 12) (b := 42) (nx := 40) (by decide +kernel) h0 ?_
  refine g_7 (a := 0) (b := 0) (nx := 41) (by decide +kernel) rfl ?_
  refine g_7 (a := 0) (b := 0) (nx := 42) (by decide +kernel) rfl ?_
  refine g_50 (a := 12) (b := 20) (nx := 45) (by decide +kernel) h0 ?_
  refine g_53 (a := 12) (b := 43) (nx := 48) (by decide +kernel) h0 ?_
  refine g_7 (a := 0) (b := 0) (nx := 49) (by decide +kernel) rfl ?_
  refine g_7 (a := 0) (b := 0) (nx := 50) (by decide +kernel) rfl ?_
  refine g_50 (a := 12) (b := 21) (nx := 53) (by decide +kernel) h0 ?_
  refine g_53 (a := 12) (b := 44) (nx := 56) (by decide +kernel) h0 ?_
  refine g_7 (a := 0) (b := 0) (nx := 57) (by decide +kernel) rfl ?_
  refine g_7 (a := 0) (b := 0) (nx := 58) (by decide +kernel) rfl ?_
  refine g_50 (a := 12) (b := 22) (nx := 61) (by decide +kernel) h0 ?_
  refine g_53 (a := 12) (b := 45) (nx := 64) (by decide +kernel) h0 ?_
  refine g_7 (a := 0) (b := 0) (nx := 65) (by decide +kernel) rfl ?_
  refine g_7 (a := 0) (b := 0) (nx := 66) (by decide +kernel) rfl ?_
  refine g_50 (a := 12) (b := 23) (nx := 69) (by decide +kernel) h0 ?_
  refine g_53 (a := 12) (b := 46) (nx := 72) (by decide +kernel) h0 ?_
  refine g_7 (a := 0) (b := 0) (nx := 73) (by decide +kernel) rfl ?_
  refine g_7 (a := 0) (b := 0) (nx := 74) (by decide +kernel) rfl ?_
  refine g_50 (a := 12) (b := 24) (nx := 77) (by decide +kernel) h0 ?_
  refine g_53 (a := 12) (b := 47) (nx := 80) (by decide +kernel) h0 ?_
  refine g_1 (a := 0) (b := 0) (nx := 81) (by decide +kernel) ?_
  refine g_8 (a := 1) (b := 0) (nx := 82) (by decide +kernel) rfl (ls' := [some (vR x0), some (vI 0)]) rfl ?_
  exact h
theorem t_210_82 {x0 x1 : Int} {M : Mem} {Q : AV → Mem → Prop} (h0 : gO 12 x0) (h : inR x1 ∧ (if 26 ≤ x1 then (WR 210 108 [some (vR x0), some (vI 0)] [] M Q) else ((gA 20 (M x0 27) x1) ∧ (gA 20 (M x0 48) x1) ∧ WR 210 82 [some (vR x0), some (vI (x1 + 1))] [] (upM M (M x0 48) x1 (M (M x0 27) x1)) Q))) : WR 210 82 [some (vR x0), some (vI x1)] [] M Q := by
  refine g_5 (a := 1) (b := 0) (nx := 83) (by decide +kernel) rfl ?_
  refine g_1 (a := 26) (b := 0) (nx := 85) (by decide +kernel) ?_
  obtain ⟨r1, h⟩ := h
  by_cases c2 : 26 ≤ x1
  · rw [if_pos c2] at h
    refine g_41t (a := 3) (b := 106) (nx := 88) (by decide +kernel) (by rw [wr_id r1, wr_id (show inR 26 by decide)]; exact (cb_3 _ _).mpr c2) ?_
    refine g_1 (a := 0) (b := 0) (nx := 107) (by decide +kernel) ?_
    refine g_8 (a := 1) (b := 0) (nx := 108) (by decide +kernel) rfl (ls' := [some (vR x0), some (vI 0)]) rfl ?_
    exact h
  · rw [if_neg c2] at h
    refine g_41f (a := 3) (b := 106) (nx := 88) (by decide +kernel) (by rw [wr_id r1, wr_id (show inR 26 by decide)]; exact fun hz => c2 ((cb_3 _ _).mp hz)) ?_
    refine g_7 (a := 0) (b := 0) (nx := 89) (by decide +kernel) rfl ?_
    refine g_52 (a := 12) (b := 48) (nx := 92) (by decide +kernel) h0 ?_
    refine g_5 (a := 1) (b := 0) (nx := 93) (by decide +kernel) rfl ?_
    refine g_7 (a := 0) (b := 0) (nx := 94) (by decide +kernel) rfl ?_
    refine g_52 (a := 12) (b := 27) (nx := 97) (by decide +kernel) h0 ?_
    refine g_5 (a := 1) (b := 0) (nx := 98) (by decide +kernel) rfl ?_
    refine g_61 (a := 0) (b := 0) (nx := 99) (by decide +kernel) h.1 ?_
    replace h := h.2
    refine g_62 (a := 0) (b := 0) (nx := 100) (by decide +kernel) h.1 ?_
    replace h := h.2
    refine g_11 (a := 1) (b := 1) (nx := 103) (by decide +kernel) rfl rfl (ls' := [some (vR x0), some (vI (x1 + 1))]) rfl ?_
    refine g_44 (a := 0) (b := 82) (nx := 106) (by decide +kernel) ?_
    exact h
theorem t_210_108 {x0 x1 : Int} {M : Mem} {Q : AV → Mem → Prop} (h0 : gO 12 x0) (h : inR x1 ∧ (if 16 ≤ x1 then (WR 210 158 [some (vR x0), some (vI 0)] [] M Q) else ((gA 20 (M x0 28) x1) ∧ (gA 20 (M x0 49) x1) ∧ (gA 20 ((upM M (M x0 49) x1 (M (M x0 28) x1)) x0 29) x1) ∧ (gA 20 ((upM M (M x0 49) x1 (M (M x0 28) x1)) x0 50) x1) ∧ (gA 20 ((upM (upM M (M x0 49) x1 (M (M x0 28) x1)) ((upM M (M x0 49) x1 (M (M x0 28) x1)) x0 50) x1 ((upM M (M x0 49) x1 (M (M x0 28) x1)) ((upM M (M x0 49) x1 (M (M x0 28) x1)) x0 29) x1)) x0 30) x1) ∧ (gA 20 ((upM (upM M (M x0 49) x1 (M (M x0 28) x1)) ((upM M (M x0 49) x1 (M (M x0 28) x1)) x0 50) x1 ((upM M (M x0 49) x1 (M (M x0 28) x1)) ((upM M (M x0 49) x1 (M (M x0 28) x1)) x0 29) x1)) x0 51) x1) ∧ WR 210 108 [some (vR x0), some (vI (x1 + 1))] [] (upM (upM (upM M (M x0 49) x1 (M (M x0 28) x1)) ((upM M (M x0 49) x1 (M (M x0 28) x1)) x0 50) x1 ((upM M (M x0 49) x1 (M (M x0 28) x1)) ((upM M (M x0 49) x1 (M (M x0 28) x1)) x0 29) x1)) ((upM (upM M (M x0 49) x1 (M (M x0 28) x1)) ((upM M (M x0 49) x1 (M (M x0 28) x1)) x0 50) x1 ((upM M (M x0 49) x1 (M (M x0 28) x1)) ((upM M (M x0 49) x1 (M (M x0 28) x1)) x0 29) x1)) x0 51) x1 ((upM (upM M (M x0 49) x1 (M (M x0 28) x1)) ((upM M (M x0 49) x1 (M (M x0 28) x1)) x0 50) x1 ((upM M (M x0 49) x1 (M (M x0 28) x1)) ((upM M (M x0 49) x1 (M (M x0 28) x1)) x0 29) x1)) ((upM (upM M (M x0 49) x1 (M (M x0 28) x1)) ((upM M (M x0 49) x1 (M (M x0 28) x1)) x0 50) x1 ((upM M (M x0 49) x1 (M (M x0 28) x1)) ((upM M (M x0 49) x1 (M (M x0 28) x1)) x0 29) x1)) x0 30) x1)) Q))) : WR 210 108 [some (vR x0), some (vI x1)] [] M Q := by
  refine g_5 (a := 1) (b := 0) (nx := 109) (by decide +kernel) rfl ?_
  refine g_1 (a := 16) (b := 0) (nx := 111) (by decide +kernel) ?_
  obtain ⟨r1, h⟩ := h
  by_cases c2 : 16 ≤ x1
  · rw [if_pos c2] at h
    refine g_41t (a := 3) (b := 156) (nx := 114) (by decide +kernel) (by rw [wr_id r1, wr_id (show inR 16 by decide)]; exact (cb_3 _ _).mpr c2) ?_
    refine g_1 (a := 0) (b := 0) (nx := 157) (by decide +kernel) ?_
    refine g_8 (a := 1) (b := 0) (nx := 158) (by decide +kernel) rfl (ls' := [some (vR x0), some (vI 0)]) rfl ?_
    exact h
  · rw [if_neg c2] at h
    refine g_41f (a := 3) (b := 156) (nx := 114) (by decide +kernel) (by rw [wr_id r1, wr_id (show inR 16 by decide)]; exact fun hz => c2 ((cb_3 _ _).mp hz)) ?_
    refine g_7 (a := 0) (b := 0) (nx := 115) (by decide +kernel) rfl ?_
    refine g_52 (a := 12) (b := 49) (nx := 118) (by decide +kernel) h0 ?_
    refine g_5 (a := 1) (b := 0) (nx := 119) (by decide +kernel) rfl ?_
    refine g_7 (a := 0) (b := 0) (nx := 120) (by decide +kernel) rfl ?_
    refine g_52 (a := 12) (b := 28) (nx := 123) (by decide +kernel) h0 ?_
    refine g_5 (a := 1) (b := 0) (nx := 124) (by decide +kernel) rfl ?_
    refine g_61 (a := 0) (b := 0) (nx := 125) (by decide +kernel) h.1 ?_
    replace h := h.2
    refine g_62 (a := 0) (b := 0) (nx := 126) (by decide +kernel) h.1 ?_
    replace h := h.2
    refine g_7 (a := 0) (b := 0) (nx := 127) (by decide +kernel) rfl ?_
    refine g_52 (a := 12) (b := 50) (nx := 130) (by decide +kernel) h0 ?_
    refine g_5 (a := 1) (b := 0) (nx := 131) (by decide +kernel) rfl ?_
    refine g_7 (a := 0) (b := 0) (nx := 132) (by decide +kernel) rfl ?_
    refine g_52 (a := 12) (b := 29) (nx := 135) (by decide +kernel) h0 ?_
    refine g_5 (a := 1) (b := 0) (nx := 136) (by decide +kernel) rfl ?_
    refine g_61 (a := 0) (b := 0) (nx := 137) (by decide +kernel) h.1 ?_
    replace h := h.2
    refine g_62 (a := 0) (b := 0) (nx := 138) (by decide +kernel) h.1 ?_
    replace h := h.2
    refine g_7 (a := 0) (b := 0) (nx := 139) (by decide +kernel) rfl ?_
    refine g_52 (a := 12) (b := 51) (nx := 142) (by decide +kernel) h0 ?_
    refine g_5 (a := 1) (b := 0) (nx := 143) (by decide +kernel) rfl ?_
    refine g_7 (a := 0) (b := 0) (nx := 144) (by decide +kernel) rfl ?_
    refine g_52 (a := 12) (b := 30) (nx := 147) (by decide +kernel) h0 ?_
    refine g_5 (a := 1) (b := 0) (nx := 148) (by decide +kernel) rfl ?_
    refine g_61 (a := 0) (b := 0) (nx := 149) (by decide +kernel) h.1 ?_
    replace h := h.2
    refine g_62 (a := 0) (b := 0) (nx := 150) (by decide +kernel) h.1 ?_
    replace h := h.2
    refine g_11 (a := 1) (b := 1) (nx := 153) (by decide +kernel) rfl rfl (ls' := [some (vR x0), some (vI (x1 + 1))]) rfl ?_
    refine g_44 (a := 0) (b := 108) (nx := 156) (by decide +kernel) ?_
    exact h
theorem t_210_158 {x0 x1 : Int} {M : Mem} {Q : AV → Mem → Prop} (h0 : gO 12 x0) (h : inR x1 ∧ (if 48 ≤ x1 then (WR 210 184 [some (vR x0), some (vI 0)] [] M Q) else ((gA 20 (M x0 31) x1) ∧ (gA 20 (M x0 52) x1) ∧ WR 210 158 [some (vR x0), some (vI (x1 + 1))] [] (upM M (M x0 52) x1 (M (M x0 31) x1)) Q))) : WR 210 158 [some (vR x0), some (vI x1)] [] M Q := by
  refine g_5 (a := 1) (b := 0) (nx := 159) (by decide +kernel) rfl ?_
  refine g_1 (a := 48) (b := 0) (nx := 161) (by decide +kernel) ?_
  obtain ⟨r1, h⟩ := h
  by_cases c2 : 48 ≤ x1
  · rw [if_pos c2] at h
    refine g_41t (a := 3) (b := 182) (nx := 164) (by decide +kernel) (by rw [wr_id r1, wr_id (show inR 48 by decide)]; exact (cb_3 _ _).mpr c2) ?_
    refine g_1 (a := 0) (b := 0) (nx := 183) (by decide +kernel) ?_
    refine g_8 (a := 1) (b := 0) (nx := 184) (by decide +kernel) rfl (ls' := [some (vR x0), some (vI 0)]) rfl ?_
    exact h
  · rw [if_neg c2] at h
    refine g_41f (a := 3) (b := 182) (nx := 164) (by decide +kernel) (by rw [wr_id r1, wr_id (show inR 48 by decide)]; exact fun hz => c2 ((cb_3 _ _).mp hz)) ?_
    refine g_7 (a := 0) (b := 0) (nx := 165) (by decide +kernel) rfl ?_
    refine g_52 (a := 12) (b := 52) (nx := 168) (by decide +kernel) h0 ?_
    refine g_5 (a := 1) (b := 0) (nx := 169) (by decide +kernel) rfl ?_
    refine g_7 (a := 0) (b := 0) (nx := 170) (by decide +kernel) rfl ?_
    refine g_52 (a := 12) (b := 31) (nx := 173) (by decide +kernel) h0 ?_
    refine g_5 (a := 1) (b := 0) (nx := 174) (by decide +kernel) rfl ?_
    refine g_61 (a := 0) (b := 0) (nx := 175) (by decide +kernel) h.1 ?_
    replace h := h.2
    refine g_62 (a := 0) (b := 0) (nx := 176) (by decide +kernel) h.1 ?_
    replace h := h.2
    refine g_11 (a := 1) (b := 1) (nx := 179) (by decide +kernel) rfl rfl (ls' := [some (vR x0), some (vI (x1 + 1))]) rfl ?_
    refine g_44 (a := 0) (b := 158) (nx := 182) (by decide +kernel) ?_
    exact h
theorem t_210_184 {x0 x1 : Int} {M : Mem} {Q : AV → Mem → Prop} (h0 : gO 12 x0) (h : inR x1 ∧ (if 12 ≤ x1 then (WR 210 222 [some (vR x0), some (vI 0)] [] M Q) else ((gA 20 (M x0 32) x1) ∧ (gA 20 (M x0 53) x1) ∧ (gA 20 ((upM M (M x0 53) x1 (M (M x0 32) x1)) x0 33) x1) ∧ (gA 20 ((upM M (M x0 53) x1 (M (M x0 32) x1)) x0 54) x1) ∧ WR 210 184 [some (vR x0), some (vI (x1 + 1))] [] (upM (upM M (M x0 53) x1 (M (M x0 32) x1)) ((upM M (M x0 53) x1 (M (M x0 32) x1)) x0 54) x1 ((upM M (M x0 53) x1 (M (M x0 32) x1)) ((upM M (M x0 53) x1 (M (M x0 32) x1)) x0 33) x1)) Q))) : WR 210 184 [some (vR x0), some (vI x1)] [] M Q := by
  refine g_5 (a := 1) (b := 0) (nx := 185) (by decide +kernel) rfl ?_
  refine g_1 (a := 12) (b := 0) (nx := 187) (by decide +kernel) ?_
  obtain ⟨r1, h⟩ := h
  by_cases c2 : 12 ≤ x1
  · rw [if_pos c2] at h
    refine g_41t (a := 3) (b := 220) (nx := 190) (by decide +kernel) (by rw [wr_id r1, wr_id (show inR 12 by decide)]; exact (cb_3 _ _).mpr c2) ?_
    refine g_1 (a := 0) (b := 0) (nx := 221) (by decide +kernel) ?_
    refine g_8 (a := 1) (b := 0) (nx := 222) (by decide +kernel) rfl (ls' := [some (vR x0), some (vI 0)]) rfl ?_
    exact h
  · rw [if_neg c2] at h
    refine g_41f (a := 3) (b := 220) (nx := 190) (by decide +kernel) (by rw [wr_id r1, wr_id (show inR 12 by decide)]; exact fun hz => c2 ((cb_3 _ _).mp hz)) ?_
    refine g_7 (a := 0) (b := 0) (nx := 191) (by decide +kernel) rfl ?_
    refine g_52 (a := 12) (b := 53) (nx := 194) (by decide +kernel) h0 ?_
    refine g_5 (a := 1) (b := 0) (nx := 195) (by decide +kernel) rfl ?_
    refine g_7 (a := 0) (b := 0) (nx := 196) (by decide +kernel) rfl ?_
    refine g_52 (a := 12) (b := 32) (nx := 199) (by decide +kernel) h0 ?_
    refine g_5 (a := 1) (b := 0) (nx := 200) (by decide +kernel) rfl ?_
    refine g_61 (a := 0) (b := 0) (nx := 201) (by decide +kernel) h.1 ?_
    replace h := h.2
    refine g_62 (a := 0) (b := 0) (nx := 202) (by decide +kernel) h.1 ?_
    replace h := h.2
    refine g_7 (a := 0) (b := 0) (nx := 203) (by decide +kernel) rfl ?_
    refine g_52 (a := 12) (b := 54) (nx := 206) (by decide +kernel) h0 ?_
    refine g_5 (a := 1) (b := 0) (nx := 207) (by decide +kernel) rfl ?_
    refine g_7 (a := 0) (b := 0) (nx := 208) (by decide +kernel) rfl ?_
    refine g_52 (a := 12) (b := 33) (nx := 211) (by decide +kernel) h0 ?_
    refine g_5 (a := 1) (b := 0) (nx := 212) (by decide +kernel) rfl ?_
    refine g_61 (a := 0) (b := 0) (nx := 213) (by decide +kernel) h.1 ?_
    replace h := h.2
    refine g_62 (a := 0) (b := 0) (nx := 214) (by decide +kernel) h.1 ?_
    replace h := h.2
    refine g_11 (a := 1) (b := 1) (nx := 217) (by decide +kernel) rfl rfl (ls' := [some (vR x0), some (vI (x1 + 1))]) rfl ?_
    refine g_44 (a := 0) (b := 184) (nx := 220) (by decide +kernel) ?_
    exact h
theorem t_210_222 {x0 x1 : Int} {M : Mem} {Q : AV → Mem → Prop} (h0 : gO 12 x0) (h : inR x1 ∧ (if 4 ≤ x1 then ((gA 20 (M x0 61) 0) ∧ WR 210 257 [some (vR x0), some (vI 0)] [] (upM M (M x0 61) 0 (M x0 17)) Q) else ((gA 20 (M x0 37) x1) ∧ (gA 20 (M x0 55) x1) ∧ WR 210 222 [some (vR x0), some (vI (x1 + 1))] [] (upM M (M x0 55) x1 (M (M x0 37) x1)) Q))) : WR 210 222 [some (vR x0), some (vI x1)] [] M Q := by
  refine g_5 (a := 1) (b := 0) (nx := 223) (by decide +kernel) rfl ?_
  refine g_1 (a := 4) (b := 0) (nx := 224) (by decide +kernel) ?_
  obtain ⟨r1, h⟩ := h
  by_cases c2 : 4 ≤ x1
  · rw [if_pos c2] at h
    refine g_41t (a := 3) (b := 245) (nx := 227) (by decide +kernel) (by rw [wr_id r1, wr_id (show inR 4 by decide)]; exact (cb_3 _ _).mpr c2) ?_
    refine g_7 (a := 0) (b := 0) (nx := 246) (by decide +kernel) rfl ?_
    refine g_52 (a := 12) (b := 61) (nx := 249) (by decide +kernel) h0 ?_
    refine g_1 (a := 0) (b := 0) (nx := 250) (by decide +kernel) ?_
    refine g_7 (a := 0) (b := 0) (nx := 251) (by decide +kernel) rfl ?_
    refine g_50 (a := 12) (b := 17) (nx := 254) (by decide +kernel) h0 ?_
    refine g_62 (a := 0) (b := 0) (nx := 255) (by decide +kernel) h.1 ?_
    replace h := h.2
    refine g_1 (a := 0) (b := 0) (nx := 256) (by decide +kernel) ?_
    refine g_8 (a := 1) (b := 0) (nx := 257) (by decide +kernel) rfl (ls' := [some (vR x0), some (vI 0)]) rfl ?_
    exact h
  · rw [if_neg c2] at h
    refine g_41f (a := 3) (b := 245) (nx := 227) (by decide +kernel) (by rw [wr_id r1, wr_id (show inR 4 by decide)]; exact fun hz => c2 ((cb_3 _ _).mp hz)) ?_
    refine g_7 (a := 0) (b := 0) (nx := 228) (by decide +kernel) rfl ?_
    refine g_52 (a := 12) (b := 55) (nx := 231) (by decide +kernel) h0 ?_
    refine g_5 (a := 1) (b := 0) (nx := 232) (by decide +kernel) rfl ?_
    refine g_7 (a := 0) (b := 0) (nx := 233) (by decide +kernel) rfl ?_
    refine g_52 (a := 12) (b := 37) (nx := 236) (by decide +kernel) h0 ?_
    refine g_5 (a := 1) (b := 0) (nx := 237) (by decide +kernel) rfl ?_
    refine g_61 (a := 0) (b := 0) (nx := 238) (by decide +kernel) h.1 ?_
    replace h := h.2
    refine g_62 (a := 0) (b := 0) (nx := 239) (by decide +kernel) h.1 ?_
    replace h := h.2
    refine g_11 (a := 1) (b := 1) (nx := 242) (by decide +kernel) rfl rfl (ls' := [some (vR x0), some (vI (x1 + 1))]) rfl ?_
    refine g_44 (a := 0) (b := 222) (nx := 245) (by decide +kernel) ?_
    exact h
theorem t_210_257 {x0 x1 : Int} {M : Mem} {Q : AV → Mem → Prop} (h0 : gO 12 x0) (h : inR x1 ∧ (if 20 ≤ x1 then (WR 210 285 [some (vR x0), some (vI 0)] [] M Q) else ((gA 20 (M x0 35) x1) ∧ (gA 20 (M x0 61) (1 + x1)) ∧ WR 210 257 [some (vR x0), some (vI (x1 + 1))] [] (upM M (M x0 61) (1 + x1) (M (M x0 35) x1)) Q))) : WR 210 257 [some (vR x0), some (vI x1)] [] M Q := by
  refine g_5 (a := 1) (b := 0) (nx := 258) (by decide +kernel) rfl ?_
  refine g_1 (a := 20) (b := 0) (nx := 260) (by decide +kernel) ?_
  obtain ⟨r1, h⟩ := h
  by_cases c2 : 20 ≤ x1
  · rw [if_pos c2] at h
    refine g_41t (a := 3) (b := 283) (nx := 263) (by decide +kernel) (by rw [wr_id r1, wr_id (show inR 20 by decide)]; exact (cb_3 _ _).mpr c2) ?_
    refine g_1 (a := 0) (b := 0) (nx := 284) (by decide +kernel) ?_
    refine g_8 (a := 1) (b := 0) (nx := 285) (by decide +kernel) rfl (ls' := [some (vR x0), some (vI 0)]) rfl ?_
    exact h
  · rw [if_neg c2] at h
    refine g_41f (a := 3) (b := 283) (nx := 263) (by decide +kernel) (by rw [wr_id r1, wr_id (show inR 20 by decide)]; exact fun hz => c2 ((cb_3 _ _).mp hz)) ?_
    refine g_7 (a := 0) (b := 0) (nx := 264) (by decide +kernel) rfl ?_
    refine g_52 (a := 12) (b := 61) (nx := 267) (by decide +kernel) h0 ?_
    refine g_1 (a := 1) (b := 0) (nx := 268) (by decide +kernel) ?_
    refine g_5 (a := 1) (b := 0) (nx := 269) (by decide +kernel) rfl ?_
    refine g_15 (a := 0) (b := 0) (nx := 270) (by decide +kernel) ?_
    refine g_7 (a := 0) (b := 0) (nx := 271) (by decide +kernel) rfl ?_
    refine g_52 (a := 12) (b := 35) (nx := 274) (by decide +kernel) h0 ?_
    refine g_5 (a := 1) (b := 0) (nx := 275) (by decide +kernel) rfl ?_
    refine g_61 (a := 0) (b := 0) (nx := 276) (by decide +kernel) h.1 ?_
    replace h := h.2
    refine g_62 (a := 0) (b := 0) (nx := 277) (by decide +kernel) h.1 ?_
    replace h := h.2
    refine g_11 (a := 1) (b := 1) (nx := 280) (by decide +kernel) rfl rfl (ls' := [some (vR x0), some (vI (x1 + 1))]) rfl ?_
    refine g_44 (a := 0) (b := 257) (nx := 283) (by decide +kernel) ?_
    exact h
theorem t_210_285 {x0 x1 : Int} {M : Mem} {Q : AV → Mem → Prop} (h0 : gO 12 x0) (h : inR x1 ∧ (if 240 ≤ x1 then (WR 210 315 [some (vR x0), some (vI 0)] [] M Q) else ((gA 20 (M x0 34) x1) ∧ (gA 20 (M x0 61) (21 + x1)) ∧ WR 210 285 [some (vR x0), some (vI (x1 + 1))] [] (upM M (M x0 61) (21 + x1) (M (M x0 34) x1)) Q))) : WR 210 285 [some (vR x0), some (vI x1)] [] M Q := by
  refine g_5 (a := 1) (b := 0) (nx := 286) (by decide +kernel) rfl ?_
  refine g_1 (a := 240) (b := 0) (nx := 289) (by decide +kernel) ?_
  obtain ⟨r1, h⟩ := h
  by_cases c2 : 240 ≤ x1
  · rw [if_pos c2] at h
    refine g_41t (a := 3) (b := 313) (nx := 292) (by decide +kernel) (by rw [wr_id r1, wr_id (show inR 240 by decide)]; exact (cb_3 _ _).mpr c2) ?_
    refine g_1 (a := 0) (b := 0) (nx := 314) (by decide +kernel) ?_
    refine g_8 (a := 1) (b := 0) (nx := 315) (by decide +kernel) rfl (ls' := [some (vR x0), some (vI 0)]) rfl ?_
    exact h
  · rw [if_neg c2] at h
    refine g_41f (a := 3) (b := 313) (nx := 292) (by decide +kernel) (by rw [wr_id r1, wr_id (show inR 240 by decide)]; exact fun hz => c2 ((cb_3 _ _).mp hz)) ?_
    refine g_7 (a := 0) (b := 0) (nx := 293) (by decide +kernel) rfl ?_
    refine g_52 (a := 12) (b := 61) (nx := 296) (by decide +kernel) h0 ?_
    refine g_1 (a := 21) (b := 0) (nx := 298) (by decide +kernel) ?_
    refine g_5 (a := 1) (b := 0) (nx := 299) (by decide +kernel) rfl ?_
    refine g_15 (a := 0) (b := 0) (nx := 300) (by decide +kernel) ?_
    refine g_7 (a := 0) (b := 0) (nx := 301) (by decide +kernel) rfl ?_
    refine g_52 (a := 12) (b := 34) (nx := 304) (by decide +kernel) h0 ?_
    refine g_5 (a := 1) (b := 0) (nx := 305) (by decide +kernel) rfl ?_
    refine g_61 (a := 0) (b := 0) (nx := 306) (by decide +kernel) h.1 ?_
    replace h := h.2
    refine g_62 (a := 0) (b := 0) (nx := 307) (by decide +kernel) h.1 ?_
    replace h := h.2
    refine g_11 (a := 1) (b := 1) (nx := 310) (by decide +kernel) rfl rfl (ls' := [some (vR x0), some (vI (x1 + 1))]) rfl ?_
    refine g_44 (a := 0) (b := 285) (nx := 313) (by decide +kernel) ?_
    exact h
theorem t_210_315 {x0 x1 : Int} {M : Mem} {Q : AV → Mem → Prop} (h0 : gO 12 x0) (h : inR x1 ∧ (if 6 ≤ x1 then (WV 282 [vR x0] (upM (upM M x0 63 0) x0 56 0) (fun M2 => Q (vI 0) M2)) else ((gA 20 (M x0 36) x1) ∧ (gA 20 (M x0 61) (261 + x1)) ∧ WR 210 315 [some (vR x0), some (vI (x1 + 1))] [] (upM M (M x0 61) (261 + x1) (M (M x0 36) x1)) Q))) : WR 210 315 [some (vR x0), some (vI x1)] [] M Q := by
  refine g_5 (a := 1) (b := 0) (nx := 316) (by decide +kernel) rfl ?_
  refine g_1 (a := 6) (b := 0) (nx := 318) (by decide +kernel) ?_
  obtain ⟨r1, h⟩ := h
  by_cases c4 : 6 ≤ x1
  · rw [if_pos c4] at h
    refine g_41t (a := 3) (b := 343) (nx := 321) (by decide +kernel) (by rw [wr_id r1, wr_id (show inR 6 by decide)]; exact (cb_3 _ _).mpr c4) ?_
    refine g_7 (a := 0) (b := 0) (nx := 344) (by decide +kernel) rfl ?_
    refine g_1 (a := 0) (b := 0) (nx := 345) (by decide +kernel) ?_
    refine g_53 (a := 12) (b := 63) (nx := 348) (by decide +kernel) h0 ?_
    refine g_7 (a := 0) (b := 0) (nx := 349) (by decide +kernel) rfl ?_
    refine g_1 (a := 0) (b := 0) (nx := 350) (by decide +kernel) ?_
    refine g_53 (a := 12) (b := 56) (nx := 353) (by decide +kernel) h0 ?_
    refine g_7 (a := 0) (b := 0) (nx := 354) (by decide +kernel) rfl ?_
    refine g_80 (a := 282) (b := 0) (nx := 357) (by decide +kernel) (r := x0) (As := []) (st' := []) (z := 282) rfl rfl rfl (Nat.le_of_ble_eq_true rfl) h0.2 (Nat.le_of_ble_eq_true rfl) rfl (c_V (by decide +kernel) h (fun M2 h => ?_))
    exact g_90 (a := 0) (b := 0) (nx := 358) (by decide +kernel) h
  · rw [if_neg c4] at h
    refine g_41f (a := 3) (b := 343) (nx := 321) (by decide +kernel) (by rw [wr_id r1, wr_id (show inR 6 by decide)]; exact fun hz => c4 ((cb_3 _ _).mp hz)) ?_
    refine g_7 (a := 0) (b := 0) (nx := 322) (by decide +kernel) rfl ?_
    refine g_52 (a := 12) (b := 61) (nx := 325) (by decide +kernel) h0 ?_
    refine g_1 (a := 261) (b := 0) (nx := 328) (by decide +kernel) ?_
    refine g_5 (a := 1) (b := 0) (nx := 329) (by decide +kernel) rfl ?_
    refine g_15 (a := 0) (b := 0) (nx := 330) (by decide +kernel) ?_
    refine g_7 (a := 0) (b := 0) (nx := 331) (by decide +kernel) rfl ?_
    refine g_52 (a := 12) (b := 36) (nx := 334) (by decide +kernel) h0 ?_
    refine g_5 (a := 1) (b := 0) (nx := 335) (by decide +kernel) rfl ?_
    refine g_61 (a := 0) (b := 0) (nx := 336) (by decide +kernel) h.1 ?_
    replace h := h.2
    refine g_62 (a := 0) (b := 0) (nx := 337) (by decide +kernel) h.1 ?_
    replace h := h.2
    refine g_11 (a := 1) (b := 1) (nx := 340) (by decide +kernel) rfl rfl (ls' := [some (vR x0), some (vI (x1 + 1))]) rfl ?_
    refine g_44 (a := 0) (b := 315) (nx := 343) (by decide +kernel) ?_
    exact h
-- 211 SyllableMakerModel.say()I
theorem t_211 {x0 : Int} {M : Mem} {Q : AV → Mem → Prop} (h0 : gO 12 x0) (h : inR (M x0 1) ∧ (if (M x0 1) ≤ 200 then (WV 208 [vR x0] M (fun M2 => inR (M2 x0 5) ∧ (if (M2 x0 5) = 1 then (WR 211 32 [some (vR x0), some (vI 0), none] [] M2 Q) else (WV 188 [vR x0, vI 2] M2 (fun M5 => WR 211 32 [some (vR x0), some (vI 0), none] [] M5 Q))))) else (Q (vI (-2)) M))) : WC 211 [vR x0] M Q := by
  show WR 211 0 [some (vR x0), none, none] [] M Q
  refine g_7 (a := 0) (b := 0) (nx := 1) (by decide +kernel) rfl ?_
  refine g_50 (a := 12) (b := 1) (nx := 4) (by decide +kernel) h0 ?_
  refine g_1 (a := 200) (b := 0) (nx := 7) (by decide +kernel) ?_
  obtain ⟨r1, h⟩ := h
  by_cases c8 : (M x0 1) ≤ 200
  · rw [if_pos c8] at h
    refine g_41t (a := 5) (b := 13) (nx := 10) (by decide +kernel) (by rw [wr_id r1, wr_id (show inR 200 by decide)]; exact (cb_5 _ _).mpr c8) ?_
    refine g_7 (a := 0) (b := 0) (nx := 14) (by decide +kernel) rfl ?_
    refine g_80 (a := 208) (b := 0) (nx := 17) (by decide +kernel) (r := x0) (As := []) (st' := []) (z := 208) rfl rfl rfl (Nat.le_of_ble_eq_true rfl) h0.2 (Nat.le_of_ble_eq_true rfl) rfl (c_V (by decide +kernel) h (fun M2 h => ?_))
    refine g_1 (a := 0) (b := 0) (nx := 18) (by decide +kernel) ?_
    refine g_8 (a := 1) (b := 0) (nx := 19) (by decide +kernel) rfl (ls' := [some (vR x0), some (vI 0), none]) rfl ?_
    refine g_7 (a := 0) (b := 0) (nx := 20) (by decide +kernel) rfl ?_
    refine g_50 (a := 12) (b := 5) (nx := 23) (by decide +kernel) h0 ?_
    refine g_1 (a := 1) (b := 0) (nx := 24) (by decide +kernel) ?_
    obtain ⟨r4, h⟩ := h
    by_cases c7 : (M2 x0 5) = 1
    · rw [if_pos c7] at h
      refine g_41t (a := 0) (b := 32) (nx := 27) (by decide +kernel) (by rw [wr_id r4, wr_id (show inR 1 by decide)]; exact (cb_0 _ _).mpr c7) ?_
      exact h
    · rw [if_neg c7] at h
      refine g_41f (a := 0) (b := 32) (nx := 27) (by decide +kernel) (by rw [wr_id r4, wr_id (show inR 1 by decide)]; exact fun hz => c7 ((cb_0 _ _).mp hz)) ?_
      refine g_7 (a := 0) (b := 0) (nx := 28) (by decide +kernel) rfl ?_
      refine g_1 (a := 2) (b := 0) (nx := 29) (by decide +kernel) ?_
      refine g_80 (a := 188) (b := 1) (nx := 32) (by decide +kernel) (r := x0) (As := [vI 2]) (st' := []) (z := 188) rfl rfl rfl (Nat.le_of_ble_eq_true rfl) h0.2 (Nat.le_of_ble_eq_true rfl) rfl (c_V (by decide +kernel) h (fun M5 h => ?_))
      exact h
  · rw [if_neg c8] at h
    refine g_41f (a := 5) (b := 13) (nx := 10) (by decide +kernel) (by rw [wr_id r1, wr_id (show inR 200 by decide)]; exact fun hz => c8 ((cb_5 _ _).mp hz)) ?_
    refine g_1 (a := (-2)) (b := 0) (nx := 12) (by decide +kernel) ?_
    exact g_91 (b := 0) (nx := 13) (by decide +kernel) h
theorem t_211_32 {x0 x1 : Int} {l2 : Option AV} {M : Mem} {Q : AV → Mem → Prop} (h0 : gO 12 x0) (h : WI 189 [vR x0] M (fun y2 M1 => inR y2 ∧ (if y2 = 0 then (inR ((upM (upM M1 x0 10 (M1 x0 8)) x0 11 ((upM M1 x0 10 (M1 x0 8)) x0 9)) x0 8) ∧ (if ((upM (upM M1 x0 10 (M1 x0 8)) x0 11 ((upM M1 x0 10 (M1 x0 8)) x0 9)) x0 8) ≤ 0 then (WR 211 208 [some (vR x0), some (vI x1), some (vI 0)] [] (upM (upM M1 x0 10 (M1 x0 8)) x0 11 ((upM M1 x0 10 (M1 x0 8)) x0 9)) Q) else (Q (vI (-1)) (upM (upM M1 x0 10 (M1 x0 8)) x0 11 ((upM M1 x0 10 (M1 x0 8)) x0 9))))) else (inR (M1 x0 5) ∧ (if (M1 x0 5) = 0 then (inR ((upM (upM M1 x0 10 (M1 x0 8)) x0 11 ((upM M1 x0 10 (M1 x0 8)) x0 9)) x0 8) ∧ (if ((upM (upM M1 x0 10 (M1 x0 8)) x0 11 ((upM M1 x0 10 (M1 x0 8)) x0 9)) x0 8) ≤ 0 then (WR 211 208 [some (vR x0), some (vI x1), some (vI 0)] [] (upM (upM M1 x0 10 (M1 x0 8)) x0 11 ((upM M1 x0 10 (M1 x0 8)) x0 9)) Q) else (Q (vI (-1)) (upM (upM M1 x0 10 (M1 x0 8)) x0 11 ((upM M1 x0 10 (M1 x0 8)) x0 9))))) else (if (M1 x0 5) = 1 then (WR 211 61 [some (vR x0), some (vI x1), some (vI 0)] [] M1 Q) else (WV 188 [vR x0, vI 2] M1 (fun M9 => WR 211 61 [some (vR x0), some (vI x1), some (vI 0)] [] M9 Q)))))))) : WR 211 32 [some (vR x0), some (vI x1), l2] [] M Q := by
  refine g_7 (a := 0) (b := 0) (nx := 33) (by decide +kernel) rfl ?_
  refine g_80 (a := 189) (b := 0) (nx := 36) (by decide +kernel) (r := x0) (As := []) (st' := []) (z := 189) rfl rfl rfl (Nat.le_of_ble_eq_true rfl) h0.2 (Nat.le_of_ble_eq_true rfl) rfl (c_I (by decide +kernel) h (fun y2 M1 h => ?_))
  obtain ⟨r3, h⟩ := h
  by_cases c13 : y2 = 0
  · rw [if_pos c13] at h
    refine g_40t (a := 0) (b := 181) (nx := 39) (by decide +kernel) r3 (by exact (cb_0 _ _).mpr c13) ?_
    refine g_7 (a := 0) (b := 0) (nx := 182) (by decide +kernel) rfl ?_
    refine g_7 (a := 0) (b := 0) (nx := 183) (by decide +kernel) rfl ?_
    refine g_50 (a := 12) (b := 8) (nx := 186) (by decide +kernel) h0 ?_
    refine g_53 (a := 12) (b := 10) (nx := 189) (by decide +kernel) h0 ?_
    refine g_7 (a := 0) (b := 0) (nx := 190) (by decide +kernel) rfl ?_
    refine g_7 (a := 0) (b := 0) (nx := 191) (by decide +kernel) rfl ?_
    refine g_50 (a := 12) (b := 9) (nx := 194) (by decide +kernel) h0 ?_
    refine g_53 (a := 12) (b := 11) (nx := 197) (by decide +kernel) h0 ?_
    refine g_7 (a := 0) (b := 0) (nx := 198) (by decide +kernel) rfl ?_
    refine g_50 (a := 12) (b := 8) (nx := 201) (by decide +kernel) h0 ?_
    obtain ⟨r4, h⟩ := h
    by_cases c5 : ((upM (upM M1 x0 10 (M1 x0 8)) x0 11 ((upM M1 x0 10 (M1 x0 8)) x0 9)) x0 8) ≤ 0
    · rw [if_pos c5] at h
      refine g_40t (a := 5) (b := 206) (nx := 204) (by decide +kernel) r4 (by exact (cb_5 _ _).mpr c5) ?_
      refine g_1 (a := 0) (b := 0) (nx := 207) (by decide +kernel) ?_
      refine g_8 (a := 2) (b := 0) (nx := 208) (by decide +kernel) rfl (ls' := [some (vR x0), some (vI x1), some (vI 0)]) rfl ?_
      exact h
    · rw [if_neg c5] at h
      refine g_40f (a := 5) (b := 206) (nx := 204) (by decide +kernel) r4 (by exact fun hz => c5 ((cb_5 _ _).mp hz)) ?_
      refine g_1 (a := (-1)) (b := 0) (nx := 205) (by decide +kernel) ?_
      exact g_91 (b := 0) (nx := 206) (by decide +kernel) h
  · rw [if_neg c13] at h
    refine g_40f (a := 0) (b := 181) (nx := 39) (by decide +kernel) r3 (by exact fun hz => c13 ((cb_0 _ _).mp hz)) ?_
    refine g_7 (a := 0) (b := 0) (nx := 40) (by decide +kernel) rfl ?_
    refine g_50 (a := 12) (b := 5) (nx := 43) (by decide +kernel) h0 ?_
    obtain ⟨r6, h⟩ := h
    by_cases c12 : (M1 x0 5) = 0
    · rw [if_pos c12] at h
      refine g_40t (a := 0) (b := 181) (nx := 46) (by decide +kernel) r6 (by exact (cb_0 _ _).mpr c12) ?_
      refine g_7 (a := 0) (b := 0) (nx := 182) (by decide +kernel) rfl ?_
      refine g_7 (a := 0) (b := 0) (nx := 183) (by decide +kernel) rfl ?_
      refine g_50 (a := 12) (b := 8) (nx := 186) (by decide +kernel) h0 ?_
      refine g_53 (a := 12) (b := 10) (nx := 189) (by decide +kernel) h0 ?_
      refine g_7 (a := 0) (b := 0) (nx := 190) (by decide +kernel) rfl ?_
      refine g_7 (a := 0) (b := 0) (nx := 191) (by decide +kernel) rfl ?_
      refine g_50 (a := 12) (b := 9) (nx := 194) (by decide +kernel) h0 ?_
      refine g_53 (a := 12) (b := 11) (nx := 197) (by decide +kernel) h0 ?_
      refine g_7 (a := 0) (b := 0) (nx := 198) (by decide +kernel) rfl ?_
      refine g_50 (a := 12) (b := 8) (nx := 201) (by decide +kernel) h0 ?_
      obtain ⟨r7, h⟩ := h
      by_cases c8 : ((upM (upM M1 x0 10 (M1 x0 8)) x0 11 ((upM M1 x0 10 (M1 x0 8)) x0 9)) x0 8) ≤ 0
      · rw [if_pos c8] at h
        refine g_40t (a := 5) (b := 206) (nx := 204) (by decide +kernel) r7 (by exact (cb_5 _ _).mpr c8) ?_
        refine g_1 (a := 0) (b := 0) (nx := 207) (by decide +kernel) ?_
        refine g_8 (a := 2) (b := 0) (nx := 208) (by decide +kernel) rfl (ls' := [some (vR x0), some (vI x1), some (vI 0)]) rfl ?_
        exact h
      · rw [if_neg c8] at h
        refine g_40f (a := 5) (b := 206) (nx := 204) (by decide +kernel) r7 (by exact fun hz => c8 ((cb_5 _ _).mp hz)) ?_
        refine g_1 (a := (-1)) (b := 0) (nx := 205) (by decide +kernel) ?_
        exact g_91 (b := 0) (nx := 206) (by decide +kernel) h
    · rw [if_neg c12] at h
      refine g_40f (a := 0) (b := 181) (nx := 46) (by decide +kernel) r6 (by exact fun hz => c12 ((cb_0 _ _).mp hz)) ?_
      refine g_7 (a := 0) (b := 0) (nx := 47) (by decide +kernel) rfl ?_
      refine g_50 (a := 12) (b := 5) (nx := 50) (by decide +kernel) h0 ?_
      refine g_1 (a := 1) (b := 0) (nx := 51) (by decide +kernel) ?_
      by_cases c11 : (M1 x0 5) = 1
      · rw [if_pos c11] at h
        refine g_41t (a := 0) (b := 59) (nx := 54) (by decide +kernel) (by rw [wr_id r6, wr_id (show inR 1 by decide)]; exact (cb_0 _ _).mpr c11) ?_
        refine g_1 (a := 0) (b := 0) (nx := 60) (by decide +kernel) ?_
        refine g_8 (a := 2) (b := 0) (nx := 61) (by decide +kernel) rfl (ls' := [some (vR x0), some (vI x1), some (vI 0)]) rfl ?_
        exact h
      · rw [if_neg c11] at h
        refine g_41f (a := 0) (b := 59) (nx := 54) (by decide +kernel) (by rw [wr_id r6, wr_id (show inR 1 by decide)]; exact fun hz => c11 ((cb_0 _ _).mp hz)) ?_
        refine g_7 (a := 0) (b := 0) (nx := 55) (by decide +kernel) rfl ?_
        refine g_1 (a := 2) (b := 0) (nx := 56) (by decide +kernel) ?_
        refine g_80 (a := 188) (b := 1) (nx := 59) (by decide +kernel) (r := x0) (As := [vI 2]) (st' := []) (z := 188) rfl rfl rfl (Nat.le_of_ble_eq_true rfl) h0.2 (Nat.le_of_ble_eq_true rfl) rfl (c_V (by decide +kernel) h (fun M9 h => ?_))
        refine g_1 (a := 0) (b := 0) (nx := 60) (by decide +kernel) ?_
        refine g_8 (a := 2) (b := 0) (nx := 61) (by decide +kernel) rfl (ls' := [some (vR x0), some (vI x1), some (vI 0)]) rfl ?_
        exact h
theorem t_211_61 {x0 x1 x2 : Int} {M : Mem} {Q : AV → Mem → Prop} (h0 : gO 12 x0) (h : inR x2 ∧ (inR (M x0 7) ∧ (if (M x0 7) ≤ x2 then (inR x1 ∧ (if x1 = 8 then (WV 188 [vR x0, vI 5] M (fun M8 => inR (M8 x0 8) ∧ (if (M8 x0 8) ≤ 0 then (WR 211 125 [some (vR x0), some (vI x1), some (vI 0)] [] M8 Q) else (inR ((upM (upM M8 x0 10 (M8 x0 8)) x0 11 ((upM M8 x0 10 (M8 x0 8)) x0 9)) x0 8) ∧ (if ((upM (upM M8 x0 10 (M8 x0 8)) x0 11 ((upM M8 x0 10 (M8 x0 8)) x0 9)) x0 8) ≤ 0 then (WR 211 208 [some (vR x0), some (vI x1), some (vI 0)] [] (upM (upM M8 x0 10 (M8 x0 8)) x0 11 ((upM M8 x0 10 (M8 x0 8)) x0 9)) Q) else (Q (vI (-1)) (upM (upM M8 x0 10 (M8 x0 8)) x0 11 ((upM M8 x0 10 (M8 x0 8)) x0 9)))))))) else (inR (M x0 8) ∧ (if (M x0 8) ≤ 0 then (WR 211 125 [some (vR x0), some (vI x1), some (vI 0)] [] M Q) else (inR ((upM (upM M x0 10 (M x0 8)) x0 11 ((upM M x0 10 (M x0 8)) x0 9)) x0 8) ∧ (if ((upM (upM M x0 10 (M x0 8)) x0 11 ((upM M x0 10 (M x0 8)) x0 9)) x0 8) ≤ 0 then (WR 211 208 [some (vR x0), some (vI x1), some (vI 0)] [] (upM (upM M x0 10 (M x0 8)) x0 11 ((upM M x0 10 (M x0 8)) x0 9)) Q) else (Q (vI (-1)) (upM (upM M x0 10 (M x0 8)) x0 11 ((upM M x0 10 (M x0 8)) x0 9))))))))) else (WI 189 [vR x0] M (fun y16 M15 => inR y16 ∧ (if y16 = 0 then (inR x1 ∧ (if x1 = 8 then (WV 188 [vR x0, vI 5] M15 (fun M23 => inR (M23 x0 8) ∧ (if (M23 x0 8) ≤ 0 then (WR 211 125 [some (vR x0), some (vI x1), some (vI 0)] [] M23 Q) else (inR ((upM (upM M23 x0 10 (M23 x0 8)) x0 11 ((upM M23 x0 10 (M23 x0 8)) x0 9)) x0 8) ∧ (if ((upM (upM M23 x0 10 (M23 x0 8)) x0 11 ((upM M23 x0 10 (M23 x0 8)) x0 9)) x0 8) ≤ 0 then (WR 211 208 [some (vR x0), some (vI x1), some (vI 0)] [] (upM (upM M23 x0 10 (M23 x0 8)) x0 11 ((upM M23 x0 10 (M23 x0 8)) x0 9)) Q) else (Q (vI (-1)) (upM (upM M23 x0 10 (M23 x0 8)) x0 11 ((upM M23 x0 10 (M23 x0 8)) x0 9)))))))) else (inR (M15 x0 8) ∧ (if (M15 x0 8) ≤ 0 then (WR 211 125 [some (vR x0), some (vI x1), some (vI 0)] [] M15 Q) else (inR ((upM (upM M15 x0 10 (M15 x0 8)) x0 11 ((upM M15 x0 10 (M15 x0 8)) x0 9)) x0 8) ∧ (if ((upM (upM M15 x0 10 (M15 x0 8)) x0 11 ((upM M15 x0 10 (M15 x0 8)) x0 9)) x0 8) ≤ 0 then (WR 211 208 [some (vR x0), some (vI x1), some (vI 0)] [] (upM (upM M15 x0 10 (M15 x0 8)) x0 11 ((upM M15 x0 10 (M15 x0 8)) x0 9)) Q) else (Q (vI (-1)) (upM (upM M15 x0 10 (M15 x0 8)) x0 11 ((upM M15 x0 10 (M15 x0 8)) x0 9))))))))) else ((gA 20 (M15 x0 12) x2) ∧ (gA 20 (M15 x0 48) (M15 (M15 x0 12) x2)) ∧ inR (M15 (M15 x0 48) (M15 (M15 x0 12) x2)) ∧ (if (M15 (M15 x0 48) (M15 (M15 x0 12) x2)) = (-1) then (WV 188 [vR x0, vI 3] M15 (fun M31 => WR 211 61 [some (vR x0), some (vI x1), some (vI (x2 + 1))] [] M31 Q)) else (WR 211 61 [some (vR x0), some (vI x1), some (vI (x2 + 1))] [] M15 Q))))))))) : WR 211 61 [some (vR x0), some (vI x1), some (vI x2)] [] M Q := by
  refine g_5 (a := 2) (b := 0) (nx := 62) (by decide +kernel) rfl ?_
  refine g_7 (a := 0) (b := 0) (nx := 63) (by decide +kernel) rfl ?_
  refine g_50 (a := 12) (b := 7) (nx := 66) (by decide +kernel) h0 ?_
  obtain ⟨r1, h⟩ := h
  obtain ⟨r2, h⟩ := h
  by_cases c35 : (M x0 7) ≤ x2
  · rw [if_pos c35] at h
    refine g_41t (a := 3) (b := 102) (nx := 69) (by decide +kernel) (by rw [wr_id r1, wr_id r2]; exact (cb_3 _ _).mpr c35) ?_
    refine g_5 (a := 1) (b := 0) (nx := 103) (by decide +kernel) rfl ?_
    refine g_1 (a := 8) (b := 0) (nx := 105) (by decide +kernel) ?_
    obtain ⟨r3, h⟩ := h
    by_cases c14 : x1 = 8
    · rw [if_pos c14] at h
      refine g_41f (a := 1) (b := 113) (nx := 108) (by decide +kernel) (by rw [wr_id r3, wr_id (show inR 8 by decide)]; exact fun hz => ((cb_1 _ _).mp hz) c14) ?_
      refine g_7 (a := 0) (b := 0) (nx := 109) (by decide +kernel) rfl ?_
      refine g_1 (a := 5) (b := 0) (nx := 110) (by decide +kernel) ?_
      refine g_80 (a := 188) (b := 1) (nx := 113) (by decide +kernel) (r := x0) (As := [vI 5]) (st' := []) (z := 188) rfl rfl rfl (Nat.le_of_ble_eq_true rfl) h0.2 (Nat.le_of_ble_eq_true rfl) rfl (c_V (by decide +kernel) h (fun M8 h => ?_))
      refine g_7 (a := 0) (b := 0) (nx := 114) (by decide +kernel) rfl ?_
      refine g_50 (a := 12) (b := 8) (nx := 117) (by decide +kernel) h0 ?_
      obtain ⟨r10, h⟩ := h
      by_cases c13 : (M8 x0 8) ≤ 0
      · rw [if_pos c13] at h
        refine g_40t (a := 5) (b := 123) (nx := 120) (by decide +kernel) r10 (by exact (cb_5 _ _).mpr c13) ?_
        refine g_1 (a := 0) (b := 0) (nx := 124) (by decide +kernel) ?_
        refine g_8 (a := 2) (b := 0) (nx := 125) (by decide +kernel) rfl (ls' := [some (vR x0), some (vI x1), some (vI 0)]) rfl ?_
        exact h
      · rw [if_neg c13] at h
        refine g_40f (a := 5) (b := 123) (nx := 120) (by decide +kernel) r10 (by exact fun hz => c13 ((cb_5 _ _).mp hz)) ?_
        refine g_44 (a := 0) (b := 181) (nx := 123) (by decide +kernel) ?_
        refine g_7 (a := 0) (b := 0) (nx := 182) (by decide +kernel) rfl ?_
        refine g_7 (a := 0) (b := 0) (nx := 183) (by decide +kernel) rfl ?_
        refine g_50 (a := 12) (b := 8) (nx := 186) (by decide +kernel) h0 ?_
        refine g_53 (a := 12) (b := 10) (nx := 189) (by decide +kernel) h0 ?_
        refine g_7 (a := 0) (b := 0) (nx := 190) (by decide +kernel) rfl ?_
        refine g_7 (a := 0) (b := 0) (nx := 191) (by decide +kernel) rfl ?_
        refine g_50 (a := 12) (b := 9) (nx := 194) (by decide +kernel) h0 ?_
        refine g_53 (a := 12) (b := 11) (nx := 197) (by decide +kernel) h0 ?_
        refine g_7 (a := 0) (b := 0) (nx := 198) (by decide +kernel) rfl ?_
        refine g_50 (a := 12) (b := 8) (nx := 201) (by decide +kernel) h0 ?_
        obtain ⟨r11, h⟩ := h
        by_cases c12 : ((upM (upM M8 x0 10 (M8 x0 8)) x0 11 ((upM M8 x0 10 (M8 x0 8)) x0 9)) x0 8) ≤ 0
        · rw [if_pos c12] at h
          refine g_40t (a := 5) (b := 206) (nx := 204) (by decide +kernel) r11 (by exact (cb_5 _ _).mpr c12) ?_
          refine g_1 (a := 0) (b := 0) (nx := 207) (by decide +kernel) ?_
          refine g_8 (a := 2) (b := 0) (nx := 208) (by decide +kernel) rfl (ls' := [some (vR x0), some (vI x1), some (vI 0)]) rfl ?_
          exact h
        · rw [if_neg c12] at h
          refine g_40f (a := 5) (b := 206) (nx := 204) (by decide +kernel) r11 (by exact fun hz => c12 ((cb_5 _ _).mp hz)) ?_
          refine g_1 (a := (-1)) (b := 0) (nx := 205) (by decide +kernel) ?_
          exact g_91 (b := 0) (nx := 206) (by decide +kernel) h
    · rw [if_neg c14] at h
      refine g_41t (a := 1) (b := 113) (nx := 108) (by decide +kernel) (by rw [wr_id r3, wr_id (show inR 8 by decide)]; exact (cb_1 _ _).mpr c14) ?_
      refine g_7 (a := 0) (b := 0) (nx := 114) (by decide +kernel) rfl ?_
      refine g_50 (a := 12) (b := 8) (nx := 117) (by decide +kernel) h0 ?_
      obtain ⟨r4, h⟩ := h
      by_cases c7 : (M x0 8) ≤ 0
      · rw [if_pos c7] at h
        refine g_40t (a := 5) (b := 123) (nx := 120) (by decide +kernel) r4 (by exact (cb_5 _ _).mpr c7) ?_
        refine g_1 (a := 0) (b := 0) (nx := 124) (by decide +kernel) ?_
        refine g_8 (a := 2) (b := 0) (nx := 125) (by decide +kernel) rfl (ls' := [some (vR x0), some (vI x1), some (vI 0)]) rfl ?_
        exact h
      · rw [if_neg c7] at h
        refine g_40f (a := 5) (b := 123) (nx := 120) (by decide +kernel) r4 (by exact fun hz => c7 ((cb_5 _ _).mp hz)) ?_
        refine g_44 (a := 0) (b := 181) (nx := 123) (by decide +kernel) ?_
        refine g_7 (a := 0) (b := 0) (nx := 182) (by decide +kernel) rfl ?_
        refine g_7 (a := 0) (b := 0) (nx := 183) (by decide +kernel) rfl ?_
        refine g_50 (a := 12) (b := 8) (nx := 186) (by decide +kernel) h0 ?_
        refine g_53 (a := 12) (b := 10) (nx := 189) (by decide +kernel) h0 ?_
        refine g_7 (a := 0) (b := 0) (nx := 190) (by decide +kernel) rfl ?_
        refine g_7 (a := 0) (b := 0) (nx := 191) (by decide +kernel) rfl ?_
        refine g_50 (a := 12) (b := 9) (nx := 194) (by decide +kernel) h0 ?_
        refine g_53 (a := 12) (b := 11) (nx := 197) (by decide +kernel) h0 ?_
        refine g_7 (a := 0) (b := 0) (nx := 198) (by decide +kernel) rfl ?_
        refine g_50 (a := 12) (b := 8) (nx := 201) (by decide +kernel) h0 ?_
        obtain ⟨r5, h⟩ := h
        by_cases c6 : ((upM (upM M x0 10 (M x0 8)) x0 11 ((upM M x0 10 (M x0 8)) x0 9)) x0 8) ≤ 0
        · rw [if_pos c6] at h
          refine g_40t (a := 5) (b := 206) (nx := 204) (by decide +kernel) r5 (by exact (cb_5 _ _).mpr c6) ?_
          refine g_1 (a := 0) (b := 0) (nx := 207) (by decide +kernel) ?_
          refine g_8 (a := 2) (b := 0) (nx := 208) (by decide +kernel) rfl (ls' := [some (vR x0), some (vI x1), some (vI 0)]) rfl ?_
          exact h
        · rw [if_neg c6] at h
          refine g_40f (a := 5) (b := 206) (nx := 204) (by decide +kernel) r5 (by exact fun hz => c6 ((cb_5 _ _).mp hz)) ?_
          refine g_1 (a := (-1)) (b := 0) (nx := 205) (by decide +kernel) ?_
          exact g_91 (b := 0) (nx := 206) (by decide +kernel) h
  · rw [if_neg c35] at h
    refine g_41f (a := 3) (b := 102) (nx := 69) (by decide +kernel) (by rw [wr_id r1, wr_id r2]; exact fun hz => c35 ((cb_3 _ _).mp hz)) ?_
    refine g_7 (a := 0) (b := 0) (nx := 70) (by decide +kernel) rfl ?_
    refine g_80 (a := 189) (b := 0) (nx := 73) (by decide +kernel) (r := x0) (As := []) (st' := []) (z := 189) rfl rfl rfl (Nat.le_of_ble_eq_true rfl) h0.2 (Nat.le_of_ble_eq_true rfl) rfl (c_I (by decide +kernel) h (fun y16 M15 h => ?_))
    obtain ⟨r17, h⟩ := h
    by_cases c34 : y16 = 0
    · rw [if_pos c34] at h
      refine g_40t (a := 0) (b := 102) (nx := 76) (by decide +kernel) r17 (by exact (cb_0 _ _).mpr c34) ?_
      refine g_5 (a := 1) (b := 0) (nx := 103) (by decide +kernel) rfl ?_
      refine g_1 (a := 8) (b := 0) (nx := 105) (by decide +kernel) ?_
      obtain ⟨r18, h⟩ := h
      by_cases c29 : x1 = 8
      · rw [if_pos c29] at h
        refine g_41f (a := 1) (b := 113) (nx := 108) (by decide +kernel) (by rw [wr_id r18, wr_id (show inR 8 by decide)]; exact fun hz => ((cb_1 _ _).mp hz) c29) ?_
        refine g_7 (a := 0) (b := 0) (nx := 109) (by decide +kernel) rfl ?_
        refine g_1 (a := 5) (b := 0) (nx := 110) (by decide +kernel) ?_
        refine g_80 (a := 188) (b := 1) (nx := 113) (by decide +kernel) (r := x0) (As := [vI 5]) (st' := []) (z := 188) rfl rfl rfl (Nat.le_of_ble_eq_true rfl) h0.2 (Nat.le_of_ble_eq_true rfl) rfl (c_V (by decide +kernel) h (fun M23 h => ?_))
        refine g_7 (a := 0) (b := 0) (nx := 114) (by decide +kernel) rfl ?_
        refine g_50 (a := 12) (b := 8) (nx := 117) (by decide +kernel) h0 ?_
        obtain ⟨r25, h⟩ := h
        by_cases c28 : (M23 x0 8) ≤ 0
        · rw [if_pos c28] at h
          refine g_40t (a := 5) (b := 123) (nx := 120) (by decide +kernel) r25 (by exact (cb_5 _ _).mpr c28) ?_
          refine g_1 (a := 0) (b := 0) (nx := 124) (by decide +kernel) ?_
          refine g_8 (a := 2) (b := 0) (nx := 125) (by decide +kernel) rfl (ls' := [some (vR x0), some (vI x1), some (vI 0)]) rfl ?_
          exact h
        · rw [if_neg c28] at h
          refine g_40f (a := 5) (b := 123) (nx := 120) (by decide +kernel) r25 (by exact fun hz => c28 ((cb_5 _ _).mp hz)) ?_
          refine g_44 (a := 0) (b := 181) (nx := 123) (by decide +kernel) ?_
          refine g_7 (a := 0) (b := 0) (nx := 182) (by decide +kernel) rfl ?_
          refine g_7 (a := 0) (b := 0) (nx := 183) (by decide +kernel) rfl ?_
          refine g_50 (a := 12) (b := 8) (nx := 186) (by decide +kernel) h0 ?_
          refine g_53 (a := 12) (b := 10) (nx := 189) (by decide +kernel) h0 ?_
          refine g_7 (a := 0) (b := 0) (nx := 190) (by decide +kernel) rfl ?_
          refine g_7 (a := 0) (b := 0) (nx := 191) (by decide +kernel) rfl ?_
          refine g_50 (a := 12) (b := 9) (nx := 194) (by decide +kernel) h0 ?_
          refine g_53 (a := 12) (b := 11) (nx := 197) (by decide +kernel) h0 ?_
          refine g_7 (a := 0) (b := 0) (nx := 198) (by decide +kernel) rfl ?_
          refine g_50 (a := 12) (b := 8) (nx := 201) (by decide +kernel) h0 ?_
          obtain ⟨r26, h⟩ := h
          by_cases c27 : ((upM (upM M23 x0 10 (M23 x0 8)) x0 11 ((upM M23 x0 10 (M23 x0 8)) x0 9)) x0 8) ≤ 0
          · rw [if_pos c27] at h
            refine g_40t (a := 5) (b := 206) (nx := 204) (by decide +kernel) r26 (by exact (cb_5 _ _).mpr c27) ?_
            refine g_1 (a := 0) (b := 0) (nx := 207) (by decide +kernel) ?_
            refine g_8 (a := 2) (b := 0) (nx := 208) (by decide +kernel) rfl (ls' := [some (vR x0), some (vI x1), some (vI 0)]) rfl ?_
            exact h
          · rw [if_neg c27] at h
            refine g_40f (a := 5) (b := 206) (nx := 204) (by decide +kernel) r26 (by exact fun hz => c27 ((cb_5 _ _).mp hz)) ?_
            refine g_1 (a := (-1)) (b := 0) (nx := 205) (by decide +kernel) ?_
            exact g_91 (b := 0) (nx := 206) (by decide +kernel) h
      · rw [if_neg c29] at h
        refine g_41t (a := 1) (b := 113) (nx := 108) (by decide +kernel) (by rw [wr_id r18, wr_id (show inR 8 by decide)]; exact (cb_1 _ _).mpr c29) ?_
        refine g_7 (a := 0) (b := 0) (nx := 114) (by decide +kernel) rfl ?_
        refine g_50 (a := 12) (b := 8) (nx := 117) (by decide +kernel) h0 ?_
        obtain ⟨r19, h⟩ := h
        by_cases c22 : (M15 x0 8) ≤ 0
        · rw [if_pos c22] at h
          refine g_40t (a := 5) (b := 123) (nx := 120) (by decide +kernel) r19 (by exact (cb_5 _ _).mpr c22) ?_
          refine g_1 (a := 0) (b := 0) (nx := 124) (by decide +kernel) ?_
          refine g_8 (a := 2) (b := 0) (nx := 125) (by decide +kernel) rfl (ls' := [some (vR x0), some (vI x1), some (vI 0)]) rfl ?_
          exact h
        · rw [if_neg c22] at h
          refine g_40f (a := 5) (b := 123) (nx := 120) (by decide +kernel) r19 (by exact fun hz => c22 ((cb_5 _ _).mp hz)) ?_
          refine g_44 (a := 0) (b := 181) (nx := 123) (by decide +kernel) ?_
          refine g_7 (a := 0) (b := 0) (nx := 182) (by decide +kernel) rfl ?_
          refine g_7 (a := 0) (b := 0) (nx := 183) (by decide +kernel) rfl ?_
          refine g_50 (a := 12) (b := 8) (nx := 186) (by decide +kernel) h0 ?_
          refine g_53 (a := 12) (b := 10) (nx := 189) (by decide +kernel) h0 ?_
          refine g_7 (a := 0) (b := 0) (nx := 190) (by decide +kernel) rfl ?_
          refine g_7 (a := 0) (b := 0) (nx := 191) (by decide +kernel) rfl ?_
          refine g_50 (a := 12) (b := 9) (nx := 194) (by decide +kernel) h0 ?_
          refine g_53 (a := 12) (b := 11) (nx := 197) (by decide +kernel) h0 ?_
          refine g_7 (a := 0) (b := 0) (nx := 198) (by decide +kernel) rfl ?_
          refine g_50 (a := 12) (b := 8) (nx := 201) (by decide +kernel) h0 ?_
          obtain ⟨r20, h⟩ := h
          by_cases c21 : ((upM (upM M15 x0 10 (M15 x0 8)) x0 11 ((upM M15 x0 10 (M15 x0 8)) x0 9)) x0 8) ≤ 0
          · rw [if_pos c21] at h
            refine g_40t (a := 5) (b := 206) (nx := 204) (by decide +kernel) r20 (by exact (cb_5 _ _).mpr c21) ?_
            refine g_1 (a := 0) (b := 0) (nx := 207) (by decide +kernel) ?_
            refine g_8 (a := 2) (b := 0) (nx := 208) (by decide +kernel) rfl (ls' := [some (vR x0), some (vI x1), some (vI 0)]) rfl ?_
            exact h
          · rw [if_neg c21] at h
            refine g_40f (a := 5) (b := 206) (nx := 204) (by decide +kernel) r20 (by exact fun hz => c21 ((cb_5 _ _).mp hz)) ?_
            refine g_1 (a := (-1)) (b := 0) (nx := 205) (by decide +kernel) ?_
            exact g_91 (b := 0) (nx := 206) (by decide +kernel) h
    · rw [if_neg c34] at h
      refine g_40f (a := 0) (b := 102) (nx := 76) (by decide +kernel) r17 (by exact fun hz => c34 ((cb_0 _ _).mp hz)) ?_
      refine g_7 (a := 0) (b := 0) (nx := 77) (by decide +kernel) rfl ?_
      refine g_52 (a := 12) (b := 48) (nx := 80) (by decide +kernel) h0 ?_
      refine g_7 (a := 0) (b := 0) (nx := 81) (by decide +kernel) rfl ?_
      refine g_52 (a := 12) (b := 12) (nx := 84) (by decide +kernel) h0 ?_
      refine g_5 (a := 2) (b := 0) (nx := 85) (by decide +kernel) rfl ?_
      refine g_61 (a := 0) (b := 0) (nx := 86) (by decide +kernel) h.1 ?_
      replace h := h.2
      refine g_61 (a := 0) (b := 0) (nx := 87) (by decide +kernel) h.1 ?_
      replace h := h.2
      refine g_1 (a := (-1)) (b := 0) (nx := 88) (by decide +kernel) ?_
      obtain ⟨r30, h⟩ := h
      by_cases c33 : (M15 (M15 x0 48) (M15 (M15 x0 12) x2)) = (-1)
      · rw [if_pos c33] at h
        refine g_41f (a := 1) (b := 96) (nx := 91) (by decide +kernel) (by rw [wr_id r30, wr_id (show inR (-1) by decide)]; exact fun hz => ((cb_1 _ _).mp hz) c33) ?_
        refine g_7 (a := 0) (b := 0) (nx := 92) (by decide +kernel) rfl ?_
        refine g_1 (a := 3) (b := 0) (nx := 93) (by decide +kernel) ?_
        refine g_80 (a := 188) (b := 1) (nx := 96) (by decide +kernel) (r := x0) (As := [vI 3]) (st' := []) (z := 188) rfl rfl rfl (Nat.le_of_ble_eq_true rfl) h0.2 (Nat.le_of_ble_eq_true rfl) rfl (c_V (by decide +kernel) h (fun M31 h => ?_))
        refine g_11 (a := 2) (b := 1) (nx := 99) (by decide +kernel) rfl rfl (ls' := [some (vR x0), some (vI x1), some (vI (x2 + 1))]) rfl ?_
        refine g_44 (a := 0) (b := 61) (nx := 102) (by decide +kernel) ?_
        exact h
      · rw [if_neg c33] at h
        refine g_41t (a := 1) (b := 96) (nx := 91) (by decide +kernel) (by rw [wr_id r30, wr_id (show inR (-1) by decide)]; exact (cb_1 _ _).mpr c33) ?_
        refine g_11 (a := 2) (b := 1) (nx := 99) (by decide +kernel) rfl rfl (ls' := [some (vR x0), some (vI x1), some (vI (x2 + 1))]) rfl ?_
        refine g_44 (a := 0) (b := 61) (nx := 102) (by decide +kernel) ?_
        exact h
theorem t_211_125 {x0 x1 x2 : Int} {M : Mem} {Q : AV → Mem → Prop} (h0 : gO 12 x0) (h : inR x2 ∧ (inR (M x0 7) ∧ (if (M x0 7) ≤ x2 then ((gA 20 (M x0 60) x1) ∧ WV 187 [vR x0] (upM M (M x0 60) x1 (M x0 7)) (fun M3 => WR 211 32 [some (vR x0), some (vI (x1 + 1)), some (vI x2)] [] M3 Q)) else ((gA 20 (M x0 12) x2) ∧ (gA 20 (M x0 48) (M (M x0 12) x2)) ∧ (gA 20 (M x0 59) ((12 * x1) + x2)) ∧ WR 211 125 [some (vR x0), some (vI x1), some (vI (x2 + 1))] [] (upM M (M x0 59) ((12 * x1) + x2) (M (M x0 48) (M (M x0 12) x2))) Q)))) : WR 211 125 [some (vR x0), some (vI x1), some (vI x2)] [] M Q := by
  refine g_5 (a := 2) (b := 0) (nx := 126) (by decide +kernel) rfl ?_
  refine g_7 (a := 0) (b := 0) (nx := 127) (by decide +kernel) rfl ?_
  refine g_50 (a := 12) (b := 7) (nx := 130) (by decide +kernel) h0 ?_
  obtain ⟨r1, h⟩ := h
  obtain ⟨r2, h⟩ := h
  by_cases c5 : (M x0 7) ≤ x2
  · rw [if_pos c5] at h
    refine g_41t (a := 3) (b := 161) (nx := 133) (by decide +kernel) (by rw [wr_id r1, wr_id r2]; exact (cb_3 _ _).mpr c5) ?_
    refine g_7 (a := 0) (b := 0) (nx := 162) (by decide +kernel) rfl ?_
    refine g_52 (a := 12) (b := 60) (nx := 165) (by decide +kernel) h0 ?_
    refine g_5 (a := 1) (b := 0) (nx := 166) (by decide +kernel) rfl ?_
    refine g_7 (a := 0) (b := 0) (nx := 167) (by decide +kernel) rfl ?_
    refine g_50 (a := 12) (b := 7) (nx := 170) (by decide +kernel) h0 ?_
    refine g_62 (a := 0) (b := 0) (nx := 171) (by decide +kernel) h.1 ?_
    replace h := h.2
    refine g_11 (a := 1) (b := 1) (nx := 174) (by decide +kernel) rfl rfl (ls' := [some (vR x0), some (vI (x1 + 1)), some (vI x2)]) rfl ?_
    refine g_7 (a := 0) (b := 0) (nx := 175) (by decide +kernel) rfl ?_
    refine g_80 (a := 187) (b := 0) (nx := 178) (by decide +kernel) (r := x0) (As := []) (st' := []) (z := 187) rfl rfl rfl (Nat.le_of_ble_eq_true rfl) h0.2 (Nat.le_of_ble_eq_true rfl) rfl (c_V (by decide +kernel) h (fun M3 h => ?_))
    refine g_44 (a := 0) (b := 32) (nx := 181) (by decide +kernel) ?_
    exact h
  · rw [if_neg c5] at h
    refine g_41f (a := 3) (b := 161) (nx := 133) (by decide +kernel) (by rw [wr_id r1, wr_id r2]; exact fun hz => c5 ((cb_3 _ _).mp hz)) ?_
    refine g_7 (a := 0) (b := 0) (nx := 134) (by decide +kernel) rfl ?_
    refine g_52 (a := 12) (b := 59) (nx := 137) (by decide +kernel) h0 ?_
    refine g_1 (a := 12) (b := 0) (nx := 139) (by decide +kernel) ?_
    refine g_5 (a := 1) (b := 0) (nx := 140) (by decide +kernel) rfl ?_
    refine g_17 (a := 0) (b := 0) (nx := 141) (by decide +kernel) ?_
    refine g_5 (a := 2) (b := 0) (nx := 142) (by decide +kernel) rfl ?_
    refine g_15 (a := 0) (b := 0) (nx := 143) (by decide +kernel) ?_
    refine g_7 (a := 0) (b := 0) (nx := 144) (by decide +kernel) rfl ?_
    refine g_52 (a := 12) (b := 48) (nx := 147) (by decide +kernel) h0 ?_
    refine g_7 (a := 0) (b := 0) (nx := 148) (by decide +kernel) rfl ?_
    refine g_52 (a := 12) (b := 12) (nx := 151) (by decide +kernel) h0 ?_
    refine g_5 (a := 2) (b := 0) (nx := 152) (by decide +kernel) rfl ?_
    refine g_61 (a := 0) (b := 0) (nx := 153) (by decide +kernel) h.1 ?_
    replace h := h.2
    refine g_61 (a := 0) (b := 0) (nx := 154) (by decide +kernel) h.1 ?_
    replace h := h.2
    refine g_62 (a := 0) (b := 0) (nx := 155) (by decide +kernel) h.1 ?_
    replace h := h.2
    refine g_11 (a := 2) (b := 1) (nx := 158) (by decide +kernel) rfl rfl (ls' := [some (vR x0), some (vI x1), some (vI (x2 + 1))]) rfl ?_
    refine g_44 (a := 0) (b := 125) (nx := 161) (by decide +kernel) ?_
    exact h
theorem t_211_208 {x0 x1 x2 : Int} {M : Mem} {Q : AV → Mem → Prop} (h0 : gO 12 x0) (h : inR x2 ∧ (if 96 ≤ x2 then (WR 211 234 [some (vR x0), some (vI x1), some (vI 0)] [] M Q) else ((gA 20 (M x0 59) x2) ∧ (gA 20 (M x0 57) x2) ∧ WR 211 208 [some (vR x0), some (vI x1), some (vI (x2 + 1))] [] (upM M (M x0 57) x2 (M (M x0 59) x2)) Q))) : WR 211 208 [some (vR x0), some (vI x1), some (vI x2)] [] M Q := by
  refine g_5 (a := 2) (b := 0) (nx := 209) (by decide +kernel) rfl ?_
  refine g_1 (a := 96) (b := 0) (nx := 211) (by decide +kernel) ?_
  obtain ⟨r1, h⟩ := h
  by_cases c2 : 96 ≤ x2
  · rw [if_pos c2] at h
    refine g_41t (a := 3) (b := 232) (nx := 214) (by decide +kernel) (by rw [wr_id r1, wr_id (show inR 96 by decide)]; exact (cb_3 _ _).mpr c2) ?_
    refine g_1 (a := 0) (b := 0) (nx := 233) (by decide +kernel) ?_
    refine g_8 (a := 2) (b := 0) (nx := 234) (by decide +kernel) rfl (ls' := [some (vR x0), some (vI x1), some (vI 0)]) rfl ?_
    exact h
  · rw [if_neg c2] at h
    refine g_41f (a := 3) (b := 232) (nx := 214) (by decide +kernel) (by rw [wr_id r1, wr_id (show inR 96 by decide)]; exact fun hz => c2 ((cb_3 _ _).mp hz)) ?_
    refine g_7 (a := 0) (b := 0) (nx := 215) (by decide +kernel) rfl ?_
    refine g_52 (a := 12) (b := 57) (nx := 218) (by decide +kernel) h0 ?_
    refine g_5 (a := 2) (b := 0) (nx := 219) (by decide +kernel) rfl ?_
    refine g_7 (a := 0) (b := 0) (nx := 220) (by decide +kernel) rfl ?_
    refine g_52 (a := 12) (b := 59) (nx := 223) (by decide +kernel) h0 ?_
    refine g_5 (a := 2) (b := 0) (nx := 224) (by decide +kernel) rfl ?_
    refine g_61 (a := 0) (b := 0) (nx := 225) (by decide +kernel) h.1 ?_
    replace h := h.2
    refine g_62 (a := 0) (b := 0) (nx := 226) (by decide +kernel) h.1 ?_
    replace h := h.2
    refine g_11 (a := 2) (b := 1) (nx := 229) (by decide +kernel) rfl rfl (ls' := [some (vR x0), some (vI x1), some (vI (x2 + 1))]) rfl ?_
    refine g_44 (a := 0) (b := 208) (nx := 232) (by decide +kernel) ?_
    exact h
theorem t_211_234 {x0 x1 x2 : Int} {M : Mem} {Q : AV → Mem → Prop} (h0 : gO 12 x0) (h : inR x2 ∧ (if 8 ≤ x2 then (Q (vI x1) (upM M x0 56 x1)) else ((gA 20 (M x0 60) x2) ∧ (gA 20 (M x0 58) x2) ∧ WR 211 234 [some (vR x0), some (vI x1), some (vI (x2 + 1))] [] (upM M (M x0 58) x2 (M (M x0 60) x2)) Q))) : WR 211 234 [some (vR x0), some (vI x1), some (vI x2)] [] M Q := by
  refine g_5 (a := 2) (b := 0) (nx := 235) (by decide +kernel) rfl ?_
  refine g_1 (a := 8) (b := 0) (nx := 237) (by decide +kernel) ?_
  obtain ⟨r1, h⟩ := h
  by_cases c2 : 8 ≤ x2
  · rw [if_pos c2] at h
    refine g_41t (a := 3) (b := 258) (nx := 240) (by decide +kernel) (by rw [wr_id r1, wr_id (show inR 8 by decide)]; exact (cb_3 _ _).mpr c2) ?_
    refine g_7 (a := 0) (b := 0) (nx := 259) (by decide +kernel) rfl ?_
    refine g_5 (a := 1) (b := 0) (nx := 260) (by decide +kernel) rfl ?_
    refine g_53 (a := 12) (b := 56) (nx := 263) (by decide +kernel) h0 ?_
    refine g_5 (a := 1) (b := 0) (nx := 264) (by decide +kernel) rfl ?_
    exact g_91 (b := 0) (nx := 265) (by decide +kernel) h
  · rw [if_neg c2] at h
    refine g_41f (a := 3) (b := 258) (nx := 240) (by decide +kernel) (by rw [wr_id r1, wr_id (show inR 8 by decide)]; exact fun hz => c2 ((cb_3 _ _).mp hz)) ?_
    refine g_7 (a := 0) (b := 0) (nx := 241) (by decide +kernel) rfl ?_
    refine g_52 (a := 12) (b := 58) (nx := 244) (by decide +kernel) h0 ?_
    refine g_5 (a := 2) (b := 0) (nx := 245) (by decide +kernel) rfl ?_
    refine g_7 (a := 0) (b := 0) (nx := 246) (by decide +kernel) rfl ?_
    refine g_52 (a := 12) (b := 60) (nx := 249) (by decide +kernel) h0 ?_
    refine g_5 (a := 2) (b := 0) (nx := 250) (by decide +kernel) rfl ?_
    refine g_61 (a := 0) (b := 0) (nx := 251) (by decide +kernel) h.1 ?_
    replace h := h.2
    refine g_62 (a := 0) (b := 0) (nx := 252) (by decide +kernel) h.1 ?_
    replace h := h.2
    refine g_11 (a := 2) (b := 1) (nx := 255) (by decide +kernel) rfl rfl (ls' := [some (vR x0), some (vI x1), some (vI (x2 + 1))]) rfl ?_
    refine g_44 (a := 0) (b := 234) (nx := 258) (by decide +kernel) ?_
    exact h
-- 212 SyllableMakerModel.fault(I)I
theorem t_212 {x0 x1 : Int} {M : Mem} {Q : AV → Mem → Prop} (h0 : gO 12 x0) (h : inR x1 ∧ (if x1 = 0 then (Q (vI (M x0 10)) M) else (if x1 = 1 then (Q (vI (M x0 11)) M) else (Q (vI (-1)) M)))) : WC 212 [vR x0, vI x1] M Q := by
  show WR 212 0 [some (vR x0), some (vI x1)] [] M Q
  refine g_5 (a := 1) (b := 0) (nx := 1) (by decide +kernel) rfl ?_
  obtain ⟨r1, h⟩ := h
  by_cases c3 : x1 = 0
  · rw [if_pos c3] at h
    refine g_40f (a := 1) (b := 11) (nx := 4) (by decide +kernel) r1 (by exact fun hz => ((cb_1 _ _).mp hz) c3) ?_
    refine g_7 (a := 0) (b := 0) (nx := 5) (by decide +kernel) rfl ?_
    refine g_50 (a := 12) (b := 10) (nx := 8) (by decide +kernel) h0 ?_
    refine g_44 (a := 0) (b := 24) (nx := 11) (by decide +kernel) ?_
    exact g_91 (b := 0) (nx := 25) (by decide +kernel) h
  · rw [if_neg c3] at h
    refine g_40t (a := 1) (b := 11) (nx := 4) (by decide +kernel) r1 (by exact (cb_1 _ _).mpr c3) ?_
    refine g_5 (a := 1) (b := 0) (nx := 12) (by decide +kernel) rfl ?_
    refine g_1 (a := 1) (b := 0) (nx := 13) (by decide +kernel) ?_
    by_cases c2 : x1 = 1
    · rw [if_pos c2] at h
      refine g_41f (a := 1) (b := 23) (nx := 16) (by decide +kernel) (by rw [wr_id r1, wr_id (show inR 1 by decide)]; exact fun hz => ((cb_1 _ _).mp hz) c2) ?_
      refine g_7 (a := 0) (b := 0) (nx := 17) (by decide +kernel) rfl ?_
      refine g_50 (a := 12) (b := 11) (nx := 20) (by decide +kernel) h0 ?_
      refine g_44 (a := 0) (b := 24) (nx := 23) (by decide +kernel) ?_
      exact g_91 (b := 0) (nx := 25) (by decide +kernel) h
    · rw [if_neg c2] at h
      refine g_41t (a := 1) (b := 23) (nx := 16) (by decide +kernel) (by rw [wr_id r1, wr_id (show inR 1 by decide)]; exact (cb_1 _ _).mpr c2) ?_
      refine g_1 (a := (-1)) (b := 0) (nx := 24) (by decide +kernel) ?_
      exact g_91 (b := 0) (nx := 25) (by decide +kernel) h
