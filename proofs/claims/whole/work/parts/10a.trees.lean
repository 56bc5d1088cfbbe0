/-! TREES, printed by a program: what each method's run comes to. -/
-- 1 SyllableMaker$Acts.clear()V
theorem t_1 {x0 : Int} {M : Mem} {Q : AV → Mem → Prop} (h0 : gO 0 x0) (h : Q (vI 0) (upM M x0 4 0)) : WC 1 [vR x0] M Q := by
  show WR 1 0 [some (vR x0)] [] M Q
  refine g_7 (a := 0) (b := 0) (nx := 1) (by decide +kernel) rfl ?_
  refine g_1 (a := 0) (b := 0) (nx := 2) (by decide +kernel) ?_
  refine g_53 (a := 0) (b := 4) (nx := 5) (by decide +kernel) h0 ?_
  exact g_90 (a := 0) (b := 0) (nx := 6) (by decide +kernel) h
-- 2 SyllableMaker$Acts.note(IIILSyllableMaker$Row;)V
theorem t_2 {x0 x1 x2 x3 x4 : Int} {M : Mem} {Q : AV → Mem → Prop} (h0 : gO 0 x0) (h : inR (M x0 4) ∧ (if (M x0 4) < 12 then ((gA 20 (M x0 0) (M x0 4)) ∧ (gA 20 ((upM M (M x0 0) (M x0 4) x1) x0 1) ((upM M (M x0 0) (M x0 4) x1) x0 4)) ∧ (gA 20 ((upM (upM M (M x0 0) (M x0 4) x1) ((upM M (M x0 0) (M x0 4) x1) x0 1) ((upM M (M x0 0) (M x0 4) x1) x0 4) x2) x0 2) ((upM (upM M (M x0 0) (M x0 4) x1) ((upM M (M x0 0) (M x0 4) x1) x0 1) ((upM M (M x0 0) (M x0 4) x1) x0 4) x2) x0 4)) ∧ x4 ≠ -1000 ∧ (if x4 = 0 then (Q (vI 0) (upM (upM (upM (upM M (M x0 0) (M x0 4) x1) ((upM M (M x0 0) (M x0 4) x1) x0 1) ((upM M (M x0 0) (M x0 4) x1) x0 4) x2) ((upM (upM M (M x0 0) (M x0 4) x1) ((upM M (M x0 0) (M x0 4) x1) x0 1) ((upM M (M x0 0) (M x0 4) x1) x0 4) x2) x0 2) ((upM (upM M (M x0 0) (M x0 4) x1) ((upM M (M x0 0) (M x0 4) x1) x0 1) ((upM M (M x0 0) (M x0 4) x1) x0 4) x2) x0 4) x3) x0 4 (((upM (upM (upM M (M x0 0) (M x0 4) x1) ((upM M (M x0 0) (M x0 4) x1) x0 1) ((upM M (M x0 0) (M x0 4) x1) x0 4) x2) ((upM (upM M (M x0 0) (M x0 4) x1) ((upM M (M x0 0) (M x0 4) x1) x0 1) ((upM M (M x0 0) (M x0 4) x1) x0 4) x2) x0 2) ((upM (upM M (M x0 0) (M x0 4) x1) ((upM M (M x0 0) (M x0 4) x1) x0 1) ((upM M (M x0 0) (M x0 4) x1) x0 4) x2) x0 4) x3) x0 4) + 1))) else ((gA 24 ((upM (upM (upM M (M x0 0) (M x0 4) x1) ((upM M (M x0 0) (M x0 4) x1) x0 1) ((upM M (M x0 0) (M x0 4) x1) x0 4) x2) ((upM (upM M (M x0 0) (M x0 4) x1) ((upM M (M x0 0) (M x0 4) x1) x0 1) ((upM M (M x0 0) (M x0 4) x1) x0 4) x2) x0 2) ((upM (upM M (M x0 0) (M x0 4) x1) ((upM M (M x0 0) (M x0 4) x1) x0 1) ((upM M (M x0 0) (M x0 4) x1) x0 4) x2) x0 4) x3) x0 3) ((upM (upM (upM M (M x0 0) (M x0 4) x1) ((upM M (M x0 0) (M x0 4) x1) x0 1) ((upM M (M x0 0) (M x0 4) x1) x0 4) x2) ((upM (upM M (M x0 0) (M x0 4) x1) ((upM M (M x0 0) (M x0 4) x1) x0 1) ((upM M (M x0 0) (M x0 4) x1) x0 4) x2) x0 2) ((upM (upM M (M x0 0) (M x0 4) x1) ((upM M (M x0 0) (M x0 4) x1) x0 1) ((upM M (M x0 0) (M x0 4) x1) x0 4) x2) x0 4) x3) x0 4) ∨ gA 25 ((upM (upM (upM M (M x0 0) (M x0 4) x1) ((upM M (M x0 0) (M x0 4) x1) x0 1) ((upM M (M x0 0) (M x0 4) x1) x0 4) x2) ((upM (upM M (M x0 0) (M x0 4) x1) ((upM M (M x0 0) (M x0 4) x1) x0 1) ((upM M (M x0 0) (M x0 4) x1) x0 4) x2) x0 2) ((upM (upM M (M x0 0) (M x0 4) x1) ((upM M (M x0 0) (M x0 4) x1) x0 1) ((upM M (M x0 0) (M x0 4) x1) x0 4) x2) x0 4) x3) x0 3) ((upM (upM (upM M (M x0 0) (M x0 4) x1) ((upM M (M x0 0) (M x0 4) x1) x0 1) ((upM M (M x0 0) (M x0 4) x1) x0 4) x2) ((upM (upM M (M x0 0) (M x0 4) x1) ((upM M (M x0 0) (M x0 4) x1) x0 1) ((upM M (M x0 0) (M x0 4) x1) x0 4) x2) x0 2) ((upM (upM M (M x0 0) (M x0 4) x1) ((upM M (M x0 0) (M x0 4) x1) x0 1) ((upM M (M x0 0) (M x0 4) x1) x0 4) x2) x0 4) x3) x0 4) ∨ gA 26 ((upM (upM (upM M (M x0 0) (M x0 4) x1) ((upM M (M x0 0) (M x0 4) x1) x0 1) ((upM M (M x0 0) (M x0 4) x1) x0 4) x2) ((upM (upM M (M x0 0) (M x0 4) x1) ((upM M (M x0 0) (M x0 4) x1) x0 1) ((upM M (M x0 0) (M x0 4) x1) x0 4) x2) x0 2) ((upM (upM M (M x0 0) (M x0 4) x1) ((upM M (M x0 0) (M x0 4) x1) x0 1) ((upM M (M x0 0) (M x0 4) x1) x0 4) x2) x0 4) x3) x0 3) ((upM (upM (upM M (M x0 0) (M x0 4) x1) ((upM M (M x0 0) (M x0 4) x1) x0 1) ((upM M (M x0 0) (M x0 4) x1) x0 4) x2) ((upM (upM M (M x0 0) (M x0 4) x1) ((upM M (M x0 0) (M x0 4) x1) x0 1) ((upM M (M x0 0) (M x0 4) x1) x0 4) x2) x0 2) ((upM (upM M (M x0 0) (M x0 4) x1) ((upM M (M x0 0) (M x0 4) x1) x0 1) ((upM M (M x0 0) (M x0 4) x1) x0 4) x2) x0 4) x3) x0 4)) ∧ ((shA SH ((upM (upM (upM M (M x0 0) (M x0 4) x1) ((upM M (M x0 0) (M x0 4) x1) x0 1) ((upM M (M x0 0) (M x0 4) x1) x0 4) x2) ((upM (upM M (M x0 0) (M x0 4) x1) ((upM M (M x0 0) (M x0 4) x1) x0 1) ((upM M (M x0 0) (M x0 4) x1) x0 4) x2) x0 2) ((upM (upM M (M x0 0) (M x0 4) x1) ((upM M (M x0 0) (M x0 4) x1) x0 1) ((upM M (M x0 0) (M x0 4) x1) x0 4) x2) x0 4) x3) ((upM (upM (upM M (M x0 0) (M x0 4) x1) ((upM M (M x0 0) (M x0 4) x1) x0 1) ((upM M (M x0 0) (M x0 4) x1) x0 4) x2) ((upM (upM M (M x0 0) (M x0 4) x1) ((upM M (M x0 0) (M x0 4) x1) x0 1) ((upM M (M x0 0) (M x0 4) x1) x0 4) x2) x0 2) ((upM (upM M (M x0 0) (M x0 4) x1) ((upM M (M x0 0) (M x0 4) x1) x0 1) ((upM M (M x0 0) (M x0 4) x1) x0 4) x2) x0 4) x3) x0 3) ((upM (upM (upM M (M x0 0) (M x0 4) x1) ((upM M (M x0 0) (M x0 4) x1) x0 1) ((upM M (M x0 0) (M x0 4) x1) x0 4) x2) ((upM (upM M (M x0 0) (M x0 4) x1) ((upM M (M x0 0) (M x0 4) x1) x0 1) ((upM M (M x0 0) (M x0 4) x1) x0 4) x2) x0 2) ((upM (upM M (M x0 0) (M x0 4) x1) ((upM M (M x0 0) (M x0 4) x1) x0 1) ((upM M (M x0 0) (M x0 4) x1) x0 4) x2) x0 4) x3) x0 4))).1 = 5) ∧ WV 81 [vR ((upM (upM (upM M (M x0 0) (M x0 4) x1) ((upM M (M x0 0) (M x0 4) x1) x0 1) ((upM M (M x0 0) (M x0 4) x1) x0 4) x2) ((upM (upM M (M x0 0) (M x0 4) x1) ((upM M (M x0 0) (M x0 4) x1) x0 1) ((upM M (M x0 0) (M x0 4) x1) x0 4) x2) x0 2) ((upM (upM M (M x0 0) (M x0 4) x1) ((upM M (M x0 0) (M x0 4) x1) x0 1) ((upM M (M x0 0) (M x0 4) x1) x0 4) x2) x0 4) x3) ((upM (upM (upM M (M x0 0) (M x0 4) x1) ((upM M (M x0 0) (M x0 4) x1) x0 1) ((upM M (M x0 0) (M x0 4) x1) x0 4) x2) ((upM (upM M (M x0 0) (M x0 4) x1) ((upM M (M x0 0) (M x0 4) x1) x0 1) ((upM M (M x0 0) (M x0 4) x1) x0 4) x2) x0 2) ((upM (upM M (M x0 0) (M x0 4) x1) ((upM M (M x0 0) (M x0 4) x1) x0 1) ((upM M (M x0 0) (M x0 4) x1) x0 4) x2) x0 4) x3) x0 3) ((upM (upM (upM M (M x0 0) (M x0 4) x1) ((upM M (M x0 0) (M x0 4) x1) x0 1) ((upM M (M x0 0) (M x0 4) x1) x0 4) x2) ((upM (upM M (M x0 0) (M x0 4) x1) ((upM M (M x0 0) (M x0 4) x1) x0 1) ((upM M (M x0 0) (M x0 4) x1) x0 4) x2) x0 2) ((upM (upM M (M x0 0) (M x0 4) x1) ((upM M (M x0 0) (M x0 4) x1) x0 1) ((upM M (M x0 0) (M x0 4) x1) x0 4) x2) x0 4) x3) x0 4)), vR x4] (upM (upM (upM M (M x0 0) (M x0 4) x1) ((upM M (M x0 0) (M x0 4) x1) x0 1) ((upM M (M x0 0) (M x0 4) x1) x0 4) x2) ((upM (upM M (M x0 0) (M x0 4) x1) ((upM M (M x0 0) (M x0 4) x1) x0 1) ((upM M (M x0 0) (M x0 4) x1) x0 4) x2) x0 2) ((upM (upM M (M x0 0) (M x0 4) x1) ((upM M (M x0 0) (M x0 4) x1) x0 1) ((upM M (M x0 0) (M x0 4) x1) x0 4) x2) x0 4) x3) (fun M2 => Q (vI 0) (upM M2 x0 4 ((M2 x0 4) + 1)))))) else (WV 3 [vR x0] M (fun M5 => (gA 20 (M5 x0 0) (M5 x0 4)) ∧ (gA 20 ((upM M5 (M5 x0 0) (M5 x0 4) x1) x0 1) ((upM M5 (M5 x0 0) (M5 x0 4) x1) x0 4)) ∧ (gA 20 ((upM (upM M5 (M5 x0 0) (M5 x0 4) x1) ((upM M5 (M5 x0 0) (M5 x0 4) x1) x0 1) ((upM M5 (M5 x0 0) (M5 x0 4) x1) x0 4) x2) x0 2) ((upM (upM M5 (M5 x0 0) (M5 x0 4) x1) ((upM M5 (M5 x0 0) (M5 x0 4) x1) x0 1) ((upM M5 (M5 x0 0) (M5 x0 4) x1) x0 4) x2) x0 4)) ∧ x4 ≠ -1000 ∧ (if x4 = 0 then (Q (vI 0) (upM (upM (upM (upM M5 (M5 x0 0) (M5 x0 4) x1) ((upM M5 (M5 x0 0) (M5 x0 4) x1) x0 1) ((upM M5 (M5 x0 0) (M5 x0 4) x1) x0 4) x2) ((upM (upM M5 (M5 x0 0) (M5 x0 4) x1) ((upM M5 (M5 x0 0) (M5 x0 4) x1) x0 1) ((upM M5 (M5 x0 0) (M5 x0 4) x1) x0 4) x2) x0 2) ((upM (upM M5 (M5 x0 0) (M5 x0 4) x1) ((upM M5 (M5 x0 0) (M5 x0 4) x1) x0 1) ((upM M5 (M5 x0 0) (M5 x0 4) x1) x0 4) x2) x0 4) x3) x0 4 (((upM (upM (upM M5 (M5 x0 0) (M5 x0 4) x1) ((upM M5 (M5 x0 0) (M5 x0 4) x1) x0 1) ((upM M5 (M5 x0 0) (M5 x0 4) x1) x0 4) x2) ((upM (upM M5 (M5 x0 0) (M5 x0 4) x1) ((upM M5 (M5 x0 0) (M5 x0 4) x1) x0 1) ((upM M5 (M5 x0 0) (M5 x0 4) x1) x0 4) x2) x0 2) ((upM (upM M5 (M5 x0 0) (M5 x0 4) x1) ((upM M5 (M5 x0 0) (M5 x0 4) x1) x0 1) ((upM M5 (M5 x0 0) (M5 x0 4) x1) x0 4) x2) x0 4) x3) x0 4) + 1))) else ((gA 24 ((upM (upM (upM M5 (M5 x0 0) (M5 x0 4) x1) ((upM M5 (M5 x0 0) (M5 x0 4) x1) x0 1) ((upM M5 (M5 x0 0) (M5 x0 4) x1) x0 4) x2) ((upM (upM M5 (M5 x0 0) (M5 x0 4) x1) ((upM M5 (M5 x0 0) (M5 x0 4) x1) x0 1) ((upM M5 (M5 x0 0) (M5 x0 4) x1) x0 4) x2) x0 2) ((upM (upM M5 (M5 x0 0) (M5 x0 4) x1) ((upM M5 (M5 x0 0) (M5 x0 4) x1) x0 1) ((upM M5 (M5 x0 0) (M5 x0 4) x1) x0 4) x2) x0 4) x3) x0 3) ((upM (upM (upM M5 (M5 x0 0) (M5 x0 4) x1) ((upM M5 (M5 x0 0) (M5 x0 4) x1) x0 1) ((upM M5 (M5 x0 0) (M5 x0 4) x1) x0 4) x2) ((upM (upM M5 (M5 x0 0) (M5 x0 4) x1) ((upM M5 (M5 x0 0) (M5 x0 4) x1) x0 1) ((upM M5 (M5 x0 0) (M5 x0 4) x1) x0 4) x2) x0 2) ((upM (upM M5 (M5 x0 0) (M5 x0 4) x1) ((upM M5 (M5 x0 0) (M5 x0 4) x1) x0 1) ((upM M5 (M5 x0 0) (M5 x0 4) x1) x0 4) x2) x0 4) x3) x0 4) ∨ gA 25 ((upM (upM (upM M5 (M5 x0 0) (M5 x0 4) x1) ((upM M5 (M5 x0 0) (M5 x0 4) x1) x0 1) ((upM M5 (M5 x0 0) (M5 x0 4) x1) x0 4) x2) ((upM (upM M5 (M5 x0 0) (M5 x0 4) x1) ((upM M5 (M5 x0 0) (M5 x0 4) x1) x0 1) ((upM M5 (M5 x0 0) (M5 x0 4) x1) x0 4) x2) x0 2) ((upM (upM M5 (M5 x0 0) (M5 x0 4) x1) ((upM M5 (M5 x0 0) (M5 x0 4) x1) x0 1) ((upM M5 (M5 x0 0) (M5 x0 4) x1) x0 4) x2) x0 4) x3) x0 3) ((upM (upM (upM M5 (M5 x0 0) (M5 x0 4) x1) ((upM M5 (M5 x0 0) (M5 x0 4) x1) x0 1) ((upM M5 (M5 x0 0) (M5 x0 4) x1) x0 4) x2) ((upM (upM M5 (M5 x0 0) (M5 x0 4) x1) ((upM M5 (M5 x0 0) (M5 x0 4) x1) x0 1) ((upM M5 (M5 x0 0) (M5 x0 4) x1) x0 4) x2) x0 2) ((upM (upM M5 (M5 x0 0) (M5 x0 4) x1) ((upM M5 (M5 x0 0) (M5 x0 4) x1) x0 1) ((upM M5 (M5 x0 0) (M5 x0 4) x1) x0 4) x2) x0 4) x3) x0 4) ∨ gA 26 ((upM (upM (upM M5 (M5 x0 0) (M5 x0 4) x1) ((upM M5 (M5 x0 0) (M5 x0 4) x1) x0 1) ((upM M5 (M5 x0 0) (M5 x0 4) x1) x0 4) x2) ((upM (upM M5 (M5 x0 0) (M5 x0 4) x1) ((upM M5 (M5 x0 0) (M5 x0 4) x1) x0 1) ((upM M5 (M5 x0 0) (M5 x0 4) x1) x0 4) x2) x0 2) ((upM (upM M5 (M5 x0 0) (M5 x0 4) x1) ((upM M5 (M5 x0 0) (M5 x0 4) x1) x0 1) ((upM M5 (M5 x0 0) (M5 x0 4) x1) x0 4) x2) x0 4) x3) x0 3) ((upM (upM (upM M5 (M5 x0 0) (M5 x0 4) x1) ((upM M5 (M5 x0 0) (M5 x0 4) x1) x0 1) ((upM M5 (M5 x0 0) (M5 x0 4) x1) x0 4) x2) ((upM (upM M5 (M5 x0 0) (M5 x0 4) x1) ((upM M5 (M5 x0 0) (M5 x0 4) x1) x0 1) ((upM M5 (M5 x0 0) (M5 x0 4) x1) x0 4) x2) x0 2) ((upM (upM M5 (M5 x0 0) (M5 x0 4) x1) ((upM M5 (M5 x0 0) (M5 x0 4) x1) x0 1) ((upM M5 (M5 x0 0) (M5 x0 4) x1) x0 4) x2) x0 4) x3) x0 4)) ∧ ((shA SH ((upM (upM (upM M5 (M5 x0 0) (M5 x0 4) x1) ((upM M5 (M5 x0 0) (M5 x0 4) x1) x0 1) ((upM M5 (M5 x0 0) (M5 x0 4) x1) x0 4) x2) ((upM (upM M5 (M5 x0 0) (M5 x0 4) x1) ((upM M5 (M5 x0 0) (M5 x0 4) x1) x0 1) ((upM M5 (M5 x0 0) (M5 x0 4) x1) x0 4) x2) x0 2) ((upM (upM M5 (M5 x0 0) (M5 x0 4) x1) ((upM M5 (M5 x0 0) (M5 x0 4) x1) x0 1) ((upM M5 (M5 x0 0) (M5 x0 4) x1) x0 4) x2) x0 4) x3) ((upM (upM (upM M5 (M5 x0 0) (M5 x0 4) x1) ((upM M5 (M5 x0 0) (M5 x0 4) x1) x0 1) ((upM M5 (M5 x0 0) (M5 x0 4) x1) x0 4) x2) ((upM (upM M5 (M5 x0 0) (M5 x0 4) x1) ((upM M5 (M5 x0 0) (M5 x0 4) x1) x0 1) ((upM M5 (M5 x0 0) (M5 x0 4) x1) x0 4) x2) x0 2) ((upM (upM M5 (M5 x0 0) (M5 x0 4) x1) ((upM M5 (M5 x0 0) (M5 x0 4) x1) x0 1) ((upM M5 (M5 x0 0) (M5 x0 4) x1) x0 4) x2) x0 4) x3) x0 3) ((upM (upM (upM M5 (M5 x0 0) (M5 x0 4) x1) ((upM M5 (M5 x0 0) (M5 x0 4) x1) x0 1) ((upM M5 (M5 x0 0) (M5 x0 4) x1) x0 4) x2) ((upM (upM M5 (M5 x0 0) (M5 x0 4) x1) ((upM M5 (M5 x0 0) (M5 x0 4) x1) x0 1) ((upM M5 (M5 x0 0) (M5 x0 4) x1) x0 4) x2) x0 2) ((upM (upM M5 (M5 x0 0) (M5 x0 4) x1) ((upM M5 (M5 x0 0) (M5 x0 4) x1) x0 1) ((upM M5 (M5 x0 0) (M5 x0 4) x1) x0 4) x2) x0 4) x3) x0 4))).1 = 5) ∧ WV 81 [vR ((upM (upM (upM M5 (M5 x0 0) (M5 x0 4) x1) ((upM M5 (M5 x0 0) (M5 x0 4) x1) x0 1) ((upM M5 (M5 x0 0) (M5 x0 4) x1) x0 4) x2) ((upM (upM M5 (M5 x0 0) (M5 x0 4) x1) ((upM M5 (M5 x0 0) (M5 x0 4) x1) x0 1) ((upM M5 (M5 x0 0) (M5 x0 4) x1) x0 4) x2) x0 2) ((upM (upM M5 (M5 x0 0) (M5 x0 4) x1) ((upM M5 (M5 x0 0) (M5 x0 4) x1) x0 1) ((upM M5 (M5 x0 0) (M5 x0 4) x1) x0 4) x2) x0 4) x3) ((upM (upM (upM M5 (M5 x0 0) (M5 x0 4) x1) ((upM M5 (M5 x0 0) (M5 x0 4) x1) x0 1) ((upM M5 (M5 x0 0) (M5 x0 4) x1) x0 4) x2) ((upM (upM M5 (M5 x0 0) (M5 x0 4) x1) ((upM M5 (M5 x0 0) (M5 x0 4) x1) x0 1) ((upM M5 (M5 x0 0) (M5 x0 4) x1) x0 4) x2) x0 2) ((upM (upM M5 (M5 x0 0) (M5 x0 4) x1) ((upM M5 (M5 x0 0) (M5 x0 4) x1) x0 1) ((upM M5 (M5 x0 0) (M5 x0 4) x1) x0 4) x2) x0 4) x3) x0 3) ((upM (upM (upM M5 (M5 x0 0) (M5 x0 4) x1) ((upM M5 (M5 x0 0) (M5 x0 4) x1) x0 1) ((upM M5 (M5 x0 0) (M5 x0 4) x1) x0 4) x2) ((upM (upM M5 (M5 x0 0) (M5 x0 4) x1) ((upM M5 (M5 x0 0) (M5 x0 4) x1) x0 1) ((upM M5 (M5 x0 0) (M5 x0 4) x1) x0 4) x2) x0 2) ((upM (upM M5 (M5 x0 0) (M5 x0 4) x1) ((upM M5 (M5 x0 0) (M5 x0 4) x1) x0 1) ((upM M5 (M5 x0 0) (M5 x0 4) x1) x0 4) x2) x0 4) x3) x0 4)), vR x4] (upM (upM (upM M5 (M5 x0 0) (M5 x0 4) x1) ((upM M5 (M5 x0 0) (M5 x0 4) x1) x0 1) ((upM M5 (M5 x0 0) (M5 x0 4) x1) x0 4) x2) ((upM (upM M5 (M5 x0 0) (M5 x0 4) x1) ((upM M5 (M5 x0 0) (M5 x0 4) x1) x0 1) ((upM M5 (M5 x0 0) (M5 x0 4) x1) x0 4) x2) x0 2) ((upM (upM M5 (M5 x0 0) (M5 x0 4) x1) ((upM M5 (M5 x0 0) (M5 x0 4) x1) x0 1) ((upM M5 (M5 x0 0) (M5 x0 4) x1) x0 4) x2) x0 4) x3) (fun M7 => Q (vI 0) (upM M7 x0 4 ((M7 x0 4) + 1))))))))) : WC 2 [vR x0, vI x1, vI x2, vI x3, vR x4] M Q := by
  show WR 2 0 [some (vR x0), some (vI x1), some (vI x2), some (vI x3), some (vR x4)] [] M Q
  refine g_7 (a := 0) (b := 0) (nx := 1) (by decide +kernel) rfl ?_
  refine g_50 (a := 0) (b := 4) (nx := 4) (by decide +kernel) h0 ?_
  refine g_1 (a := 12) (b := 0) (nx := 6) (by decide +kernel) ?_
  obtain ⟨r1, h⟩ := h
  by_cases c10 : (M x0 4) < 12
  · rw [if_pos c10] at h
    refine g_41t (a := 2) (b := 13) (nx := 9) (by decide +kernel) (by rw [wr_id r1, wr_id (show inR 12 by decide)]; exact (cb_2 _ _).mpr c10) ?_
    refine g_7 (a := 0) (b := 0) (nx := 14) (by decide +kernel) rfl ?_
    refine g_52 (a := 0) (b := 0) (nx := 17) (by decide +kernel) h0 ?_
    refine g_7 (a := 0) (b := 0) (nx := 18) (by decide +kernel) rfl ?_
    refine g_50 (a := 0) (b := 4) (nx := 21) (by decide +kernel) h0 ?_
    refine g_5 (a := 1) (b := 0) (nx := 22) (by decide +kernel) rfl ?_
    refine g_62 (a := 0) (b := 0) (nx := 23) (by decide +kernel) h.1 ?_
    replace h := h.2
    refine g_7 (a := 0) (b := 0) (nx := 24) (by decide +kernel) rfl ?_
    refine g_52 (a := 0) (b := 1) (nx := 27) (by decide +kernel) h0 ?_
    refine g_7 (a := 0) (b := 0) (nx := 28) (by decide +kernel) rfl ?_
    refine g_50 (a := 0) (b := 4) (nx := 31) (by decide +kernel) h0 ?_
    refine g_5 (a := 2) (b := 0) (nx := 32) (by decide +kernel) rfl ?_
    refine g_62 (a := 0) (b := 0) (nx := 33) (by decide +kernel) h.1 ?_
    replace h := h.2
    refine g_7 (a := 0) (b := 0) (nx := 34) (by decide +kernel) rfl ?_
    refine g_52 (a := 0) (b := 2) (nx := 37) (by decide +kernel) h0 ?_
    refine g_7 (a := 0) (b := 0) (nx := 38) (by decide +kernel) rfl ?_
    refine g_50 (a := 0) (b := 4) (nx := 41) (by decide +kernel) h0 ?_
    refine g_5 (a := 3) (b := 0) (nx := 42) (by decide +kernel) rfl ?_
    refine g_62 (a := 0) (b := 0) (nx := 43) (by decide +kernel) h.1 ?_
    replace h := h.2
    refine g_7 (a := 4) (b := 0) (nx := 45) (by decide +kernel) rfl ?_
    obtain ⟨q0, h⟩ := h
    by_cases c4 : x4 = 0
    · rw [if_pos c4] at h
      refine g_42t (a := 0) (b := 62) (nx := 48) (by decide +kernel) c4 ?_
      refine g_7 (a := 0) (b := 0) (nx := 63) (by decide +kernel) rfl ?_
      refine g_13 (a := 0) (b := 0) (nx := 64) (by decide +kernel) rfl ?_
      refine g_50 (a := 0) (b := 4) (nx := 67) (by decide +kernel) h0 ?_
      refine g_1 (a := 1) (b := 0) (nx := 68) (by decide +kernel) ?_
      refine g_15 (a := 0) (b := 0) (nx := 69) (by decide +kernel) ?_
      refine g_53 (a := 0) (b := 4) (nx := 72) (by decide +kernel) h0 ?_
      exact g_90 (a := 0) (b := 0) (nx := 73) (by decide +kernel) h
    · rw [if_neg c4] at h
      refine g_42f (a := 0) (b := 62) (nx := 48) (by decide +kernel) q0 c4 ?_
      refine g_7 (a := 0) (b := 0) (nx := 49) (by decide +kernel) rfl ?_
      refine g_52 (a := 0) (b := 3) (nx := 52) (by decide +kernel) h0 ?_
      refine g_7 (a := 0) (b := 0) (nx := 53) (by decide +kernel) rfl ?_
      refine g_50 (a := 0) (b := 4) (nx := 56) (by decide +kernel) h0 ?_
      refine g_69 (a := 0) (b := 0) (nx := 57) (by decide +kernel) h.1 ?_
      replace h := h.2
      refine g_7 (a := 4) (b := 0) (nx := 59) (by decide +kernel) rfl ?_
      refine g_80 (a := 81) (b := 1) (nx := 62) (by decide +kernel) (r := ((upM (upM (upM M (M x0 0) (M x0 4) x1) ((upM M (M x0 0) (M x0 4) x1) x0 1) ((upM M (M x0 0) (M x0 4) x1) x0 4) x2) ((upM (upM M (M x0 0) (M x0 4) x1) ((upM M (M x0 0) (M x0 4) x1) x0 1) ((upM M (M x0 0) (M x0 4) x1) x0 4) x2) x0 2) ((upM (upM M (M x0 0) (M x0 4) x1) ((upM M (M x0 0) (M x0 4) x1) x0 1) ((upM M (M x0 0) (M x0 4) x1) x0 4) x2) x0 4) x3) ((upM (upM (upM M (M x0 0) (M x0 4) x1) ((upM M (M x0 0) (M x0 4) x1) x0 1) ((upM M (M x0 0) (M x0 4) x1) x0 4) x2) ((upM (upM M (M x0 0) (M x0 4) x1) ((upM M (M x0 0) (M x0 4) x1) x0 1) ((upM M (M x0 0) (M x0 4) x1) x0 4) x2) x0 2) ((upM (upM M (M x0 0) (M x0 4) x1) ((upM M (M x0 0) (M x0 4) x1) x0 1) ((upM M (M x0 0) (M x0 4) x1) x0 4) x2) x0 4) x3) x0 3) ((upM (upM (upM M (M x0 0) (M x0 4) x1) ((upM M (M x0 0) (M x0 4) x1) x0 1) ((upM M (M x0 0) (M x0 4) x1) x0 4) x2) ((upM (upM M (M x0 0) (M x0 4) x1) ((upM M (M x0 0) (M x0 4) x1) x0 1) ((upM M (M x0 0) (M x0 4) x1) x0 4) x2) x0 2) ((upM (upM M (M x0 0) (M x0 4) x1) ((upM M (M x0 0) (M x0 4) x1) x0 1) ((upM M (M x0 0) (M x0 4) x1) x0 4) x2) x0 4) x3) x0 4))) (As := [vR x4]) (st' := []) (z := 81) rfl rfl rfl (Nat.le_of_ble_eq_true rfl) h.1 (Nat.le_of_ble_eq_true rfl) rfl (c_V (by decide +kernel) h.2 (fun M2 h => ?_))
      refine g_7 (a := 0) (b := 0) (nx := 63) (by decide +kernel) rfl ?_
      refine g_13 (a := 0) (b := 0) (nx := 64) (by decide +kernel) rfl ?_
      refine g_50 (a := 0) (b := 4) (nx := 67) (by decide +kernel) h0 ?_
      refine g_1 (a := 1) (b := 0) (nx := 68) (by decide +kernel) ?_
      refine g_15 (a := 0) (b := 0) (nx := 69) (by decide +kernel) ?_
      refine g_53 (a := 0) (b := 4) (nx := 72) (by decide +kernel) h0 ?_
      exact g_90 (a := 0) (b := 0) (nx := 73) (by decide +kernel) h
  · rw [if_neg c10] at h
    refine g_41f (a := 2) (b := 13) (nx := 9) (by decide +kernel) (by rw [wr_id r1, wr_id (show inR 12 by decide)]; exact fun hz => c10 ((cb_2 _ _).mp hz)) ?_
    refine g_7 (a := 0) (b := 0) (nx := 10) (by decide +kernel) rfl ?_
    refine g_80 (a := 3) (b := 0) (nx := 13) (by decide +kernel) (r := x0) (As := []) (st' := []) (z := 3) rfl rfl rfl (Nat.le_of_ble_eq_true rfl) h0.2 (Nat.le_of_ble_eq_true rfl) rfl (c_V (by decide +kernel) h (fun M5 h => ?_))
    refine g_7 (a := 0) (b := 0) (nx := 14) (by decide +kernel) rfl ?_
    refine g_52 (a := 0) (b := 0) (nx := 17) (by decide +kernel) h0 ?_
    refine g_7 (a := 0) (b := 0) (nx := 18) (by decide +kernel) rfl ?_
    refine g_50 (a := 0) (b := 4) (nx := 21) (by decide +kernel) h0 ?_
    refine g_5 (a := 1) (b := 0) (nx := 22) (by decide +kernel) rfl ?_
    refine g_62 (a := 0) (b := 0) (nx := 23) (by decide +kernel) h.1 ?_
    replace h := h.2
    refine g_7 (a := 0) (b := 0) (nx := 24) (by decide +kernel) rfl ?_
    refine g_52 (a := 0) (b := 1) (nx := 27) (by decide +kernel) h0 ?_
    refine g_7 (a := 0) (b := 0) (nx := 28) (by decide +kernel) rfl ?_
    refine g_50 (a := 0) (b := 4) (nx := 31) (by decide +kernel) h0 ?_
    refine g_5 (a := 2) (b := 0) (nx := 32) (by decide +kernel) rfl ?_
    refine g_62 (a := 0) (b := 0) (nx := 33) (by decide +kernel) h.1 ?_
    replace h := h.2
    refine g_7 (a := 0) (b := 0) (nx := 34) (by decide +kernel) rfl ?_
    refine g_52 (a := 0) (b := 2) (nx := 37) (by decide +kernel) h0 ?_
    refine g_7 (a := 0) (b := 0) (nx := 38) (by decide +kernel) rfl ?_
    refine g_50 (a := 0) (b := 4) (nx := 41) (by decide +kernel) h0 ?_
    refine g_5 (a := 3) (b := 0) (nx := 42) (by decide +kernel) rfl ?_
    refine g_62 (a := 0) (b := 0) (nx := 43) (by decide +kernel) h.1 ?_
    replace h := h.2
    refine g_7 (a := 4) (b := 0) (nx := 45) (by decide +kernel) rfl ?_
    obtain ⟨q0, h⟩ := h
    by_cases c9 : x4 = 0
    · rw [if_pos c9] at h
      refine g_42t (a := 0) (b := 62) (nx := 48) (by decide +kernel) c9 ?_
      refine g_7 (a := 0) (b := 0) (nx := 63) (by decide +kernel) rfl ?_
      refine g_13 (a := 0) (b := 0) (nx := 64) (by decide +kernel) rfl ?_
      refine g_50 (a := 0) (b := 4) (nx := 67) (by decide +kernel) h0 ?_
      refine g_1 (a := 1) (b := 0) (nx := 68) (by decide +kernel) ?_
      refine g_15 (a := 0) (b := 0) (nx := 69) (by decide +kernel) ?_
      refine g_53 (a := 0) (b := 4) (nx := 72) (by decide +kernel) h0 ?_
      exact g_90 (a := 0) (b := 0) (nx := 73) (by decide +kernel) h
    · rw [if_neg c9] at h
      refine g_42f (a := 0) (b := 62) (nx := 48) (by decide +kernel) q0 c9 ?_
      refine g_7 (a := 0) (b := 0) (nx := 49) (by decide +kernel) rfl ?_
      refine g_52 (a := 0) (b := 3) (nx := 52) (by decide +kernel) h0 ?_
      refine g_7 (a := 0) (b := 0) (nx := 53) (by decide +kernel) rfl ?_
      refine g_50 (a := 0) (b := 4) (nx := 56) (by decide +kernel) h0 ?_
      refine g_69 (a := 0) (b := 0) (nx := 57) (by decide +kernel) h.1 ?_
      replace h := h.2
      refine g_7 (a := 4) (b := 0) (nx := 59) (by decide +kernel) rfl ?_
      refine g_80 (a := 81) (b := 1) (nx := 62) (by decide +kernel) (r := ((upM (upM (upM M5 (M5 x0 0) (M5 x0 4) x1) ((upM M5 (M5 x0 0) (M5 x0 4) x1) x0 1) ((upM M5 (M5 x0 0) (M5 x0 4) x1) x0 4) x2) ((upM (upM M5 (M5 x0 0) (M5 x0 4) x1) ((upM M5 (M5 x0 0) (M5 x0 4) x1) x0 1) ((upM M5 (M5 x0 0) (M5 x0 4) x1) x0 4) x2) x0 2) ((upM (upM M5 (M5 x0 0) (M5 x0 4) x1) ((upM M5 (M5 x0 0) (M5 x0 4) x1) x0 1) ((upM M5 (M5 x0 0) (M5 x0 4) x1) x0 4) x2) x0 4) x3) ((upM (upM (upM M5 (M5 x0 0) (M5 x0 4) x1) ((upM M5 (M5 x0 0) (M5 x0 4) x1) x0 1) ((upM M5 (M5 x0 0) (M5 x0 4) x1) x0 4) x2) ((upM (upM M5 (M5 x0 0) (M5 x0 4) x1) ((upM M5 (M5 x0 0) (M5 x0 4) x1) x0 1) ((upM M5 (M5 x0 0) (M5 x0 4) x1) x0 4) x2) x0 2) ((upM (upM M5 (M5 x0 0) (M5 x0 4) x1) ((upM M5 (M5 x0 0) (M5 x0 4) x1) x0 1) ((upM M5 (M5 x0 0) (M5 x0 4) x1) x0 4) x2) x0 4) x3) x0 3) ((upM (upM (upM M5 (M5 x0 0) (M5 x0 4) x1) ((upM M5 (M5 x0 0) (M5 x0 4) x1) x0 1) ((upM M5 (M5 x0 0) (M5 x0 4) x1) x0 4) x2) ((upM (upM M5 (M5 x0 0) (M5 x0 4) x1) ((upM M5 (M5 x0 0) (M5 x0 4) x1) x0 1) ((upM M5 (M5 x0 0) (M5 x0 4) x1) x0 4) x2) x0 2) ((upM (upM M5 (M5 x0 0) (M5 x0 4) x1) ((upM M5 (M5 x0 0) (M5 x0 4) x1) x0 1) ((upM M5 (M5 x0 0) (M5 x0 4) x1) x0 4) x2) x0 4) x3) x0 4))) (As := [vR x4]) (st' := []) (z := 81) rfl rfl rfl (Nat.le_of_ble_eq_true rfl) h.1 (Nat.le_of_ble_eq_true rfl) rfl (c_V (by decide +kernel) h.2 (fun M7 h => ?_))
      refine g_7 (a := 0) (b := 0) (nx := 63) (by decide +kernel) rfl ?_
      refine g_13 (a := 0) (b := 0) (nx := 64) (by decide +kernel) rfl ?_
      refine g_50 (a := 0) (b := 4) (nx := 67) (by decide +kernel) h0 ?_
      refine g_1 (a := 1) (b := 0) (nx := 68) (by decide +kernel) ?_
      refine g_15 (a := 0) (b := 0) (nx := 69) (by decide +kernel) ?_
      refine g_53 (a := 0) (b := 4) (nx := 72) (by decide +kernel) h0 ?_
      exact g_90 (a := 0) (b := 0) (nx := 73) (by decide +kernel) h
-- 3 SyllableMaker$Acts.dropOldest()V
theorem t_3 {x0 : Int} {M : Mem} {Q : AV → Mem → Prop} (h0 : gO 0 x0) (h : (gA 24 (M x0 3) 0 ∨ gA 25 (M x0 3) 0 ∨ gA 26 (M x0 3) 0) ∧ WR 3 9 [some (vR x0), some (vR (M (M x0 3) 0)), some (vI 1)] [] M Q) : WC 3 [vR x0] M Q := by
  show WR 3 0 [some (vR x0), none, none] [] M Q
  refine g_7 (a := 0) (b := 0) (nx := 1) (by decide +kernel) rfl ?_
  refine g_52 (a := 0) (b := 3) (nx := 4) (by decide +kernel) h0 ?_
  refine g_1 (a := 0) (b := 0) (nx := 5) (by decide +kernel) ?_
  refine g_69 (a := 0) (b := 0) (nx := 6) (by decide +kernel) h.1 ?_
  replace h := h.2
  refine g_10 (a := 1) (b := 0) (nx := 7) (by decide +kernel) rfl (ls' := [some (vR x0), some (vR (M (M x0 3) 0)), none]) rfl ?_
  refine g_1 (a := 1) (b := 0) (nx := 8) (by decide +kernel) ?_
  refine g_8 (a := 2) (b := 0) (nx := 9) (by decide +kernel) rfl (ls' := [some (vR x0), some (vR (M (M x0 3) 0)), some (vI 1)]) rfl ?_
  exact h
theorem t_3_9 {x0 x1 x2 : Int} {M : Mem} {Q : AV → Mem → Prop} (h0 : gO 0 x0) (h : inR x2 ∧ (if 12 ≤ x2 then ((gA 24 (M x0 3) 11 ∧ gO 5 x1) ∧ Q (vI 0) (upM (upM M (M x0 3) 11 x1) x0 4 11)) else ((gA 20 (M x0 0) x2) ∧ (gA 20 (M x0 0) (x2 - 1)) ∧ (gA 20 ((upM M (M x0 0) (x2 - 1) (M (M x0 0) x2)) x0 1) x2) ∧ (gA 20 ((upM M (M x0 0) (x2 - 1) (M (M x0 0) x2)) x0 1) (x2 - 1)) ∧ (gA 20 ((upM (upM M (M x0 0) (x2 - 1) (M (M x0 0) x2)) ((upM M (M x0 0) (x2 - 1) (M (M x0 0) x2)) x0 1) (x2 - 1) ((upM M (M x0 0) (x2 - 1) (M (M x0 0) x2)) ((upM M (M x0 0) (x2 - 1) (M (M x0 0) x2)) x0 1) x2)) x0 2) x2) ∧ (gA 20 ((upM (upM M (M x0 0) (x2 - 1) (M (M x0 0) x2)) ((upM M (M x0 0) (x2 - 1) (M (M x0 0) x2)) x0 1) (x2 - 1) ((upM M (M x0 0) (x2 - 1) (M (M x0 0) x2)) ((upM M (M x0 0) (x2 - 1) (M (M x0 0) x2)) x0 1) x2)) x0 2) (x2 - 1)) ∧ (gA 24 ((upM (upM (upM M (M x0 0) (x2 - 1) (M (M x0 0) x2)) ((upM M (M x0 0) (x2 - 1) (M (M x0 0) x2)) x0 1) (x2 - 1) ((upM M (M x0 0) (x2 - 1) (M (M x0 0) x2)) ((upM M (M x0 0) (x2 - 1) (M (M x0 0) x2)) x0 1) x2)) ((upM (upM M (M x0 0) (x2 - 1) (M (M x0 0) x2)) ((upM M (M x0 0) (x2 - 1) (M (M x0 0) x2)) x0 1) (x2 - 1) ((upM M (M x0 0) (x2 - 1) (M (M x0 0) x2)) ((upM M (M x0 0) (x2 - 1) (M (M x0 0) x2)) x0 1) x2)) x0 2) (x2 - 1) ((upM (upM M (M x0 0) (x2 - 1) (M (M x0 0) x2)) ((upM M (M x0 0) (x2 - 1) (M (M x0 0) x2)) x0 1) (x2 - 1) ((upM M (M x0 0) (x2 - 1) (M (M x0 0) x2)) ((upM M (M x0 0) (x2 - 1) (M (M x0 0) x2)) x0 1) x2)) ((upM (upM M (M x0 0) (x2 - 1) (M (M x0 0) x2)) ((upM M (M x0 0) (x2 - 1) (M (M x0 0) x2)) x0 1) (x2 - 1) ((upM M (M x0 0) (x2 - 1) (M (M x0 0) x2)) ((upM M (M x0 0) (x2 - 1) (M (M x0 0) x2)) x0 1) x2)) x0 2) x2)) x0 3) x2 ∨ gA 25 ((upM (upM (upM M (M x0 0) (x2 - 1) (M (M x0 0) x2)) ((upM M (M x0 0) (x2 - 1) (M (M x0 0) x2)) x0 1) (x2 - 1) ((upM M (M x0 0) (x2 - 1) (M (M x0 0) x2)) ((upM M (M x0 0) (x2 - 1) (M (M x0 0) x2)) x0 1) x2)) ((upM (upM M (M x0 0) (x2 - 1) (M (M x0 0) x2)) ((upM M (M x0 0) (x2 - 1) (M (M x0 0) x2)) x0 1) (x2 - 1) ((upM M (M x0 0) (x2 - 1) (M (M x0 0) x2)) ((upM M (M x0 0) (x2 - 1) (M (M x0 0) x2)) x0 1) x2)) x0 2) (x2 - 1) ((upM (upM M (M x0 0) (x2 - 1) (M (M x0 0) x2)) ((upM M (M x0 0) (x2 - 1) (M (M x0 0) x2)) x0 1) (x2 - 1) ((upM M (M x0 0) (x2 - 1) (M (M x0 0) x2)) ((upM M (M x0 0) (x2 - 1) (M (M x0 0) x2)) x0 1) x2)) ((upM (upM M (M x0 0) (x2 - 1) (M (M x0 0) x2)) ((upM M (M x0 0) (x2 - 1) (M (M x0 0) x2)) x0 1) (x2 - 1) ((upM M (M x0 0) (x2 - 1) (M (M x0 0) x2)) ((upM M (M x0 0) (x2 - 1) (M (M x0 0) x2)) x0 1) x2)) x0 2) x2)) x0 3) x2 ∨ gA 26 ((upM (upM (upM M (M x0 0) (x2 - 1) (M (M x0 0) x2)) ((upM M (M x0 0) (x2 - 1) (M (M x0 0) x2)) x0 1) (x2 - 1) ((upM M (M x0 0) (x2 - 1) (M (M x0 0) x2)) ((upM M (M x0 0) (x2 - 1) (M (M x0 0) x2)) x0 1) x2)) ((upM (upM M (M x0 0) (x2 - 1) (M (M x0 0) x2)) ((upM M (M x0 0) (x2 - 1) (M (M x0 0) x2)) x0 1) (x2 - 1) ((upM M (M x0 0) (x2 - 1) (M (M x0 0) x2)) ((upM M (M x0 0) (x2 - 1) (M (M x0 0) x2)) x0 1) x2)) x0 2) (x2 - 1) ((upM (upM M (M x0 0) (x2 - 1) (M (M x0 0) x2)) ((upM M (M x0 0) (x2 - 1) (M (M x0 0) x2)) x0 1) (x2 - 1) ((upM M (M x0 0) (x2 - 1) (M (M x0 0) x2)) ((upM M (M x0 0) (x2 - 1) (M (M x0 0) x2)) x0 1) x2)) ((upM (upM M (M x0 0) (x2 - 1) (M (M x0 0) x2)) ((upM M (M x0 0) (x2 - 1) (M (M x0 0) x2)) x0 1) (x2 - 1) ((upM M (M x0 0) (x2 - 1) (M (M x0 0) x2)) ((upM M (M x0 0) (x2 - 1) (M (M x0 0) x2)) x0 1) x2)) x0 2) x2)) x0 3) x2) ∧ (gA 24 ((upM (upM (upM M (M x0 0) (x2 - 1) (M (M x0 0) x2)) ((upM M (M x0 0) (x2 - 1) (M (M x0 0) x2)) x0 1) (x2 - 1) ((upM M (M x0 0) (x2 - 1) (M (M x0 0) x2)) ((upM M (M x0 0) (x2 - 1) (M (M x0 0) x2)) x0 1) x2)) ((upM (upM M (M x0 0) (x2 - 1) (M (M x0 0) x2)) ((upM M (M x0 0) (x2 - 1) (M (M x0 0) x2)) x0 1) (x2 - 1) ((upM M (M x0 0) (x2 - 1) (M (M x0 0) x2)) ((upM M (M x0 0) (x2 - 1) (M (M x0 0) x2)) x0 1) x2)) x0 2) (x2 - 1) ((upM (upM M (M x0 0) (x2 - 1) (M (M x0 0) x2)) ((upM M (M x0 0) (x2 - 1) (M (M x0 0) x2)) x0 1) (x2 - 1) ((upM M (M x0 0) (x2 - 1) (M (M x0 0) x2)) ((upM M (M x0 0) (x2 - 1) (M (M x0 0) x2)) x0 1) x2)) ((upM (upM M (M x0 0) (x2 - 1) (M (M x0 0) x2)) ((upM M (M x0 0) (x2 - 1) (M (M x0 0) x2)) x0 1) (x2 - 1) ((upM M (M x0 0) (x2 - 1) (M (M x0 0) x2)) ((upM M (M x0 0) (x2 - 1) (M (M x0 0) x2)) x0 1) x2)) x0 2) x2)) x0 3) (x2 - 1) ∧ gO 5 ((upM (upM (upM M (M x0 0) (x2 - 1) (M (M x0 0) x2)) ((upM M (M x0 0) (x2 - 1) (M (M x0 0) x2)) x0 1) (x2 - 1) ((upM M (M x0 0) (x2 - 1) (M (M x0 0) x2)) ((upM M (M x0 0) (x2 - 1) (M (M x0 0) x2)) x0 1) x2)) ((upM (upM M (M x0 0) (x2 - 1) (M (M x0 0) x2)) ((upM M (M x0 0) (x2 - 1) (M (M x0 0) x2)) x0 1) (x2 - 1) ((upM M (M x0 0) (x2 - 1) (M (M x0 0) x2)) ((upM M (M x0 0) (x2 - 1) (M (M x0 0) x2)) x0 1) x2)) x0 2) (x2 - 1) ((upM (upM M (M x0 0) (x2 - 1) (M (M x0 0) x2)) ((upM M (M x0 0) (x2 - 1) (M (M x0 0) x2)) x0 1) (x2 - 1) ((upM M (M x0 0) (x2 - 1) (M (M x0 0) x2)) ((upM M (M x0 0) (x2 - 1) (M (M x0 0) x2)) x0 1) x2)) ((upM (upM M (M x0 0) (x2 - 1) (M (M x0 0) x2)) ((upM M (M x0 0) (x2 - 1) (M (M x0 0) x2)) x0 1) (x2 - 1) ((upM M (M x0 0) (x2 - 1) (M (M x0 0) x2)) ((upM M (M x0 0) (x2 - 1) (M (M x0 0) x2)) x0 1) x2)) x0 2) x2)) ((upM (upM (upM M (M x0 0) (x2 - 1) (M (M x0 0) x2)) ((upM M (M x0 0) (x2 - 1) (M (M x0 0) x2)) x0 1) (x2 - 1) ((upM M (M x0 0) (x2 - 1) (M (M x0 0) x2)) ((upM M (M x0 0) (x2 - 1) (M (M x0 0) x2)) x0 1) x2)) ((upM (upM M (M x0 0) (x2 - 1) (M (M x0 0) x2)) ((upM M (M x0 0) (x2 - 1) (M (M x0 0) x2)) x0 1) (x2 - 1) ((upM M (M x0 0) (x2 - 1) (M (M x0 0) x2)) ((upM M (M x0 0) (x2 - 1) (M (M x0 0) x2)) x0 1) x2)) x0 2) (x2 - 1) ((upM (upM M (M x0 0) (x2 - 1) (M (M x0 0) x2)) ((upM M (M x0 0) (x2 - 1) (M (M x0 0) x2)) x0 1) (x2 - 1) ((upM M (M x0 0) (x2 - 1) (M (M x0 0) x2)) ((upM M (M x0 0) (x2 - 1) (M (M x0 0) x2)) x0 1) x2)) ((upM (upM M (M x0 0) (x2 - 1) (M (M x0 0) x2)) ((upM M (M x0 0) (x2 - 1) (M (M x0 0) x2)) x0 1) (x2 - 1) ((upM M (M x0 0) (x2 - 1) (M (M x0 0) x2)) ((upM M (M x0 0) (x2 - 1) (M (M x0 0) x2)) x0 1) x2)) x0 2) x2)) x0 3) x2)) ∧ WR 3 9 [some (vR x0), some (vR x1), some (vI (x2 + 1))] [] (upM (upM (upM (upM M (M x0 0) (x2 - 1) (M (M x0 0) x2)) ((upM M (M x0 0) (x2 - 1) (M (M x0 0) x2)) x0 1) (x2 - 1) ((upM M (M x0 0) (x2 - 1) (M (M x0 0) x2)) ((upM M (M x0 0) (x2 - 1) (M (M x0 0) x2)) x0 1) x2)) ((upM (upM M (M x0 0) (x2 - 1) (M (M x0 0) x2)) ((upM M (M x0 0) (x2 - 1) (M (M x0 0) x2)) x0 1) (x2 - 1) ((upM M (M x0 0) (x2 - 1) (M (M x0 0) x2)) ((upM M (M x0 0) (x2 - 1) (M (M x0 0) x2)) x0 1) x2)) x0 2) (x2 - 1) ((upM (upM M (M x0 0) (x2 - 1) (M (M x0 0) x2)) ((upM M (M x0 0) (x2 - 1) (M (M x0 0) x2)) x0 1) (x2 - 1) ((upM M (M x0 0) (x2 - 1) (M (M x0 0) x2)) ((upM M (M x0 0) (x2 - 1) (M (M x0 0) x2)) x0 1) x2)) ((upM (upM M (M x0 0) (x2 - 1) (M (M x0 0) x2)) ((upM M (M x0 0) (x2 - 1) (M (M x0 0) x2)) x0 1) (x2 - 1) ((upM M (M x0 0) (x2 - 1) (M (M x0 0) x2)) ((upM M (M x0 0) (x2 - 1) (M (M x0 0) x2)) x0 1) x2)) x0 2) x2)) ((upM (upM (upM M (M x0 0) (x2 - 1) (M (M x0 0) x2)) ((upM M (M x0 0) (x2 - 1) (M (M x0 0) x2)) x0 1) (x2 - 1) ((upM M (M x0 0) (x2 - 1) (M (M x0 0) x2)) ((upM M (M x0 0) (x2 - 1) (M (M x0 0) x2)) x0 1) x2)) ((upM (upM M (M x0 0) (x2 - 1) (M (M x0 0) x2)) ((upM M (M x0 0) (x2 - 1) (M (M x0 0) x2)) x0 1) (x2 - 1) ((upM M (M x0 0) (x2 - 1) (M (M x0 0) x2)) ((upM M (M x0 0) (x2 - 1) (M (M x0 0) x2)) x0 1) x2)) x0 2) (x2 - 1) ((upM (upM M (M x0 0) (x2 - 1) (M (M x0 0) x2)) ((upM M (M x0 0) (x2 - 1) (M (M x0 0) x2)) x0 1) (x2 - 1) ((upM M (M x0 0) (x2 - 1) (M (M x0 0) x2)) ((upM M (M x0 0) (x2 - 1) (M (M x0 0) x2)) x0 1) x2)) ((upM (upM M (M x0 0) (x2 - 1) (M (M x0 0) x2)) ((upM M (M x0 0) (x2 - 1) (M (M x0 0) x2)) x0 1) (x2 - 1) ((upM M (M x0 0) (x2 - 1) (M (M x0 0) x2)) ((upM M (M x0 0) (x2 - 1) (M (M x0 0) x2)) x0 1) x2)) x0 2) x2)) x0 3) (x2 - 1) ((upM (upM (upM M (M x0 0) (x2 - 1) (M (M x0 0) x2)) ((upM M (M x0 0) (x2 - 1) (M (M x0 0) x2)) x0 1) (x2 - 1) ((upM M (M x0 0) (x2 - 1) (M (M x0 0) x2)) ((upM M (M x0 0) (x2 - 1) (M (M x0 0) x2)) x0 1) x2)) ((upM (upM M (M x0 0) (x2 - 1) (M (M x0 0) x2)) ((upM M (M x0 0) (x2 - 1) (M (M x0 0) x2)) x0 1) (x2 - 1) ((upM M (M x0 0) (x2 - 1) (M (M x0 0) x2)) ((upM M (M x0 0) (x2 - 1) (M (M x0 0) x2)) x0 1) x2)) x0 2) (x2 - 1) ((upM (upM M (M x0 0) (x2 - 1) (M (M x0 0) x2)) ((upM M (M x0 0) (x2 - 1) (M (M x0 0) x2)) x0 1) (x2 - 1) ((upM M (M x0 0) (x2 - 1) (M (M x0 0) x2)) ((upM M (M x0 0) (x2 - 1) (M (M x0 0) x2)) x0 1) x2)) ((upM (upM M (M x0 0) (x2 - 1) (M (M x0 0) x2)) ((upM M (M x0 0) (x2 - 1) (M (M x0 0) x2)) x0 1) (x2 - 1) ((upM M (M x0 0) (x2 - 1) (M (M x0 0) x2)) ((upM M (M x0 0) (x2 - 1) (M (M x0 0) x2)) x0 1) x2)) x0 2) x2)) ((upM (upM (upM M (M x0 0) (x2 - 1) (M (M x0 0) x2)) ((upM M (M x0 0) (x2 - 1) (M (M x0 0) x2)) x0 1) (x2 - 1) ((upM M (M x0 0) (x2 - 1) (M (M x0 0) x2)) ((upM M (M x0 0) (x2 - 1) (M (M x0 0) x2)) x0 1) x2)) ((upM (upM M (M x0 0) (x2 - 1) (M (M x0 0) x2)) ((upM M (M x0 0) (x2 - 1) (M (M x0 0) x2)) x0 1) (x2 - 1) ((upM M (M x0 0) (x2 - 1) (M (M x0 0) x2)) ((upM M (M x0 0) (x2 - 1) (M (M x0 0) x2)) x0 1) x2)) x0 2) (x2 - 1) ((upM (upM M (M x0 0) (x2 - 1) (M (M x0 0) x2)) ((upM M (M x0 0) (x2 - 1) (M (M x0 0) x2)) x0 1) (x2 - 1) ((upM M (M x0 0) (x2 - 1) (M (M x0 0) x2)) ((upM M (M x0 0) (x2 - 1) (M (M x0 0) x2)) x0 1) x2)) ((upM (upM M (M x0 0) (x2 - 1) (M (M x0 0) x2)) ((upM M (M x0 0) (x2 - 1) (M (M x0 0) x2)) x0 1) (x2 - 1) ((upM M (M x0 0) (x2 - 1) (M (M x0 0) x2)) ((upM M (M x0 0) (x2 - 1) (M (M x0 0) x2)) x0 1) x2)) x0 2) x2)) x0 3) x2)) Q))) : WR 3 9 [some (vR x0), some (vR x1), some (vI x2)] [] M Q := by
  refine g_5 (a := 2) (b := 0) (nx := 10) (by decide +kernel) rfl ?_
  refine g_1 (a := 12) (b := 0) (nx := 12) (by decide +kernel) ?_
  obtain ⟨r1, h⟩ := h
  by_cases c2 : 12 ≤ x2
  · rw [if_pos c2] at h
    refine g_41t (a := 3) (b := 77) (nx := 15) (by decide +kernel) (by rw [wr_id r1, wr_id (show inR 12 by decide)]; exact (cb_3 _ _).mpr c2) ?_
    refine g_7 (a := 0) (b := 0) (nx := 78) (by decide +kernel) rfl ?_
    refine g_52 (a := 0) (b := 3) (nx := 81) (by decide +kernel) h0 ?_
    refine g_1 (a := 11) (b := 0) (nx := 83) (by decide +kernel) ?_
    refine g_7 (a := 1) (b := 0) (nx := 84) (by decide +kernel) rfl ?_
    refine g_70 (a := 0) (b := 0) (nx := 85) (by decide +kernel) h.1.1 h.1.2 ?_
    replace h := h.2
    refine g_7 (a := 0) (b := 0) (nx := 86) (by decide +kernel) rfl ?_
    refine g_1 (a := 11) (b := 0) (nx := 88) (by decide +kernel) ?_
    refine g_53 (a := 0) (b := 4) (nx := 91) (by decide +kernel) h0 ?_
    exact g_90 (a := 0) (b := 0) (nx := 92) (by decide +kernel) h
  · rw [if_neg c2] at h
    refine g_41f (a := 3) (b := 77) (nx := 15) (by decide +kernel) (by rw [wr_id r1, wr_id (show inR 12 by decide)]; exact fun hz => c2 ((cb_3 _ _).mp hz)) ?_
    refine g_7 (a := 0) (b := 0) (nx := 16) (by decide +kernel) rfl ?_
    refine g_52 (a := 0) (b := 0) (nx := 19) (by decide +kernel) h0 ?_
    refine g_5 (a := 2) (b := 0) (nx := 20) (by decide +kernel) rfl ?_
    refine g_1 (a := 1) (b := 0) (nx := 21) (by decide +kernel) ?_
    refine g_16 (a := 0) (b := 0) (nx := 22) (by decide +kernel) ?_
    refine g_7 (a := 0) (b := 0) (nx := 23) (by decide +kernel) rfl ?_
    refine g_52 (a := 0) (b := 0) (nx := 26) (by decide +kernel) h0 ?_
    refine g_5 (a := 2) (b := 0) (nx := 27) (by decide +kernel) rfl ?_
    refine g_61 (a := 0) (b := 0) (nx := 28) (by decide +kernel) h.1 ?_
    replace h := h.2
    refine g_62 (a := 0) (b := 0) (nx := 29) (by decide +kernel) h.1 ?_
    replace h := h.2
    refine g_7 (a := 0) (b := 0) (nx := 30) (by decide +kernel) rfl ?_
    refine g_52 (a := 0) (b := 1) (nx := 33) (by decide +kernel) h0 ?_
    refine g_5 (a := 2) (b := 0) (nx := 34) (by decide +kernel) rfl ?_
    refine g_1 (a := 1) (b := 0) (nx := 35) (by decide +kernel) ?_
    refine g_16 (a := 0) (b := 0) (nx := 36) (by decide +kernel) ?_
    refine g_7 (a := 0) (b := 0) (nx := 37) (by decide +kernel) rfl ?_
    refine g_52 (a := 0) (b := 1) (nx := 40) (by decide +kernel) h0 ?_
    refine g_5 (a := 2) (b := 0) (nx := 41) (by decide +kernel) rfl ?_
    refine g_61 (a := 0) (b := 0) (nx := 42) (by decide +kernel) h.1 ?_
    replace h := h.2
    refine g_62 (a := 0) (b := 0) (nx := 43) (by decide +kernel) h.1 ?_
    replace h := h.2
    refine g_7 (a := 0) (b := 0) (nx := 44) (by decide +kernel) rfl ?_
    refine g_52 (a := 0) (b := 2) (nx := 47) (by decide +kernel) h0 ?_
    refine g_5 (a := 2) (b := 0) (nx := 48) (by decide +kernel) rfl ?_
    refine g_1 (a := 1) (b := 0) (nx := 49) (by decide +kernel) ?_
    refine g_16 (a := 0) (b := 0) (nx := 50) (by decide +kernel) ?_
    refine g_7 (a := 0) (b := 0) (nx := 51) (by decide +kernel) rfl ?_
    refine g_52 (a := 0) (b := 2) (nx := 54) (by decide +kernel) h0 ?_
    refine g_5 (a := 2) (b := 0) (nx := 55) (by decide +kernel) rfl ?_
    refine g_61 (a := 0) (b := 0) (nx := 56) (by decide +kernel) h.1 ?_
    replace h := h.2
    refine g_62 (a := 0) (b := 0) (nx := 57) (by decide +kernel) h.1 ?_
    replace h := h.2
    refine g_7 (a := 0) (b := 0) (nx := 58) (by decide +kernel) rfl ?_
    refine g_52 (a := 0) (b := 3) (nx := 61) (by decide +kernel) h0 ?_
    refine g_5 (a := 2) (b := 0) (nx := 62) (by decide +kernel) rfl ?_
    refine g_1 (a := 1) (b := 0) (nx := 63) (by decide +kernel) ?_
    refine g_16 (a := 0) (b := 0) (nx := 64) (by decide +kernel) ?_
    refine g_7 (a := 0) (b := 0) (nx := 65) (by decide +kernel) rfl ?_
    refine g_52 (a := 0) (b := 3) (nx := 68) (by decide +kernel) h0 ?_
    refine g_5 (a := 2) (b := 0) (nx := 69) (by decide +kernel) rfl ?_
    refine g_69 (a := 0) (b := 0) (nx := 70) (by decide +kernel) h.1 ?_
    replace h := h.2
    refine g_70 (a := 0) (b := 0) (nx := 71) (by decide +kernel) h.1.1 h.1.2 ?_
    replace h := h.2
    refine g_11 (a := 2) (b := 1) (nx := 74) (by decide +kernel) rfl rfl (ls' := [some (vR x0), some (vR x1), some (vI (x2 + 1))]) rfl ?_
    refine g_44 (a := 0) (b := 9) (nx := 77) (by decide +kernel) ?_
    exact h
-- 4 SyllableMaker$Acts.takeLatest()Z
theorem t_4 {x0 : Int} {M : Mem} {Q : AV → Mem → Prop} (h0 : gO 0 x0) (h : inR (M x0 4) ∧ (if 0 < (M x0 4) then (Q (vI 1) (upM M x0 4 ((M x0 4) - 1))) else (Q (vI 0) M))) : WC 4 [vR x0] M Q := by
  show WR 4 0 [some (vR x0)] [] M Q
  refine g_7 (a := 0) (b := 0) (nx := 1) (by decide +kernel) rfl ?_
  refine g_50 (a := 0) (b := 4) (nx := 4) (by decide +kernel) h0 ?_
  obtain ⟨r1, h⟩ := h
  by_cases c2 : 0 < (M x0 4)
  · rw [if_pos c2] at h
    refine g_40t (a := 4) (b := 9) (nx := 7) (by decide +kernel) r1 (by exact (cb_4 _ _).mpr c2) ?_
    refine g_7 (a := 0) (b := 0) (nx := 10) (by decide +kernel) rfl ?_
    refine g_13 (a := 0) (b := 0) (nx := 11) (by decide +kernel) rfl ?_
    refine g_50 (a := 0) (b := 4) (nx := 14) (by decide +kernel) h0 ?_
    refine g_1 (a := 1) (b := 0) (nx := 15) (by decide +kernel) ?_
    refine g_16 (a := 0) (b := 0) (nx := 16) (by decide +kernel) ?_
    refine g_53 (a := 0) (b := 4) (nx := 19) (by decide +kernel) h0 ?_
    refine g_1 (a := 1) (b := 0) (nx := 20) (by decide +kernel) ?_
    exact g_91z (b := 0) (nx := 21) (by decide +kernel) (by decide) h
  · rw [if_neg c2] at h
    refine g_40f (a := 4) (b := 9) (nx := 7) (by decide +kernel) r1 (by exact fun hz => c2 ((cb_4 _ _).mp hz)) ?_
    refine g_1 (a := 0) (b := 0) (nx := 8) (by decide +kernel) ?_
    exact g_91z (b := 0) (nx := 9) (by decide +kernel) (by decide) h
-- 5 SyllableMaker$Acts.hasLatest()Z
theorem t_5 {x0 : Int} {M : Mem} {Q : AV → Mem → Prop} (h0 : gO 0 x0) (h : inR (M x0 4) ∧ (if (M x0 4) < 0 then (Q (vI 0) M) else (if 12 ≤ (M x0 4) then (Q (vI 0) M) else (Q (vI 1) M)))) : WC 5 [vR x0] M Q := by
  show WR 5 0 [some (vR x0)] [] M Q
  refine g_7 (a := 0) (b := 0) (nx := 1) (by decide +kernel) rfl ?_
  refine g_50 (a := 0) (b := 4) (nx := 4) (by decide +kernel) h0 ?_
  obtain ⟨r1, h⟩ := h
  by_cases c3 : (M x0 4) < 0
  · rw [if_pos c3] at h
    refine g_40t (a := 2) (b := 20) (nx := 7) (by decide +kernel) r1 (by exact (cb_2 _ _).mpr c3) ?_
    refine g_1 (a := 0) (b := 0) (nx := 21) (by decide +kernel) ?_
    exact g_91z (b := 0) (nx := 22) (by decide +kernel) (by decide) h
  · rw [if_neg c3] at h
    refine g_40f (a := 2) (b := 20) (nx := 7) (by decide +kernel) r1 (by exact fun hz => c3 ((cb_2 _ _).mp hz)) ?_
    refine g_7 (a := 0) (b := 0) (nx := 8) (by decide +kernel) rfl ?_
    refine g_50 (a := 0) (b := 4) (nx := 11) (by decide +kernel) h0 ?_
    refine g_1 (a := 12) (b := 0) (nx := 13) (by decide +kernel) ?_
    by_cases c2 : 12 ≤ (M x0 4)
    · rw [if_pos c2] at h
      refine g_41t (a := 3) (b := 20) (nx := 16) (by decide +kernel) (by rw [wr_id r1, wr_id (show inR 12 by decide)]; exact (cb_3 _ _).mpr c2) ?_
      refine g_1 (a := 0) (b := 0) (nx := 21) (by decide +kernel) ?_
      exact g_91z (b := 0) (nx := 22) (by decide +kernel) (by decide) h
    · rw [if_neg c2] at h
      refine g_41f (a := 3) (b := 20) (nx := 16) (by decide +kernel) (by rw [wr_id r1, wr_id (show inR 12 by decide)]; exact fun hz => c2 ((cb_3 _ _).mp hz)) ?_
      refine g_1 (a := 1) (b := 0) (nx := 17) (by decide +kernel) ?_
      refine g_44 (a := 0) (b := 21) (nx := 20) (by decide +kernel) ?_
      exact g_91z (b := 0) (nx := 22) (by decide +kernel) (by decide) h
-- 6 SyllableMaker$Acts.latestKind()I
theorem t_6 {x0 : Int} {M : Mem} {Q : AV → Mem → Prop} (h0 : gO 0 x0) (h : WI 5 [vR x0] M (fun y2 M1 => inR y2 ∧ (if y2 = 0 then (Q (vI (-1)) M1) else ((gA 20 (M1 x0 0) (M1 x0 4)) ∧ Q (vI (M1 (M1 x0 0) (M1 x0 4))) M1)))) : WC 6 [vR x0] M Q := by
  show WR 6 0 [some (vR x0)] [] M Q
  refine g_7 (a := 0) (b := 0) (nx := 1) (by decide +kernel) rfl ?_
  refine g_80 (a := 5) (b := 0) (nx := 4) (by decide +kernel) (r := x0) (As := []) (st' := []) (z := 5) rfl rfl rfl (Nat.le_of_ble_eq_true rfl) h0.2 (Nat.le_of_ble_eq_true rfl) rfl (c_I (by decide +kernel) h (fun y2 M1 h => ?_))
  obtain ⟨r3, h⟩ := h
  by_cases c4 : y2 = 0
  · rw [if_pos c4] at h
    refine g_40t (a := 0) (b := 19) (nx := 7) (by decide +kernel) r3 (by exact (cb_0 _ _).mpr c4) ?_
    refine g_1 (a := (-1)) (b := 0) (nx := 20) (by decide +kernel) ?_
    exact g_91 (b := 0) (nx := 21) (by decide +kernel) h
  · rw [if_neg c4] at h
    refine g_40f (a := 0) (b := 19) (nx := 7) (by decide +kernel) r3 (by exact fun hz => c4 ((cb_0 _ _).mp hz)) ?_
    refine g_7 (a := 0) (b := 0) (nx := 8) (by decide +kernel) rfl ?_
    refine g_52 (a := 0) (b := 0) (nx := 11) (by decide +kernel) h0 ?_
    refine g_7 (a := 0) (b := 0) (nx := 12) (by decide +kernel) rfl ?_
    refine g_50 (a := 0) (b := 4) (nx := 15) (by decide +kernel) h0 ?_
    refine g_61 (a := 0) (b := 0) (nx := 16) (by decide +kernel) h.1 ?_
    replace h := h.2
    refine g_44 (a := 0) (b := 20) (nx := 19) (by decide +kernel) ?_
    exact g_91 (b := 0) (nx := 21) (by decide +kernel) h
-- 7 SyllableMaker$Acts.latestPlace()I
theorem t_7 {x0 : Int} {M : Mem} {Q : AV → Mem → Prop} (h0 : gO 0 x0) (h : WI 5 [vR x0] M (fun y2 M1 => inR y2 ∧ (if y2 = 0 then (Q (vI (-1)) M1) else ((gA 20 (M1 x0 1) (M1 x0 4)) ∧ Q (vI (M1 (M1 x0 1) (M1 x0 4))) M1)))) : WC 7 [vR x0] M Q := by
  show WR 7 0 [some (vR x0)] [] M Q
  refine g_7 (a := 0) (b := 0) (nx := 1) (by decide +kernel) rfl ?_
  refine g_80 (a := 5) (b := 0) (nx := 4) (by decide +kernel) (r := x0) (As := []) (st' := []) (z := 5) rfl rfl rfl (Nat.le_of_ble_eq_true rfl) h0.2 (Nat.le_of_ble_eq_true rfl) rfl (c_I (by decide +kernel) h (fun y2 M1 h => ?_))
  obtain ⟨r3, h⟩ := h
  by_cases c4 : y2 = 0
  · rw [if_pos c4] at h
    refine g_40t (a := 0) (b := 19) (nx := 7) (by decide +kernel) r3 (by exact (cb_0 _ _).mpr c4) ?_
    refine g_1 (a := (-1)) (b := 0) (nx := 20) (by decide +kernel) ?_
    exact g_91 (b := 0) (nx := 21) (by decide +kernel) h
  · rw [if_neg c4] at h
    refine g_40f (a := 0) (b := 19) (nx := 7) (by decide +kernel) r3 (by exact fun hz => c4 ((cb_0 _ _).mp hz)) ?_
    refine g_7 (a := 0) (b := 0) (nx := 8) (by decide +kernel) rfl ?_
    refine g_52 (a := 0) (b := 1) (nx := 11) (by decide +kernel) h0 ?_
    refine g_7 (a := 0) (b := 0) (nx := 12) (by decide +kernel) rfl ?_
    refine g_50 (a := 0) (b := 4) (nx := 15) (by decide +kernel) h0 ?_
    refine g_61 (a := 0) (b := 0) (nx := 16) (by decide +kernel) h.1 ?_
    replace h := h.2
    refine g_44 (a := 0) (b := 20) (nx := 19) (by decide +kernel) ?_
    exact g_91 (b := 0) (nx := 21) (by decide +kernel) h
-- 8 SyllableMaker$Acts.latestCost()I
theorem t_8 {x0 : Int} {M : Mem} {Q : AV → Mem → Prop} (h0 : gO 0 x0) (h : WI 5 [vR x0] M (fun y2 M1 => inR y2 ∧ (if y2 = 0 then (Q (vI (-1)) M1) else ((gA 20 (M1 x0 2) (M1 x0 4)) ∧ Q (vI (M1 (M1 x0 2) (M1 x0 4))) M1)))) : WC 8 [vR x0] M Q := by
  show WR 8 0 [some (vR x0)] [] M Q
  refine g_7 (a := 0) (b := 0) (nx := 1) (by decide +kernel) rfl ?_
  refine g_80 (a := 5) (b := 0) (nx := 4) (by decide +kernel) (r := x0) (As := []) (st' := []) (z := 5) rfl rfl rfl (Nat.le_of_ble_eq_true rfl) h0.2 (Nat.le_of_ble_eq_true rfl) rfl (c_I (by decide +kernel) h (fun y2 M1 h => ?_))
  obtain ⟨r3, h⟩ := h
  by_cases c4 : y2 = 0
  · rw [if_pos c4] at h
    refine g_40t (a := 0) (b := 19) (nx := 7) (by decide +kernel) r3 (by exact (cb_0 _ _).mpr c4) ?_
    refine g_1 (a := (-1)) (b := 0) (nx := 20) (by decide +kernel) ?_
    exact g_91 (b := 0) (nx := 21) (by decide +kernel) h
  · rw [if_neg c4] at h
    refine g_40f (a := 0) (b := 19) (nx := 7) (by decide +kernel) r3 (by exact fun hz => c4 ((cb_0 _ _).mp hz)) ?_
    refine g_7 (a := 0) (b := 0) (nx := 8) (by decide +kernel) rfl ?_
    refine g_52 (a := 0) (b := 2) (nx := 11) (by decide +kernel) h0 ?_
    refine g_7 (a := 0) (b := 0) (nx := 12) (by decide +kernel) rfl ?_
    refine g_50 (a := 0) (b := 4) (nx := 15) (by decide +kernel) h0 ?_
    refine g_61 (a := 0) (b := 0) (nx := 16) (by decide +kernel) h.1 ?_
    replace h := h.2
    refine g_44 (a := 0) (b := 20) (nx := 19) (by decide +kernel) ?_
    exact g_91 (b := 0) (nx := 21) (by decide +kernel) h
-- 9 SyllableMaker$Acts.latestRow()LSyllableMaker$Row;
theorem t_9 {x0 : Int} {M : Mem} {Q : AV → Mem → Prop} (h0 : gO 0 x0) (h : WI 5 [vR x0] M (fun y2 M1 => inR y2 ∧ (if y2 = 0 then (Q (vR 0) M1) else ((gA 24 (M1 x0 3) (M1 x0 4) ∨ gA 25 (M1 x0 3) (M1 x0 4) ∨ gA 26 (M1 x0 3) (M1 x0 4)) ∧ (0 ≤ (M1 (M1 x0 3) (M1 x0 4))) ∧ Q (vR (M1 (M1 x0 3) (M1 x0 4))) M1)))) : WC 9 [vR x0] M Q := by
  show WR 9 0 [some (vR x0)] [] M Q
  refine g_7 (a := 0) (b := 0) (nx := 1) (by decide +kernel) rfl ?_
  refine g_80 (a := 5) (b := 0) (nx := 4) (by decide +kernel) (r := x0) (As := []) (st' := []) (z := 5) rfl rfl rfl (Nat.le_of_ble_eq_true rfl) h0.2 (Nat.le_of_ble_eq_true rfl) rfl (c_I (by decide +kernel) h (fun y2 M1 h => ?_))
  obtain ⟨r3, h⟩ := h
  by_cases c4 : y2 = 0
  · rw [if_pos c4] at h
    refine g_40t (a := 0) (b := 19) (nx := 7) (by decide +kernel) r3 (by exact (cb_0 _ _).mpr c4) ?_
    refine g_3 (a := 0) (b := 0) (nx := 20) (by decide +kernel) ?_
    exact g_93 (a := 0) (b := 0) (nx := 21) (by decide +kernel) (by decide) h
  · rw [if_neg c4] at h
    refine g_40f (a := 0) (b := 19) (nx := 7) (by decide +kernel) r3 (by exact fun hz => c4 ((cb_0 _ _).mp hz)) ?_
    refine g_7 (a := 0) (b := 0) (nx := 8) (by decide +kernel) rfl ?_
    refine g_52 (a := 0) (b := 3) (nx := 11) (by decide +kernel) h0 ?_
    refine g_7 (a := 0) (b := 0) (nx := 12) (by decide +kernel) rfl ?_
    refine g_50 (a := 0) (b := 4) (nx := 15) (by decide +kernel) h0 ?_
    refine g_69 (a := 0) (b := 0) (nx := 16) (by decide +kernel) h.1 ?_
    replace h := h.2
    refine g_44 (a := 0) (b := 20) (nx := 19) (by decide +kernel) ?_
    exact g_93 (a := 0) (b := 0) (nx := 21) (by decide +kernel) h.1 h.2
-- 11 SyllableMaker$Cut.start(LSyllableMaker$Law;LSyllableMaker$Row;)V
theorem t_11 {x0 x1 x2 : Int} {M : Mem} {Q : AV → Mem → Prop} (h0 : gO 1 x0) (h : (0 ≤ x1) ∧ (0 ≤ x2) ∧ WR 11 32 [some (vR x0), some (vR x1), some (vR x2), some (vI 0)] [] (upM (upM (upM (upM (upM (upM M x0 4 x1) x0 5 x2) x0 6 0) x0 7 0) x0 8 0) x0 9 0) Q) : WC 11 [vR x0, vR x1, vR x2] M Q := by
  show WR 11 0 [some (vR x0), some (vR x1), some (vR x2), none] [] M Q
  refine g_7 (a := 0) (b := 0) (nx := 1) (by decide +kernel) rfl ?_
  refine g_7 (a := 1) (b := 0) (nx := 2) (by decide +kernel) rfl ?_
  refine g_55 (a := 1) (b := 4) (nx := 5) (by decide +kernel) h0 h.1 ?_
  replace h := h.2
  refine g_7 (a := 0) (b := 0) (nx := 6) (by decide +kernel) rfl ?_
  refine g_7 (a := 2) (b := 0) (nx := 7) (by decide +kernel) rfl ?_
  refine g_55 (a := 1) (b := 5) (nx := 10) (by decide +kernel) h0 h.1 ?_
  replace h := h.2
  refine g_7 (a := 0) (b := 0) (nx := 11) (by decide +kernel) rfl ?_
  refine g_3 (a := 0) (b := 0) (nx := 12) (by decide +kernel) ?_
  refine g_55 (a := 1) (b := 6) (nx := 15) (by decide +kernel) h0 (by decide) ?_
  refine g_7 (a := 0) (b := 0) (nx := 16) (by decide +kernel) rfl ?_
  refine g_1 (a := 0) (b := 0) (nx := 17) (by decide +kernel) ?_
  refine g_53 (a := 1) (b := 7) (nx := 20) (by decide +kernel) h0 ?_
  refine g_7 (a := 0) (b := 0) (nx := 21) (by decide +kernel) rfl ?_
  refine g_1 (a := 0) (b := 0) (nx := 22) (by decide +kernel) ?_
  refine g_53 (a := 1) (b := 8) (nx := 25) (by decide +kernel) h0 ?_
  refine g_7 (a := 0) (b := 0) (nx := 26) (by decide +kernel) rfl ?_
  refine g_1 (a := 0) (b := 0) (nx := 27) (by decide +kernel) ?_
  refine g_53 (a := 1) (b := 9) (nx := 30) (by decide +kernel) h0 ?_
  refine g_1 (a := 0) (b := 0) (nx := 31) (by decide +kernel) ?_
  refine g_8 (a := 3) (b := 0) (nx := 32) (by decide +kernel) rfl (ls' := [some (vR x0), some (vR x1), some (vR x2), some (vI 0)]) rfl ?_
  exact h
theorem t_11_32 {x0 x1 x2 x3 : Int} {M : Mem} {Q : AV → Mem → Prop} (h0 : gO 1 x0) (h : (gO 5 x2) ∧ inR x3 ∧ (inR (M x2 1) ∧ (if (M x2 1) ≤ x3 then (WV 12 [vR x0] M (fun M3 => Q (vI 0) M3)) else (inR (M x0 9) ∧ (if 12 ≤ (M x0 9) then (WV 12 [vR x0] M (fun M6 => Q (vI 0) M6)) else ((gO 2 x1) ∧ ((shA SH x2).1 = 5) ∧ WI 82 [vR x2, vI x3] M (fun y9 M8 => ((shA SH (M x1 0)).1 = 6) ∧ WI 94 [vR (M x1 0), vI y9] M8 (fun y11 M10 => inR y11 ∧ (if y11 = 0 then (WR 11 32 [some (vR x0), some (vR x1), some (vR x2), some (vI (x3 + 1))] [] M10 Q) else ((gA 20 (M10 x0 0) (M10 x0 9)) ∧ ((shA SH x2).1 = 5) ∧ WI 82 [vR x2, vI x3] (upM M10 (M10 x0 0) (M10 x0 9) x3) (fun y14 M13 => ((shA SH x2).1 = 5) ∧ WI 82 [vR x2, vI (x3 + 1)] M13 (fun y16 M15 => ((shA SH x1).1 = 2) ∧ WI 47 [vR x1, vI y14, vI y16] M15 (fun y18 M17 => inR y18 ∧ (if y18 = 0 then ((gA 20 ((upM M10 (M10 x0 0) (M10 x0 9) x3) x0 1) ((upM M10 (M10 x0 0) (M10 x0 9) x3) x0 9)) ∧ (gA 20 ((upM M17 ((upM M10 (M10 x0 0) (M10 x0 9) x3) x0 1) ((upM M10 (M10 x0 0) (M10 x0 9) x3) x0 9) 1) x0 1) ((upM M17 ((upM M10 (M10 x0 0) (M10 x0 9) x3) x0 1) ((upM M10 (M10 x0 0) (M10 x0 9) x3) x0 9) 1) x0 9)) ∧ WR 11 32 [some (vR x0), some (vR x1), some (vR x2), some (vI ((x3 + (((upM M17 ((upM M10 (M10 x0 0) (M10 x0 9) x3) x0 1) ((upM M10 (M10 x0 0) (M10 x0 9) x3) x0 9) 1) ((upM M17 ((upM M10 (M10 x0 0) (M10 x0 9) x3) x0 1) ((upM M10 (M10 x0 0) (M10 x0 9) x3) x0 9) 1) x0 1) ((upM M17 ((upM M10 (M10 x0 0) (M10 x0 9) x3) x0 1) ((upM M10 (M10 x0 0) (M10 x0 9) x3) x0 9) 1) x0 9)) - 1)) + 1))] [] (upM (upM M17 ((upM M10 (M10 x0 0) (M10 x0 9) x3) x0 1) ((upM M10 (M10 x0 0) (M10 x0 9) x3) x0 9) 1) x0 9 (((upM M17 ((upM M10 (M10 x0 0) (M10 x0 9) x3) x0 1) ((upM M10 (M10 x0 0) (M10 x0 9) x3) x0 9) 1) x0 9) + 1)) Q) else ((gA 20 ((upM M10 (M10 x0 0) (M10 x0 9) x3) x0 1) ((upM M10 (M10 x0 0) (M10 x0 9) x3) x0 9)) ∧ (gA 20 ((upM M17 ((upM M10 (M10 x0 0) (M10 x0 9) x3) x0 1) ((upM M10 (M10 x0 0) (M10 x0 9) x3) x0 9) 2) x0 1) ((upM M17 ((upM M10 (M10 x0 0) (M10 x0 9) x3) x0 1) ((upM M10 (M10 x0 0) (M10 x0 9) x3) x0 9) 2) x0 9)) ∧ WR 11 32 [some (vR x0), some (vR x1), some (vR x2), some (vI ((x3 + (((upM M17 ((upM M10 (M10 x0 0) (M10 x0 9) x3) x0 1) ((upM M10 (M10 x0 0) (M10 x0 9) x3) x0 9) 2) ((upM M17 ((upM M10 (M10 x0 0) (M10 x0 9) x3) x0 1) ((upM M10 (M10 x0 0) (M10 x0 9) x3) x0 9) 2) x0 1) ((upM M17 ((upM M10 (M10 x0 0) (M10 x0 9) x3) x0 1) ((upM M10 (M10 x0 0) (M10 x0 9) x3) x0 9) 2) x0 9)) - 1)) + 1))] [] (upM (upM M17 ((upM M10 (M10 x0 0) (M10 x0 9) x3) x0 1) ((upM M10 (M10 x0 0) (M10 x0 9) x3) x0 9) 2) x0 9 (((upM M17 ((upM M10 (M10 x0 0) (M10 x0 9) x3) x0 1) ((upM M10 (M10 x0 0) (M10 x0 9) x3) x0 9) 2) x0 9) + 1)) Q))))))))))))))) : WR 11 32 [some (vR x0), some (vR x1), some (vR x2), some (vI x3)] [] M Q := by
  refine g_5 (a := 3) (b := 0) (nx := 33) (by decide +kernel) rfl ?_
  refine g_7 (a := 2) (b := 0) (nx := 34) (by decide +kernel) rfl ?_
  refine g_50 (a := 5) (b := 1) (nx := 37) (by decide +kernel) h.1 ?_
  replace h := h.2
  obtain ⟨r1, h⟩ := h
  obtain ⟨r2, h⟩ := h
  by_cases c23 : (M x2 1) ≤ x3
  · rw [if_pos c23] at h
    refine g_41t (a := 3) (b := 137) (nx := 40) (by decide +kernel) (by rw [wr_id r1, wr_id r2]; exact (cb_3 _ _).mpr c23) ?_
    refine g_7 (a := 0) (b := 0) (nx := 138) (by decide +kernel) rfl ?_
    refine g_80 (a := 12) (b := 0) (nx := 141) (by decide +kernel) (r := x0) (As := []) (st' := []) (z := 12) rfl rfl rfl (Nat.le_of_ble_eq_true rfl) h0.2 (Nat.le_of_ble_eq_true rfl) rfl (c_V (by decide +kernel) h (fun M3 h => ?_))
    exact g_90 (a := 0) (b := 0) (nx := 142) (by decide +kernel) h
  · rw [if_neg c23] at h
    refine g_41f (a := 3) (b := 137) (nx := 40) (by decide +kernel) (by rw [wr_id r1, wr_id r2]; exact fun hz => c23 ((cb_3 _ _).mp hz)) ?_
    refine g_7 (a := 0) (b := 0) (nx := 41) (by decide +kernel) rfl ?_
    refine g_50 (a := 1) (b := 9) (nx := 44) (by decide +kernel) h0 ?_
    refine g_1 (a := 12) (b := 0) (nx := 46) (by decide +kernel) ?_
    obtain ⟨r5, h⟩ := h
    by_cases c22 : 12 ≤ (M x0 9)
    · rw [if_pos c22] at h
      refine g_41t (a := 3) (b := 137) (nx := 49) (by decide +kernel) (by rw [wr_id r5, wr_id (show inR 12 by decide)]; exact (cb_3 _ _).mpr c22) ?_
      refine g_7 (a := 0) (b := 0) (nx := 138) (by decide +kernel) rfl ?_
      refine g_80 (a := 12) (b := 0) (nx := 141) (by decide +kernel) (r := x0) (As := []) (st' := []) (z := 12) rfl rfl rfl (Nat.le_of_ble_eq_true rfl) h0.2 (Nat.le_of_ble_eq_true rfl) rfl (c_V (by decide +kernel) h (fun M6 h => ?_))
      exact g_90 (a := 0) (b := 0) (nx := 142) (by decide +kernel) h
    · rw [if_neg c22] at h
      refine g_41f (a := 3) (b := 137) (nx := 49) (by decide +kernel) (by rw [wr_id r5, wr_id (show inR 12 by decide)]; exact fun hz => c22 ((cb_3 _ _).mp hz)) ?_
      refine g_7 (a := 1) (b := 0) (nx := 50) (by decide +kernel) rfl ?_
      refine g_52 (a := 2) (b := 0) (nx := 53) (by decide +kernel) h.1 ?_
      replace h := h.2
      refine g_7 (a := 2) (b := 0) (nx := 54) (by decide +kernel) rfl ?_
      refine g_5 (a := 3) (b := 0) (nx := 55) (by decide +kernel) rfl ?_
      refine g_80 (a := 82) (b := 1) (nx := 58) (by decide +kernel) (r := x2) (As := [vI x3]) (st' := [vR (M x1 0)]) (z := 82) rfl rfl rfl (Nat.le_of_ble_eq_true rfl) h.1 (Nat.le_of_ble_eq_true rfl) rfl (c_I (by decide +kernel) h.2 (fun y9 M8 h => ?_))
      refine g_80 (a := 94) (b := 1) (nx := 61) (by decide +kernel) (r := (M x1 0)) (As := [vI y9]) (st' := []) (z := 94) rfl rfl rfl (Nat.le_of_ble_eq_true rfl) h.1 (Nat.le_of_ble_eq_true rfl) rfl (c_I (by decide +kernel) h.2 (fun y11 M10 h => ?_))
      obtain ⟨r12, h⟩ := h
      by_cases c21 : y11 = 0
      · rw [if_pos c21] at h
        refine g_40t (a := 0) (b := 131) (nx := 64) (by decide +kernel) r12 (by exact (cb_0 _ _).mpr c21) ?_
        refine g_11 (a := 3) (b := 1) (nx := 134) (by decide +kernel) rfl rfl (ls' := [some (vR x0), some (vR x1), some (vR x2), some (vI (x3 + 1))]) rfl ?_
        refine g_44 (a := 0) (b := 32) (nx := 137) (by decide +kernel) ?_
        exact h
      · rw [if_neg c21] at h
        refine g_40f (a := 0) (b := 131) (nx := 64) (by decide +kernel) r12 (by exact fun hz => c21 ((cb_0 _ _).mp hz)) ?_
        refine g_7 (a := 0) (b := 0) (nx := 65) (by decide +kernel) rfl ?_
        refine g_52 (a := 1) (b := 0) (nx := 68) (by decide +kernel) h0 ?_
        refine g_7 (a := 0) (b := 0) (nx := 69) (by decide +kernel) rfl ?_
        refine g_50 (a := 1) (b := 9) (nx := 72) (by decide +kernel) h0 ?_
        refine g_5 (a := 3) (b := 0) (nx := 73) (by decide +kernel) rfl ?_
        refine g_62 (a := 0) (b := 0) (nx := 74) (by decide +kernel) h.1 ?_
        replace h := h.2
        refine g_7 (a := 0) (b := 0) (nx := 75) (by decide +kernel) rfl ?_
        refine g_52 (a := 1) (b := 1) (nx := 78) (by decide +kernel) h0 ?_
        refine g_7 (a := 0) (b := 0) (nx := 79) (by decide +kernel) rfl ?_
        refine g_50 (a := 1) (b := 9) (nx := 82) (by decide +kernel) h0 ?_
        refine g_7 (a := 1) (b := 0) (nx := 83) (by decide +kernel) rfl ?_
        refine g_7 (a := 2) (b := 0) (nx := 84) (by decide +kernel) rfl ?_
        refine g_5 (a := 3) (b := 0) (nx := 85) (by decide +kernel) rfl ?_
        refine g_80 (a := 82) (b := 1) (nx := 88) (by decide +kernel) (r := x2) (As := [vI x3]) (st' := [vR x1, vI ((upM M10 (M10 x0 0) (M10 x0 9) x3) x0 9), vR ((upM M10 (M10 x0 0) (M10 x0 9) x3) x0 1)]) (z := 82) rfl rfl rfl (Nat.le_of_ble_eq_true rfl) h.1 (Nat.le_of_ble_eq_true rfl) rfl (c_I (by decide +kernel) h.2 (fun y14 M13 h => ?_))
        refine g_7 (a := 2) (b := 0) (nx := 89) (by decide +kernel) rfl ?_
        refine g_5 (a := 3) (b := 0) (nx := 90) (by decide +kernel) rfl ?_
        refine g_1 (a := 1) (b := 0) (nx := 91) (by decide +kernel) ?_
        refine g_15 (a := 0) (b := 0) (nx := 92) (by decide +kernel) ?_
        refine g_80 (a := 82) (b := 1) (nx := 95) (by decide +kernel) (r := x2) (As := [vI (x3 + 1)]) (st' := [vI y14, vR x1, vI ((upM M10 (M10 x0 0) (M10 x0 9) x3) x0 9), vR ((upM M10 (M10 x0 0) (M10 x0 9) x3) x0 1)]) (z := 82) rfl rfl rfl (Nat.le_of_ble_eq_true rfl) h.1 (Nat.le_of_ble_eq_true rfl) rfl (c_I (by decide +kernel) h.2 (fun y16 M15 h => ?_))
        refine g_80 (a := 47) (b := 2) (nx := 98) (by decide +kernel) (r := x1) (As := [vI y14, vI y16]) (st' := [vI ((upM M10 (M10 x0 0) (M10 x0 9) x3) x0 9), vR ((upM M10 (M10 x0 0) (M10 x0 9) x3) x0 1)]) (z := 47) rfl rfl rfl (Nat.le_of_ble_eq_true rfl) h.1 (Nat.le_of_ble_eq_true rfl) rfl (c_I (by decide +kernel) h.2 (fun y18 M17 h => ?_))
        obtain ⟨r19, h⟩ := h
        by_cases c20 : y18 = 0
        · rw [if_pos c20] at h
          refine g_40t (a := 0) (b := 105) (nx := 101) (by decide +kernel) r19 (by exact (cb_0 _ _).mpr c20) ?_
          refine g_1 (a := 1) (b := 0) (nx := 106) (by decide +kernel) ?_
          refine g_62 (a := 0) (b := 0) (nx := 107) (by decide +kernel) h.1 ?_
          replace h := h.2
          refine g_5 (a := 3) (b := 0) (nx := 108) (by decide +kernel) rfl ?_
          refine g_7 (a := 0) (b := 0) (nx := 109) (by decide +kernel) rfl ?_
          refine g_52 (a := 1) (b := 1) (nx := 112) (by decide +kernel) h0 ?_
          refine g_7 (a := 0) (b := 0) (nx := 113) (by decide +kernel) rfl ?_
          refine g_50 (a := 1) (b := 9) (nx := 116) (by decide +kernel) h0 ?_
          refine g_61 (a := 0) (b := 0) (nx := 117) (by decide +kernel) h.1 ?_
          replace h := h.2
          refine g_1 (a := 1) (b := 0) (nx := 118) (by decide +kernel) ?_
          refine g_16 (a := 0) (b := 0) (nx := 119) (by decide +kernel) ?_
          refine g_15 (a := 0) (b := 0) (nx := 120) (by decide +kernel) ?_
          refine g_8 (a := 3) (b := 0) (nx := 121) (by decide +kernel) rfl (ls' := [some (vR x0), some (vR x1), some (vR x2), some (vI (x3 + (((upM M17 ((upM M10 (M10 x0 0) (M10 x0 9) x3) x0 1) ((upM M10 (M10 x0 0) (M10 x0 9) x3) x0 9) 1) ((upM M17 ((upM M10 (M10 x0 0) (M10 x0 9) x3) x0 1) ((upM M10 (M10 x0 0) (M10 x0 9) x3) x0 9) 1) x0 1) ((upM M17 ((upM M10 (M10 x0 0) (M10 x0 9) x3) x0 1) ((upM M10 (M10 x0 0) (M10 x0 9) x3) x0 9) 1) x0 9)) - 1)))]) rfl ?_
          refine g_7 (a := 0) (b := 0) (nx := 122) (by decide +kernel) rfl ?_
          refine g_13 (a := 0) (b := 0) (nx := 123) (by decide +kernel) rfl ?_
          refine g_50 (a := 1) (b := 9) (nx := 126) (by decide +kernel) h0 ?_
          refine g_1 (a := 1) (b := 0) (nx := 127) (by decide +kernel) ?_
          refine g_15 (a := 0) (b := 0) (nx := 128) (by decide +kernel) ?_
          refine g_53 (a := 1) (b := 9) (nx := 131) (by decide +kernel) h0 ?_
          refine g_11 (a := 3) (b := 1) (nx := 134) (by decide +kernel) rfl rfl (ls' := [some (vR x0), some (vR x1), some (vR x2), some (vI ((x3 + (((upM M17 ((upM M10 (M10 x0 0) (M10 x0 9) x3) x0 1) ((upM M10 (M10 x0 0) (M10 x0 9) x3) x0 9) 1) ((upM M17 ((upM M10 (M10 x0 0) (M10 x0 9) x3) x0 1) ((upM M10 (M10 x0 0) (M10 x0 9) x3) x0 9) 1) x0 1) ((upM M17 ((upM M10 (M10 x0 0) (M10 x0 9) x3) x0 1) ((upM M10 (M10 x0 0) (M10 x0 9) x3) x0 9) 1) x0 9)) - 1)) + 1))]) rfl ?_
          refine g_44 (a := 0) (b := 32) (nx := 137) (by decide +kernel) ?_
          exact h
        · rw [if_neg c20] at h
          refine g_40f (a := 0) (b := 105) (nx := 101) (by decide +kernel) r19 (by exact fun hz => c20 ((cb_0 _ _).mp hz)) ?_
          refine g_1 (a := 2) (b := 0) (nx := 102) (by decide +kernel) ?_
          refine g_44 (a := 0) (b := 106) (nx := 105) (by decide +kernel) ?_
          refine g_62 (a := 0) (b := 0) (nx := 107) (by decide +kernel) h.1 ?_
          replace h := h.2
          refine g_5 (a := 3) (b := 0) (nx := 108) (by decide +kernel) rfl ?_
          refine g_7 (a := 0) (b := 0) (nx := 109) (by decide +kernel) rfl ?_
          refine g_52 (a := 1) (b := 1) (nx := 112) (by decide +kernel) h0 ?_
          refine g_7 (a := 0) (b := 0) (nx := 113) (by decide +kernel) rfl ?_
          refine g_50 (a := 1) (b := 9) (nx := 116) (by decide +kernel) h0 ?_
          refine g_61 (a := 0) (b := 0) (nx := 117) (by decide +kernel) h.1 ?_
          replace h := h.2
          refine g_1 (a := 1) (b := 0) (nx := 118) (by decide +kernel) ?_
          refine g_16 (a := 0) (b := 0) (nx := 119) (by decide +kernel) ?_
          refine g_15 (a := 0) (b := 0) (nx := 120) (by decide +kernel) ?_
          refine g_8 (a := 3) (b := 0) (nx := 121) (by decide +kernel) rfl (ls' := [some (vR x0), some (vR x1), some (vR x2), some (vI (x3 + (((upM M17 ((upM M10 (M10 x0 0) (M10 x0 9) x3) x0 1) ((upM M10 (M10 x0 0) (M10 x0 9) x3) x0 9) 2) ((upM M17 ((upM M10 (M10 x0 0) (M10 x0 9) x3) x0 1) ((upM M10 (M10 x0 0) (M10 x0 9) x3) x0 9) 2) x0 1) ((upM M17 ((upM M10 (M10 x0 0) (M10 x0 9) x3) x0 1) ((upM M10 (M10 x0 0) (M10 x0 9) x3) x0 9) 2) x0 9)) - 1)))]) rfl ?_
          refine g_7 (a := 0) (b := 0) (nx := 122) (by decide +kernel) rfl ?_
          refine g_13 (a := 0) (b := 0) (nx := 123) (by decide +kernel) rfl ?_
          refine g_50 (a := 1) (b := 9) (nx := 126) (by decide +kernel) h0 ?_
          refine g_1 (a := 1) (b := 0) (nx := 127) (by decide +kernel) ?_
          refine g_15 (a := 0) (b := 0) (nx := 128) (by decide +kernel) ?_
          refine g_53 (a := 1) (b := 9) (nx := 131) (by decide +kernel) h0 ?_
          refine g_11 (a := 3) (b := 1) (nx := 134) (by decide +kernel) rfl rfl (ls' := [some (vR x0), some (vR x1), some (vR x2), some (vI ((x3 + (((upM M17 ((upM M10 (M10 x0 0) (M10 x0 9) x3) x0 1) ((upM M10 (M10 x0 0) (M10 x0 9) x3) x0 9) 2) ((upM M17 ((upM M10 (M10 x0 0) (M10 x0 9) x3) x0 1) ((upM M10 (M10 x0 0) (M10 x0 9) x3) x0 9) 2) x0 1) ((upM M17 ((upM M10 (M10 x0 0) (M10 x0 9) x3) x0 1) ((upM M10 (M10 x0 0) (M10 x0 9) x3) x0 9) 2) x0 9)) - 1)) + 1))]) rfl ?_
          refine g_44 (a := 0) (b := 32) (nx := 137) (by decide +kernel) ?_
          exact h
-- 12 SyllableMaker$Cut.clearClosings()V
theorem t_12 {x0 : Int} {M : Mem} {Q : AV → Mem → Prop} (h0 : gO 1 x0) (h : WR 12 2 [some (vR x0), some (vI 0)] [] M Q) : WC 12 [vR x0] M Q := by
  show WR 12 0 [some (vR x0), none] [] M Q
  refine g_1 (a := 0) (b := 0) (nx := 1) (by decide +kernel) ?_
  refine g_8 (a := 1) (b := 0) (nx := 2) (by decide +kernel) rfl (ls' := [some (vR x0), some (vI 0)]) rfl ?_
  exact h
theorem t_12_2 {x0 x1 : Int} {M : Mem} {Q : AV → Mem → Prop} (h0 : gO 1 x0) (h : inR x1 ∧ (inR (M x0 9) ∧ (if (M x0 9) ≤ x1 then (Q (vI 0) M) else (inR ((M x0 9) - 1) ∧ (if x1 = ((M x0 9) - 1) then (WI 15 [vR x0, vI x1] M (fun y5 M4 => (gA 20 (M x0 2) x1) ∧ WR 12 2 [some (vR x0), some (vI (x1 + 1))] [] (upM M4 (M x0 2) x1 y5) Q)) else ((gA 20 (M x0 2) x1) ∧ WR 12 2 [some (vR x0), some (vI (x1 + 1))] [] (upM M (M x0 2) x1 0) Q)))))) : WR 12 2 [some (vR x0), some (vI x1)] [] M Q := by
  refine g_5 (a := 1) (b := 0) (nx := 3) (by decide +kernel) rfl ?_
  refine g_7 (a := 0) (b := 0) (nx := 4) (by decide +kernel) rfl ?_
  refine g_50 (a := 1) (b := 9) (nx := 7) (by decide +kernel) h0 ?_
  obtain ⟨r1, h⟩ := h
  obtain ⟨r2, h⟩ := h
  by_cases c7 : (M x0 9) ≤ x1
  · rw [if_pos c7] at h
    refine g_41t (a := 3) (b := 41) (nx := 10) (by decide +kernel) (by rw [wr_id r1, wr_id r2]; exact (cb_3 _ _).mpr c7) ?_
    exact g_90 (a := 0) (b := 0) (nx := 42) (by decide +kernel) h
  · rw [if_neg c7] at h
    refine g_41f (a := 3) (b := 41) (nx := 10) (by decide +kernel) (by rw [wr_id r1, wr_id r2]; exact fun hz => c7 ((cb_3 _ _).mp hz)) ?_
    refine g_7 (a := 0) (b := 0) (nx := 11) (by decide +kernel) rfl ?_
    refine g_52 (a := 1) (b := 2) (nx := 14) (by decide +kernel) h0 ?_
    refine g_5 (a := 1) (b := 0) (nx := 15) (by decide +kernel) rfl ?_
    refine g_5 (a := 1) (b := 0) (nx := 16) (by decide +kernel) rfl ?_
    refine g_7 (a := 0) (b := 0) (nx := 17) (by decide +kernel) rfl ?_
    refine g_50 (a := 1) (b := 9) (nx := 20) (by decide +kernel) h0 ?_
    refine g_1 (a := 1) (b := 0) (nx := 21) (by decide +kernel) ?_
    refine g_16 (a := 0) (b := 0) (nx := 22) (by decide +kernel) ?_
    obtain ⟨r3, h⟩ := h
    by_cases c6 : x1 = ((M x0 9) - 1)
    · rw [if_pos c6] at h
      refine g_41f (a := 1) (b := 33) (nx := 25) (by decide +kernel) (by rw [wr_id r1, wr_id r3]; exact fun hz => ((cb_1 _ _).mp hz) c6) ?_
      refine g_7 (a := 0) (b := 0) (nx := 26) (by decide +kernel) rfl ?_
      refine g_5 (a := 1) (b := 0) (nx := 27) (by decide +kernel) rfl ?_
      refine g_80 (a := 15) (b := 1) (nx := 30) (by decide +kernel) (r := x0) (As := [vI x1]) (st' := [vI x1, vR (M x0 2)]) (z := 15) rfl rfl rfl (Nat.le_of_ble_eq_true rfl) h0.2 (Nat.le_of_ble_eq_true rfl) rfl (c_I (by decide +kernel) h (fun y5 M4 h => ?_))
      refine g_44 (a := 0) (b := 34) (nx := 33) (by decide +kernel) ?_
      refine g_62 (a := 0) (b := 0) (nx := 35) (by decide +kernel) h.1 ?_
      replace h := h.2
      refine g_11 (a := 1) (b := 1) (nx := 38) (by decide +kernel) rfl rfl (ls' := [some (vR x0), some (vI (x1 + 1))]) rfl ?_
      refine g_44 (a := 0) (b := 2) (nx := 41) (by decide +kernel) ?_
      exact h
    · rw [if_neg c6] at h
      refine g_41t (a := 1) (b := 33) (nx := 25) (by decide +kernel) (by rw [wr_id r1, wr_id r3]; exact (cb_1 _ _).mpr c6) ?_
      refine g_1 (a := 0) (b := 0) (nx := 34) (by decide +kernel) ?_
      refine g_62 (a := 0) (b := 0) (nx := 35) (by decide +kernel) h.1 ?_
      replace h := h.2
      refine g_11 (a := 1) (b := 1) (nx := 38) (by decide +kernel) rfl rfl (ls' := [some (vR x0), some (vI (x1 + 1))]) rfl ?_
      refine g_44 (a := 0) (b := 2) (nx := 41) (by decide +kernel) ?_
      exact h
-- 13 SyllableMaker$Cut.has(I)Z
theorem t_13 {x0 x1 : Int} {M : Mem} {Q : AV → Mem → Prop} (h0 : gO 1 x0) (h : inR x1 ∧ (if x1 < 0 then (Q (vI 0) M) else (inR (M x0 9) ∧ (if (M x0 9) ≤ x1 then (Q (vI 0) M) else (if 12 ≤ x1 then (Q (vI 0) M) else (Q (vI 1) M)))))) : WC 13 [vR x0, vI x1] M Q := by
  show WR 13 0 [some (vR x0), some (vI x1)] [] M Q
  refine g_5 (a := 1) (b := 0) (nx := 1) (by decide +kernel) rfl ?_
  obtain ⟨r1, h⟩ := h
  by_cases c5 : x1 < 0
  · rw [if_pos c5] at h
    refine g_40t (a := 2) (b := 22) (nx := 4) (by decide +kernel) r1 (by exact (cb_2 _ _).mpr c5) ?_
    refine g_1 (a := 0) (b := 0) (nx := 23) (by decide +kernel) ?_
    exact g_91z (b := 0) (nx := 24) (by decide +kernel) (by decide) h
  · rw [if_neg c5] at h
    refine g_40f (a := 2) (b := 22) (nx := 4) (by decide +kernel) r1 (by exact fun hz => c5 ((cb_2 _ _).mp hz)) ?_
    refine g_5 (a := 1) (b := 0) (nx := 5) (by decide +kernel) rfl ?_
    refine g_7 (a := 0) (b := 0) (nx := 6) (by decide +kernel) rfl ?_
    refine g_50 (a := 1) (b := 9) (nx := 9) (by decide +kernel) h0 ?_
    obtain ⟨r2, h⟩ := h
    by_cases c4 : (M x0 9) ≤ x1
    · rw [if_pos c4] at h
      refine g_41t (a := 3) (b := 22) (nx := 12) (by decide +kernel) (by rw [wr_id r1, wr_id r2]; exact (cb_3 _ _).mpr c4) ?_
      refine g_1 (a := 0) (b := 0) (nx := 23) (by decide +kernel) ?_
      exact g_91z (b := 0) (nx := 24) (by decide +kernel) (by decide) h
    · rw [if_neg c4] at h
      refine g_41f (a := 3) (b := 22) (nx := 12) (by decide +kernel) (by rw [wr_id r1, wr_id r2]; exact fun hz => c4 ((cb_3 _ _).mp hz)) ?_
      refine g_5 (a := 1) (b := 0) (nx := 13) (by decide +kernel) rfl ?_
      refine g_1 (a := 12) (b := 0) (nx := 15) (by decide +kernel) ?_
      by_cases c3 : 12 ≤ x1
      · rw [if_pos c3] at h
        refine g_41t (a := 3) (b := 22) (nx := 18) (by decide +kernel) (by rw [wr_id r1, wr_id (show inR 12 by decide)]; exact (cb_3 _ _).mpr c3) ?_
        refine g_1 (a := 0) (b := 0) (nx := 23) (by decide +kernel) ?_
        exact g_91z (b := 0) (nx := 24) (by decide +kernel) (by decide) h
      · rw [if_neg c3] at h
        refine g_41f (a := 3) (b := 22) (nx := 18) (by decide +kernel) (by rw [wr_id r1, wr_id (show inR 12 by decide)]; exact fun hz => c3 ((cb_3 _ _).mp hz)) ?_
        refine g_1 (a := 1) (b := 0) (nx := 19) (by decide +kernel) ?_
        refine g_44 (a := 0) (b := 23) (nx := 22) (by decide +kernel) ?_
        exact g_91z (b := 0) (nx := 24) (by decide +kernel) (by decide) h
-- 14 SyllableMaker$Cut.heartEnd(I)I
theorem t_14 {x0 x1 : Int} {M : Mem} {Q : AV → Mem → Prop} (h0 : gO 1 x0) (h : inR x1 ∧ (if x1 < 0 then (Q (vI 0) M) else (inR (M x0 9) ∧ (if (M x0 9) ≤ x1 then (Q (vI 0) M) else (if 12 ≤ x1 then (Q (vI 0) M) else ((gA 20 (M x0 0) x1) ∧ (gA 20 (M x0 1) x1) ∧ Q (vI ((M (M x0 0) x1) + (M (M x0 1) x1))) M)))))) : WC 14 [vR x0, vI x1] M Q := by
  show WR 14 0 [some (vR x0), some (vI x1)] [] M Q
  refine g_5 (a := 1) (b := 0) (nx := 1) (by decide +kernel) rfl ?_
  obtain ⟨r1, h⟩ := h
  by_cases c5 : x1 < 0
  · rw [if_pos c5] at h
    refine g_40t (a := 2) (b := 34) (nx := 4) (by decide +kernel) r1 (by exact (cb_2 _ _).mpr c5) ?_
    refine g_1 (a := 0) (b := 0) (nx := 35) (by decide +kernel) ?_
    exact g_91 (b := 0) (nx := 36) (by decide +kernel) h
  · rw [if_neg c5] at h
    refine g_40f (a := 2) (b := 34) (nx := 4) (by decide +kernel) r1 (by exact fun hz => c5 ((cb_2 _ _).mp hz)) ?_
    refine g_5 (a := 1) (b := 0) (nx := 5) (by decide +kernel) rfl ?_
    refine g_7 (a := 0) (b := 0) (nx := 6) (by decide +kernel) rfl ?_
    refine g_50 (a := 1) (b := 9) (nx := 9) (by decide +kernel) h0 ?_
    obtain ⟨r2, h⟩ := h
    by_cases c4 : (M x0 9) ≤ x1
    · rw [if_pos c4] at h
      refine g_41t (a := 3) (b := 34) (nx := 12) (by decide +kernel) (by rw [wr_id r1, wr_id r2]; exact (cb_3 _ _).mpr c4) ?_
      refine g_1 (a := 0) (b := 0) (nx := 35) (by decide +kernel) ?_
      exact g_91 (b := 0) (nx := 36) (by decide +kernel) h
    · rw [if_neg c4] at h
      refine g_41f (a := 3) (b := 34) (nx := 12) (by decide +kernel) (by rw [wr_id r1, wr_id r2]; exact fun hz => c4 ((cb_3 _ _).mp hz)) ?_
      refine g_5 (a := 1) (b := 0) (nx := 13) (by decide +kernel) rfl ?_
      refine g_1 (a := 12) (b := 0) (nx := 15) (by decide +kernel) ?_
      by_cases c3 : 12 ≤ x1
      · rw [if_pos c3] at h
        refine g_41t (a := 3) (b := 34) (nx := 18) (by decide +kernel) (by rw [wr_id r1, wr_id (show inR 12 by decide)]; exact (cb_3 _ _).mpr c3) ?_
        refine g_1 (a := 0) (b := 0) (nx := 35) (by decide +kernel) ?_
        exact g_91 (b := 0) (nx := 36) (by decide +kernel) h
      · rw [if_neg c3] at h
        refine g_41f (a := 3) (b := 34) (nx := 18) (by decide +kernel) (by rw [wr_id r1, wr_id (show inR 12 by decide)]; exact fun hz => c3 ((cb_3 _ _).mp hz)) ?_
        refine g_7 (a := 0) (b := 0) (nx := 19) (by decide +kernel) rfl ?_
        refine g_52 (a := 1) (b := 0) (nx := 22) (by decide +kernel) h0 ?_
        refine g_5 (a := 1) (b := 0) (nx := 23) (by decide +kernel) rfl ?_
        refine g_61 (a := 0) (b := 0) (nx := 24) (by decide +kernel) h.1 ?_
        replace h := h.2
        refine g_7 (a := 0) (b := 0) (nx := 25) (by decide +kernel) rfl ?_
        refine g_52 (a := 1) (b := 1) (nx := 28) (by decide +kernel) h0 ?_
        refine g_5 (a := 1) (b := 0) (nx := 29) (by decide +kernel) rfl ?_
        refine g_61 (a := 0) (b := 0) (nx := 30) (by decide +kernel) h.1 ?_
        replace h := h.2
        refine g_15 (a := 0) (b := 0) (nx := 31) (by decide +kernel) ?_
        refine g_44 (a := 0) (b := 35) (nx := 34) (by decide +kernel) ?_
        exact g_91 (b := 0) (nx := 36) (by decide +kernel) h
-- 15 SyllableMaker$Cut.behind(I)I
theorem t_15 {x0 x1 : Int} {M : Mem} {Q : AV → Mem → Prop} (h0 : gO 1 x0) (h : WI 13 [vR x0, vI (x1 + 1)] M (fun y2 M1 => inR y2 ∧ (if y2 = 0 then ((gO 5 (M1 x0 5)) ∧ WI 14 [vR x0, vI x1] M1 (fun y5 M4 => Q (vI ((M1 (M1 x0 5) 1) - y5)) M4)) else ((gA 20 (M1 x0 0) (x1 + 1)) ∧ WI 14 [vR x0, vI x1] M1 (fun y7 M6 => Q (vI ((M1 (M1 x0 0) (x1 + 1)) - y7)) M6))))) : WC 15 [vR x0, vI x1] M Q := by
  show WR 15 0 [some (vR x0), some (vI x1), none] [] M Q
  refine g_7 (a := 0) (b := 0) (nx := 1) (by decide +kernel) rfl ?_
  refine g_5 (a := 1) (b := 0) (nx := 2) (by decide +kernel) rfl ?_
  refine g_1 (a := 1) (b := 0) (nx := 3) (by decide +kernel) ?_
  refine g_15 (a := 0) (b := 0) (nx := 4) (by decide +kernel) ?_
  refine g_80 (a := 13) (b := 1) (nx := 7) (by decide +kernel) (r := x0) (As := [vI (x1 + 1)]) (st' := []) (z := 13) rfl rfl rfl (Nat.le_of_ble_eq_true rfl) h0.2 (Nat.le_of_ble_eq_true rfl) rfl (c_I (by decide +kernel) h (fun y2 M1 h => ?_))
  obtain ⟨r3, h⟩ := h
  by_cases c8 : y2 = 0
  · rw [if_pos c8] at h
    refine g_40t (a := 0) (b := 21) (nx := 10) (by decide +kernel) r3 (by exact (cb_0 _ _).mpr c8) ?_
    refine g_7 (a := 0) (b := 0) (nx := 22) (by decide +kernel) rfl ?_
    refine g_52 (a := 1) (b := 5) (nx := 25) (by decide +kernel) h0 ?_
    refine g_50 (a := 5) (b := 1) (nx := 28) (by decide +kernel) h.1 ?_
    replace h := h.2
    refine g_8 (a := 2) (b := 0) (nx := 29) (by decide +kernel) rfl (ls' := [some (vR x0), some (vI x1), some (vI (M1 (M1 x0 5) 1))]) rfl ?_
    refine g_5 (a := 2) (b := 0) (nx := 30) (by decide +kernel) rfl ?_
    refine g_7 (a := 0) (b := 0) (nx := 31) (by decide +kernel) rfl ?_
    refine g_5 (a := 1) (b := 0) (nx := 32) (by decide +kernel) rfl ?_
    refine g_80 (a := 14) (b := 1) (nx := 35) (by decide +kernel) (r := x0) (As := [vI x1]) (st' := [vI (M1 (M1 x0 5) 1)]) (z := 14) rfl rfl rfl (Nat.le_of_ble_eq_true rfl) h0.2 (Nat.le_of_ble_eq_true rfl) rfl (c_I (by decide +kernel) h (fun y5 M4 h => ?_))
    refine g_16 (a := 0) (b := 0) (nx := 36) (by decide +kernel) ?_
    exact g_91 (b := 0) (nx := 37) (by decide +kernel) h
  · rw [if_neg c8] at h
    refine g_40f (a := 0) (b := 21) (nx := 10) (by decide +kernel) r3 (by exact fun hz => c8 ((cb_0 _ _).mp hz)) ?_
    refine g_7 (a := 0) (b := 0) (nx := 11) (by decide +kernel) rfl ?_
    refine g_52 (a := 1) (b := 0) (nx := 14) (by decide +kernel) h0 ?_
    refine g_5 (a := 1) (b := 0) (nx := 15) (by decide +kernel) rfl ?_
    refine g_1 (a := 1) (b := 0) (nx := 16) (by decide +kernel) ?_
    refine g_15 (a := 0) (b := 0) (nx := 17) (by decide +kernel) ?_
    refine g_61 (a := 0) (b := 0) (nx := 18) (by decide +kernel) h.1 ?_
    replace h := h.2
    refine g_44 (a := 0) (b := 28) (nx := 21) (by decide +kernel) ?_
    refine g_8 (a := 2) (b := 0) (nx := 29) (by decide +kernel) rfl (ls' := [some (vR x0), some (vI x1), some (vI (M1 (M1 x0 0) (x1 + 1)))]) rfl ?_
    refine g_5 (a := 2) (b := 0) (nx := 30) (by decide +kernel) rfl ?_
    refine g_7 (a := 0) (b := 0) (nx := 31) (by decide +kernel) rfl ?_
    refine g_5 (a := 1) (b := 0) (nx := 32) (by decide +kernel) rfl ?_
    refine g_80 (a := 14) (b := 1) (nx := 35) (by decide +kernel) (r := x0) (As := [vI x1]) (st' := [vI (M1 (M1 x0 0) (x1 + 1))]) (z := 14) rfl rfl rfl (Nat.le_of_ble_eq_true rfl) h0.2 (Nat.le_of_ble_eq_true rfl) rfl (c_I (by decide +kernel) h (fun y7 M6 h => ?_))
    refine g_16 (a := 0) (b := 0) (nx := 36) (by decide +kernel) ?_
    exact g_91 (b := 0) (nx := 37) (by decide +kernel) h
-- 16 SyllableMaker$Cut.ways()I
theorem t_16 {x0 : Int} {M : Mem} {Q : AV → Mem → Prop} (h0 : gO 1 x0) (h : inR (M x0 9) ∧ (if (M x0 9) = 0 then (WR 16 15 [some (vR x0), some (vI 0), some (vI 0)] [] M Q) else (WR 16 15 [some (vR x0), some (vI 1), some (vI 0)] [] M Q))) : WC 16 [vR x0] M Q := by
  show WR 16 0 [some (vR x0), none, none] [] M Q
  refine g_7 (a := 0) (b := 0) (nx := 1) (by decide +kernel) rfl ?_
  refine g_50 (a := 1) (b := 9) (nx := 4) (by decide +kernel) h0 ?_
  obtain ⟨r1, h⟩ := h
  by_cases c2 : (M x0 9) = 0
  · rw [if_pos c2] at h
    refine g_40f (a := 1) (b := 11) (nx := 7) (by decide +kernel) r1 (by exact fun hz => ((cb_1 _ _).mp hz) c2) ?_
    refine g_1 (a := 0) (b := 0) (nx := 8) (by decide +kernel) ?_
    refine g_44 (a := 0) (b := 12) (nx := 11) (by decide +kernel) ?_
    refine g_8 (a := 1) (b := 0) (nx := 13) (by decide +kernel) rfl (ls' := [some (vR x0), some (vI 0), none]) rfl ?_
    refine g_1 (a := 0) (b := 0) (nx := 14) (by decide +kernel) ?_
    refine g_8 (a := 2) (b := 0) (nx := 15) (by decide +kernel) rfl (ls' := [some (vR x0), some (vI 0), some (vI 0)]) rfl ?_
    exact h
  · rw [if_neg c2] at h
    refine g_40t (a := 1) (b := 11) (nx := 7) (by decide +kernel) r1 (by exact (cb_1 _ _).mpr c2) ?_
    refine g_1 (a := 1) (b := 0) (nx := 12) (by decide +kernel) ?_
    refine g_8 (a := 1) (b := 0) (nx := 13) (by decide +kernel) rfl (ls' := [some (vR x0), some (vI 1), none]) rfl ?_
    refine g_1 (a := 0) (b := 0) (nx := 14) (by decide +kernel) ?_
    refine g_8 (a := 2) (b := 0) (nx := 15) (by decide +kernel) rfl (ls' := [some (vR x0), some (vI 1), some (vI 0)]) rfl ?_
    exact h
theorem t_16_15 {x0 x1 x2 : Int} {M : Mem} {Q : AV → Mem → Prop} (h0 : gO 1 x0) (h : inR x2 ∧ (inR ((M x0 9) - 1) ∧ (if ((M x0 9) - 1) ≤ x2 then (Q (vI x1) M) else (WI 15 [vR x0, vI x2] M (fun y4 M3 => WR 16 15 [some (vR x0), some (vI (x1 * (y4 + 1))), some (vI (x2 + 1))] [] M3 Q))))) : WR 16 15 [some (vR x0), some (vI x1), some (vI x2)] [] M Q := by
  refine g_5 (a := 2) (b := 0) (nx := 16) (by decide +kernel) rfl ?_
  refine g_7 (a := 0) (b := 0) (nx := 17) (by decide +kernel) rfl ?_
  refine g_50 (a := 1) (b := 9) (nx := 20) (by decide +kernel) h0 ?_
  refine g_1 (a := 1) (b := 0) (nx := 21) (by decide +kernel) ?_
  refine g_16 (a := 0) (b := 0) (nx := 22) (by decide +kernel) ?_
  obtain ⟨r1, h⟩ := h
  obtain ⟨r2, h⟩ := h
  by_cases c5 : ((M x0 9) - 1) ≤ x2
  · rw [if_pos c5] at h
    refine g_41t (a := 3) (b := 41) (nx := 25) (by decide +kernel) (by rw [wr_id r1, wr_id r2]; exact (cb_3 _ _).mpr c5) ?_
    refine g_5 (a := 1) (b := 0) (nx := 42) (by decide +kernel) rfl ?_
    exact g_91 (b := 0) (nx := 43) (by decide +kernel) h
  · rw [if_neg c5] at h
    refine g_41f (a := 3) (b := 41) (nx := 25) (by decide +kernel) (by rw [wr_id r1, wr_id r2]; exact fun hz => c5 ((cb_3 _ _).mp hz)) ?_
    refine g_5 (a := 1) (b := 0) (nx := 26) (by decide +kernel) rfl ?_
    refine g_7 (a := 0) (b := 0) (nx := 27) (by decide +kernel) rfl ?_
    refine g_5 (a := 2) (b := 0) (nx := 28) (by decide +kernel) rfl ?_
    refine g_80 (a := 15) (b := 1) (nx := 31) (by decide +kernel) (r := x0) (As := [vI x2]) (st' := [vI x1]) (z := 15) rfl rfl rfl (Nat.le_of_ble_eq_true rfl) h0.2 (Nat.le_of_ble_eq_true rfl) rfl (c_I (by decide +kernel) h (fun y4 M3 h => ?_))
    refine g_1 (a := 1) (b := 0) (nx := 32) (by decide +kernel) ?_
    refine g_15 (a := 0) (b := 0) (nx := 33) (by decide +kernel) ?_
    refine g_17 (a := 0) (b := 0) (nx := 34) (by decide +kernel) ?_
    refine g_8 (a := 1) (b := 0) (nx := 35) (by decide +kernel) rfl (ls' := [some (vR x0), some (vI (x1 * (y4 + 1))), some (vI x2)]) rfl ?_
    refine g_11 (a := 2) (b := 1) (nx := 38) (by decide +kernel) rfl rfl (ls' := [some (vR x0), some (vI (x1 * (y4 + 1))), some (vI (x2 + 1))]) rfl ?_
    refine g_44 (a := 0) (b := 15) (nx := 41) (by decide +kernel) ?_
    exact h
-- 17 SyllableMaker$Cut.cutPlain()V
theorem t_17 {x0 : Int} {M : Mem} {Q : AV → Mem → Prop} (h0 : gO 1 x0) (h : WR 17 2 [some (vR x0), some (vI 0), none, none] [] M Q) : WC 17 [vR x0] M Q := by
  show WR 17 0 [some (vR x0), none, none, none] [] M Q
  refine g_1 (a := 0) (b := 0) (nx := 1) (by decide +kernel) ?_
  refine g_8 (a := 1) (b := 0) (nx := 2) (by decide +kernel) rfl (ls' := [some (vR x0), some (vI 0), none, none]) rfl ?_
  exact h
theorem t_17_2 {x0 x1 : Int} {l2 l3 : Option AV} {M : Mem} {Q : AV → Mem → Prop} (h0 : gO 1 x0) (h : inR x1 ∧ (inR ((M x0 9) - 1) ∧ (if ((M x0 9) - 1) ≤ x1 then (Q (vI 0) M) else (WI 15 [vR x0, vI x1] M (fun y4 M3 => (inR y4 ∧ inR 4) ∧ WR 17 24 [some (vR x0), some (vI x1), some (vI y4), some (vI (min y4 4))] [] M3 Q))))) : WR 17 2 [some (vR x0), some (vI x1), l2, l3] [] M Q := by
  refine g_5 (a := 1) (b := 0) (nx := 3) (by decide +kernel) rfl ?_
  refine g_7 (a := 0) (b := 0) (nx := 4) (by decide +kernel) rfl ?_
  refine g_50 (a := 1) (b := 9) (nx := 7) (by decide +kernel) h0 ?_
  refine g_1 (a := 1) (b := 0) (nx := 8) (by decide +kernel) ?_
  refine g_16 (a := 0) (b := 0) (nx := 9) (by decide +kernel) ?_
  obtain ⟨r1, h⟩ := h
  obtain ⟨r2, h⟩ := h
  by_cases c5 : ((M x0 9) - 1) ≤ x1
  · rw [if_pos c5] at h
    refine g_41t (a := 3) (b := 77) (nx := 12) (by decide +kernel) (by rw [wr_id r1, wr_id r2]; exact (cb_3 _ _).mpr c5) ?_
    exact g_90 (a := 0) (b := 0) (nx := 78) (by decide +kernel) h
  · rw [if_neg c5] at h
    refine g_41f (a := 3) (b := 77) (nx := 12) (by decide +kernel) (by rw [wr_id r1, wr_id r2]; exact fun hz => c5 ((cb_3 _ _).mp hz)) ?_
    refine g_7 (a := 0) (b := 0) (nx := 13) (by decide +kernel) rfl ?_
    refine g_5 (a := 1) (b := 0) (nx := 14) (by decide +kernel) rfl ?_
    refine g_80 (a := 15) (b := 1) (nx := 17) (by decide +kernel) (r := x0) (As := [vI x1]) (st' := []) (z := 15) rfl rfl rfl (Nat.le_of_ble_eq_true rfl) h0.2 (Nat.le_of_ble_eq_true rfl) rfl (c_I (by decide +kernel) h (fun y4 M3 h => ?_))
    refine g_8 (a := 2) (b := 0) (nx := 18) (by decide +kernel) rfl (ls' := [some (vR x0), some (vI x1), some (vI y4), l3]) rfl ?_
    refine g_5 (a := 2) (b := 0) (nx := 19) (by decide +kernel) rfl ?_
    refine g_1 (a := 4) (b := 0) (nx := 20) (by decide +kernel) ?_
    refine g_84 (a := 0) (b := 0) (nx := 23) (by decide +kernel) h.1.1 h.1.2 (Nat.le_of_ble_eq_true rfl) ?_
    replace h := h.2
    refine g_8 (a := 3) (b := 0) (nx := 24) (by decide +kernel) rfl (ls' := [some (vR x0), some (vI x1), some (vI y4), some (vI (min y4 4))]) rfl ?_
    exact h
theorem t_17_24 {x0 x1 x2 x3 : Int} {M : Mem} {Q : AV → Mem → Prop} (h0 : gO 1 x0) (h : inR x3 ∧ (if x3 ≤ 0 then ((gA 20 (M x0 2) x1) ∧ WR 17 2 [some (vR x0), some (vI (x1 + 1)), some (vI x2), some (vI x3)] [] (upM M (M x0 2) x1 (x2 - x3)) Q) else ((gA 20 (M x0 0) (x1 + 1)) ∧ ((shA SH (M x0 5)).1 = 5) ∧ WL 83 [vR (M x0 5), vI ((M (M x0 0) (x1 + 1)) - x3), vI x3] M (fun y3 M2 => ((shA SH (M x0 4)).1 = 2) ∧ WI 48 [vR (M x0 4), vL y3] M2 (fun y5 M4 => inR y5 ∧ (if y5 = 0 then (WR 17 24 [some (vR x0), some (vI x1), some (vI x2), some (vI (x3 + (-1)))] [] M4 Q) else ((gA 20 (M4 x0 2) x1) ∧ WR 17 2 [some (vR x0), some (vI (x1 + 1)), some (vI x2), some (vI x3)] [] (upM M4 (M4 x0 2) x1 (x2 - x3)) Q))))))) : WR 17 24 [some (vR x0), some (vI x1), some (vI x2), some (vI x3)] [] M Q := by
  refine g_5 (a := 3) (b := 0) (nx := 25) (by decide +kernel) rfl ?_
  obtain ⟨r1, h⟩ := h
  by_cases c8 : x3 ≤ 0
  · rw [if_pos c8] at h
    refine g_40t (a := 5) (b := 62) (nx := 28) (by decide +kernel) r1 (by exact (cb_5 _ _).mpr c8) ?_
    refine g_7 (a := 0) (b := 0) (nx := 63) (by decide +kernel) rfl ?_
    refine g_52 (a := 1) (b := 2) (nx := 66) (by decide +kernel) h0 ?_
    refine g_5 (a := 1) (b := 0) (nx := 67) (by decide +kernel) rfl ?_
    refine g_5 (a := 2) (b := 0) (nx := 68) (by decide +kernel) rfl ?_
    refine g_5 (a := 3) (b := 0) (nx := 69) (by decide +kernel) rfl ?_
    refine g_16 (a := 0) (b := 0) (nx := 70) (by decide +kernel) ?_
    refine g_62 (a := 0) (b := 0) (nx := 71) (by decide +kernel) h.1 ?_
    replace h := h.2
    refine g_11 (a := 1) (b := 1) (nx := 74) (by decide +kernel) rfl rfl (ls' := [some (vR x0), some (vI (x1 + 1)), some (vI x2), some (vI x3)]) rfl ?_
    refine g_44 (a := 0) (b := 2) (nx := 77) (by decide +kernel) ?_
    exact h
  · rw [if_neg c8] at h
    refine g_40f (a := 5) (b := 62) (nx := 28) (by decide +kernel) r1 (by exact fun hz => c8 ((cb_5 _ _).mp hz)) ?_
    refine g_7 (a := 0) (b := 0) (nx := 29) (by decide +kernel) rfl ?_
    refine g_52 (a := 1) (b := 4) (nx := 32) (by decide +kernel) h0 ?_
    refine g_7 (a := 0) (b := 0) (nx := 33) (by decide +kernel) rfl ?_
    refine g_52 (a := 1) (b := 5) (nx := 36) (by decide +kernel) h0 ?_
    refine g_7 (a := 0) (b := 0) (nx := 37) (by decide +kernel) rfl ?_
    refine g_52 (a := 1) (b := 0) (nx := 40) (by decide +kernel) h0 ?_
    refine g_5 (a := 1) (b := 0) (nx := 41) (by decide +kernel) rfl ?_
    refine g_1 (a := 1) (b := 0) (nx := 42) (by decide +kernel) ?_
    refine g_15 (a := 0) (b := 0) (nx := 43) (by decide +kernel) ?_
    refine g_61 (a := 0) (b := 0) (nx := 44) (by decide +kernel) h.1 ?_
    replace h := h.2
    refine g_5 (a := 3) (b := 0) (nx := 45) (by decide +kernel) rfl ?_
    refine g_16 (a := 0) (b := 0) (nx := 46) (by decide +kernel) ?_
    refine g_5 (a := 3) (b := 0) (nx := 47) (by decide +kernel) rfl ?_
    refine g_80 (a := 83) (b := 2) (nx := 50) (by decide +kernel) (r := (M x0 5)) (As := [vI ((M (M x0 0) (x1 + 1)) - x3), vI x3]) (st' := [vR (M x0 4)]) (z := 83) rfl rfl rfl (Nat.le_of_ble_eq_true rfl) h.1 (Nat.le_of_ble_eq_true rfl) rfl (c_L (by decide +kernel) h.2 (fun y3 M2 h => ?_))
    refine g_80 (a := 48) (b := 1) (nx := 53) (by decide +kernel) (r := (M x0 4)) (As := [vL y3]) (st' := []) (z := 48) rfl rfl rfl (Nat.le_of_ble_eq_true rfl) h.1 (Nat.le_of_ble_eq_true rfl) rfl (c_I (by decide +kernel) h.2 (fun y5 M4 h => ?_))
    obtain ⟨r6, h⟩ := h
    by_cases c7 : y5 = 0
    · rw [if_pos c7] at h
      refine g_40f (a := 1) (b := 62) (nx := 56) (by decide +kernel) r6 (by exact fun hz => ((cb_1 _ _).mp hz) c7) ?_
      refine g_11 (a := 3) (b := (-1)) (nx := 59) (by decide +kernel) rfl rfl (ls' := [some (vR x0), some (vI x1), some (vI x2), some (vI (x3 + (-1)))]) rfl ?_
      refine g_44 (a := 0) (b := 24) (nx := 62) (by decide +kernel) ?_
      exact h
    · rw [if_neg c7] at h
      refine g_40t (a := 1) (b := 62) (nx := 56) (by decide +kernel) r6 (by exact (cb_1 _ _).mpr c7) ?_
      refine g_7 (a := 0) (b := 0) (nx := 63) (by decide +kernel) rfl ?_
      refine g_52 (a := 1) (b := 2) (nx := 66) (by decide +kernel) h0 ?_
      refine g_5 (a := 1) (b := 0) (nx := 67) (by decide +kernel) rfl ?_
      refine g_5 (a := 2) (b := 0) (nx := 68) (by decide +kernel) rfl ?_
      refine g_5 (a := 3) (b := 0) (nx := 69) (by decide +kernel) rfl ?_
      refine g_16 (a := 0) (b := 0) (nx := 70) (by decide +kernel) ?_
      refine g_62 (a := 0) (b := 0) (nx := 71) (by decide +kernel) h.1 ?_
      replace h := h.2
      refine g_11 (a := 1) (b := 1) (nx := 74) (by decide +kernel) rfl rfl (ls' := [some (vR x0), some (vI (x1 + 1)), some (vI x2), some (vI x3)]) rfl ?_
      refine g_44 (a := 0) (b := 2) (nx := 77) (by decide +kernel) ?_
      exact h
-- 18 SyllableMaker$Cut.cutCheapest()I
theorem t_18 {x0 : Int} {M : Mem} {Q : AV → Mem → Prop} (h0 : gO 1 x0) (h : WV 12 [vR x0] M (fun M1 => (gCp (M1 x0 2) (M1 x0 3) 0 0 12) ∧ WI 36 [vR x0] (cpM M1 (M1 x0 2) (M1 x0 3) 0 0 12) (fun y4 M3 => WR 18 26 [some (vR x0), some (vI y4), some (vI 0), none] [] M3 Q))) : WC 18 [vR x0] M Q := by
  show WR 18 0 [some (vR x0), none, none, none] [] M Q
  refine g_7 (a := 0) (b := 0) (nx := 1) (by decide +kernel) rfl ?_
  refine g_80 (a := 12) (b := 0) (nx := 4) (by decide +kernel) (r := x0) (As := []) (st' := []) (z := 12) rfl rfl rfl (Nat.le_of_ble_eq_true rfl) h0.2 (Nat.le_of_ble_eq_true rfl) rfl (c_V (by decide +kernel) h (fun M1 h => ?_))
  refine g_7 (a := 0) (b := 0) (nx := 5) (by decide +kernel) rfl ?_
  refine g_52 (a := 1) (b := 2) (nx := 8) (by decide +kernel) h0 ?_
  refine g_1 (a := 0) (b := 0) (nx := 9) (by decide +kernel) ?_
  refine g_7 (a := 0) (b := 0) (nx := 10) (by decide +kernel) rfl ?_
  refine g_52 (a := 1) (b := 3) (nx := 13) (by decide +kernel) h0 ?_
  refine g_1 (a := 0) (b := 0) (nx := 14) (by decide +kernel) ?_
  refine g_1 (a := 12) (b := 0) (nx := 16) (by decide +kernel) ?_
  refine g_87 (a := 0) (b := 0) (nx := 19) (by decide +kernel) h.1 (Nat.le_of_ble_eq_true rfl) ?_
  replace h := h.2
  refine g_7 (a := 0) (b := 0) (nx := 20) (by decide +kernel) rfl ?_
  refine g_80 (a := 36) (b := 0) (nx := 23) (by decide +kernel) (r := x0) (As := []) (st' := []) (z := 36) rfl rfl rfl (Nat.le_of_ble_eq_true rfl) h0.2 (Nat.le_of_ble_eq_true rfl) rfl (c_I (by decide +kernel) h (fun y4 M3 h => ?_))
  refine g_8 (a := 1) (b := 0) (nx := 24) (by decide +kernel) rfl (ls' := [some (vR x0), some (vI y4), none, none]) rfl ?_
  refine g_1 (a := 0) (b := 0) (nx := 25) (by decide +kernel) ?_
  refine g_8 (a := 2) (b := 0) (nx := 26) (by decide +kernel) rfl (ls' := [some (vR x0), some (vI y4), some (vI 0), none]) rfl ?_
  exact h
theorem t_18_26 {x0 x1 x2 : Int} {l3 : Option AV} {M : Mem} {Q : AV → Mem → Prop} (h0 : gO 1 x0) (h : inR x2 ∧ (if 100000 ≤ x2 then ((gCp (M x0 3) (M x0 2) 0 0 12) ∧ Q (vI x1) (cpM M (M x0 3) (M x0 2) 0 0 12)) else (WI 19 [vR x0] M (fun y3 M2 => inR y3 ∧ (if y3 = 0 then ((gCp (M2 x0 3) (M2 x0 2) 0 0 12) ∧ Q (vI x1) (cpM M2 (M2 x0 3) (M2 x0 2) 0 0 12)) else (WI 36 [vR x0] M2 (fun y6 M5 => inR y6 ∧ (inR x1 ∧ (if x1 ≤ y6 then (WR 18 26 [some (vR x0), some (vI x1), some (vI (x2 + 1)), some (vI y6)] [] M5 Q) else ((gCp (M5 x0 2) (M5 x0 3) 0 0 12) ∧ WR 18 26 [some (vR x0), some (vI y6), some (vI (x2 + 1)), some (vI y6)] [] (cpM M5 (M5 x0 2) (M5 x0 3) 0 0 12) Q)))))))))) : WR 18 26 [some (vR x0), some (vI x1), some (vI x2), l3] [] M Q := by
  refine g_5 (a := 2) (b := 0) (nx := 27) (by decide +kernel) rfl ?_
  refine g_1 (a := 100000) (b := 0) (nx := 29) (by decide +kernel) ?_
  obtain ⟨r1, h⟩ := h
  by_cases c11 : 100000 ≤ x2
  · rw [if_pos c11] at h
    refine g_41t (a := 3) (b := 72) (nx := 32) (by decide +kernel) (by rw [wr_id r1, wr_id (show inR 100000 by decide)]; exact (cb_3 _ _).mpr c11) ?_
    refine g_7 (a := 0) (b := 0) (nx := 73) (by decide +kernel) rfl ?_
    refine g_52 (a := 1) (b := 3) (nx := 76) (by decide +kernel) h0 ?_
    refine g_1 (a := 0) (b := 0) (nx := 77) (by decide +kernel) ?_
    refine g_7 (a := 0) (b := 0) (nx := 78) (by decide +kernel) rfl ?_
    refine g_52 (a := 1) (b := 2) (nx := 81) (by decide +kernel) h0 ?_
    refine g_1 (a := 0) (b := 0) (nx := 82) (by decide +kernel) ?_
    refine g_1 (a := 12) (b := 0) (nx := 84) (by decide +kernel) ?_
    refine g_87 (a := 0) (b := 0) (nx := 87) (by decide +kernel) h.1 (Nat.le_of_ble_eq_true rfl) ?_
    replace h := h.2
    refine g_5 (a := 1) (b := 0) (nx := 88) (by decide +kernel) rfl ?_
    exact g_91 (b := 0) (nx := 89) (by decide +kernel) h
  · rw [if_neg c11] at h
    refine g_41f (a := 3) (b := 72) (nx := 32) (by decide +kernel) (by rw [wr_id r1, wr_id (show inR 100000 by decide)]; exact fun hz => c11 ((cb_3 _ _).mp hz)) ?_
    refine g_7 (a := 0) (b := 0) (nx := 33) (by decide +kernel) rfl ?_
    refine g_80 (a := 19) (b := 0) (nx := 36) (by decide +kernel) (r := x0) (As := []) (st' := []) (z := 19) rfl rfl rfl (Nat.le_of_ble_eq_true rfl) h0.2 (Nat.le_of_ble_eq_true rfl) rfl (c_I (by decide +kernel) h (fun y3 M2 h => ?_))
    obtain ⟨r4, h⟩ := h
    by_cases c10 : y3 = 0
    · rw [if_pos c10] at h
      refine g_40t (a := 0) (b := 72) (nx := 39) (by decide +kernel) r4 (by exact (cb_0 _ _).mpr c10) ?_
      refine g_7 (a := 0) (b := 0) (nx := 73) (by decide +kernel) rfl ?_
      refine g_52 (a := 1) (b := 3) (nx := 76) (by decide +kernel) h0 ?_
      refine g_1 (a := 0) (b := 0) (nx := 77) (by decide +kernel) ?_
      refine g_7 (a := 0) (b := 0) (nx := 78) (by decide +kernel) rfl ?_
      refine g_52 (a := 1) (b := 2) (nx := 81) (by decide +kernel) h0 ?_
      refine g_1 (a := 0) (b := 0) (nx := 82) (by decide +kernel) ?_
      refine g_1 (a := 12) (b := 0) (nx := 84) (by decide +kernel) ?_
      refine g_87 (a := 0) (b := 0) (nx := 87) (by decide +kernel) h.1 (Nat.le_of_ble_eq_true rfl) ?_
      replace h := h.2
      refine g_5 (a := 1) (b := 0) (nx := 88) (by decide +kernel) rfl ?_
      exact g_91 (b := 0) (nx := 89) (by decide +kernel) h
    · rw [if_neg c10] at h
      refine g_40f (a := 0) (b := 72) (nx := 39) (by decide +kernel) r4 (by exact fun hz => c10 ((cb_0 _ _).mp hz)) ?_
      refine g_7 (a := 0) (b := 0) (nx := 40) (by decide +kernel) rfl ?_
      refine g_80 (a := 36) (b := 0) (nx := 43) (by decide +kernel) (r := x0) (As := []) (st' := []) (z := 36) rfl rfl rfl (Nat.le_of_ble_eq_true rfl) h0.2 (Nat.le_of_ble_eq_true rfl) rfl (c_I (by decide +kernel) h (fun y6 M5 h => ?_))
      refine g_8 (a := 3) (b := 0) (nx := 44) (by decide +kernel) rfl (ls' := [some (vR x0), some (vI x1), some (vI x2), some (vI y6)]) rfl ?_
      refine g_5 (a := 3) (b := 0) (nx := 45) (by decide +kernel) rfl ?_
      refine g_5 (a := 1) (b := 0) (nx := 46) (by decide +kernel) rfl ?_
      obtain ⟨r7, h⟩ := h
      obtain ⟨r8, h⟩ := h
      by_cases c9 : x1 ≤ y6
      · rw [if_pos c9] at h
        refine g_41t (a := 3) (b := 66) (nx := 49) (by decide +kernel) (by rw [wr_id r7, wr_id r8]; exact (cb_3 _ _).mpr c9) ?_
        refine g_11 (a := 2) (b := 1) (nx := 69) (by decide +kernel) rfl rfl (ls' := [some (vR x0), some (vI x1), some (vI (x2 + 1)), some (vI y6)]) rfl ?_
        refine g_44 (a := 0) (b := 26) (nx := 72) (by decide +kernel) ?_
        exact h
      · rw [if_neg c9] at h
        refine g_41f (a := 3) (b := 66) (nx := 49) (by decide +kernel) (by rw [wr_id r7, wr_id r8]; exact fun hz => c9 ((cb_3 _ _).mp hz)) ?_
        refine g_5 (a := 3) (b := 0) (nx := 50) (by decide +kernel) rfl ?_
        refine g_8 (a := 1) (b := 0) (nx := 51) (by decide +kernel) rfl (ls' := [some (vR x0), some (vI y6), some (vI x2), some (vI y6)]) rfl ?_
        refine g_7 (a := 0) (b := 0) (nx := 52) (by decide +kernel) rfl ?_
        refine g_52 (a := 1) (b := 2) (nx := 55) (by decide +kernel) h0 ?_
        refine g_1 (a := 0) (b := 0) (nx := 56) (by decide +kernel) ?_
        refine g_7 (a := 0) (b := 0) (nx := 57) (by decide +kernel) rfl ?_
        refine g_52 (a := 1) (b := 3) (nx := 60) (by decide +kernel) h0 ?_
        refine g_1 (a := 0) (b := 0) (nx := 61) (by decide +kernel) ?_
        refine g_1 (a := 12) (b := 0) (nx := 63) (by decide +kernel) ?_
        refine g_87 (a := 0) (b := 0) (nx := 66) (by decide +kernel) h.1 (Nat.le_of_ble_eq_true rfl) ?_
        replace h := h.2
        refine g_11 (a := 2) (b := 1) (nx := 69) (by decide +kernel) rfl rfl (ls' := [some (vR x0), some (vI y6), some (vI (x2 + 1)), some (vI y6)]) rfl ?_
        refine g_44 (a := 0) (b := 26) (nx := 72) (by decide +kernel) ?_
        exact h
-- 19 SyllableMaker$Cut.cutNext()Z
theorem t_19 {x0 : Int} {M : Mem} {Q : AV → Mem → Prop} (h0 : gO 1 x0) (h : WR 19 7 [some (vR x0), some (vI ((M x0 9) - 2))] [] M Q) : WC 19 [vR x0] M Q := by
  show WR 19 0 [some (vR x0), none] [] M Q
  refine g_7 (a := 0) (b := 0) (nx := 1) (by decide +kernel) rfl ?_
  refine g_50 (a := 1) (b := 9) (nx := 4) (by decide +kernel) h0 ?_
  refine g_1 (a := 2) (b := 0) (nx := 5) (by decide +kernel) ?_
  refine g_16 (a := 0) (b := 0) (nx := 6) (by decide +kernel) ?_
  refine g_8 (a := 1) (b := 0) (nx := 7) (by decide +kernel) rfl (ls' := [some (vR x0), some (vI ((M x0 9) - 2))]) rfl ?_
  exact h
theorem t_19_7 {x0 x1 : Int} {M : Mem} {Q : AV → Mem → Prop} (h0 : gO 1 x0) (h : inR x1 ∧ (if x1 < 0 then (Q (vI 0) M) else ((gA 20 (M x0 2) x1) ∧ WI 15 [vR x0, vI x1] M (fun y3 M2 => inR (M (M x0 2) x1) ∧ (inR y3 ∧ (if y3 ≤ (M (M x0 2) x1) then ((gA 20 (M2 x0 2) x1) ∧ WR 19 7 [some (vR x0), some (vI (x1 + (-1)))] [] (upM M2 (M2 x0 2) x1 0) Q) else ((gA 20 (M2 x0 2) x1) ∧ (gA 20 (M2 x0 2) x1) ∧ Q (vI 1) (upM M2 (M2 x0 2) x1 ((M2 (M2 x0 2) x1) + 1))))))))) : WR 19 7 [some (vR x0), some (vI x1)] [] M Q := by
  refine g_5 (a := 1) (b := 0) (nx := 8) (by decide +kernel) rfl ?_
  obtain ⟨r1, h⟩ := h
  by_cases c7 : x1 < 0
  · rw [if_pos c7] at h
    refine g_40t (a := 2) (b := 50) (nx := 11) (by decide +kernel) r1 (by exact (cb_2 _ _).mpr c7) ?_
    refine g_1 (a := 0) (b := 0) (nx := 51) (by decide +kernel) ?_
    exact g_91z (b := 0) (nx := 52) (by decide +kernel) (by decide) h
  · rw [if_neg c7] at h
    refine g_40f (a := 2) (b := 50) (nx := 11) (by decide +kernel) r1 (by exact fun hz => c7 ((cb_2 _ _).mp hz)) ?_
    refine g_7 (a := 0) (b := 0) (nx := 12) (by decide +kernel) rfl ?_
    refine g_52 (a := 1) (b := 2) (nx := 15) (by decide +kernel) h0 ?_
    refine g_5 (a := 1) (b := 0) (nx := 16) (by decide +kernel) rfl ?_
    refine g_61 (a := 0) (b := 0) (nx := 17) (by decide +kernel) h.1 ?_
    replace h := h.2
    refine g_7 (a := 0) (b := 0) (nx := 18) (by decide +kernel) rfl ?_
    refine g_5 (a := 1) (b := 0) (nx := 19) (by decide +kernel) rfl ?_
    refine g_80 (a := 15) (b := 1) (nx := 22) (by decide +kernel) (r := x0) (As := [vI x1]) (st' := [vI (M (M x0 2) x1)]) (z := 15) rfl rfl rfl (Nat.le_of_ble_eq_true rfl) h0.2 (Nat.le_of_ble_eq_true rfl) rfl (c_I (by decide +kernel) h (fun y3 M2 h => ?_))
    obtain ⟨r4, h⟩ := h
    obtain ⟨r5, h⟩ := h
    by_cases c6 : y3 ≤ (M (M x0 2) x1)
    · rw [if_pos c6] at h
      refine g_41t (a := 3) (b := 37) (nx := 25) (by decide +kernel) (by rw [wr_id r4, wr_id r5]; exact (cb_3 _ _).mpr c6) ?_
      refine g_7 (a := 0) (b := 0) (nx := 38) (by decide +kernel) rfl ?_
      refine g_52 (a := 1) (b := 2) (nx := 41) (by decide +kernel) h0 ?_
      refine g_5 (a := 1) (b := 0) (nx := 42) (by decide +kernel) rfl ?_
      refine g_1 (a := 0) (b := 0) (nx := 43) (by decide +kernel) ?_
      refine g_62 (a := 0) (b := 0) (nx := 44) (by decide +kernel) h.1 ?_
      replace h := h.2
      refine g_11 (a := 1) (b := (-1)) (nx := 47) (by decide +kernel) rfl rfl (ls' := [some (vR x0), some (vI (x1 + (-1)))]) rfl ?_
      refine g_44 (a := 0) (b := 7) (nx := 50) (by decide +kernel) ?_
      exact h
    · rw [if_neg c6] at h
      refine g_41f (a := 3) (b := 37) (nx := 25) (by decide +kernel) (by rw [wr_id r4, wr_id r5]; exact fun hz => c6 ((cb_3 _ _).mp hz)) ?_
      refine g_7 (a := 0) (b := 0) (nx := 26) (by decide +kernel) rfl ?_
      refine g_52 (a := 1) (b := 2) (nx := 29) (by decide +kernel) h0 ?_
      refine g_5 (a := 1) (b := 0) (nx := 30) (by decide +kernel) rfl ?_
      refine g_14 (a := 0) (b := 0) (nx := 31) (by decide +kernel) rfl rfl ?_
      refine g_61 (a := 0) (b := 0) (nx := 32) (by decide +kernel) h.1 ?_
      replace h := h.2
      refine g_1 (a := 1) (b := 0) (nx := 33) (by decide +kernel) ?_
      refine g_15 (a := 0) (b := 0) (nx := 34) (by decide +kernel) ?_
      refine g_62 (a := 0) (b := 0) (nx := 35) (by decide +kernel) h.1 ?_
      replace h := h.2
      refine g_1 (a := 1) (b := 0) (nx := 36) (by decide +kernel) ?_
      exact g_91z (b := 0) (nx := 37) (by decide +kernel) (by decide) h
-- 20 SyllableMaker$Cut.countUpTo(I)I
theorem t_20 {x0 x1 : Int} {M : Mem} {Q : AV → Mem → Prop} (h0 : gO 1 x0) (h : inR (M x0 9) ∧ (if (M x0 9) = 0 then (Q (vI 0) M) else (WV 12 [vR x0] M (fun M2 => WI 36 [vR x0] M2 (fun y5 M4 => inR y5 ∧ (inR x1 ∧ (if x1 < y5 then (WR 20 29 [some (vR x0), some (vI x1), some (vI 0), some (vI 0)] [] M4 Q) else (WR 20 29 [some (vR x0), some (vI x1), some (vI 1), some (vI 0)] [] M4 Q)))))))) : WC 20 [vR x0, vI x1] M Q := by
  show WR 20 0 [some (vR x0), some (vI x1), none, none] [] M Q
  refine g_7 (a := 0) (b := 0) (nx := 1) (by decide +kernel) rfl ?_
  refine g_50 (a := 1) (b := 9) (nx := 4) (by decide +kernel) h0 ?_
  obtain ⟨r1, h⟩ := h
  by_cases c9 : (M x0 9) = 0
  · rw [if_pos c9] at h
    refine g_40f (a := 1) (b := 9) (nx := 7) (by decide +kernel) r1 (by exact fun hz => ((cb_1 _ _).mp hz) c9) ?_
    refine g_1 (a := 0) (b := 0) (nx := 8) (by decide +kernel) ?_
    exact g_91 (b := 0) (nx := 9) (by decide +kernel) h
  · rw [if_neg c9] at h
    refine g_40t (a := 1) (b := 9) (nx := 7) (by decide +kernel) r1 (by exact (cb_1 _ _).mpr c9) ?_
    refine g_7 (a := 0) (b := 0) (nx := 10) (by decide +kernel) rfl ?_
    refine g_80 (a := 12) (b := 0) (nx := 13) (by decide +kernel) (r := x0) (As := []) (st' := []) (z := 12) rfl rfl rfl (Nat.le_of_ble_eq_true rfl) h0.2 (Nat.le_of_ble_eq_true rfl) rfl (c_V (by decide +kernel) h (fun M2 h => ?_))
    refine g_7 (a := 0) (b := 0) (nx := 14) (by decide +kernel) rfl ?_
    refine g_80 (a := 36) (b := 0) (nx := 17) (by decide +kernel) (r := x0) (As := []) (st' := []) (z := 36) rfl rfl rfl (Nat.le_of_ble_eq_true rfl) h0.2 (Nat.le_of_ble_eq_true rfl) rfl (c_I (by decide +kernel) h (fun y5 M4 h => ?_))
    refine g_5 (a := 1) (b := 0) (nx := 18) (by decide +kernel) rfl ?_
    obtain ⟨r6, h⟩ := h
    obtain ⟨r7, h⟩ := h
    by_cases c8 : x1 < y5
    · rw [if_pos c8] at h
      refine g_41t (a := 4) (b := 25) (nx := 21) (by decide +kernel) (by rw [wr_id r6, wr_id r7]; exact (cb_4 _ _).mpr c8) ?_
      refine g_1 (a := 0) (b := 0) (nx := 26) (by decide +kernel) ?_
      refine g_8 (a := 2) (b := 0) (nx := 27) (by decide +kernel) rfl (ls' := [some (vR x0), some (vI x1), some (vI 0), none]) rfl ?_
      refine g_1 (a := 0) (b := 0) (nx := 28) (by decide +kernel) ?_
      refine g_8 (a := 3) (b := 0) (nx := 29) (by decide +kernel) rfl (ls' := [some (vR x0), some (vI x1), some (vI 0), some (vI 0)]) rfl ?_
      exact h
    · rw [if_neg c8] at h
      refine g_41f (a := 4) (b := 25) (nx := 21) (by decide +kernel) (by rw [wr_id r6, wr_id r7]; exact fun hz => c8 ((cb_4 _ _).mp hz)) ?_
      refine g_1 (a := 1) (b := 0) (nx := 22) (by decide +kernel) ?_
      refine g_44 (a := 0) (b := 26) (nx := 25) (by decide +kernel) ?_
      refine g_8 (a := 2) (b := 0) (nx := 27) (by decide +kernel) rfl (ls' := [some (vR x0), some (vI x1), some (vI 1), none]) rfl ?_
      refine g_1 (a := 0) (b := 0) (nx := 28) (by decide +kernel) ?_
      refine g_8 (a := 3) (b := 0) (nx := 29) (by decide +kernel) rfl (ls' := [some (vR x0), some (vI x1), some (vI 1), some (vI 0)]) rfl ?_
      exact h
theorem t_20_29 {x0 x1 x2 x3 : Int} {M : Mem} {Q : AV → Mem → Prop} (h0 : gO 1 x0) (h : inR x3 ∧ (if 100000 ≤ x3 then (Q (vI x2) M) else (WI 19 [vR x0] M (fun y3 M2 => inR y3 ∧ (if y3 = 0 then (Q (vI x2) M2) else (WI 36 [vR x0] M2 (fun y6 M5 => inR y6 ∧ (inR x1 ∧ (if x1 < y6 then (WR 20 29 [some (vR x0), some (vI x1), some (vI (x2 + 0)), some (vI (x3 + 1))] [] M5 Q) else (WR 20 29 [some (vR x0), some (vI x1), some (vI (x2 + 1)), some (vI (x3 + 1))] [] M5 Q)))))))))) : WR 20 29 [some (vR x0), some (vI x1), some (vI x2), some (vI x3)] [] M Q := by
  refine g_5 (a := 3) (b := 0) (nx := 30) (by decide +kernel) rfl ?_
  refine g_1 (a := 100000) (b := 0) (nx := 32) (by decide +kernel) ?_
  obtain ⟨r1, h⟩ := h
  by_cases c11 : 100000 ≤ x3
  · rw [if_pos c11] at h
    refine g_41t (a := 3) (b := 64) (nx := 35) (by decide +kernel) (by rw [wr_id r1, wr_id (show inR 100000 by decide)]; exact (cb_3 _ _).mpr c11) ?_
    refine g_5 (a := 2) (b := 0) (nx := 65) (by decide +kernel) rfl ?_
    exact g_91 (b := 0) (nx := 66) (by decide +kernel) h
  · rw [if_neg c11] at h
    refine g_41f (a := 3) (b := 64) (nx := 35) (by decide +kernel) (by rw [wr_id r1, wr_id (show inR 100000 by decide)]; exact fun hz => c11 ((cb_3 _ _).mp hz)) ?_
    refine g_7 (a := 0) (b := 0) (nx := 36) (by decide +kernel) rfl ?_
    refine g_80 (a := 19) (b := 0) (nx := 39) (by decide +kernel) (r := x0) (As := []) (st' := []) (z := 19) rfl rfl rfl (Nat.le_of_ble_eq_true rfl) h0.2 (Nat.le_of_ble_eq_true rfl) rfl (c_I (by decide +kernel) h (fun y3 M2 h => ?_))
    obtain ⟨r4, h⟩ := h
    by_cases c10 : y3 = 0
    · rw [if_pos c10] at h
      refine g_40t (a := 0) (b := 64) (nx := 42) (by decide +kernel) r4 (by exact (cb_0 _ _).mpr c10) ?_
      refine g_5 (a := 2) (b := 0) (nx := 65) (by decide +kernel) rfl ?_
      exact g_91 (b := 0) (nx := 66) (by decide +kernel) h
    · rw [if_neg c10] at h
      refine g_40f (a := 0) (b := 64) (nx := 42) (by decide +kernel) r4 (by exact fun hz => c10 ((cb_0 _ _).mp hz)) ?_
      refine g_5 (a := 2) (b := 0) (nx := 43) (by decide +kernel) rfl ?_
      refine g_7 (a := 0) (b := 0) (nx := 44) (by decide +kernel) rfl ?_
      refine g_80 (a := 36) (b := 0) (nx := 47) (by decide +kernel) (r := x0) (As := []) (st' := [vI x2]) (z := 36) rfl rfl rfl (Nat.le_of_ble_eq_true rfl) h0.2 (Nat.le_of_ble_eq_true rfl) rfl (c_I (by decide +kernel) h (fun y6 M5 h => ?_))
      refine g_5 (a := 1) (b := 0) (nx := 48) (by decide +kernel) rfl ?_
      obtain ⟨r7, h⟩ := h
      obtain ⟨r8, h⟩ := h
      by_cases c9 : x1 < y6
      · rw [if_pos c9] at h
        refine g_41t (a := 4) (b := 55) (nx := 51) (by decide +kernel) (by rw [wr_id r7, wr_id r8]; exact (cb_4 _ _).mpr c9) ?_
        refine g_1 (a := 0) (b := 0) (nx := 56) (by decide +kernel) ?_
        refine g_15 (a := 0) (b := 0) (nx := 57) (by decide +kernel) ?_
        refine g_8 (a := 2) (b := 0) (nx := 58) (by decide +kernel) rfl (ls' := [some (vR x0), some (vI x1), some (vI (x2 + 0)), some (vI x3)]) rfl ?_
        refine g_11 (a := 3) (b := 1) (nx := 61) (by decide +kernel) rfl rfl (ls' := [some (vR x0), some (vI x1), some (vI (x2 + 0)), some (vI (x3 + 1))]) rfl ?_
        refine g_44 (a := 0) (b := 29) (nx := 64) (by decide +kernel) ?_
        exact h
      · rw [if_neg c9] at h
        refine g_41f (a := 4) (b := 55) (nx := 51) (by decide +kernel) (by rw [wr_id r7, wr_id r8]; exact fun hz => c9 ((cb_4 _ _).mp hz)) ?_
        refine g_1 (a := 1) (b := 0) (nx := 52) (by decide +kernel) ?_
        refine g_44 (a := 0) (b := 56) (nx := 55) (by decide +kernel) ?_
        refine g_15 (a := 0) (b := 0) (nx := 57) (by decide +kernel) ?_
        refine g_8 (a := 2) (b := 0) (nx := 58) (by decide +kernel) rfl (ls' := [some (vR x0), some (vI x1), some (vI (x2 + 1)), some (vI x3)]) rfl ?_
        refine g_11 (a := 3) (b := 1) (nx := 61) (by decide +kernel) rfl rfl (ls' := [some (vR x0), some (vI x1), some (vI (x2 + 1)), some (vI (x3 + 1))]) rfl ?_
        refine g_44 (a := 0) (b := 29) (nx := 64) (by decide +kernel) ?_
        exact h
-- 21 SyllableMaker$Cut.cutAsTold(J)Z
theorem t_21 {x0 x1 : Int} {M : Mem} {Q : AV → Mem → Prop} (h0 : gO 1 x0) (h : inR (M x0 9) ∧ (if (M x0 9) = 0 then (Q (vI 0) M) else (WR 21 14 [some (vR x0), some (vL x1), none, some (vL x1), none, some (vI 0), none] [] M Q))) : WC 21 [vR x0, vL x1] M Q := by
  show WR 21 0 [some (vR x0), some (vL x1), none, none, none, none, none] [] M Q
  refine g_7 (a := 0) (b := 0) (nx := 1) (by decide +kernel) rfl ?_
  refine g_50 (a := 1) (b := 9) (nx := 4) (by decide +kernel) h0 ?_
  obtain ⟨r1, h⟩ := h
  by_cases c2 : (M x0 9) = 0
  · rw [if_pos c2] at h
    refine g_40f (a := 1) (b := 9) (nx := 7) (by decide +kernel) r1 (by exact fun hz => ((cb_1 _ _).mp hz) c2) ?_
    refine g_1 (a := 0) (b := 0) (nx := 8) (by decide +kernel) ?_
    exact g_91z (b := 0) (nx := 9) (by decide +kernel) (by decide) h
  · rw [if_neg c2] at h
    refine g_40t (a := 1) (b := 9) (nx := 7) (by decide +kernel) r1 (by exact (cb_1 _ _).mpr c2) ?_
    refine g_6 (a := 1) (b := 0) (nx := 10) (by decide +kernel) rfl ?_
    refine g_9 (a := 3) (b := 0) (nx := 11) (by decide +kernel) ⟨rfl, Nat.le_of_ble_eq_true rfl⟩ (ls' := [some (vR x0), some (vL x1), none, some (vL x1), none, none, none]) rfl ?_
    refine g_1 (a := 0) (b := 0) (nx := 12) (by decide +kernel) ?_
    refine g_8 (a := 5) (b := 0) (nx := 14) (by decide +kernel) rfl (ls' := [some (vR x0), some (vL x1), none, some (vL x1), none, some (vI 0), none]) rfl ?_
    exact h
theorem t_21_14 {x0 x1 x3 x5 : Int} {l6 : Option AV} {M : Mem} {Q : AV → Mem → Prop} (h0 : gO 1 x0) (h : inR x5 ∧ (inR ((M x0 9) - 1) ∧ (if ((M x0 9) - 1) ≤ x5 then ((in64 x3 ∧ in64 0) ∧ inR (if x3 < 0 then -1 else if x3 = 0 then 0 else 1) ∧ (if (if x3 < 0 then -1 else if x3 = 0 then 0 else 1) = 0 then (Q (vI 1) M) else (Q (vI 0) M))) else (WI 15 [vR x0, vI x5] M (fun y6 M5 => inR (and64 x3 15) ∧ (inR y6 ∧ (if (and64 x3 15) ≤ y6 then ((gA 20 (M5 x0 2) x5) ∧ WR 21 14 [some (vR x0), some (vL x1), none, some (vL (x3 % 18446744073709551616 / 16)), none, some (vI (x5 + 1)), some (vI (and64 x3 15))] [] (upM M5 (M5 x0 2) x5 (and64 x3 15)) Q) else (Q (vI 0) M5)))))))) : WR 21 14 [some (vR x0), some (vL x1), none, some (vL x3), none, some (vI x5), l6] [] M Q := by
  refine g_5 (a := 5) (b := 0) (nx := 16) (by decide +kernel) rfl ?_
  refine g_7 (a := 0) (b := 0) (nx := 17) (by decide +kernel) rfl ?_
  refine g_50 (a := 1) (b := 9) (nx := 20) (by decide +kernel) h0 ?_
  refine g_1 (a := 1) (b := 0) (nx := 21) (by decide +kernel) ?_
  refine g_16 (a := 0) (b := 0) (nx := 22) (by decide +kernel) ?_
  obtain ⟨r1, h⟩ := h
  obtain ⟨r2, h⟩ := h
  by_cases c10 : ((M x0 9) - 1) ≤ x5
  · rw [if_pos c10] at h
    refine g_41t (a := 3) (b := 65) (nx := 25) (by decide +kernel) (by rw [wr_id r1, wr_id r2]; exact (cb_3 _ _).mpr c10) ?_
    refine g_6 (a := 3) (b := 0) (nx := 66) (by decide +kernel) rfl ?_
    refine g_2 (a := 0) (b := 0) (nx := 67) (by decide +kernel) ?_
    refine g_34 (a := 0) (b := 0) (nx := 68) (by decide +kernel) h.1 ?_
    replace h := h.2
    obtain ⟨r3, h⟩ := h
    by_cases c4 : (if x3 < 0 then -1 else if x3 = 0 then 0 else 1) = 0
    · rw [if_pos c4] at h
      refine g_40f (a := 1) (b := 75) (nx := 71) (by decide +kernel) r3 (by exact fun hz => ((cb_1 _ _).mp hz) c4) ?_
      refine g_1 (a := 1) (b := 0) (nx := 72) (by decide +kernel) ?_
      refine g_44 (a := 0) (b := 76) (nx := 75) (by decide +kernel) ?_
      exact g_91z (b := 0) (nx := 77) (by decide +kernel) (by decide) h
    · rw [if_neg c4] at h
      refine g_40t (a := 1) (b := 75) (nx := 71) (by decide +kernel) r3 (by exact (cb_1 _ _).mpr c4) ?_
      refine g_1 (a := 0) (b := 0) (nx := 76) (by decide +kernel) ?_
      exact g_91z (b := 0) (nx := 77) (by decide +kernel) (by decide) h
  · rw [if_neg c10] at h
    refine g_41f (a := 3) (b := 65) (nx := 25) (by decide +kernel) (by rw [wr_id r1, wr_id r2]; exact fun hz => c10 ((cb_3 _ _).mp hz)) ?_
    refine g_6 (a := 3) (b := 0) (nx := 26) (by decide +kernel) rfl ?_
    refine g_2 (a := 15) (b := 0) (nx := 29) (by decide +kernel) ?_
    refine g_30 (a := 0) (b := 0) (nx := 30) (by decide +kernel) ?_
    refine g_36 (a := 0) (b := 0) (nx := 31) (by decide +kernel) ?_
    refine g_8 (a := 6) (b := 0) (nx := 33) (by decide +kernel) rfl (ls' := [some (vR x0), some (vL x1), none, some (vL x3), none, some (vI x5), some (vI (and64 x3 15))]) rfl ?_
    refine g_5 (a := 6) (b := 0) (nx := 35) (by decide +kernel) rfl ?_
    refine g_7 (a := 0) (b := 0) (nx := 36) (by decide +kernel) rfl ?_
    refine g_5 (a := 5) (b := 0) (nx := 38) (by decide +kernel) rfl ?_
    refine g_80 (a := 15) (b := 1) (nx := 41) (by decide +kernel) (r := x0) (As := [vI x5]) (st' := [vI (and64 x3 15)]) (z := 15) rfl rfl rfl (Nat.le_of_ble_eq_true rfl) h0.2 (Nat.le_of_ble_eq_true rfl) rfl (c_I (by decide +kernel) h (fun y6 M5 h => ?_))
    obtain ⟨r7, h⟩ := h
    obtain ⟨r8, h⟩ := h
    by_cases c9 : (and64 x3 15) ≤ y6
    · rw [if_pos c9] at h
      refine g_41t (a := 5) (b := 46) (nx := 44) (by decide +kernel) (by rw [wr_id r7, wr_id r8]; exact (cb_5 _ _).mpr c9) ?_
      refine g_7 (a := 0) (b := 0) (nx := 47) (by decide +kernel) rfl ?_
      refine g_52 (a := 1) (b := 2) (nx := 50) (by decide +kernel) h0 ?_
      refine g_5 (a := 5) (b := 0) (nx := 52) (by decide +kernel) rfl ?_
      refine g_5 (a := 6) (b := 0) (nx := 54) (by decide +kernel) rfl ?_
      refine g_62 (a := 0) (b := 0) (nx := 55) (by decide +kernel) h.1 ?_
      replace h := h.2
      refine g_6 (a := 3) (b := 0) (nx := 56) (by decide +kernel) rfl ?_
      refine g_1 (a := 4) (b := 0) (nx := 57) (by decide +kernel) ?_
      refine g_33 (a := 0) (b := 0) (nx := 58) (by decide +kernel) (by decide) ?_
      show WR 21 58 [some (vR x0), some (vL x1), none, some (vL x3), none, some (vI x5), some (vI (and64 x3 15))] [vL (x3 % 18446744073709551616 / 16)] (upM M5 (M5 x0 2) x5 (and64 x3 15)) Q
      refine g_9 (a := 3) (b := 0) (nx := 59) (by decide +kernel) ⟨rfl, Nat.le_of_ble_eq_true rfl⟩ (ls' := [some (vR x0), some (vL x1), none, some (vL (x3 % 18446744073709551616 / 16)), none, some (vI x5), some (vI (and64 x3 15))]) rfl ?_
      refine g_11 (a := 5) (b := 1) (nx := 62) (by decide +kernel) rfl rfl (ls' := [some (vR x0), some (vL x1), none, some (vL (x3 % 18446744073709551616 / 16)), none, some (vI (x5 + 1)), some (vI (and64 x3 15))]) rfl ?_
      refine g_44 (a := 0) (b := 14) (nx := 65) (by decide +kernel) ?_
      exact h
    · rw [if_neg c9] at h
      refine g_41f (a := 5) (b := 46) (nx := 44) (by decide +kernel) (by rw [wr_id r7, wr_id r8]; exact fun hz => c9 ((cb_5 _ _).mp hz)) ?_
      refine g_1 (a := 0) (b := 0) (nx := 45) (by decide +kernel) ?_
      exact g_91z (b := 0) (nx := 46) (by decide +kernel) (by decide) h
-- 22 SyllableMaker$Cut.join(LSyllableMaker$Row;II)V
theorem t_22 {x0 x1 x2 x3 : Int} {M : Mem} {Q : AV → Mem → Prop} (h0 : gO 1 x0) (h : (0 ≤ x1) ∧ x1 ≠ -1000 ∧ (if x1 = 0 then (Q (vI 0) (upM (upM (upM M x0 6 x1) x0 7 0) x0 8 x3)) else (Q (vI 0) (upM (upM (upM M x0 6 x1) x0 7 x2) x0 8 x3)))) : WC 22 [vR x0, vR x1, vI x2, vI x3] M Q := by
  show WR 22 0 [some (vR x0), some (vR x1), some (vI x2), some (vI x3)] [] M Q
  refine g_7 (a := 0) (b := 0) (nx := 1) (by decide +kernel) rfl ?_
  refine g_7 (a := 1) (b := 0) (nx := 2) (by decide +kernel) rfl ?_
  refine g_55 (a := 1) (b := 6) (nx := 5) (by decide +kernel) h0 h.1 ?_
  replace h := h.2
  refine g_7 (a := 0) (b := 0) (nx := 6) (by decide +kernel) rfl ?_
  refine g_7 (a := 1) (b := 0) (nx := 7) (by decide +kernel) rfl ?_
  obtain ⟨q0, h⟩ := h
  by_cases c1 : x1 = 0
  · rw [if_pos c1] at h
    refine g_43t (a := 0) (b := 14) (nx := 10) (by decide +kernel) c1 ?_
    refine g_1 (a := 0) (b := 0) (nx := 11) (by decide +kernel) ?_
    refine g_44 (a := 0) (b := 15) (nx := 14) (by decide +kernel) ?_
    refine g_53 (a := 1) (b := 7) (nx := 18) (by decide +kernel) h0 ?_
    refine g_7 (a := 0) (b := 0) (nx := 19) (by decide +kernel) rfl ?_
    refine g_5 (a := 3) (b := 0) (nx := 20) (by decide +kernel) rfl ?_
    refine g_53 (a := 1) (b := 8) (nx := 23) (by decide +kernel) h0 ?_
    exact g_90 (a := 0) (b := 0) (nx := 24) (by decide +kernel) h
  · rw [if_neg c1] at h
    refine g_43f (a := 0) (b := 14) (nx := 10) (by decide +kernel) q0 c1 ?_
    refine g_5 (a := 2) (b := 0) (nx := 15) (by decide +kernel) rfl ?_
    refine g_53 (a := 1) (b := 7) (nx := 18) (by decide +kernel) h0 ?_
    refine g_7 (a := 0) (b := 0) (nx := 19) (by decide +kernel) rfl ?_
    refine g_5 (a := 3) (b := 0) (nx := 20) (by decide +kernel) rfl ?_
    refine g_53 (a := 1) (b := 8) (nx := 23) (by decide +kernel) h0 ?_
    exact g_90 (a := 0) (b := 0) (nx := 24) (by decide +kernel) h
-- 23 SyllableMaker$Cut.isChanged(I)Z
theorem t_23 {x0 x1 : Int} {M : Mem} {Q : AV → Mem → Prop} (h0 : gO 1 x0) (h : inR x1 ∧ (if x1 = 0 then (inR (M x0 7) ∧ (if 0 < (M x0 7) then (Q (vI 1) M) else (inR ((M x0 9) - 1) ∧ (if x1 = ((M x0 9) - 1) then (inR (M x0 8) ∧ (if (M x0 8) ≤ 0 then (Q (vI 0) M) else (Q (vI 1) M))) else (Q (vI 0) M))))) else (inR ((M x0 9) - 1) ∧ (if x1 = ((M x0 9) - 1) then (inR (M x0 8) ∧ (if (M x0 8) ≤ 0 then (Q (vI 0) M) else (Q (vI 1) M))) else (Q (vI 0) M))))) : WC 23 [vR x0, vI x1] M Q := by
  show WR 23 0 [some (vR x0), some (vI x1)] [] M Q
  refine g_5 (a := 1) (b := 0) (nx := 1) (by decide +kernel) rfl ?_
  obtain ⟨r1, h⟩ := h
  by_cases c12 : x1 = 0
  · rw [if_pos c12] at h
    refine g_40f (a := 1) (b := 11) (nx := 4) (by decide +kernel) r1 (by exact fun hz => ((cb_1 _ _).mp hz) c12) ?_
    refine g_7 (a := 0) (b := 0) (nx := 5) (by decide +kernel) rfl ?_
    refine g_50 (a := 1) (b := 7) (nx := 8) (by decide +kernel) h0 ?_
    obtain ⟨r6, h⟩ := h
    by_cases c11 : 0 < (M x0 7)
    · rw [if_pos c11] at h
      refine g_40t (a := 4) (b := 28) (nx := 11) (by decide +kernel) r6 (by exact (cb_4 _ _).mpr c11) ?_
      refine g_1 (a := 1) (b := 0) (nx := 29) (by decide +kernel) ?_
      refine g_44 (a := 0) (b := 33) (nx := 32) (by decide +kernel) ?_
      exact g_91z (b := 0) (nx := 34) (by decide +kernel) (by decide) h
    · rw [if_neg c11] at h
      refine g_40f (a := 4) (b := 28) (nx := 11) (by decide +kernel) r6 (by exact fun hz => c11 ((cb_4 _ _).mp hz)) ?_
      refine g_5 (a := 1) (b := 0) (nx := 12) (by decide +kernel) rfl ?_
      refine g_7 (a := 0) (b := 0) (nx := 13) (by decide +kernel) rfl ?_
      refine g_50 (a := 1) (b := 9) (nx := 16) (by decide +kernel) h0 ?_
      refine g_1 (a := 1) (b := 0) (nx := 17) (by decide +kernel) ?_
      refine g_16 (a := 0) (b := 0) (nx := 18) (by decide +kernel) ?_
      obtain ⟨r7, h⟩ := h
      by_cases c10 : x1 = ((M x0 9) - 1)
      · rw [if_pos c10] at h
        refine g_41f (a := 1) (b := 32) (nx := 21) (by decide +kernel) (by rw [wr_id r1, wr_id r7]; exact fun hz => ((cb_1 _ _).mp hz) c10) ?_
        refine g_7 (a := 0) (b := 0) (nx := 22) (by decide +kernel) rfl ?_
        refine g_50 (a := 1) (b := 8) (nx := 25) (by decide +kernel) h0 ?_
        obtain ⟨r8, h⟩ := h
        by_cases c9 : (M x0 8) ≤ 0
        · rw [if_pos c9] at h
          refine g_40t (a := 5) (b := 32) (nx := 28) (by decide +kernel) r8 (by exact (cb_5 _ _).mpr c9) ?_
          refine g_1 (a := 0) (b := 0) (nx := 33) (by decide +kernel) ?_
          exact g_91z (b := 0) (nx := 34) (by decide +kernel) (by decide) h
        · rw [if_neg c9] at h
          refine g_40f (a := 5) (b := 32) (nx := 28) (by decide +kernel) r8 (by exact fun hz => c9 ((cb_5 _ _).mp hz)) ?_
          refine g_1 (a := 1) (b := 0) (nx := 29) (by decide +kernel) ?_
          refine g_44 (a := 0) (b := 33) (nx := 32) (by decide +kernel) ?_
          exact g_91z (b := 0) (nx := 34) (by decide +kernel) (by decide) h
      · rw [if_neg c10] at h
        refine g_41t (a := 1) (b := 32) (nx := 21) (by decide +kernel) (by rw [wr_id r1, wr_id r7]; exact (cb_1 _ _).mpr c10) ?_
        refine g_1 (a := 0) (b := 0) (nx := 33) (by decide +kernel) ?_
        exact g_91z (b := 0) (nx := 34) (by decide +kernel) (by decide) h
  · rw [if_neg c12] at h
    refine g_40t (a := 1) (b := 11) (nx := 4) (by decide +kernel) r1 (by exact (cb_1 _ _).mpr c12) ?_
    refine g_5 (a := 1) (b := 0) (nx := 12) (by decide +kernel) rfl ?_
    refine g_7 (a := 0) (b := 0) (nx := 13) (by decide +kernel) rfl ?_
    refine g_50 (a := 1) (b := 9) (nx := 16) (by decide +kernel) h0 ?_
    refine g_1 (a := 1) (b := 0) (nx := 17) (by decide +kernel) ?_
    refine g_16 (a := 0) (b := 0) (nx := 18) (by decide +kernel) ?_
    obtain ⟨r2, h⟩ := h
    by_cases c5 : x1 = ((M x0 9) - 1)
    · rw [if_pos c5] at h
      refine g_41f (a := 1) (b := 32) (nx := 21) (by decide +kernel) (by rw [wr_id r1, wr_id r2]; exact fun hz => ((cb_1 _ _).mp hz) c5) ?_
      refine g_7 (a := 0) (b := 0) (nx := 22) (by decide +kernel) rfl ?_
      refine g_50 (a := 1) (b := 8) (nx := 25) (by decide +kernel) h0 ?_
      obtain ⟨r3, h⟩ := h
      by_cases c4 : (M x0 8) ≤ 0
      · rw [if_pos c4] at h
        refine g_40t (a := 5) (b := 32) (nx := 28) (by decide +kernel) r3 (by exact (cb_5 _ _).mpr c4) ?_
        refine g_1 (a := 0) (b := 0) (nx := 33) (by decide +kernel) ?_
        exact g_91z (b := 0) (nx := 34) (by decide +kernel) (by decide) h
      · rw [if_neg c4] at h
        refine g_40f (a := 5) (b := 32) (nx := 28) (by decide +kernel) r3 (by exact fun hz => c4 ((cb_5 _ _).mp hz)) ?_
        refine g_1 (a := 1) (b := 0) (nx := 29) (by decide +kernel) ?_
        refine g_44 (a := 0) (b := 33) (nx := 32) (by decide +kernel) ?_
        exact g_91z (b := 0) (nx := 34) (by decide +kernel) (by decide) h
    · rw [if_neg c5] at h
      refine g_41t (a := 1) (b := 32) (nx := 21) (by decide +kernel) (by rw [wr_id r1, wr_id r2]; exact (cb_1 _ _).mpr c5) ?_
      refine g_1 (a := 0) (b := 0) (nx := 33) (by decide +kernel) ?_
      exact g_91z (b := 0) (nx := 34) (by decide +kernel) (by decide) h
-- 24 SyllableMaker$Cut.begin(I)I
theorem t_24 {x0 x1 : Int} {M : Mem} {Q : AV → Mem → Prop} (h0 : gO 1 x0) (h : inR x1 ∧ (if x1 = 0 then (Q (vI (-(M x0 7))) M) else (WI 14 [vR x0, vI (x1 - 1)] M (fun y3 M2 => WI 13 [vR x0, vI (x1 - 1)] M2 (fun y5 M4 => inR y5 ∧ (if y5 = 0 then (Q (vI (y3 + 0)) M4) else ((gA 20 (M4 x0 2) (x1 - 1)) ∧ Q (vI (y3 + (M4 (M4 x0 2) (x1 - 1)))) M4))))))) : WC 24 [vR x0, vI x1] M Q := by
  show WR 24 0 [some (vR x0), some (vI x1)] [] M Q
  refine g_5 (a := 1) (b := 0) (nx := 1) (by decide +kernel) rfl ?_
  obtain ⟨r1, h⟩ := h
  by_cases c8 : x1 = 0
  · rw [if_pos c8] at h
    refine g_40f (a := 1) (b := 12) (nx := 4) (by decide +kernel) r1 (by exact fun hz => ((cb_1 _ _).mp hz) c8) ?_
    refine g_7 (a := 0) (b := 0) (nx := 5) (by decide +kernel) rfl ?_
    refine g_50 (a := 1) (b := 7) (nx := 8) (by decide +kernel) h0 ?_
    refine g_18 (a := 0) (b := 0) (nx := 9) (by decide +kernel) ?_
    refine g_44 (a := 0) (b := 42) (nx := 12) (by decide +kernel) ?_
    exact g_91 (b := 0) (nx := 43) (by decide +kernel) h
  · rw [if_neg c8] at h
    refine g_40t (a := 1) (b := 12) (nx := 4) (by decide +kernel) r1 (by exact (cb_1 _ _).mpr c8) ?_
    refine g_7 (a := 0) (b := 0) (nx := 13) (by decide +kernel) rfl ?_
    refine g_5 (a := 1) (b := 0) (nx := 14) (by decide +kernel) rfl ?_
    refine g_1 (a := 1) (b := 0) (nx := 15) (by decide +kernel) ?_
    refine g_16 (a := 0) (b := 0) (nx := 16) (by decide +kernel) ?_
    refine g_80 (a := 14) (b := 1) (nx := 19) (by decide +kernel) (r := x0) (As := [vI (x1 - 1)]) (st' := []) (z := 14) rfl rfl rfl (Nat.le_of_ble_eq_true rfl) h0.2 (Nat.le_of_ble_eq_true rfl) rfl (c_I (by decide +kernel) h (fun y3 M2 h => ?_))
    refine g_7 (a := 0) (b := 0) (nx := 20) (by decide +kernel) rfl ?_
    refine g_5 (a := 1) (b := 0) (nx := 21) (by decide +kernel) rfl ?_
    refine g_1 (a := 1) (b := 0) (nx := 22) (by decide +kernel) ?_
    refine g_16 (a := 0) (b := 0) (nx := 23) (by decide +kernel) ?_
    refine g_80 (a := 13) (b := 1) (nx := 26) (by decide +kernel) (r := x0) (As := [vI (x1 - 1)]) (st' := [vI y3]) (z := 13) rfl rfl rfl (Nat.le_of_ble_eq_true rfl) h0.2 (Nat.le_of_ble_eq_true rfl) rfl (c_I (by decide +kernel) h (fun y5 M4 h => ?_))
    obtain ⟨r6, h⟩ := h
    by_cases c7 : y5 = 0
    · rw [if_pos c7] at h
      refine g_40t (a := 0) (b := 40) (nx := 29) (by decide +kernel) r6 (by exact (cb_0 _ _).mpr c7) ?_
      refine g_1 (a := 0) (b := 0) (nx := 41) (by decide +kernel) ?_
      refine g_15 (a := 0) (b := 0) (nx := 42) (by decide +kernel) ?_
      exact g_91 (b := 0) (nx := 43) (by decide +kernel) h
    · rw [if_neg c7] at h
      refine g_40f (a := 0) (b := 40) (nx := 29) (by decide +kernel) r6 (by exact fun hz => c7 ((cb_0 _ _).mp hz)) ?_
      refine g_7 (a := 0) (b := 0) (nx := 30) (by decide +kernel) rfl ?_
      refine g_52 (a := 1) (b := 2) (nx := 33) (by decide +kernel) h0 ?_
      refine g_5 (a := 1) (b := 0) (nx := 34) (by decide +kernel) rfl ?_
      refine g_1 (a := 1) (b := 0) (nx := 35) (by decide +kernel) ?_
      refine g_16 (a := 0) (b := 0) (nx := 36) (by decide +kernel) ?_
      refine g_61 (a := 0) (b := 0) (nx := 37) (by decide +kernel) h.1 ?_
      replace h := h.2
      refine g_44 (a := 0) (b := 41) (nx := 40) (by decide +kernel) ?_
      refine g_15 (a := 0) (b := 0) (nx := 42) (by decide +kernel) ?_
      exact g_91 (b := 0) (nx := 43) (by decide +kernel) h
-- 25 SyllableMaker$Cut.openingSize(I)I
theorem t_25 {x0 x1 : Int} {M : Mem} {Q : AV → Mem → Prop} (h0 : gO 1 x0) (h : WI 13 [vR x0, vI x1] M (fun y2 M1 => inR y2 ∧ (if y2 = 0 then (Q (vI 0) M1) else ((gA 20 (M1 x0 0) x1) ∧ WI 24 [vR x0, vI x1] M1 (fun y5 M4 => Q (vI ((M1 (M1 x0 0) x1) - y5)) M4))))) : WC 25 [vR x0, vI x1] M Q := by
  show WR 25 0 [some (vR x0), some (vI x1)] [] M Q
  refine g_7 (a := 0) (b := 0) (nx := 1) (by decide +kernel) rfl ?_
  refine g_5 (a := 1) (b := 0) (nx := 2) (by decide +kernel) rfl ?_
  refine g_80 (a := 13) (b := 1) (nx := 5) (by decide +kernel) (r := x0) (As := [vI x1]) (st' := []) (z := 13) rfl rfl rfl (Nat.le_of_ble_eq_true rfl) h0.2 (Nat.le_of_ble_eq_true rfl) rfl (c_I (by decide +kernel) h (fun y2 M1 h => ?_))
  obtain ⟨r3, h⟩ := h
  by_cases c6 : y2 = 0
  · rw [if_pos c6] at h
    refine g_40t (a := 0) (b := 23) (nx := 8) (by decide +kernel) r3 (by exact (cb_0 _ _).mpr c6) ?_
    refine g_1 (a := 0) (b := 0) (nx := 24) (by decide +kernel) ?_
    exact g_91 (b := 0) (nx := 25) (by decide +kernel) h
  · rw [if_neg c6] at h
    refine g_40f (a := 0) (b := 23) (nx := 8) (by decide +kernel) r3 (by exact fun hz => c6 ((cb_0 _ _).mp hz)) ?_
    refine g_7 (a := 0) (b := 0) (nx := 9) (by decide +kernel) rfl ?_
    refine g_52 (a := 1) (b := 0) (nx := 12) (by decide +kernel) h0 ?_
    refine g_5 (a := 1) (b := 0) (nx := 13) (by decide +kernel) rfl ?_
    refine g_61 (a := 0) (b := 0) (nx := 14) (by decide +kernel) h.1 ?_
    replace h := h.2
    refine g_7 (a := 0) (b := 0) (nx := 15) (by decide +kernel) rfl ?_
    refine g_5 (a := 1) (b := 0) (nx := 16) (by decide +kernel) rfl ?_
    refine g_80 (a := 24) (b := 1) (nx := 19) (by decide +kernel) (r := x0) (As := [vI x1]) (st' := [vI (M1 (M1 x0 0) x1)]) (z := 24) rfl rfl rfl (Nat.le_of_ble_eq_true rfl) h0.2 (Nat.le_of_ble_eq_true rfl) rfl (c_I (by decide +kernel) h (fun y5 M4 h => ?_))
    refine g_16 (a := 0) (b := 0) (nx := 20) (by decide +kernel) ?_
    refine g_44 (a := 0) (b := 24) (nx := 23) (by decide +kernel) ?_
    exact g_91 (b := 0) (nx := 25) (by decide +kernel) h
-- 26 SyllableMaker$Cut.heartSize(I)I
theorem t_26 {x0 x1 : Int} {M : Mem} {Q : AV → Mem → Prop} (h0 : gO 1 x0) (h : WI 13 [vR x0, vI x1] M (fun y2 M1 => inR y2 ∧ (if y2 = 0 then (Q (vI 0) M1) else ((gA 20 (M1 x0 1) x1) ∧ Q (vI (M1 (M1 x0 1) x1)) M1)))) : WC 26 [vR x0, vI x1] M Q := by
  show WR 26 0 [some (vR x0), some (vI x1)] [] M Q
  refine g_7 (a := 0) (b := 0) (nx := 1) (by decide +kernel) rfl ?_
  refine g_5 (a := 1) (b := 0) (nx := 2) (by decide +kernel) rfl ?_
  refine g_80 (a := 13) (b := 1) (nx := 5) (by decide +kernel) (r := x0) (As := [vI x1]) (st' := []) (z := 13) rfl rfl rfl (Nat.le_of_ble_eq_true rfl) h0.2 (Nat.le_of_ble_eq_true rfl) rfl (c_I (by decide +kernel) h (fun y2 M1 h => ?_))
  obtain ⟨r3, h⟩ := h
  by_cases c4 : y2 = 0
  · rw [if_pos c4] at h
    refine g_40t (a := 0) (b := 17) (nx := 8) (by decide +kernel) r3 (by exact (cb_0 _ _).mpr c4) ?_
    refine g_1 (a := 0) (b := 0) (nx := 18) (by decide +kernel) ?_
    exact g_91 (b := 0) (nx := 19) (by decide +kernel) h
  · rw [if_neg c4] at h
    refine g_40f (a := 0) (b := 17) (nx := 8) (by decide +kernel) r3 (by exact fun hz => c4 ((cb_0 _ _).mp hz)) ?_
    refine g_7 (a := 0) (b := 0) (nx := 9) (by decide +kernel) rfl ?_
    refine g_52 (a := 1) (b := 1) (nx := 12) (by decide +kernel) h0 ?_
    refine g_5 (a := 1) (b := 0) (nx := 13) (by decide +kernel) rfl ?_
    refine g_61 (a := 0) (b := 0) (nx := 14) (by decide +kernel) h.1 ?_
    replace h := h.2
    refine g_44 (a := 0) (b := 18) (nx := 17) (by decide +kernel) ?_
    exact g_91 (b := 0) (nx := 19) (by decide +kernel) h
-- 27 SyllableMaker$Cut.closingSize(I)I
theorem t_27 {x0 x1 : Int} {M : Mem} {Q : AV → Mem → Prop} (h0 : gO 1 x0) (h : WI 13 [vR x0, vI x1] M (fun y2 M1 => inR y2 ∧ (if y2 = 0 then (Q (vI 0) M1) else ((gA 20 (M1 x0 2) x1) ∧ inR x1 ∧ (inR ((M1 x0 9) - 1) ∧ (if x1 = ((M1 x0 9) - 1) then (Q (vI ((M1 (M1 x0 2) x1) - (M1 x0 8))) M1) else (Q (vI ((M1 (M1 x0 2) x1) - 0)) M1))))))) : WC 27 [vR x0, vI x1] M Q := by
  show WR 27 0 [some (vR x0), some (vI x1)] [] M Q
  refine g_7 (a := 0) (b := 0) (nx := 1) (by decide +kernel) rfl ?_
  refine g_5 (a := 1) (b := 0) (nx := 2) (by decide +kernel) rfl ?_
  refine g_80 (a := 13) (b := 1) (nx := 5) (by decide +kernel) (r := x0) (As := [vI x1]) (st' := []) (z := 13) rfl rfl rfl (Nat.le_of_ble_eq_true rfl) h0.2 (Nat.le_of_ble_eq_true rfl) rfl (c_I (by decide +kernel) h (fun y2 M1 h => ?_))
  obtain ⟨r3, h⟩ := h
  by_cases c7 : y2 = 0
  · rw [if_pos c7] at h
    refine g_40t (a := 0) (b := 36) (nx := 8) (by decide +kernel) r3 (by exact (cb_0 _ _).mpr c7) ?_
    refine g_1 (a := 0) (b := 0) (nx := 37) (by decide +kernel) ?_
    exact g_91 (b := 0) (nx := 38) (by decide +kernel) h
  · rw [if_neg c7] at h
    refine g_40f (a := 0) (b := 36) (nx := 8) (by decide +kernel) r3 (by exact fun hz => c7 ((cb_0 _ _).mp hz)) ?_
    refine g_7 (a := 0) (b := 0) (nx := 9) (by decide +kernel) rfl ?_
    refine g_52 (a := 1) (b := 2) (nx := 12) (by decide +kernel) h0 ?_
    refine g_5 (a := 1) (b := 0) (nx := 13) (by decide +kernel) rfl ?_
    refine g_61 (a := 0) (b := 0) (nx := 14) (by decide +kernel) h.1 ?_
    replace h := h.2
    refine g_5 (a := 1) (b := 0) (nx := 15) (by decide +kernel) rfl ?_
    refine g_7 (a := 0) (b := 0) (nx := 16) (by decide +kernel) rfl ?_
    refine g_50 (a := 1) (b := 9) (nx := 19) (by decide +kernel) h0 ?_
    refine g_1 (a := 1) (b := 0) (nx := 20) (by decide +kernel) ?_
    refine g_16 (a := 0) (b := 0) (nx := 21) (by decide +kernel) ?_
    obtain ⟨r4, h⟩ := h
    obtain ⟨r5, h⟩ := h
    by_cases c6 : x1 = ((M1 x0 9) - 1)
    · rw [if_pos c6] at h
      refine g_41f (a := 1) (b := 31) (nx := 24) (by decide +kernel) (by rw [wr_id r4, wr_id r5]; exact fun hz => ((cb_1 _ _).mp hz) c6) ?_
      refine g_7 (a := 0) (b := 0) (nx := 25) (by decide +kernel) rfl ?_
      refine g_50 (a := 1) (b := 8) (nx := 28) (by decide +kernel) h0 ?_
      refine g_44 (a := 0) (b := 32) (nx := 31) (by decide +kernel) ?_
      refine g_16 (a := 0) (b := 0) (nx := 33) (by decide +kernel) ?_
      refine g_44 (a := 0) (b := 37) (nx := 36) (by decide +kernel) ?_
      exact g_91 (b := 0) (nx := 38) (by decide +kernel) h
    · rw [if_neg c6] at h
      refine g_41t (a := 1) (b := 31) (nx := 24) (by decide +kernel) (by rw [wr_id r4, wr_id r5]; exact (cb_1 _ _).mpr c6) ?_
      refine g_1 (a := 0) (b := 0) (nx := 32) (by decide +kernel) ?_
      refine g_16 (a := 0) (b := 0) (nx := 33) (by decide +kernel) ?_
      refine g_44 (a := 0) (b := 37) (nx := 36) (by decide +kernel) ?_
      exact g_91 (b := 0) (nx := 38) (by decide +kernel) h
-- 28 SyllableMaker$Cut.openingKey(I)J
theorem t_28 {x0 x1 : Int} {M : Mem} {Q : AV → Mem → Prop} (h0 : gO 1 x0) (h : inR x1 ∧ (if x1 = 0 then (inR (M x0 7) ∧ (if (M x0 7) ≤ 0 then (WI 24 [vR x0, vI x1] M (fun y10 M9 => WI 25 [vR x0, vI x1] M9 (fun y12 M11 => ((shA SH (M x0 5)).1 = 5) ∧ WL 83 [vR (M x0 5), vI y10, vI y12] M11 (fun y14 M13 => Q (vL y14) M13)))) else ((M x0 6) ≠ -1000 ∧ (if (M x0 6) = 0 then (WI 24 [vR x0, vI x1] M (fun y16 M15 => WI 25 [vR x0, vI x1] M15 (fun y18 M17 => ((shA SH (M x0 5)).1 = 5) ∧ WL 83 [vR (M x0 5), vI y16, vI y18] M17 (fun y20 M19 => Q (vL y20) M19)))) else ((gO 5 (M x0 6)) ∧ ((shA SH (M x0 6)).1 = 5) ∧ WL 83 [vR (M x0 6), vI ((M (M x0 6) 1) - (M x0 7)), vI (M x0 7)] M (fun y22 M21 => Q (vL y22) M21)))))) else (WI 24 [vR x0, vI x1] M (fun y3 M2 => WI 25 [vR x0, vI x1] M2 (fun y5 M4 => ((shA SH (M x0 5)).1 = 5) ∧ WL 83 [vR (M x0 5), vI y3, vI y5] M4 (fun y7 M6 => Q (vL y7) M6)))))) : WC 28 [vR x0, vI x1] M Q := by
  show WR 28 0 [some (vR x0), some (vI x1)] [] M Q
  refine g_5 (a := 1) (b := 0) (nx := 1) (by decide +kernel) rfl ?_
  obtain ⟨r1, h⟩ := h
  by_cases c25 : x1 = 0
  · rw [if_pos c25] at h
    refine g_40f (a := 1) (b := 42) (nx := 4) (by decide +kernel) r1 (by exact fun hz => ((cb_1 _ _).mp hz) c25) ?_
    refine g_7 (a := 0) (b := 0) (nx := 5) (by decide +kernel) rfl ?_
    refine g_50 (a := 1) (b := 7) (nx := 8) (by decide +kernel) h0 ?_
    obtain ⟨r8, h⟩ := h
    by_cases c24 : (M x0 7) ≤ 0
    · rw [if_pos c24] at h
      refine g_40t (a := 5) (b := 42) (nx := 11) (by decide +kernel) r8 (by exact (cb_5 _ _).mpr c24) ?_
      refine g_7 (a := 0) (b := 0) (nx := 43) (by decide +kernel) rfl ?_
      refine g_52 (a := 1) (b := 5) (nx := 46) (by decide +kernel) h0 ?_
      refine g_7 (a := 0) (b := 0) (nx := 47) (by decide +kernel) rfl ?_
      refine g_5 (a := 1) (b := 0) (nx := 48) (by decide +kernel) rfl ?_
      refine g_80 (a := 24) (b := 1) (nx := 51) (by decide +kernel) (r := x0) (As := [vI x1]) (st' := [vR (M x0 5)]) (z := 24) rfl rfl rfl (Nat.le_of_ble_eq_true rfl) h0.2 (Nat.le_of_ble_eq_true rfl) rfl (c_I (by decide +kernel) h (fun y10 M9 h => ?_))
      refine g_7 (a := 0) (b := 0) (nx := 52) (by decide +kernel) rfl ?_
      refine g_5 (a := 1) (b := 0) (nx := 53) (by decide +kernel) rfl ?_
      refine g_80 (a := 25) (b := 1) (nx := 56) (by decide +kernel) (r := x0) (As := [vI x1]) (st' := [vI y10, vR (M x0 5)]) (z := 25) rfl rfl rfl (Nat.le_of_ble_eq_true rfl) h0.2 (Nat.le_of_ble_eq_true rfl) rfl (c_I (by decide +kernel) h (fun y12 M11 h => ?_))
      refine g_80 (a := 83) (b := 2) (nx := 59) (by decide +kernel) (r := (M x0 5)) (As := [vI y10, vI y12]) (st' := []) (z := 83) rfl rfl rfl (Nat.le_of_ble_eq_true rfl) h.1 (Nat.le_of_ble_eq_true rfl) rfl (c_L (by decide +kernel) h.2 (fun y14 M13 h => ?_))
      exact g_92 (a := 0) (b := 0) (nx := 60) (by decide +kernel) h
    · rw [if_neg c24] at h
      refine g_40f (a := 5) (b := 42) (nx := 11) (by decide +kernel) r8 (by exact fun hz => c24 ((cb_5 _ _).mp hz)) ?_
      refine g_7 (a := 0) (b := 0) (nx := 12) (by decide +kernel) rfl ?_
      refine g_52 (a := 1) (b := 6) (nx := 15) (by decide +kernel) h0 ?_
      obtain ⟨q0, h⟩ := h
      by_cases c23 : (M x0 6) = 0
      · rw [if_pos c23] at h
        refine g_42t (a := 0) (b := 42) (nx := 18) (by decide +kernel) c23 ?_
        refine g_7 (a := 0) (b := 0) (nx := 43) (by decide +kernel) rfl ?_
        refine g_52 (a := 1) (b := 5) (nx := 46) (by decide +kernel) h0 ?_
        refine g_7 (a := 0) (b := 0) (nx := 47) (by decide +kernel) rfl ?_
        refine g_5 (a := 1) (b := 0) (nx := 48) (by decide +kernel) rfl ?_
        refine g_80 (a := 24) (b := 1) (nx := 51) (by decide +kernel) (r := x0) (As := [vI x1]) (st' := [vR (M x0 5)]) (z := 24) rfl rfl rfl (Nat.le_of_ble_eq_true rfl) h0.2 (Nat.le_of_ble_eq_true rfl) rfl (c_I (by decide +kernel) h (fun y16 M15 h => ?_))
        refine g_7 (a := 0) (b := 0) (nx := 52) (by decide +kernel) rfl ?_
        refine g_5 (a := 1) (b := 0) (nx := 53) (by decide +kernel) rfl ?_
        refine g_80 (a := 25) (b := 1) (nx := 56) (by decide +kernel) (r := x0) (As := [vI x1]) (st' := [vI y16, vR (M x0 5)]) (z := 25) rfl rfl rfl (Nat.le_of_ble_eq_true rfl) h0.2 (Nat.le_of_ble_eq_true rfl) rfl (c_I (by decide +kernel) h (fun y18 M17 h => ?_))
        refine g_80 (a := 83) (b := 2) (nx := 59) (by decide +kernel) (r := (M x0 5)) (As := [vI y16, vI y18]) (st' := []) (z := 83) rfl rfl rfl (Nat.le_of_ble_eq_true rfl) h.1 (Nat.le_of_ble_eq_true rfl) rfl (c_L (by decide +kernel) h.2 (fun y20 M19 h => ?_))
        exact g_92 (a := 0) (b := 0) (nx := 60) (by decide +kernel) h
      · rw [if_neg c23] at h
        refine g_42f (a := 0) (b := 42) (nx := 18) (by decide +kernel) q0 c23 ?_
        refine g_7 (a := 0) (b := 0) (nx := 19) (by decide +kernel) rfl ?_
        refine g_52 (a := 1) (b := 6) (nx := 22) (by decide +kernel) h0 ?_
        refine g_7 (a := 0) (b := 0) (nx := 23) (by decide +kernel) rfl ?_
        refine g_52 (a := 1) (b := 6) (nx := 26) (by decide +kernel) h0 ?_
        refine g_50 (a := 5) (b := 1) (nx := 29) (by decide +kernel) h.1 ?_
        replace h := h.2
        refine g_7 (a := 0) (b := 0) (nx := 30) (by decide +kernel) rfl ?_
        refine g_50 (a := 1) (b := 7) (nx := 33) (by decide +kernel) h0 ?_
        refine g_16 (a := 0) (b := 0) (nx := 34) (by decide +kernel) ?_
        refine g_7 (a := 0) (b := 0) (nx := 35) (by decide +kernel) rfl ?_
        refine g_50 (a := 1) (b := 7) (nx := 38) (by decide +kernel) h0 ?_
        refine g_80 (a := 83) (b := 2) (nx := 41) (by decide +kernel) (r := (M x0 6)) (As := [vI ((M (M x0 6) 1) - (M x0 7)), vI (M x0 7)]) (st' := []) (z := 83) rfl rfl rfl (Nat.le_of_ble_eq_true rfl) h.1 (Nat.le_of_ble_eq_true rfl) rfl (c_L (by decide +kernel) h.2 (fun y22 M21 h => ?_))
        exact g_92 (a := 0) (b := 0) (nx := 42) (by decide +kernel) h
  · rw [if_neg c25] at h
    refine g_40t (a := 1) (b := 42) (nx := 4) (by decide +kernel) r1 (by exact (cb_1 _ _).mpr c25) ?_
    refine g_7 (a := 0) (b := 0) (nx := 43) (by decide +kernel) rfl ?_
    refine g_52 (a := 1) (b := 5) (nx := 46) (by decide +kernel) h0 ?_
    refine g_7 (a := 0) (b := 0) (nx := 47) (by decide +kernel) rfl ?_
    refine g_5 (a := 1) (b := 0) (nx := 48) (by decide +kernel) rfl ?_
    refine g_80 (a := 24) (b := 1) (nx := 51) (by decide +kernel) (r := x0) (As := [vI x1]) (st' := [vR (M x0 5)]) (z := 24) rfl rfl rfl (Nat.le_of_ble_eq_true rfl) h0.2 (Nat.le_of_ble_eq_true rfl) rfl (c_I (by decide +kernel) h (fun y3 M2 h => ?_))
    refine g_7 (a := 0) (b := 0) (nx := 52) (by decide +kernel) rfl ?_
    refine g_5 (a := 1) (b := 0) (nx := 53) (by decide +kernel) rfl ?_
    refine g_80 (a := 25) (b := 1) (nx := 56) (by decide +kernel) (r := x0) (As := [vI x1]) (st' := [vI y3, vR (M x0 5)]) (z := 25) rfl rfl rfl (Nat.le_of_ble_eq_true rfl) h0.2 (Nat.le_of_ble_eq_true rfl) rfl (c_I (by decide +kernel) h (fun y5 M4 h => ?_))
    refine g_80 (a := 83) (b := 2) (nx := 59) (by decide +kernel) (r := (M x0 5)) (As := [vI y3, vI y5]) (st' := []) (z := 83) rfl rfl rfl (Nat.le_of_ble_eq_true rfl) h.1 (Nat.le_of_ble_eq_true rfl) rfl (c_L (by decide +kernel) h.2 (fun y7 M6 h => ?_))
    exact g_92 (a := 0) (b := 0) (nx := 60) (by decide +kernel) h
-- 29 SyllableMaker$Cut.heartKey(I)J
theorem t_29 {x0 x1 : Int} {M : Mem} {Q : AV → Mem → Prop} (h0 : gO 1 x0) (h : WI 14 [vR x0, vI x1] M (fun y2 M1 => WI 26 [vR x0, vI x1] M1 (fun y4 M3 => WI 26 [vR x0, vI x1] M3 (fun y6 M5 => ((shA SH (M x0 5)).1 = 5) ∧ WL 83 [vR (M x0 5), vI (y2 - y4), vI y6] M5 (fun y8 M7 => Q (vL y8) M7))))) : WC 29 [vR x0, vI x1] M Q := by
  show WR 29 0 [some (vR x0), some (vI x1)] [] M Q
  refine g_7 (a := 0) (b := 0) (nx := 1) (by decide +kernel) rfl ?_
  refine g_52 (a := 1) (b := 5) (nx := 4) (by decide +kernel) h0 ?_
  refine g_7 (a := 0) (b := 0) (nx := 5) (by decide +kernel) rfl ?_
  refine g_5 (a := 1) (b := 0) (nx := 6) (by decide +kernel) rfl ?_
  refine g_80 (a := 14) (b := 1) (nx := 9) (by decide +kernel) (r := x0) (As := [vI x1]) (st' := [vR (M x0 5)]) (z := 14) rfl rfl rfl (Nat.le_of_ble_eq_true rfl) h0.2 (Nat.le_of_ble_eq_true rfl) rfl (c_I (by decide +kernel) h (fun y2 M1 h => ?_))
  refine g_7 (a := 0) (b := 0) (nx := 10) (by decide +kernel) rfl ?_
  refine g_5 (a := 1) (b := 0) (nx := 11) (by decide +kernel) rfl ?_
  refine g_80 (a := 26) (b := 1) (nx := 14) (by decide +kernel) (r := x0) (As := [vI x1]) (st' := [vI y2, vR (M x0 5)]) (z := 26) rfl rfl rfl (Nat.le_of_ble_eq_true rfl) h0.2 (Nat.le_of_ble_eq_true rfl) rfl (c_I (by decide +kernel) h (fun y4 M3 h => ?_))
  refine g_16 (a := 0) (b := 0) (nx := 15) (by decide +kernel) ?_
  refine g_7 (a := 0) (b := 0) (nx := 16) (by decide +kernel) rfl ?_
  refine g_5 (a := 1) (b := 0) (nx := 17) (by decide +kernel) rfl ?_
  refine g_80 (a := 26) (b := 1) (nx := 20) (by decide +kernel) (r := x0) (As := [vI x1]) (st' := [vI (y2 - y4), vR (M x0 5)]) (z := 26) rfl rfl rfl (Nat.le_of_ble_eq_true rfl) h0.2 (Nat.le_of_ble_eq_true rfl) rfl (c_I (by decide +kernel) h (fun y6 M5 h => ?_))
  refine g_80 (a := 83) (b := 2) (nx := 23) (by decide +kernel) (r := (M x0 5)) (As := [vI (y2 - y4), vI y6]) (st' := []) (z := 83) rfl rfl rfl (Nat.le_of_ble_eq_true rfl) h.1 (Nat.le_of_ble_eq_true rfl) rfl (c_L (by decide +kernel) h.2 (fun y8 M7 h => ?_))
  exact g_92 (a := 0) (b := 0) (nx := 24) (by decide +kernel) h
-- 30 SyllableMaker$Cut.closingKey(I)J
theorem t_30 {x0 x1 : Int} {M : Mem} {Q : AV → Mem → Prop} (h0 : gO 1 x0) (h : WI 14 [vR x0, vI x1] M (fun y2 M1 => WI 27 [vR x0, vI x1] M1 (fun y4 M3 => ((shA SH (M x0 5)).1 = 5) ∧ WL 83 [vR (M x0 5), vI y2, vI y4] M3 (fun y6 M5 => Q (vL y6) M5)))) : WC 30 [vR x0, vI x1] M Q := by
  show WR 30 0 [some (vR x0), some (vI x1)] [] M Q
  refine g_7 (a := 0) (b := 0) (nx := 1) (by decide +kernel) rfl ?_
  refine g_52 (a := 1) (b := 5) (nx := 4) (by decide +kernel) h0 ?_
  refine g_7 (a := 0) (b := 0) (nx := 5) (by decide +kernel) rfl ?_
  refine g_5 (a := 1) (b := 0) (nx := 6) (by decide +kernel) rfl ?_
  refine g_80 (a := 14) (b := 1) (nx := 9) (by decide +kernel) (r := x0) (As := [vI x1]) (st' := [vR (M x0 5)]) (z := 14) rfl rfl rfl (Nat.le_of_ble_eq_true rfl) h0.2 (Nat.le_of_ble_eq_true rfl) rfl (c_I (by decide +kernel) h (fun y2 M1 h => ?_))
  refine g_7 (a := 0) (b := 0) (nx := 10) (by decide +kernel) rfl ?_
  refine g_5 (a := 1) (b := 0) (nx := 11) (by decide +kernel) rfl ?_
  refine g_80 (a := 27) (b := 1) (nx := 14) (by decide +kernel) (r := x0) (As := [vI x1]) (st' := [vI y2, vR (M x0 5)]) (z := 27) rfl rfl rfl (Nat.le_of_ble_eq_true rfl) h0.2 (Nat.le_of_ble_eq_true rfl) rfl (c_I (by decide +kernel) h (fun y4 M3 h => ?_))
  refine g_80 (a := 83) (b := 2) (nx := 17) (by decide +kernel) (r := (M x0 5)) (As := [vI y2, vI y4]) (st' := []) (z := 83) rfl rfl rfl (Nat.le_of_ble_eq_true rfl) h.1 (Nat.le_of_ble_eq_true rfl) rfl (c_L (by decide +kernel) h.2 (fun y6 M5 h => ?_))
  exact g_92 (a := 0) (b := 0) (nx := 18) (by decide +kernel) h
-- 31 SyllableMaker$Cut.endKey(I)J
theorem t_31 {x0 x1 : Int} {M : Mem} {Q : AV → Mem → Prop} (h0 : gO 1 x0) (h : WI 14 [vR x0, vI x1] M (fun y2 M1 => WI 26 [vR x0, vI x1] M1 (fun y4 M3 => (gO 5 (M3 x0 5)) ∧ ((shA SH (M3 x0 5)).1 = 5) ∧ WL 83 [vR (M3 x0 5), vI (y2 - y4), vI ((M3 (M3 x0 5) 1) - (y2 - y4))] M3 (fun y6 M5 => Q (vL y6) M5)))) : WC 31 [vR x0, vI x1] M Q := by
  show WR 31 0 [some (vR x0), some (vI x1), none] [] M Q
  refine g_7 (a := 0) (b := 0) (nx := 1) (by decide +kernel) rfl ?_
  refine g_5 (a := 1) (b := 0) (nx := 2) (by decide +kernel) rfl ?_
  refine g_80 (a := 14) (b := 1) (nx := 5) (by decide +kernel) (r := x0) (As := [vI x1]) (st' := []) (z := 14) rfl rfl rfl (Nat.le_of_ble_eq_true rfl) h0.2 (Nat.le_of_ble_eq_true rfl) rfl (c_I (by decide +kernel) h (fun y2 M1 h => ?_))
  refine g_7 (a := 0) (b := 0) (nx := 6) (by decide +kernel) rfl ?_
  refine g_5 (a := 1) (b := 0) (nx := 7) (by decide +kernel) rfl ?_
  refine g_80 (a := 26) (b := 1) (nx := 10) (by decide +kernel) (r := x0) (As := [vI x1]) (st' := [vI y2]) (z := 26) rfl rfl rfl (Nat.le_of_ble_eq_true rfl) h0.2 (Nat.le_of_ble_eq_true rfl) rfl (c_I (by decide +kernel) h (fun y4 M3 h => ?_))
  refine g_16 (a := 0) (b := 0) (nx := 11) (by decide +kernel) ?_
  refine g_8 (a := 2) (b := 0) (nx := 12) (by decide +kernel) rfl (ls' := [some (vR x0), some (vI x1), some (vI (y2 - y4))]) rfl ?_
  refine g_7 (a := 0) (b := 0) (nx := 13) (by decide +kernel) rfl ?_
  refine g_52 (a := 1) (b := 5) (nx := 16) (by decide +kernel) h0 ?_
  refine g_5 (a := 2) (b := 0) (nx := 17) (by decide +kernel) rfl ?_
  refine g_7 (a := 0) (b := 0) (nx := 18) (by decide +kernel) rfl ?_
  refine g_52 (a := 1) (b := 5) (nx := 21) (by decide +kernel) h0 ?_
  refine g_50 (a := 5) (b := 1) (nx := 24) (by decide +kernel) h.1 ?_
  replace h := h.2
  refine g_5 (a := 2) (b := 0) (nx := 25) (by decide +kernel) rfl ?_
  refine g_16 (a := 0) (b := 0) (nx := 26) (by decide +kernel) ?_
  refine g_80 (a := 83) (b := 2) (nx := 29) (by decide +kernel) (r := (M3 x0 5)) (As := [vI (y2 - y4), vI ((M3 (M3 x0 5) 1) - (y2 - y4))]) (st' := []) (z := 83) rfl rfl rfl (Nat.le_of_ble_eq_true rfl) h.1 (Nat.le_of_ble_eq_true rfl) rfl (c_L (by decide +kernel) h.2 (fun y6 M5 h => ?_))
  exact g_92 (a := 0) (b := 0) (nx := 30) (by decide +kernel) h
-- 32 SyllableMaker$Cut.weight(I)I
theorem t_32 {x0 x1 : Int} {M : Mem} {Q : AV → Mem → Prop} (h0 : gO 1 x0) (h : WI 26 [vR x0, vI x1] M (fun y2 M1 => inR y2 ∧ (if y2 = 2 then ((gO 2 (M1 x0 4)) ∧ WI 27 [vR x0, vI x1] M1 (fun y7 M6 => (gO 2 (M6 x0 4)) ∧ Q (vI ((M1 (M1 x0 4) 11) + (y7 * (M6 (M6 x0 4) 12)))) M6)) else ((gO 2 (M1 x0 4)) ∧ WI 27 [vR x0, vI x1] M1 (fun y5 M4 => (gO 2 (M4 x0 4)) ∧ Q (vI ((M1 (M1 x0 4) 10) + (y5 * (M4 (M4 x0 4) 12)))) M4))))) : WC 32 [vR x0, vI x1] M Q := by
  show WR 32 0 [some (vR x0), some (vI x1), none] [] M Q
  refine g_7 (a := 0) (b := 0) (nx := 1) (by decide +kernel) rfl ?_
  refine g_5 (a := 1) (b := 0) (nx := 2) (by decide +kernel) rfl ?_
  refine g_80 (a := 26) (b := 1) (nx := 5) (by decide +kernel) (r := x0) (As := [vI x1]) (st' := []) (z := 26) rfl rfl rfl (Nat.le_of_ble_eq_true rfl) h0.2 (Nat.le_of_ble_eq_true rfl) rfl (c_I (by decide +kernel) h (fun y2 M1 h => ?_))
  refine g_1 (a := 2) (b := 0) (nx := 6) (by decide +kernel) ?_
  obtain ⟨r3, h⟩ := h
  by_cases c8 : y2 = 2
  · rw [if_pos c8] at h
    refine g_41f (a := 1) (b := 19) (nx := 9) (by decide +kernel) (by rw [wr_id r3, wr_id (show inR 2 by decide)]; exact fun hz => ((cb_1 _ _).mp hz) c8) ?_
    refine g_7 (a := 0) (b := 0) (nx := 10) (by decide +kernel) rfl ?_
    refine g_52 (a := 1) (b := 4) (nx := 13) (by decide +kernel) h0 ?_
    refine g_50 (a := 2) (b := 11) (nx := 16) (by decide +kernel) h.1 ?_
    replace h := h.2
    refine g_44 (a := 0) (b := 26) (nx := 19) (by decide +kernel) ?_
    refine g_8 (a := 2) (b := 0) (nx := 27) (by decide +kernel) rfl (ls' := [some (vR x0), some (vI x1), some (vI (M1 (M1 x0 4) 11))]) rfl ?_
    refine g_5 (a := 2) (b := 0) (nx := 28) (by decide +kernel) rfl ?_
    refine g_7 (a := 0) (b := 0) (nx := 29) (by decide +kernel) rfl ?_
    refine g_5 (a := 1) (b := 0) (nx := 30) (by decide +kernel) rfl ?_
    refine g_80 (a := 27) (b := 1) (nx := 33) (by decide +kernel) (r := x0) (As := [vI x1]) (st' := [vI (M1 (M1 x0 4) 11)]) (z := 27) rfl rfl rfl (Nat.le_of_ble_eq_true rfl) h0.2 (Nat.le_of_ble_eq_true rfl) rfl (c_I (by decide +kernel) h (fun y7 M6 h => ?_))
    refine g_7 (a := 0) (b := 0) (nx := 34) (by decide +kernel) rfl ?_
    refine g_52 (a := 1) (b := 4) (nx := 37) (by decide +kernel) h0 ?_
    refine g_50 (a := 2) (b := 12) (nx := 40) (by decide +kernel) h.1 ?_
    replace h := h.2
    refine g_17 (a := 0) (b := 0) (nx := 41) (by decide +kernel) ?_
    refine g_15 (a := 0) (b := 0) (nx := 42) (by decide +kernel) ?_
    exact g_91 (b := 0) (nx := 43) (by decide +kernel) h
  · rw [if_neg c8] at h
    refine g_41t (a := 1) (b := 19) (nx := 9) (by decide +kernel) (by rw [wr_id r3, wr_id (show inR 2 by decide)]; exact (cb_1 _ _).mpr c8) ?_
    refine g_7 (a := 0) (b := 0) (nx := 20) (by decide +kernel) rfl ?_
    refine g_52 (a := 1) (b := 4) (nx := 23) (by decide +kernel) h0 ?_
    refine g_50 (a := 2) (b := 10) (nx := 26) (by decide +kernel) h.1 ?_
    replace h := h.2
    refine g_8 (a := 2) (b := 0) (nx := 27) (by decide +kernel) rfl (ls' := [some (vR x0), some (vI x1), some (vI (M1 (M1 x0 4) 10))]) rfl ?_
    refine g_5 (a := 2) (b := 0) (nx := 28) (by decide +kernel) rfl ?_
    refine g_7 (a := 0) (b := 0) (nx := 29) (by decide +kernel) rfl ?_
    refine g_5 (a := 1) (b := 0) (nx := 30) (by decide +kernel) rfl ?_
    refine g_80 (a := 27) (b := 1) (nx := 33) (by decide +kernel) (r := x0) (As := [vI x1]) (st' := [vI (M1 (M1 x0 4) 10)]) (z := 27) rfl rfl rfl (Nat.le_of_ble_eq_true rfl) h0.2 (Nat.le_of_ble_eq_true rfl) rfl (c_I (by decide +kernel) h (fun y5 M4 h => ?_))
    refine g_7 (a := 0) (b := 0) (nx := 34) (by decide +kernel) rfl ?_
    refine g_52 (a := 1) (b := 4) (nx := 37) (by decide +kernel) h0 ?_
    refine g_50 (a := 2) (b := 12) (nx := 40) (by decide +kernel) h.1 ?_
    replace h := h.2
    refine g_17 (a := 0) (b := 0) (nx := 41) (by decide +kernel) ?_
    refine g_15 (a := 0) (b := 0) (nx := 42) (by decide +kernel) ?_
    exact g_91 (b := 0) (nx := 43) (by decide +kernel) h
-- 33 SyllableMaker$Cut.isHeavy(I)Z
theorem t_33 {x0 x1 : Int} {M : Mem} {Q : AV → Mem → Prop} (h0 : gO 1 x0) (h : WI 32 [vR x0, vI x1] M (fun y2 M1 => (gO 2 (M1 x0 4)) ∧ inR y2 ∧ (inR (M1 (M1 x0 4) 13) ∧ (if y2 < (M1 (M1 x0 4) 13) then (Q (vI 0) M1) else (Q (vI 1) M1))))) : WC 33 [vR x0, vI x1] M Q := by
  show WR 33 0 [some (vR x0), some (vI x1)] [] M Q
  refine g_7 (a := 0) (b := 0) (nx := 1) (by decide +kernel) rfl ?_
  refine g_5 (a := 1) (b := 0) (nx := 2) (by decide +kernel) rfl ?_
  refine g_80 (a := 32) (b := 1) (nx := 5) (by decide +kernel) (r := x0) (As := [vI x1]) (st' := []) (z := 32) rfl rfl rfl (Nat.le_of_ble_eq_true rfl) h0.2 (Nat.le_of_ble_eq_true rfl) rfl (c_I (by decide +kernel) h (fun y2 M1 h => ?_))
  refine g_7 (a := 0) (b := 0) (nx := 6) (by decide +kernel) rfl ?_
  refine g_52 (a := 1) (b := 4) (nx := 9) (by decide +kernel) h0 ?_
  refine g_50 (a := 2) (b := 13) (nx := 12) (by decide +kernel) h.1 ?_
  replace h := h.2
  obtain ⟨r3, h⟩ := h
  obtain ⟨r4, h⟩ := h
  by_cases c5 : y2 < (M1 (M1 x0 4) 13)
  · rw [if_pos c5] at h
    refine g_41t (a := 2) (b := 19) (nx := 15) (by decide +kernel) (by rw [wr_id r3, wr_id r4]; exact (cb_2 _ _).mpr c5) ?_
    refine g_1 (a := 0) (b := 0) (nx := 20) (by decide +kernel) ?_
    exact g_91z (b := 0) (nx := 21) (by decide +kernel) (by decide) h
  · rw [if_neg c5] at h
    refine g_41f (a := 2) (b := 19) (nx := 15) (by decide +kernel) (by rw [wr_id r3, wr_id r4]; exact fun hz => c5 ((cb_2 _ _).mp hz)) ?_
    refine g_1 (a := 1) (b := 0) (nx := 16) (by decide +kernel) ?_
    refine g_44 (a := 0) (b := 20) (nx := 19) (by decide +kernel) ?_
    exact g_91z (b := 0) (nx := 21) (by decide +kernel) (by decide) h
-- 34 SyllableMaker$Cut.countHeavy()I
theorem t_34 {x0 : Int} {M : Mem} {Q : AV → Mem → Prop} (h0 : gO 1 x0) (h : WR 34 4 [some (vR x0), some (vI 0), some (vI 0)] [] M Q) : WC 34 [vR x0] M Q := by
  show WR 34 0 [some (vR x0), none, none] [] M Q
  refine g_1 (a := 0) (b := 0) (nx := 1) (by decide +kernel) ?_
  refine g_8 (a := 1) (b := 0) (nx := 2) (by decide +kernel) rfl (ls' := [some (vR x0), some (vI 0), none]) rfl ?_
  refine g_1 (a := 0) (b := 0) (nx := 3) (by decide +kernel) ?_
  refine g_8 (a := 2) (b := 0) (nx := 4) (by decide +kernel) rfl (ls' := [some (vR x0), some (vI 0), some (vI 0)]) rfl ?_
  exact h
theorem t_34_4 {x0 x1 x2 : Int} {M : Mem} {Q : AV → Mem → Prop} (h0 : gO 1 x0) (h : inR x2 ∧ (inR (M x0 9) ∧ (if (M x0 9) ≤ x2 then (Q (vI x1) M) else (WI 33 [vR x0, vI x2] M (fun y4 M3 => inR y4 ∧ (if y4 = 0 then (WR 34 4 [some (vR x0), some (vI (x1 + 0)), some (vI (x2 + 1))] [] M3 Q) else (WR 34 4 [some (vR x0), some (vI (x1 + 1)), some (vI (x2 + 1))] [] M3 Q))))))) : WR 34 4 [some (vR x0), some (vI x1), some (vI x2)] [] M Q := by
  refine g_5 (a := 2) (b := 0) (nx := 5) (by decide +kernel) rfl ?_
  refine g_7 (a := 0) (b := 0) (nx := 6) (by decide +kernel) rfl ?_
  refine g_50 (a := 1) (b := 9) (nx := 9) (by decide +kernel) h0 ?_
  obtain ⟨r1, h⟩ := h
  obtain ⟨r2, h⟩ := h
  by_cases c7 : (M x0 9) ≤ x2
  · rw [if_pos c7] at h
    refine g_41t (a := 3) (b := 34) (nx := 12) (by decide +kernel) (by rw [wr_id r1, wr_id r2]; exact (cb_3 _ _).mpr c7) ?_
    refine g_5 (a := 1) (b := 0) (nx := 35) (by decide +kernel) rfl ?_
    exact g_91 (b := 0) (nx := 36) (by decide +kernel) h
  · rw [if_neg c7] at h
    refine g_41f (a := 3) (b := 34) (nx := 12) (by decide +kernel) (by rw [wr_id r1, wr_id r2]; exact fun hz => c7 ((cb_3 _ _).mp hz)) ?_
    refine g_5 (a := 1) (b := 0) (nx := 13) (by decide +kernel) rfl ?_
    refine g_7 (a := 0) (b := 0) (nx := 14) (by decide +kernel) rfl ?_
    refine g_5 (a := 2) (b := 0) (nx := 15) (by decide +kernel) rfl ?_
    refine g_80 (a := 33) (b := 1) (nx := 18) (by decide +kernel) (r := x0) (As := [vI x2]) (st' := [vI x1]) (z := 33) rfl rfl rfl (Nat.le_of_ble_eq_true rfl) h0.2 (Nat.le_of_ble_eq_true rfl) rfl (c_I (by decide +kernel) h (fun y4 M3 h => ?_))
    obtain ⟨r5, h⟩ := h
    by_cases c6 : y4 = 0
    · rw [if_pos c6] at h
      refine g_40t (a := 0) (b := 25) (nx := 21) (by decide +kernel) r5 (by exact (cb_0 _ _).mpr c6) ?_
      refine g_1 (a := 0) (b := 0) (nx := 26) (by decide +kernel) ?_
      refine g_15 (a := 0) (b := 0) (nx := 27) (by decide +kernel) ?_
      refine g_8 (a := 1) (b := 0) (nx := 28) (by decide +kernel) rfl (ls' := [some (vR x0), some (vI (x1 + 0)), some (vI x2)]) rfl ?_
      refine g_11 (a := 2) (b := 1) (nx := 31) (by decide +kernel) rfl rfl (ls' := [some (vR x0), some (vI (x1 + 0)), some (vI (x2 + 1))]) rfl ?_
      refine g_44 (a := 0) (b := 4) (nx := 34) (by decide +kernel) ?_
      exact h
    · rw [if_neg c6] at h
      refine g_40f (a := 0) (b := 25) (nx := 21) (by decide +kernel) r5 (by exact fun hz => c6 ((cb_0 _ _).mp hz)) ?_
      refine g_1 (a := 1) (b := 0) (nx := 22) (by decide +kernel) ?_
      refine g_44 (a := 0) (b := 26) (nx := 25) (by decide +kernel) ?_
      refine g_15 (a := 0) (b := 0) (nx := 27) (by decide +kernel) ?_
      refine g_8 (a := 1) (b := 0) (nx := 28) (by decide +kernel) rfl (ls' := [some (vR x0), some (vI (x1 + 1)), some (vI x2)]) rfl ?_
      refine g_11 (a := 2) (b := 1) (nx := 31) (by decide +kernel) rfl rfl (ls' := [some (vR x0), some (vI (x1 + 1)), some (vI (x2 + 1))]) rfl ?_
      refine g_44 (a := 0) (b := 4) (nx := 34) (by decide +kernel) ?_
      exact h
-- 35 SyllableMaker$Cut.costOf(I)I
theorem t_35 {x0 x1 : Int} {M : Mem} {Q : AV → Mem → Prop} (h0 : gO 1 x0) (h : WI 27 [vR x0, vI x1] M (fun y2 M1 => ((shA SH (M1 x0 4)).1 = 2) ∧ WI 41 [vR (M1 x0 4), vI 1] M1 (fun y4 M3 => WL 28 [vR x0, vI x1] M3 (fun y6 M5 => ((shA SH (M3 x0 4)).1 = 2) ∧ WI 48 [vR (M3 x0 4), vL y6] M5 (fun y8 M7 => WI 25 [vR x0, vI x1] M7 (fun y10 M9 => inR y10 ∧ (if y10 = 0 then (((shA SH (M9 x0 4)).1 = 2) ∧ WI 41 [vR (M9 x0 4), vI 0] M9 (fun y116 M115 => WL 30 [vR x0, vI x1] M115 (fun y118 M117 => ((shA SH (M115 x0 4)).1 = 2) ∧ WI 50 [vR (M115 x0 4), vL y118] M117 (fun y120 M119 => inR y120 ∧ (if y120 = 0 then (((shA SH (M119 x0 4)).1 = 2) ∧ WI 41 [vR (M119 x0 4), vI 4] M119 (fun y135 M134 => inR x1 ∧ (if x1 ≤ 0 then (Q (vI (((y2 * y4) + y116) + y135)) M134) else (WI 33 [vR x0, vI (x1 - 1)] M134 (fun y138 M137 => inR y138 ∧ (if y138 = 0 then (Q (vI (((y2 * y4) + y116) + y135)) M137) else (WI 33 [vR x0, vI x1] M137 (fun y141 M140 => inR y141 ∧ (if y141 = 0 then (Q (vI (((y2 * y4) + y116) + y135)) M140) else (((shA SH (M140 x0 4)).1 = 2) ∧ WI 41 [vR (M140 x0 4), vI 5] M140 (fun y144 M143 => Q (vI ((((y2 * y4) + y116) + y135) + y144)) M143))))))))))) else (inR x1 ∧ (if x1 ≤ 0 then (Q (vI ((y2 * y4) + y116)) M119) else (WI 33 [vR x0, vI (x1 - 1)] M119 (fun y124 M123 => inR y124 ∧ (if y124 = 0 then (Q (vI ((y2 * y4) + y116)) M123) else (WI 33 [vR x0, vI x1] M123 (fun y127 M126 => inR y127 ∧ (if y127 = 0 then (Q (vI ((y2 * y4) + y116)) M126) else (((shA SH (M126 x0 4)).1 = 2) ∧ WI 41 [vR (M126 x0 4), vI 5] M126 (fun y130 M129 => Q (vI (((y2 * y4) + y116) + y130)) M129))))))))))))))) else (inR y8 ∧ (if y8 = 4 then (((shA SH (M9 x0 4)).1 = 2) ∧ WI 41 [vR (M9 x0 4), vI 2] M9 (fun y81 M80 => WL 30 [vR x0, vI x1] M80 (fun y83 M82 => ((shA SH (M80 x0 4)).1 = 2) ∧ WI 50 [vR (M80 x0 4), vL y83] M82 (fun y85 M84 => inR y85 ∧ (if y85 = 0 then (((shA SH (M84 x0 4)).1 = 2) ∧ WI 41 [vR (M84 x0 4), vI 4] M84 (fun y100 M99 => inR x1 ∧ (if x1 ≤ 0 then (Q (vI (((y2 * y4) + y81) + y100)) M99) else (WI 33 [vR x0, vI (x1 - 1)] M99 (fun y103 M102 => inR y103 ∧ (if y103 = 0 then (Q (vI (((y2 * y4) + y81) + y100)) M102) else (WI 33 [vR x0, vI x1] M102 (fun y106 M105 => inR y106 ∧ (if y106 = 0 then (Q (vI (((y2 * y4) + y81) + y100)) M105) else (((shA SH (M105 x0 4)).1 = 2) ∧ WI 41 [vR (M105 x0 4), vI 5] M105 (fun y109 M108 => Q (vI ((((y2 * y4) + y81) + y100) + y109)) M108))))))))))) else (inR x1 ∧ (if x1 ≤ 0 then (Q (vI ((y2 * y4) + y81)) M84) else (WI 33 [vR x0, vI (x1 - 1)] M84 (fun y89 M88 => inR y89 ∧ (if y89 = 0 then (Q (vI ((y2 * y4) + y81)) M88) else (WI 33 [vR x0, vI x1] M88 (fun y92 M91 => inR y92 ∧ (if y92 = 0 then (Q (vI ((y2 * y4) + y81)) M91) else (((shA SH (M91 x0 4)).1 = 2) ∧ WI 41 [vR (M91 x0 4), vI 5] M91 (fun y95 M94 => Q (vI (((y2 * y4) + y81) + y95)) M94))))))))))))))) else (if y8 = 0 then (((shA SH (M9 x0 4)).1 = 2) ∧ WI 41 [vR (M9 x0 4), vI 3] M9 (fun y46 M45 => WL 30 [vR x0, vI x1] M45 (fun y48 M47 => ((shA SH (M45 x0 4)).1 = 2) ∧ WI 50 [vR (M45 x0 4), vL y48] M47 (fun y50 M49 => inR y50 ∧ (if y50 = 0 then (((shA SH (M49 x0 4)).1 = 2) ∧ WI 41 [vR (M49 x0 4), vI 4] M49 (fun y65 M64 => inR x1 ∧ (if x1 ≤ 0 then (Q (vI (((y2 * y4) + y46) + y65)) M64) else (WI 33 [vR x0, vI (x1 - 1)] M64 (fun y68 M67 => inR y68 ∧ (if y68 = 0 then (Q (vI (((y2 * y4) + y46) + y65)) M67) else (WI 33 [vR x0, vI x1] M67 (fun y71 M70 => inR y71 ∧ (if y71 = 0 then (Q (vI (((y2 * y4) + y46) + y65)) M70) else (((shA SH (M70 x0 4)).1 = 2) ∧ WI 41 [vR (M70 x0 4), vI 5] M70 (fun y74 M73 => Q (vI ((((y2 * y4) + y46) + y65) + y74)) M73))))))))))) else (inR x1 ∧ (if x1 ≤ 0 then (Q (vI ((y2 * y4) + y46)) M49) else (WI 33 [vR x0, vI (x1 - 1)] M49 (fun y54 M53 => inR y54 ∧ (if y54 = 0 then (Q (vI ((y2 * y4) + y46)) M53) else (WI 33 [vR x0, vI x1] M53 (fun y57 M56 => inR y57 ∧ (if y57 = 0 then (Q (vI ((y2 * y4) + y46)) M56) else (((shA SH (M56 x0 4)).1 = 2) ∧ WI 41 [vR (M56 x0 4), vI 5] M56 (fun y60 M59 => Q (vI (((y2 * y4) + y46) + y60)) M59))))))))))))))) else (WL 30 [vR x0, vI x1] M9 (fun y14 M13 => ((shA SH (M9 x0 4)).1 = 2) ∧ WI 50 [vR (M9 x0 4), vL y14] M13 (fun y16 M15 => inR y16 ∧ (if y16 = 0 then (((shA SH (M15 x0 4)).1 = 2) ∧ WI 41 [vR (M15 x0 4), vI 4] M15 (fun y31 M30 => inR x1 ∧ (if x1 ≤ 0 then (Q (vI ((y2 * y4) + y31)) M30) else (WI 33 [vR x0, vI (x1 - 1)] M30 (fun y34 M33 => inR y34 ∧ (if y34 = 0 then (Q (vI ((y2 * y4) + y31)) M33) else (WI 33 [vR x0, vI x1] M33 (fun y37 M36 => inR y37 ∧ (if y37 = 0 then (Q (vI ((y2 * y4) + y31)) M36) else (((shA SH (M36 x0 4)).1 = 2) ∧ WI 41 [vR (M36 x0 4), vI 5] M36 (fun y40 M39 => Q (vI (((y2 * y4) + y31) + y40)) M39))))))))))) else (inR x1 ∧ (if x1 ≤ 0 then (Q (vI (y2 * y4)) M15) else (WI 33 [vR x0, vI (x1 - 1)] M15 (fun y20 M19 => inR y20 ∧ (if y20 = 0 then (Q (vI (y2 * y4)) M19) else (WI 33 [vR x0, vI x1] M19 (fun y23 M22 => inR y23 ∧ (if y23 = 0 then (Q (vI (y2 * y4)) M22) else (((shA SH (M22 x0 4)).1 = 2) ∧ WI 41 [vR (M22 x0 4), vI 5] M22 (fun y26 M25 => Q (vI ((y2 * y4) + y26)) M25)))))))))))))))))))))))) : WC 35 [vR x0, vI x1] M Q := by
  show WR 35 0 [some (vR x0), some (vI x1), none, none] [] M Q
  refine g_7 (a := 0) (b := 0) (nx := 1) (by decide +kernel) rfl ?_
  refine g_5 (a := 1) (b := 0) (nx := 2) (by decide +kernel) rfl ?_
  refine g_80 (a := 27) (b := 1) (nx := 5) (by decide +kernel) (r := x0) (As := [vI x1]) (st' := []) (z := 27) rfl rfl rfl (Nat.le_of_ble_eq_true rfl) h0.2 (Nat.le_of_ble_eq_true rfl) rfl (c_I (by decide +kernel) h (fun y2 M1 h => ?_))
  refine g_7 (a := 0) (b := 0) (nx := 6) (by decide +kernel) rfl ?_
  refine g_52 (a := 1) (b := 4) (nx := 9) (by decide +kernel) h0 ?_
  refine g_1 (a := 1) (b := 0) (nx := 10) (by decide +kernel) ?_
  refine g_80 (a := 41) (b := 1) (nx := 13) (by decide +kernel) (r := (M1 x0 4)) (As := [vI 1]) (st' := [vI y2]) (z := 41) rfl rfl rfl (Nat.le_of_ble_eq_true rfl) h.1 (Nat.le_of_ble_eq_true rfl) rfl (c_I (by decide +kernel) h.2 (fun y4 M3 h => ?_))
  refine g_17 (a := 0) (b := 0) (nx := 14) (by decide +kernel) ?_
  refine g_8 (a := 2) (b := 0) (nx := 15) (by decide +kernel) rfl (ls' := [some (vR x0), some (vI x1), some (vI (y2 * y4)), none]) rfl ?_
  refine g_7 (a := 0) (b := 0) (nx := 16) (by decide +kernel) rfl ?_
  refine g_52 (a := 1) (b := 4) (nx := 19) (by decide +kernel) h0 ?_
  refine g_7 (a := 0) (b := 0) (nx := 20) (by decide +kernel) rfl ?_
  refine g_5 (a := 1) (b := 0) (nx := 21) (by decide +kernel) rfl ?_
  refine g_80 (a := 28) (b := 1) (nx := 24) (by decide +kernel) (r := x0) (As := [vI x1]) (st' := [vR (M3 x0 4)]) (z := 28) rfl rfl rfl (Nat.le_of_ble_eq_true rfl) h0.2 (Nat.le_of_ble_eq_true rfl) rfl (c_L (by decide +kernel) h (fun y6 M5 h => ?_))
  refine g_80 (a := 48) (b := 1) (nx := 27) (by decide +kernel) (r := (M3 x0 4)) (As := [vL y6]) (st' := []) (z := 48) rfl rfl rfl (Nat.le_of_ble_eq_true rfl) h.1 (Nat.le_of_ble_eq_true rfl) rfl (c_I (by decide +kernel) h.2 (fun y8 M7 h => ?_))
  refine g_8 (a := 3) (b := 0) (nx := 28) (by decide +kernel) rfl (ls' := [some (vR x0), some (vI x1), some (vI (y2 * y4)), some (vI y8)]) rfl ?_
  refine g_7 (a := 0) (b := 0) (nx := 29) (by decide +kernel) rfl ?_
  refine g_5 (a := 1) (b := 0) (nx := 30) (by decide +kernel) rfl ?_
  refine g_80 (a := 25) (b := 1) (nx := 33) (by decide +kernel) (r := x0) (As := [vI x1]) (st' := []) (z := 25) rfl rfl rfl (Nat.le_of_ble_eq_true rfl) h0.2 (Nat.le_of_ble_eq_true rfl) rfl (c_I (by decide +kernel) h (fun y10 M9 h => ?_))
  obtain ⟨r11, h⟩ := h
  by_cases c149 : y10 = 0
  · rw [if_pos c149] at h
    refine g_40f (a := 1) (b := 50) (nx := 36) (by decide +kernel) r11 (by exact fun hz => ((cb_1 _ _).mp hz) c149) ?_
    refine g_5 (a := 2) (b := 0) (nx := 37) (by decide +kernel) rfl ?_
    refine g_7 (a := 0) (b := 0) (nx := 38) (by decide +kernel) rfl ?_
    refine g_52 (a := 1) (b := 4) (nx := 41) (by decide +kernel) h0 ?_
    refine g_1 (a := 0) (b := 0) (nx := 42) (by decide +kernel) ?_
    refine g_80 (a := 41) (b := 1) (nx := 45) (by decide +kernel) (r := (M9 x0 4)) (As := [vI 0]) (st' := [vI (y2 * y4)]) (z := 41) rfl rfl rfl (Nat.le_of_ble_eq_true rfl) h.1 (Nat.le_of_ble_eq_true rfl) rfl (c_I (by decide +kernel) h.2 (fun y116 M115 h => ?_))
    refine g_15 (a := 0) (b := 0) (nx := 46) (by decide +kernel) ?_
    refine g_8 (a := 2) (b := 0) (nx := 47) (by decide +kernel) rfl (ls' := [some (vR x0), some (vI x1), some (vI ((y2 * y4) + y116)), some (vI y8)]) rfl ?_
    refine g_44 (a := 0) (b := 84) (nx := 50) (by decide +kernel) ?_
    refine g_7 (a := 0) (b := 0) (nx := 85) (by decide +kernel) rfl ?_
    refine g_52 (a := 1) (b := 4) (nx := 88) (by decide +kernel) h0 ?_
    refine g_7 (a := 0) (b := 0) (nx := 89) (by decide +kernel) rfl ?_
    refine g_5 (a := 1) (b := 0) (nx := 90) (by decide +kernel) rfl ?_
    refine g_80 (a := 30) (b := 1) (nx := 93) (by decide +kernel) (r := x0) (As := [vI x1]) (st' := [vR (M115 x0 4)]) (z := 30) rfl rfl rfl (Nat.le_of_ble_eq_true rfl) h0.2 (Nat.le_of_ble_eq_true rfl) rfl (c_L (by decide +kernel) h (fun y118 M117 h => ?_))
    refine g_80 (a := 50) (b := 1) (nx := 96) (by decide +kernel) (r := (M115 x0 4)) (As := [vL y118]) (st' := []) (z := 50) rfl rfl rfl (Nat.le_of_ble_eq_true rfl) h.1 (Nat.le_of_ble_eq_true rfl) rfl (c_I (by decide +kernel) h.2 (fun y120 M119 h => ?_))
    obtain ⟨r121, h⟩ := h
    by_cases c148 : y120 = 0
    · rw [if_pos c148] at h
      refine g_40f (a := 1) (b := 110) (nx := 99) (by decide +kernel) r121 (by exact fun hz => ((cb_1 _ _).mp hz) c148) ?_
      refine g_5 (a := 2) (b := 0) (nx := 100) (by decide +kernel) rfl ?_
      refine g_7 (a := 0) (b := 0) (nx := 101) (by decide +kernel) rfl ?_
      refine g_52 (a := 1) (b := 4) (nx := 104) (by decide +kernel) h0 ?_
      refine g_1 (a := 4) (b := 0) (nx := 105) (by decide +kernel) ?_
      refine g_80 (a := 41) (b := 1) (nx := 108) (by decide +kernel) (r := (M119 x0 4)) (As := [vI 4]) (st' := [vI ((y2 * y4) + y116)]) (z := 41) rfl rfl rfl (Nat.le_of_ble_eq_true rfl) h.1 (Nat.le_of_ble_eq_true rfl) rfl (c_I (by decide +kernel) h.2 (fun y135 M134 h => ?_))
      refine g_15 (a := 0) (b := 0) (nx := 109) (by decide +kernel) ?_
      refine g_8 (a := 2) (b := 0) (nx := 110) (by decide +kernel) rfl (ls' := [some (vR x0), some (vI x1), some (vI (((y2 * y4) + y116) + y135)), some (vI y8)]) rfl ?_
      refine g_5 (a := 1) (b := 0) (nx := 111) (by decide +kernel) rfl ?_
      obtain ⟨r136, h⟩ := h
      by_cases c147 : x1 ≤ 0
      · rw [if_pos c147] at h
        refine g_40t (a := 5) (b := 143) (nx := 114) (by decide +kernel) r136 (by exact (cb_5 _ _).mpr c147) ?_
        refine g_5 (a := 2) (b := 0) (nx := 144) (by decide +kernel) rfl ?_
        exact g_91 (b := 0) (nx := 145) (by decide +kernel) h
      · rw [if_neg c147] at h
        refine g_40f (a := 5) (b := 143) (nx := 114) (by decide +kernel) r136 (by exact fun hz => c147 ((cb_5 _ _).mp hz)) ?_
        refine g_7 (a := 0) (b := 0) (nx := 115) (by decide +kernel) rfl ?_
        refine g_5 (a := 1) (b := 0) (nx := 116) (by decide +kernel) rfl ?_
        refine g_1 (a := 1) (b := 0) (nx := 117) (by decide +kernel) ?_
        refine g_16 (a := 0) (b := 0) (nx := 118) (by decide +kernel) ?_
        refine g_80 (a := 33) (b := 1) (nx := 121) (by decide +kernel) (r := x0) (As := [vI (x1 - 1)]) (st' := []) (z := 33) rfl rfl rfl (Nat.le_of_ble_eq_true rfl) h0.2 (Nat.le_of_ble_eq_true rfl) rfl (c_I (by decide +kernel) h (fun y138 M137 h => ?_))
        obtain ⟨r139, h⟩ := h
        by_cases c146 : y138 = 0
        · rw [if_pos c146] at h
          refine g_40t (a := 0) (b := 143) (nx := 124) (by decide +kernel) r139 (by exact (cb_0 _ _).mpr c146) ?_
          refine g_5 (a := 2) (b := 0) (nx := 144) (by decide +kernel) rfl ?_
          exact g_91 (b := 0) (nx := 145) (by decide +kernel) h
        · rw [if_neg c146] at h
          refine g_40f (a := 0) (b := 143) (nx := 124) (by decide +kernel) r139 (by exact fun hz => c146 ((cb_0 _ _).mp hz)) ?_
          refine g_7 (a := 0) (b := 0) (nx := 125) (by decide +kernel) rfl ?_
          refine g_5 (a := 1) (b := 0) (nx := 126) (by decide +kernel) rfl ?_
          refine g_80 (a := 33) (b := 1) (nx := 129) (by decide +kernel) (r := x0) (As := [vI x1]) (st' := []) (z := 33) rfl rfl rfl (Nat.le_of_ble_eq_true rfl) h0.2 (Nat.le_of_ble_eq_true rfl) rfl (c_I (by decide +kernel) h (fun y141 M140 h => ?_))
          obtain ⟨r142, h⟩ := h
          by_cases c145 : y141 = 0
          · rw [if_pos c145] at h
            refine g_40t (a := 0) (b := 143) (nx := 132) (by decide +kernel) r142 (by exact (cb_0 _ _).mpr c145) ?_
            refine g_5 (a := 2) (b := 0) (nx := 144) (by decide +kernel) rfl ?_
            exact g_91 (b := 0) (nx := 145) (by decide +kernel) h
          · rw [if_neg c145] at h
            refine g_40f (a := 0) (b := 143) (nx := 132) (by decide +kernel) r142 (by exact fun hz => c145 ((cb_0 _ _).mp hz)) ?_
            refine g_5 (a := 2) (b := 0) (nx := 133) (by decide +kernel) rfl ?_
            refine g_7 (a := 0) (b := 0) (nx := 134) (by decide +kernel) rfl ?_
            refine g_52 (a := 1) (b := 4) (nx := 137) (by decide +kernel) h0 ?_
            refine g_1 (a := 5) (b := 0) (nx := 138) (by decide +kernel) ?_
            refine g_80 (a := 41) (b := 1) (nx := 141) (by decide +kernel) (r := (M140 x0 4)) (As := [vI 5]) (st' := [vI (((y2 * y4) + y116) + y135)]) (z := 41) rfl rfl rfl (Nat.le_of_ble_eq_true rfl) h.1 (Nat.le_of_ble_eq_true rfl) rfl (c_I (by decide +kernel) h.2 (fun y144 M143 h => ?_))
            refine g_15 (a := 0) (b := 0) (nx := 142) (by decide +kernel) ?_
            refine g_8 (a := 2) (b := 0) (nx := 143) (by decide +kernel) rfl (ls' := [some (vR x0), some (vI x1), some (vI ((((y2 * y4) + y116) + y135) + y144)), some (vI y8)]) rfl ?_
            refine g_5 (a := 2) (b := 0) (nx := 144) (by decide +kernel) rfl ?_
            exact g_91 (b := 0) (nx := 145) (by decide +kernel) h
    · rw [if_neg c148] at h
      refine g_40t (a := 1) (b := 110) (nx := 99) (by decide +kernel) r121 (by exact (cb_1 _ _).mpr c148) ?_
      refine g_5 (a := 1) (b := 0) (nx := 111) (by decide +kernel) rfl ?_
      obtain ⟨r122, h⟩ := h
      by_cases c133 : x1 ≤ 0
      · rw [if_pos c133] at h
        refine g_40t (a := 5) (b := 143) (nx := 114) (by decide +kernel) r122 (by exact (cb_5 _ _).mpr c133) ?_
        refine g_5 (a := 2) (b := 0) (nx := 144) (by decide +kernel) rfl ?_
        exact g_91 (b := 0) (nx := 145) (by decide +kernel) h
      · rw [if_neg c133] at h
        refine g_40f (a := 5) (b := 143) (nx := 114) (by decide +kernel) r122 (by exact fun hz => c133 ((cb_5 _ _).mp hz)) ?_
        refine g_7 (a := 0) (b := 0) (nx := 115) (by decide +kernel) rfl ?_
        refine g_5 (a := 1) (b := 0) (nx := 116) (by decide +kernel) rfl ?_
        refine g_1 (a := 1) (b := 0) (nx := 117) (by decide +kernel) ?_
        refine g_16 (a := 0) (b := 0) (nx := 118) (by decide +kernel) ?_
        refine g_80 (a := 33) (b := 1) (nx := 121) (by decide +kernel) (r := x0) (As := [vI (x1 - 1)]) (st' := []) (z := 33) rfl rfl rfl (Nat.le_of_ble_eq_true rfl) h0.2 (Nat.le_of_ble_eq_true rfl) rfl (c_I (by decide +kernel) h (fun y124 M123 h => ?_))
        obtain ⟨r125, h⟩ := h
        by_cases c132 : y124 = 0
        · rw [if_pos c132] at h
          refine g_40t (a := 0) (b := 143) (nx := 124) (by decide +kernel) r125 (by exact (cb_0 _ _).mpr c132) ?_
          refine g_5 (a := 2) (b := 0) (nx := 144) (by decide +kernel) rfl ?_
          exact g_91 (b := 0) (nx := 145) (by decide +kernel) h
        · rw [if_neg c132] at h
          refine g_40f (a := 0) (b := 143) (nx := 124) (by decide +kernel) r125 (by exact fun hz => c132 ((cb_0 _ _).mp hz)) ?_
          refine g_7 (a := 0) (b := 0) (nx := 125) (by decide +kernel) rfl ?_
          refine g_5 (a := 1) (b := 0) (nx := 126) (by decide +kernel) rfl ?_
          refine g_80 (a := 33) (b := 1) (nx := 129) (by decide +kernel) (r := x0) (As := [vI x1]) (st' := []) (z := 33) rfl rfl rfl (Nat.le_of_ble_eq_true rfl) h0.2 (Nat.le_of_ble_eq_true rfl) rfl (c_I (by decide +kernel) h (fun y127 M126 h => ?_))
          obtain ⟨r128, h⟩ := h
          by_cases c131 : y127 = 0
          · rw [if_pos c131] at h
            refine g_40t (a := 0) (b := 143) (nx := 132) (by decide +kernel) r128 (by exact (cb_0 _ _).mpr c131) ?_
            refine g_5 (a := 2) (b := 0) (nx := 144) (by decide +kernel) rfl ?_
            exact g_91 (b := 0) (nx := 145) (by decide +kernel) h
          · rw [if_neg c131] at h
            refine g_40f (a := 0) (b := 143) (nx := 132) (by decide +kernel) r128 (by exact fun hz => c131 ((cb_0 _ _).mp hz)) ?_
            refine g_5 (a := 2) (b := 0) (nx := 133) (by decide +kernel) rfl ?_
            refine g_7 (a := 0) (b := 0) (nx := 134) (by decide +kernel) rfl ?_
            refine g_52 (a := 1) (b := 4) (nx := 137) (by decide +kernel) h0 ?_
            refine g_1 (a := 5) (b := 0) (nx := 138) (by decide +kernel) ?_
            refine g_80 (a := 41) (b := 1) (nx := 141) (by decide +kernel) (r := (M126 x0 4)) (As := [vI 5]) (st' := [vI ((y2 * y4) + y116)]) (z := 41) rfl rfl rfl (Nat.le_of_ble_eq_true rfl) h.1 (Nat.le_of_ble_eq_true rfl) rfl (c_I (by decide +kernel) h.2 (fun y130 M129 h => ?_))
            refine g_15 (a := 0) (b := 0) (nx := 142) (by decide +kernel) ?_
            refine g_8 (a := 2) (b := 0) (nx := 143) (by decide +kernel) rfl (ls' := [some (vR x0), some (vI x1), some (vI (((y2 * y4) + y116) + y130)), some (vI y8)]) rfl ?_
            refine g_5 (a := 2) (b := 0) (nx := 144) (by decide +kernel) rfl ?_
            exact g_91 (b := 0) (nx := 145) (by decide +kernel) h
  · rw [if_neg c149] at h
    refine g_40t (a := 1) (b := 50) (nx := 36) (by decide +kernel) r11 (by exact (cb_1 _ _).mpr c149) ?_
    refine g_5 (a := 3) (b := 0) (nx := 51) (by decide +kernel) rfl ?_
    refine g_1 (a := 4) (b := 0) (nx := 52) (by decide +kernel) ?_
    obtain ⟨r12, h⟩ := h
    by_cases c114 : y8 = 4
    · rw [if_pos c114] at h
      refine g_41f (a := 1) (b := 69) (nx := 55) (by decide +kernel) (by rw [wr_id r12, wr_id (show inR 4 by decide)]; exact fun hz => ((cb_1 _ _).mp hz) c114) ?_
      refine g_5 (a := 2) (b := 0) (nx := 56) (by decide +kernel) rfl ?_
      refine g_7 (a := 0) (b := 0) (nx := 57) (by decide +kernel) rfl ?_
      refine g_52 (a := 1) (b := 4) (nx := 60) (by decide +kernel) h0 ?_
      refine g_1 (a := 2) (b := 0) (nx := 61) (by decide +kernel) ?_
      refine g_80 (a := 41) (b := 1) (nx := 64) (by decide +kernel) (r := (M9 x0 4)) (As := [vI 2]) (st' := [vI (y2 * y4)]) (z := 41) rfl rfl rfl (Nat.le_of_ble_eq_true rfl) h.1 (Nat.le_of_ble_eq_true rfl) rfl (c_I (by decide +kernel) h.2 (fun y81 M80 h => ?_))
      refine g_15 (a := 0) (b := 0) (nx := 65) (by decide +kernel) ?_
      refine g_8 (a := 2) (b := 0) (nx := 66) (by decide +kernel) rfl (ls' := [some (vR x0), some (vI x1), some (vI ((y2 * y4) + y81)), some (vI y8)]) rfl ?_
      refine g_44 (a := 0) (b := 84) (nx := 69) (by decide +kernel) ?_
      refine g_7 (a := 0) (b := 0) (nx := 85) (by decide +kernel) rfl ?_
      refine g_52 (a := 1) (b := 4) (nx := 88) (by decide +kernel) h0 ?_
      refine g_7 (a := 0) (b := 0) (nx := 89) (by decide +kernel) rfl ?_
      refine g_5 (a := 1) (b := 0) (nx := 90) (by decide +kernel) rfl ?_
      refine g_80 (a := 30) (b := 1) (nx := 93) (by decide +kernel) (r := x0) (As := [vI x1]) (st' := [vR (M80 x0 4)]) (z := 30) rfl rfl rfl (Nat.le_of_ble_eq_true rfl) h0.2 (Nat.le_of_ble_eq_true rfl) rfl (c_L (by decide +kernel) h (fun y83 M82 h => ?_))
      refine g_80 (a := 50) (b := 1) (nx := 96) (by decide +kernel) (r := (M80 x0 4)) (As := [vL y83]) (st' := []) (z := 50) rfl rfl rfl (Nat.le_of_ble_eq_true rfl) h.1 (Nat.le_of_ble_eq_true rfl) rfl (c_I (by decide +kernel) h.2 (fun y85 M84 h => ?_))
      obtain ⟨r86, h⟩ := h
      by_cases c113 : y85 = 0
      · rw [if_pos c113] at h
        refine g_40f (a := 1) (b := 110) (nx := 99) (by decide +kernel) r86 (by exact fun hz => ((cb_1 _ _).mp hz) c113) ?_
        refine g_5 (a := 2) (b := 0) (nx := 100) (by decide +kernel) rfl ?_
        refine g_7 (a := 0) (b := 0) (nx := 101) (by decide +kernel) rfl ?_
        refine g_52 (a := 1) (b := 4) (nx := 104) (by decide +kernel) h0 ?_
        refine g_1 (a := 4) (b := 0) (nx := 105) (by decide +kernel) ?_
        refine g_80 (a := 41) (b := 1) (nx := 108) (by decide +kernel) (r := (M84 x0 4)) (As := [vI 4]) (st' := [vI ((y2 * y4) + y81)]) (z := 41) rfl rfl rfl (Nat.le_of_ble_eq_true rfl) h.1 (Nat.le_of_ble_eq_true rfl) rfl (c_I (by decide +kernel) h.2 (fun y100 M99 h => ?_))
        refine g_15 (a := 0) (b := 0) (nx := 109) (by decide +kernel) ?_
        refine g_8 (a := 2) (b := 0) (nx := 110) (by decide +kernel) rfl (ls' := [some (vR x0), some (vI x1), some (vI (((y2 * y4) + y81) + y100)), some (vI y8)]) rfl ?_
        refine g_5 (a := 1) (b := 0) (nx := 111) (by decide +kernel) rfl ?_
        obtain ⟨r101, h⟩ := h
        by_cases c112 : x1 ≤ 0
        · rw [if_pos c112] at h
          refine g_40t (a := 5) (b := 143) (nx := 114) (by decide +kernel) r101 (by exact (cb_5 _ _).mpr c112) ?_
          refine g_5 (a := 2) (b := 0) (nx := 144) (by decide +kernel) rfl ?_
          exact g_91 (b := 0) (nx := 145) (by decide +kernel) h
        · rw [if_neg c112] at h
          refine g_40f (a := 5) (b := 143) (nx := 114) (by decide +kernel) r101 (by exact fun hz => c112 ((cb_5 _ _).mp hz)) ?_
          refine g_7 (a := 0) (b := 0) (nx := 115) (by decide +kernel) rfl ?_
          refine g_5 (a := 1) (b := 0) (nx := 116) (by decide +kernel) rfl ?_
          refine g_1 (a := 1) (b := 0) (nx := 117) (by decide +kernel) ?_
          refine g_16 (a := 0) (b := 0) (nx := 118) (by decide +kernel) ?_
          refine g_80 (a := 33) (b := 1) (nx := 121) (by decide +kernel) (r := x0) (As := [vI (x1 - 1)]) (st' := []) (z := 33) rfl rfl rfl (Nat.le_of_ble_eq_true rfl) h0.2 (Nat.le_of_ble_eq_true rfl) rfl (c_I (by decide +kernel) h (fun y103 M102 h => ?_))
          obtain ⟨r104, h⟩ := h
          by_cases c111 : y103 = 0
          · rw [if_pos c111] at h
            refine g_40t (a := 0) (b := 143) (nx := 124) (by decide +kernel) r104 (by exact (cb_0 _ _).mpr c111) ?_
            refine g_5 (a := 2) (b := 0) (nx := 144) (by decide +kernel) rfl ?_
            exact g_91 (b := 0) (nx := 145) (by decide +kernel) h
          · rw [if_neg c111] at h
            refine g_40f (a := 0) (b := 143) (nx := 124) (by decide +kernel) r104 (by exact fun hz => c111 ((cb_0 _ _).mp hz)) ?_
            refine g_7 (a := 0) (b := 0) (nx := 125) (by decide +kernel) rfl ?_
            refine g_5 (a := 1) (b := 0) (nx := 126) (by decide +kernel) rfl ?_
            refine g_80 (a := 33) (b := 1) (nx := 129) (by decide +kernel) (r := x0) (As := [vI x1]) (st' := []) (z := 33) rfl rfl rfl (Nat.le_of_ble_eq_true rfl) h0.2 (Nat.le_of_ble_eq_true rfl) rfl (c_I (by decide +kernel) h (fun y106 M105 h => ?_))
            obtain ⟨r107, h⟩ := h
            by_cases c110 : y106 = 0
            · rw [if_pos c110] at h
              refine g_40t (a := 0) (b := 143) (nx := 132) (by decide +kernel) r107 (by exact (cb_0 _ _).mpr c110) ?_
              refine g_5 (a := 2) (b := 0) (nx := 144) (by decide +kernel) rfl ?_
              exact g_91 (b := 0) (nx := 145) (by decide +kernel) h
            · rw [if_neg c110] at h
              refine g_40f (a := 0) (b := 143) (nx := 132) (by decide +kernel) r107 (by exact fun hz => c110 ((cb_0 _ _).mp hz)) ?_
              refine g_5 (a := 2) (b := 0) (nx := 133) (by decide +kernel) rfl ?_
              refine g_7 (a := 0) (b := 0) (nx := 134) (by decide +kernel) rfl ?_
              refine g_52 (a := 1) (b := 4) (nx := 137) (by decide +kernel) h0 ?_
              refine g_1 (a := 5) (b := 0) (nx := 138) (by decide +kernel) ?_
              refine g_80 (a := 41) (b := 1) (nx := 141) (by decide +kernel) (r := (M105 x0 4)) (As := [vI 5]) (st' := [vI (((y2 * y4) + y81) + y100)]) (z := 41) rfl rfl rfl (Nat.le_of_ble_eq_true rfl) h.1 (Nat.le_of_ble_eq_true rfl) rfl (c_I (by decide +kernel) h.2 (fun y109 M108 h => ?_))
              refine g_15 (a := 0) (b := 0) (nx := 142) (by decide +kernel) ?_
              refine g_8 (a := 2) (b := 0) (nx := 143) (by decide +kernel) rfl (ls' := [some (vR x0), some (vI x1), some (vI ((((y2 * y4) + y81) + y100) + y109)), some (vI y8)]) rfl ?_
              refine g_5 (a := 2) (b := 0) (nx := 144) (by decide +kernel) rfl ?_
              exact g_91 (b := 0) (nx := 145) (by decide +kernel) h
      · rw [if_neg c113] at h
        refine g_40t (a := 1) (b := 110) (nx := 99) (by decide +kernel) r86 (by exact (cb_1 _ _).mpr c113) ?_
        refine g_5 (a := 1) (b := 0) (nx := 111) (by decide +kernel) rfl ?_
        obtain ⟨r87, h⟩ := h
        by_cases c98 : x1 ≤ 0
        · rw [if_pos c98] at h
          refine g_40t (a := 5) (b := 143) (nx := 114) (by decide +kernel) r87 (by exact (cb_5 _ _).mpr c98) ?_
          refine g_5 (a := 2) (b := 0) (nx := 144) (by decide +kernel) rfl ?_
          exact g_91 (b := 0) (nx := 145) (by decide +kernel) h
        · rw [if_neg c98] at h
          refine g_40f (a := 5) (b := 143) (nx := 114) (by decide +kernel) r87 (by exact fun hz => c98 ((cb_5 _ _).mp hz)) ?_
          refine g_7 (a := 0) (b := 0) (nx := 115) (by decide +kernel) rfl ?_
          refine g_5 (a := 1) (b := 0) (nx := 116) (by decide +kernel) rfl ?_
          refine g_1 (a := 1) (b := 0) (nx := 117) (by decide +kernel) ?_
          refine g_16 (a := 0) (b := 0) (nx := 118) (by decide +kernel) ?_
          refine g_80 (a := 33) (b := 1) (nx := 121) (by decide +kernel) (r := x0) (As := [vI (x1 - 1)]) (st' := []) (z := 33) rfl rfl rfl (Nat.le_of_ble_eq_true rfl) h0.2 (Nat.le_of_ble_eq_true rfl) rfl (c_I (by decide +kernel) h (fun y89 M88 h => ?_))
          obtain ⟨r90, h⟩ := h
          by_cases c97 : y89 = 0
          · rw [if_pos c97] at h
            refine g_40t (a := 0) (b := 143) (nx := 124) (by decide +kernel) r90 (by exact (cb_0 _ _).mpr c97) ?_
            refine g_5 (a := 2) (b := 0) (nx := 144) (by decide +kernel) rfl ?_
            exact g_91 (b := 0) (nx := 145) (by decide +kernel) h
          · rw [if_neg c97] at h
            refine g_40f (a := 0) (b := 143) (nx := 124) (by decide +kernel) r90 (by exact fun hz => c97 ((cb_0 _ _).mp hz)) ?_
            refine g_7 (a := 0) (b := 0) (nx := 125) (by decide +kernel) rfl ?_
            refine g_5 (a := 1) (b := 0) (nx := 126) (by decide +kernel) rfl ?_
            refine g_80 (a := 33) (b := 1) (nx := 129) (by decide +kernel) (r := x0) (As := [vI x1]) (st' := []) (z := 33) rfl rfl rfl (Nat.le_of_ble_eq_true rfl) h0.2 (Nat.le_of_ble_eq_true rfl) rfl (c_I (by decide +kernel) h (fun y92 M91 h => ?_))
            obtain ⟨r93, h⟩ := h
            by_cases c96 : y92 = 0
            · rw [if_pos c96] at h
              refine g_40t (a := 0) (b := 143) (nx := 132) (by decide +kernel) r93 (by exact (cb_0 _ _).mpr c96) ?_
              refine g_5 (a := 2) (b := 0) (nx := 144) (by decide +kernel) rfl ?_
              exact g_91 (b := 0) (nx := 145) (by decide +kernel) h
            · rw [if_neg c96] at h
              refine g_40f (a := 0) (b := 143) (nx := 132) (by decide +kernel) r93 (by exact fun hz => c96 ((cb_0 _ _).mp hz)) ?_
              refine g_5 (a := 2) (b := 0) (nx := 133) (by decide +kernel) rfl ?_
              refine g_7 (a := 0) (b := 0) (nx := 134) (by decide +kernel) rfl ?_
              refine g_52 (a := 1) (b := 4) (nx := 137) (by decide +kernel) h0 ?_
              refine g_1 (a := 5) (b := 0) (nx := 138) (by decide +kernel) ?_
              refine g_80 (a := 41) (b := 1) (nx := 141) (by decide +kernel) (r := (M91 x0 4)) (As := [vI 5]) (st' := [vI ((y2 * y4) + y81)]) (z := 41) rfl rfl rfl (Nat.le_of_ble_eq_true rfl) h.1 (Nat.le_of_ble_eq_true rfl) rfl (c_I (by decide +kernel) h.2 (fun y95 M94 h => ?_))
              refine g_15 (a := 0) (b := 0) (nx := 142) (by decide +kernel) ?_
              refine g_8 (a := 2) (b := 0) (nx := 143) (by decide +kernel) rfl (ls' := [some (vR x0), some (vI x1), some (vI (((y2 * y4) + y81) + y95)), some (vI y8)]) rfl ?_
              refine g_5 (a := 2) (b := 0) (nx := 144) (by decide +kernel) rfl ?_
              exact g_91 (b := 0) (nx := 145) (by decide +kernel) h
    · rw [if_neg c114] at h
      refine g_41t (a := 1) (b := 69) (nx := 55) (by decide +kernel) (by rw [wr_id r12, wr_id (show inR 4 by decide)]; exact (cb_1 _ _).mpr c114) ?_
      refine g_5 (a := 3) (b := 0) (nx := 70) (by decide +kernel) rfl ?_
      by_cases c79 : y8 = 0
      · rw [if_pos c79] at h
        refine g_40f (a := 1) (b := 84) (nx := 73) (by decide +kernel) r12 (by exact fun hz => ((cb_1 _ _).mp hz) c79) ?_
        refine g_5 (a := 2) (b := 0) (nx := 74) (by decide +kernel) rfl ?_
        refine g_7 (a := 0) (b := 0) (nx := 75) (by decide +kernel) rfl ?_
        refine g_52 (a := 1) (b := 4) (nx := 78) (by decide +kernel) h0 ?_
        refine g_1 (a := 3) (b := 0) (nx := 79) (by decide +kernel) ?_
        refine g_80 (a := 41) (b := 1) (nx := 82) (by decide +kernel) (r := (M9 x0 4)) (As := [vI 3]) (st' := [vI (y2 * y4)]) (z := 41) rfl rfl rfl (Nat.le_of_ble_eq_true rfl) h.1 (Nat.le_of_ble_eq_true rfl) rfl (c_I (by decide +kernel) h.2 (fun y46 M45 h => ?_))
        refine g_15 (a := 0) (b := 0) (nx := 83) (by decide +kernel) ?_
        refine g_8 (a := 2) (b := 0) (nx := 84) (by decide +kernel) rfl (ls' := [some (vR x0), some (vI x1), some (vI ((y2 * y4) + y46)), some (vI y8)]) rfl ?_
        refine g_7 (a := 0) (b := 0) (nx := 85) (by decide +kernel) rfl ?_
        refine g_52 (a := 1) (b := 4) (nx := 88) (by decide +kernel) h0 ?_
        refine g_7 (a := 0) (b := 0) (nx := 89) (by decide +kernel) rfl ?_
        refine g_5 (a := 1) (b := 0) (nx := 90) (by decide +kernel) rfl ?_
        refine g_80 (a := 30) (b := 1) (nx := 93) (by decide +kernel) (r := x0) (As := [vI x1]) (st' := [vR (M45 x0 4)]) (z := 30) rfl rfl rfl (Nat.le_of_ble_eq_true rfl) h0.2 (Nat.le_of_ble_eq_true rfl) rfl (c_L (by decide +kernel) h (fun y48 M47 h => ?_))
        refine g_80 (a := 50) (b := 1) (nx := 96) (by decide +kernel) (r := (M45 x0 4)) (As := [vL y48]) (st' := []) (z := 50) rfl rfl rfl (Nat.le_of_ble_eq_true rfl) h.1 (Nat.le_of_ble_eq_true rfl) rfl (c_I (by decide +kernel) h.2 (fun y50 M49 h => ?_))
        obtain ⟨r51, h⟩ := h
        by_cases c78 : y50 = 0
        · rw [if_pos c78] at h
          refine g_40f (a := 1) (b := 110) (nx := 99) (by decide +kernel) r51 (by exact fun hz => ((cb_1 _ _).mp hz) c78) ?_
          refine g_5 (a := 2) (b := 0) (nx := 100) (by decide +kernel) rfl ?_
          refine g_7 (a := 0) (b := 0) (nx := 101) (by decide +kernel) rfl ?_
          refine g_52 (a := 1) (b := 4) (nx := 104) (by decide +kernel) h0 ?_
          refine g_1 (a := 4) (b := 0) (nx := 105) (by decide +kernel) ?_
          refine g_80 (a := 41) (b := 1) (nx := 108) (by decide +kernel) (r := (M49 x0 4)) (As := [vI 4]) (st' := [vI ((y2 * y4) + y46)]) (z := 41) rfl rfl rfl (Nat.le_of_ble_eq_true rfl) h.1 (Nat.le_of_ble_eq_true rfl) rfl (c_I (by decide +kernel) h.2 (fun y65 M64 h => ?_))
          refine g_15 (a := 0) (b := 0) (nx := 109) (by decide +kernel) ?_
          refine g_8 (a := 2) (b := 0) (nx := 110) (by decide +kernel) rfl (ls' := [some (vR x0), some (vI x1), some (vI (((y2 * y4) + y46) + y65)), some (vI y8)]) rfl ?_
          refine g_5 (a := 1) (b := 0) (nx := 111) (by decide +kernel) rfl ?_
          obtain ⟨r66, h⟩ := h
          by_cases c77 : x1 ≤ 0
          · rw [if_pos c77] at h
            refine g_40t (a := 5) (b := 143) (nx := 114) (by decide +kernel) r66 (by exact (cb_5 _ _).mpr c77) ?_
            refine g_5 (a := 2) (b := 0) (nx := 144) (by decide +kernel) rfl ?_
            exact g_91 (b := 0) (nx := 145) (by decide +kernel) h
          · rw [if_neg c77] at h
            refine g_40f (a := 5) (b := 143) (nx := 114) (by decide +kernel) r66 (by exact fun hz => c77 ((cb_5 _ _).mp hz)) ?_
            refine g_7 (a := 0) (b := 0) (nx := 115) (by decide +kernel) rfl ?_
            refine g_5 (a := 1) (b := 0) (nx := 116) (by decide +kernel) rfl ?_
            refine g_1 (a := 1) (b := 0) (nx := 117) (by decide +kernel) ?_
            refine g_16 (a := 0) (b := 0) (nx := 118) (by decide +kernel) ?_
            refine g_80 (a := 33) (b := 1) (nx := 121) (by decide +kernel) (r := x0) (As := [vI (x1 - 1)]) (st' := []) (z := 33) rfl rfl rfl (Nat.le_of_ble_eq_true rfl) h0.2 (Nat.le_of_ble_eq_true rfl) rfl (c_I (by decide +kernel) h (fun y68 M67 h => ?_))
            obtain ⟨r69, h⟩ := h
            by_cases c76 : y68 = 0
            · rw [if_pos c76] at h
              refine g_40t (a := 0) (b := 143) (nx := 124) (by decide +kernel) r69 (by exact (cb_0 _ _).mpr c76) ?_
              refine g_5 (a := 2) (b := 0) (nx := 144) (by decide +kernel) rfl ?_
              exact g_91 (b := 0) (nx := 145) (by decide +kernel) h
            · rw [if_neg c76] at h
              refine g_40f (a := 0) (b := 143) (nx := 124) (by decide +kernel) r69 (by exact fun hz => c76 ((cb_0 _ _).mp hz)) ?_
              refine g_7 (a := 0) (b := 0) (nx := 125) (by decide +kernel) rfl ?_
              refine g_5 (a := 1) (b := 0) (nx := 126) (by decide +kernel) rfl ?_
              refine g_80 (a := 33) (b := 1) (nx := 129) (by decide +kernel) (r := x0) (As := [vI x1]) (st' := []) (z := 33) rfl rfl rfl (Nat.le_of_ble_eq_true rfl) h0.2 (Nat.le_of_ble_eq_true rfl) rfl (c_I (by decide +kernel) h (fun y71 M70 h => ?_))
              obtain ⟨r72, h⟩ := h
              by_cases c75 : y71 = 0
              · rw [if_pos c75] at h
                refine g_40t (a := 0) (b := 143) (nx := 132) (by decide +kernel) r72 (by exact (cb_0 _ _).mpr c75) ?_
                refine g_5 (a := 2) (b := 0) (nx := 144) (by decide +kernel) rfl ?_
                exact g_91 (b := 0) (nx := 145) (by decide +kernel) h
              · rw [if_neg c75] at h
                refine g_40f (a := 0) (b := 143) (nx := 132) (by decide +kernel) r72 (by exact fun hz => c75 ((cb_0 _ _).mp hz)) ?_
                refine g_5 (a := 2) (b := 0) (nx := 133) (by decide +kernel) rfl ?_
                refine g_7 (a := 0) (b := 0) (nx := 134) (by decide +kernel) rfl ?_
                refine g_52 (a := 1) (b := 4) (nx := 137) (by decide +kernel) h0 ?_
                refine g_1 (a := 5) (b := 0) (nx := 138) (by decide +kernel) ?_
                refine g_80 (a := 41) (b := 1) (nx := 141) (by decide +kernel) (r := (M70 x0 4)) (As := [vI 5]) (st' := [vI (((y2 * y4) + y46) + y65)]) (z := 41) rfl rfl rfl (Nat.le_of_ble_eq_true rfl) h.1 (Nat.le_of_ble_eq_true rfl) rfl (c_I (by decide +kernel) h.2 (fun y74 M73 h => ?_))
                refine g_15 (a := 0) (b := 0) (nx := 142) (by decide +kernel) ?_
                refine g_8 (a := 2) (b := 0) (nx := 143) (by decide +kernel) rfl (ls' := [some (vR x0), some (vI x1), some (vI ((((y2 * y4) + y46) + y65) + y74)), some (vI y8)]) rfl ?_
                refine g_5 (a := 2) (b := 0) (nx := 144) (by decide +kernel) rfl ?_
                exact g_91 (b := 0) (nx := 145) (by decide +kernel) h
        · rw [if_neg c78] at h
          refine g_40t (a := 1) (b := 110) (nx := 99) (by decide +kernel) r51 (by exact (cb_1 _ _).mpr c78) ?_
          refine g_5 (a := 1) (b := 0) (nx := 111) (by decide +kernel) rfl ?_
          obtain ⟨r52, h⟩ := h
          by_cases c63 : x1 ≤ 0
          · rw [if_pos c63] at h
            refine g_40t (a := 5) (b := 143) (nx := 114) (by decide +kernel) r52 (by exact (cb_5 _ _).mpr c63) ?_
            refine g_5 (a := 2) (b := 0) (nx := 144) (by decide +kernel) rfl ?_
            exact g_91 (b := 0) (nx := 145) (by decide +kernel) h
          · rw [if_neg c63] at h
            refine g_40f (a := 5) (b := 143) (nx := 114) (by decide +kernel) r52 (by exact fun hz => c63 ((cb_5 _ _).mp hz)) ?_
            refine g_7 (a := 0) (b := 0) (nx := 115) (by decide +kernel) rfl ?_
            refine g_5 (a := 1) (b := 0) (nx := 116) (by decide +kernel) rfl ?_
            refine g_1 (a := 1) (b := 0) (nx := 117) (by decide +kernel) ?_
            refine g_16 (a := 0) (b := 0) (nx := 118) (by decide +kernel) ?_
            refine g_80 (a := 33) (b := 1) (nx := 121) (by decide +kernel) (r := x0) (As := [vI (x1 - 1)]) (st' := []) (z := 33) rfl rfl rfl (Nat.le_of_ble_eq_true rfl) h0.2 (Nat.le_of_ble_eq_true rfl) rfl (c_I (by decide +kernel) h (fun y54 M53 h => ?_))
            obtain ⟨r55, h⟩ := h
            by_cases c62 : y54 = 0
            · rw [if_pos c62] at h
              refine g_40t (a := 0) (b := 143) (nx := 124) (by decide +kernel) r55 (by exact (cb_0 _ _).mpr c62) ?_
              refine g_5 (a := 2) (b := 0) (nx := 144) (by decide +kernel) rfl ?_
              exact g_91 (b := 0) (nx := 145) (by decide +kernel) h
            · rw [if_neg c62] at h
              refine g_40f (a := 0) (b := 143) (nx := 124) (by decide +kernel) r55 (by exact fun hz => c62 ((cb_0 _ _).mp hz)) ?_
              refine g_7 (a := 0) (b := 0) (nx := 125) (by decide +kernel) rfl ?_
              refine g_5 (a := 1) (b := 0) (nx := 126) (by decide +kernel) rfl ?_
              refine g_80 (a := 33) (b := 1) (nx := 129) (by decide +kernel) (r := x0) (As := [vI x1]) (st' := []) (z := 33) rfl rfl rfl (Nat.le_of_ble_eq_true rfl) h0.2 (Nat.le_of_ble_eq_true rfl) rfl (c_I (by decide +kernel) h (fun y57 M56 h => ?_))
              obtain ⟨r58, h⟩ := h
              by_cases c61 : y57 = 0
              · rw [if_pos c61] at h
                refine g_40t (a := 0) (b := 143) (nx := 132) (by decide +kernel) r58 (by exact (cb_0 _ _).mpr c61) ?_
                refine g_5 (a := 2) (b := 0) (nx := 144) (by decide +kernel) rfl ?_
                exact g_91 (b := 0) (nx := 145) (by decide +kernel) h
              · rw [if_neg c61] at h
                refine g_40f (a := 0) (b := 143) (nx := 132) (by decide +kernel) r58 (by exact fun hz => c61 ((cb_0 _ _).mp hz)) ?_
                refine g_5 (a := 2) (b := 0) (nx := 133) (by decide +kernel) rfl ?_
                refine g_7 (a := 0) (b := 0) (nx := 134) (by decide +kernel) rfl ?_
                refine g_52 (a := 1) (b := 4) (nx := 137) (by decide +kernel) h0 ?_
                refine g_1 (a := 5) (b := 0) (nx := 138) (by decide +kernel) ?_
                refine g_80 (a := 41) (b := 1) (nx := 141) (by decide +kernel) (r := (M56 x0 4)) (As := [vI 5]) (st' := [vI ((y2 * y4) + y46)]) (z := 41) rfl rfl rfl (Nat.le_of_ble_eq_true rfl) h.1 (Nat.le_of_ble_eq_true rfl) rfl (c_I (by decide +kernel) h.2 (fun y60 M59 h => ?_))
                refine g_15 (a := 0) (b := 0) (nx := 142) (by decide +kernel) ?_
                refine g_8 (a := 2) (b := 0) (nx := 143) (by decide +kernel) rfl (ls' := [some (vR x0), some (vI x1), some (vI (((y2 * y4) + y46) + y60)), some (vI y8)]) rfl ?_
                refine g_5 (a := 2) (b := 0) (nx := 144) (by decide +kernel) rfl ?_
                exact g_91 (b := 0) (nx := 145) (by decide +kernel) h
      · rw [if_neg c79] at h
        refine g_40t (a := 1) (b := 84) (nx := 73) (by decide +kernel) r12 (by exact (cb_1 _ _).mpr c79) ?_
        refine g_7 (a := 0) (b := 0) (nx := 85) (by decide +kernel) rfl ?_
        refine g_52 (a := 1) (b := 4) (nx := 88) (by decide +kernel) h0 ?_
        refine g_7 (a := 0) (b := 0) (nx := 89) (by decide +kernel) rfl ?_
        refine g_5 (a := 1) (b := 0) (nx := 90) (by decide +kernel) rfl ?_
        refine g_80 (a := 30) (b := 1) (nx := 93) (by decide +kernel) (r := x0) (As := [vI x1]) (st' := [vR (M9 x0 4)]) (z := 30) rfl rfl rfl (Nat.le_of_ble_eq_true rfl) h0.2 (Nat.le_of_ble_eq_true rfl) rfl (c_L (by decide +kernel) h (fun y14 M13 h => ?_))
        refine g_80 (a := 50) (b := 1) (nx := 96) (by decide +kernel) (r := (M9 x0 4)) (As := [vL y14]) (st' := []) (z := 50) rfl rfl rfl (Nat.le_of_ble_eq_true rfl) h.1 (Nat.le_of_ble_eq_true rfl) rfl (c_I (by decide +kernel) h.2 (fun y16 M15 h => ?_))
        obtain ⟨r17, h⟩ := h
        by_cases c44 : y16 = 0
        · rw [if_pos c44] at h
          refine g_40f (a := 1) (b := 110) (nx := 99) (by decide +kernel) r17 (by exact fun hz => ((cb_1 _ _).mp hz) c44) ?_
          refine g_5 (a := 2) (b := 0) (nx := 100) (by decide +kernel) rfl ?_
          refine g_7 (a := 0) (b := 0) (nx := 101) (by decide +kernel) rfl ?_
          refine g_52 (a := 1) (b := 4) (nx := 104) (by decide +kernel) h0 ?_
          refine g_1 (a := 4) (b := 0) (nx := 105) (by decide +kernel) ?_
          refine g_80 (a := 41) (b := 1) (nx := 108) (by decide +kernel) (r := (M15 x0 4)) (As := [vI 4]) (st' := [vI (y2 * y4)]) (z := 41) rfl rfl rfl (Nat.le_of_ble_eq_true rfl) h.1 (Nat.le_of_ble_eq_true rfl) rfl (c_I (by decide +kernel) h.2 (fun y31 M30 h => ?_))
          refine g_15 (a := 0) (b := 0) (nx := 109) (by decide +kernel) ?_
          refine g_8 (a := 2) (b := 0) (nx := 110) (by decide +kernel) rfl (ls' := [some (vR x0), some (vI x1), some (vI ((y2 * y4) + y31)), some (vI y8)]) rfl ?_
          refine g_5 (a := 1) (b := 0) (nx := 111) (by decide +kernel) rfl ?_
          obtain ⟨r32, h⟩ := h
          by_cases c43 : x1 ≤ 0
          · rw [if_pos c43] at h
            refine g_40t (a := 5) (b := 143) (nx := 114) (by decide +kernel) r32 (by exact (cb_5 _ _).mpr c43) ?_
            refine g_5 (a := 2) (b := 0) (nx := 144) (by decide +kernel) rfl ?_
            exact g_91 (b := 0) (nx := 145) (by decide +kernel) h
          · rw [if_neg c43] at h
            refine g_40f (a := 5) (b := 143) (nx := 114) (by decide +kernel) r32 (by exact fun hz => c43 ((cb_5 _ _).mp hz)) ?_
            refine g_7 (a := 0) (b := 0) (nx := 115) (by decide +kernel) rfl ?_
            refine g_5 (a := 1) (b := 0) (nx := 116) (by decide +kernel) rfl ?_
            refine g_1 (a := 1) (b := 0) (nx := 117) (by decide +kernel) ?_
            refine g_16 (a := 0) (b := 0) (nx := 118) (by decide +kernel) ?_
            refine g_80 (a := 33) (b := 1) (nx := 121) (by decide +kernel) (r := x0) (As := [vI (x1 - 1)]) (st' := []) (z := 33) rfl rfl rfl (Nat.le_of_ble_eq_true rfl) h0.2 (Nat.le_of_ble_eq_true rfl) rfl (c_I (by decide +kernel) h (fun y34 M33 h => ?_))
            obtain ⟨r35, h⟩ := h
            by_cases c42 : y34 = 0
            · rw [if_pos c42] at h
              refine g_40t (a := 0) (b := 143) (nx := 124) (by decide +kernel) r35 (by exact (cb_0 _ _).mpr c42) ?_
              refine g_5 (a := 2) (b := 0) (nx := 144) (by decide +kernel) rfl ?_
              exact g_91 (b := 0) (nx := 145) (by decide +kernel) h
            · rw [if_neg c42] at h
              refine g_40f (a := 0) (b := 143) (nx := 124) (by decide +kernel) r35 (by exact fun hz => c42 ((cb_0 _ _).mp hz)) ?_
              refine g_7 (a := 0) (b := 0) (nx := 125) (by decide +kernel) rfl ?_
              refine g_5 (a := 1) (b := 0) (nx := 126) (by decide +kernel) rfl ?_
              refine g_80 (a := 33) (b := 1) (nx := 129) (by decide +kernel) (r := x0) (As := [vI x1]) (st' := []) (z := 33) rfl rfl rfl (Nat.le_of_ble_eq_true rfl) h0.2 (Nat.le_of_ble_eq_true rfl) rfl (c_I (by decide +kernel) h (fun y37 M36 h => ?_))
              obtain ⟨r38, h⟩ := h
              by_cases c41 : y37 = 0
              · rw [if_pos c41] at h
                refine g_40t (a := 0) (b := 143) (nx := 132) (by decide +kernel) r38 (by exact (cb_0 _ _).mpr c41) ?_
                refine g_5 (a := 2) (b := 0) (nx := 144) (by decide +kernel) rfl ?_
                exact g_91 (b := 0) (nx := 145) (by decide +kernel) h
              · rw [if_neg c41] at h
                refine g_40f (a := 0) (b := 143) (nx := 132) (by decide +kernel) r38 (by exact fun hz => c41 ((cb_0 _ _).mp hz)) ?_
                refine g_5 (a := 2) (b := 0) (nx := 133) (by decide +kernel) rfl ?_
                refine g_7 (a := 0) (b := 0) (nx := 134) (by decide +kernel) rfl ?_
                refine g_52 (a := 1) (b := 4) (nx := 137) (by decide +kernel) h0 ?_
                refine g_1 (a := 5) (b := 0) (nx := 138) (by decide +kernel) ?_
                refine g_80 (a := 41) (b := 1) (nx := 141) (by decide +kernel) (r := (M36 x0 4)) (As := [vI 5]) (st' := [vI ((y2 * y4) + y31)]) (z := 41) rfl rfl rfl (Nat.le_of_ble_eq_true rfl) h.1 (Nat.le_of_ble_eq_true rfl) rfl (c_I (by decide +kernel) h.2 (fun y40 M39 h => ?_))
                refine g_15 (a := 0) (b := 0) (nx := 142) (by decide +kernel) ?_
                refine g_8 (a := 2) (b := 0) (nx := 143) (by decide +kernel) rfl (ls' := [some (vR x0), some (vI x1), some (vI (((y2 * y4) + y31) + y40)), some (vI y8)]) rfl ?_
                refine g_5 (a := 2) (b := 0) (nx := 144) (by decide +kernel) rfl ?_
                exact g_91 (b := 0) (nx := 145) (by decide +kernel) h
        · rw [if_neg c44] at h
          refine g_40t (a := 1) (b := 110) (nx := 99) (by decide +kernel) r17 (by exact (cb_1 _ _).mpr c44) ?_
          refine g_5 (a := 1) (b := 0) (nx := 111) (by decide +kernel) rfl ?_
          obtain ⟨r18, h⟩ := h
          by_cases c29 : x1 ≤ 0
          · rw [if_pos c29] at h
            refine g_40t (a := 5) (b := 143) (nx := 114) (by decide +kernel) r18 (by exact (cb_5 _ _).mpr c29) ?_
            refine g_5 (a := 2) (b := 0) (nx := 144) (by decide +kernel) rfl ?_
            exact g_91 (b := 0) (nx := 145) (by decide +kernel) h
          · rw [if_neg c29] at h
            refine g_40f (a := 5) (b := 143) (nx := 114) (by decide +kernel) r18 (by exact fun hz => c29 ((cb_5 _ _).mp hz)) ?_
            refine g_7 (a := 0) (b := 0) (nx := 115) (by decide +kernel) rfl ?_
            refine g_5 (a := 1) (b := 0) (nx := 116) (by decide +kernel) rfl ?_
            refine g_1 (a := 1) (b := 0) (nx := 117) (by decide +kernel) ?_
            refine g_16 (a := 0) (b := 0) (nx := 118) (by decide +kernel) ?_
            refine g_80 (a := 33) (b := 1) (nx := 121) (by decide +kernel) (r := x0) (As := [vI (x1 - 1)]) (st' := []) (z := 33) rfl rfl rfl (Nat.le_of_ble_eq_true rfl) h0.2 (Nat.le_of_ble_eq_true rfl) rfl (c_I (by decide +kernel) h (fun y20 M19 h => ?_))
            obtain ⟨r21, h⟩ := h
            by_cases c28 : y20 = 0
            · rw [if_pos c28] at h
              refine g_40t (a := 0) (b := 143) (nx := 124) (by decide +kernel) r21 (by exact (cb_0 _ _).mpr c28) ?_
              refine g_5 (a := 2) (b := 0) (nx := 144) (by decide +kernel) rfl ?_
              exact g_91 (b := 0) (nx := 145) (by decide +kernel) h
            · rw [if_neg c28] at h
              refine g_40f (a := 0) (b := 143) (nx := 124) (by decide +kernel) r21 (by exact fun hz => c28 ((cb_0 _ _).mp hz)) ?_
              refine g_7 (a := 0) (b := 0) (nx := 125) (by decide +kernel) rfl ?_
              refine g_5 (a := 1) (b := 0) (nx := 126) (by decide +kernel) rfl ?_
              refine g_80 (a := 33) (b := 1) (nx := 129) (by decide +kernel) (r := x0) (As := [vI x1]) (st' := []) (z := 33) rfl rfl rfl (Nat.le_of_ble_eq_true rfl) h0.2 (Nat.le_of_ble_eq_true rfl) rfl (c_I (by decide +kernel) h (fun y23 M22 h => ?_))
              obtain ⟨r24, h⟩ := h
              by_cases c27 : y23 = 0
              · rw [if_pos c27] at h
                refine g_40t (a := 0) (b := 143) (nx := 132) (by decide +kernel) r24 (by exact (cb_0 _ _).mpr c27) ?_
                refine g_5 (a := 2) (b := 0) (nx := 144) (by decide +kernel) rfl ?_
                exact g_91 (b := 0) (nx := 145) (by decide +kernel) h
              · rw [if_neg c27] at h
                refine g_40f (a := 0) (b := 143) (nx := 132) (by decide +kernel) r24 (by exact fun hz => c27 ((cb_0 _ _).mp hz)) ?_
                refine g_5 (a := 2) (b := 0) (nx := 133) (by decide +kernel) rfl ?_
                refine g_7 (a := 0) (b := 0) (nx := 134) (by decide +kernel) rfl ?_
                refine g_52 (a := 1) (b := 4) (nx := 137) (by decide +kernel) h0 ?_
                refine g_1 (a := 5) (b := 0) (nx := 138) (by decide +kernel) ?_
                refine g_80 (a := 41) (b := 1) (nx := 141) (by decide +kernel) (r := (M22 x0 4)) (As := [vI 5]) (st' := [vI (y2 * y4)]) (z := 41) rfl rfl rfl (Nat.le_of_ble_eq_true rfl) h.1 (Nat.le_of_ble_eq_true rfl) rfl (c_I (by decide +kernel) h.2 (fun y26 M25 h => ?_))
                refine g_15 (a := 0) (b := 0) (nx := 142) (by decide +kernel) ?_
                refine g_8 (a := 2) (b := 0) (nx := 143) (by decide +kernel) rfl (ls' := [some (vR x0), some (vI x1), some (vI ((y2 * y4) + y26)), some (vI y8)]) rfl ?_
                refine g_5 (a := 2) (b := 0) (nx := 144) (by decide +kernel) rfl ?_
                exact g_91 (b := 0) (nx := 145) (by decide +kernel) h
-- 36 SyllableMaker$Cut.total()I
theorem t_36 {x0 : Int} {M : Mem} {Q : AV → Mem → Prop} (h0 : gO 1 x0) (h : WR 36 4 [some (vR x0), some (vI 0), some (vI 0)] [] M Q) : WC 36 [vR x0] M Q := by
  show WR 36 0 [some (vR x0), none, none] [] M Q
  refine g_1 (a := 0) (b := 0) (nx := 1) (by decide +kernel) ?_
  refine g_8 (a := 1) (b := 0) (nx := 2) (by decide +kernel) rfl (ls' := [some (vR x0), some (vI 0), none]) rfl ?_
  refine g_1 (a := 0) (b := 0) (nx := 3) (by decide +kernel) ?_
  refine g_8 (a := 2) (b := 0) (nx := 4) (by decide +kernel) rfl (ls' := [some (vR x0), some (vI 0), some (vI 0)]) rfl ?_
  exact h
theorem t_36_4 {x0 x1 x2 : Int} {M : Mem} {Q : AV → Mem → Prop} (h0 : gO 1 x0) (h : inR x2 ∧ (inR (M x0 9) ∧ (if (M x0 9) ≤ x2 then (Q (vI x1) M) else (WI 35 [vR x0, vI x2] M (fun y4 M3 => WR 36 4 [some (vR x0), some (vI (x1 + y4)), some (vI (x2 + 1))] [] M3 Q))))) : WR 36 4 [some (vR x0), some (vI x1), some (vI x2)] [] M Q := by
  refine g_5 (a := 2) (b := 0) (nx := 5) (by decide +kernel) rfl ?_
  refine g_7 (a := 0) (b := 0) (nx := 6) (by decide +kernel) rfl ?_
  refine g_50 (a := 1) (b := 9) (nx := 9) (by decide +kernel) h0 ?_
  obtain ⟨r1, h⟩ := h
  obtain ⟨r2, h⟩ := h
  by_cases c5 : (M x0 9) ≤ x2
  · rw [if_pos c5] at h
    refine g_41t (a := 3) (b := 26) (nx := 12) (by decide +kernel) (by rw [wr_id r1, wr_id r2]; exact (cb_3 _ _).mpr c5) ?_
    refine g_5 (a := 1) (b := 0) (nx := 27) (by decide +kernel) rfl ?_
    exact g_91 (b := 0) (nx := 28) (by decide +kernel) h
  · rw [if_neg c5] at h
    refine g_41f (a := 3) (b := 26) (nx := 12) (by decide +kernel) (by rw [wr_id r1, wr_id r2]; exact fun hz => c5 ((cb_3 _ _).mp hz)) ?_
    refine g_5 (a := 1) (b := 0) (nx := 13) (by decide +kernel) rfl ?_
    refine g_7 (a := 0) (b := 0) (nx := 14) (by decide +kernel) rfl ?_
    refine g_5 (a := 2) (b := 0) (nx := 15) (by decide +kernel) rfl ?_
    refine g_80 (a := 35) (b := 1) (nx := 18) (by decide +kernel) (r := x0) (As := [vI x2]) (st' := [vI x1]) (z := 35) rfl rfl rfl (Nat.le_of_ble_eq_true rfl) h0.2 (Nat.le_of_ble_eq_true rfl) rfl (c_I (by decide +kernel) h (fun y4 M3 h => ?_))
    refine g_15 (a := 0) (b := 0) (nx := 19) (by decide +kernel) ?_
    refine g_8 (a := 1) (b := 0) (nx := 20) (by decide +kernel) rfl (ls' := [some (vR x0), some (vI (x1 + y4)), some (vI x2)]) rfl ?_
    refine g_11 (a := 2) (b := 1) (nx := 23) (by decide +kernel) rfl rfl (ls' := [some (vR x0), some (vI (x1 + y4)), some (vI (x2 + 1))]) rfl ?_
    refine g_44 (a := 0) (b := 4) (nx := 26) (by decide +kernel) ?_
    exact h
-- 37 SyllableMaker$Cut.firstNotLegal()I
theorem t_37 {x0 : Int} {M : Mem} {Q : AV → Mem → Prop} (h0 : gO 1 x0) (h : WR 37 2 [some (vR x0), some (vI 0), none] [] M Q) : WC 37 [vR x0] M Q := by
  show WR 37 0 [some (vR x0), none, none] [] M Q
  refine g_1 (a := 0) (b := 0) (nx := 1) (by decide +kernel) ?_
  refine g_8 (a := 1) (b := 0) (nx := 2) (by decide +kernel) rfl (ls' := [some (vR x0), some (vI 0), none]) rfl ?_
  exact h
theorem t_37_2 {x0 x1 : Int} {l2 : Option AV} {M : Mem} {Q : AV → Mem → Prop} (h0 : gO 1 x0) (h : inR x1 ∧ (inR (M x0 9) ∧ (if (M x0 9) ≤ x1 then (Q (vI (-1)) M) else (WL 28 [vR x0, vI x1] M (fun y4 M3 => ((shA SH (M x0 4)).1 = 2) ∧ WI 48 [vR (M x0 4), vL y4] M3 (fun y6 M5 => inR y6 ∧ (if y6 = 0 then (Q (vI x1) M5) else (WL 30 [vR x0, vI x1] M5 (fun y9 M8 => ((shA SH (M5 x0 4)).1 = 2) ∧ WI 50 [vR (M5 x0 4), vL y9] M8 (fun y11 M10 => inR y11 ∧ (if y11 = 0 then (Q (vI x1) M10) else (WR 37 2 [some (vR x0), some (vI (x1 + 1)), some (vI 1)] [] M10 Q)))))))))))) : WR 37 2 [some (vR x0), some (vI x1), l2] [] M Q := by
  refine g_5 (a := 1) (b := 0) (nx := 3) (by decide +kernel) rfl ?_
  refine g_7 (a := 0) (b := 0) (nx := 4) (by decide +kernel) rfl ?_
  refine g_50 (a := 1) (b := 9) (nx := 7) (by decide +kernel) h0 ?_
  obtain ⟨r1, h⟩ := h
  obtain ⟨r2, h⟩ := h
  by_cases c15 : (M x0 9) ≤ x1
  · rw [if_pos c15] at h
    refine g_41t (a := 3) (b := 58) (nx := 10) (by decide +kernel) (by rw [wr_id r1, wr_id r2]; exact (cb_3 _ _).mpr c15) ?_
    refine g_1 (a := (-1)) (b := 0) (nx := 59) (by decide +kernel) ?_
    exact g_91 (b := 0) (nx := 60) (by decide +kernel) h
  · rw [if_neg c15] at h
    refine g_41f (a := 3) (b := 58) (nx := 10) (by decide +kernel) (by rw [wr_id r1, wr_id r2]; exact fun hz => c15 ((cb_3 _ _).mp hz)) ?_
    refine g_7 (a := 0) (b := 0) (nx := 11) (by decide +kernel) rfl ?_
    refine g_52 (a := 1) (b := 4) (nx := 14) (by decide +kernel) h0 ?_
    refine g_7 (a := 0) (b := 0) (nx := 15) (by decide +kernel) rfl ?_
    refine g_5 (a := 1) (b := 0) (nx := 16) (by decide +kernel) rfl ?_
    refine g_80 (a := 28) (b := 1) (nx := 19) (by decide +kernel) (r := x0) (As := [vI x1]) (st' := [vR (M x0 4)]) (z := 28) rfl rfl rfl (Nat.le_of_ble_eq_true rfl) h0.2 (Nat.le_of_ble_eq_true rfl) rfl (c_L (by decide +kernel) h (fun y4 M3 h => ?_))
    refine g_80 (a := 48) (b := 1) (nx := 22) (by decide +kernel) (r := (M x0 4)) (As := [vL y4]) (st' := []) (z := 48) rfl rfl rfl (Nat.le_of_ble_eq_true rfl) h.1 (Nat.le_of_ble_eq_true rfl) rfl (c_I (by decide +kernel) h.2 (fun y6 M5 h => ?_))
    obtain ⟨r7, h⟩ := h
    by_cases c14 : y6 = 0
    · rw [if_pos c14] at h
      refine g_40t (a := 0) (b := 29) (nx := 25) (by decide +kernel) r7 (by exact (cb_0 _ _).mpr c14) ?_
      refine g_1 (a := 0) (b := 0) (nx := 30) (by decide +kernel) ?_
      refine g_8 (a := 2) (b := 0) (nx := 31) (by decide +kernel) rfl (ls' := [some (vR x0), some (vI x1), some (vI 0)]) rfl ?_
      refine g_5 (a := 2) (b := 0) (nx := 32) (by decide +kernel) rfl ?_
      refine g_40t (a := 0) (b := 50) (nx := 35) (by decide +kernel) (show inR 0 by decide) (by decide +kernel) ?_
      refine g_5 (a := 1) (b := 0) (nx := 51) (by decide +kernel) rfl ?_
      exact g_91 (b := 0) (nx := 52) (by decide +kernel) h
    · rw [if_neg c14] at h
      refine g_40f (a := 0) (b := 29) (nx := 25) (by decide +kernel) r7 (by exact fun hz => c14 ((cb_0 _ _).mp hz)) ?_
      refine g_1 (a := 1) (b := 0) (nx := 26) (by decide +kernel) ?_
      refine g_44 (a := 0) (b := 30) (nx := 29) (by decide +kernel) ?_
      refine g_8 (a := 2) (b := 0) (nx := 31) (by decide +kernel) rfl (ls' := [some (vR x0), some (vI x1), some (vI 1)]) rfl ?_
      refine g_5 (a := 2) (b := 0) (nx := 32) (by decide +kernel) rfl ?_
      refine g_40f (a := 0) (b := 50) (nx := 35) (by decide +kernel) (show inR 1 by decide) (by decide +kernel) ?_
      refine g_7 (a := 0) (b := 0) (nx := 36) (by decide +kernel) rfl ?_
      refine g_52 (a := 1) (b := 4) (nx := 39) (by decide +kernel) h0 ?_
      refine g_7 (a := 0) (b := 0) (nx := 40) (by decide +kernel) rfl ?_
      refine g_5 (a := 1) (b := 0) (nx := 41) (by decide +kernel) rfl ?_
      refine g_80 (a := 30) (b := 1) (nx := 44) (by decide +kernel) (r := x0) (As := [vI x1]) (st' := [vR (M5 x0 4)]) (z := 30) rfl rfl rfl (Nat.le_of_ble_eq_true rfl) h0.2 (Nat.le_of_ble_eq_true rfl) rfl (c_L (by decide +kernel) h (fun y9 M8 h => ?_))
      refine g_80 (a := 50) (b := 1) (nx := 47) (by decide +kernel) (r := (M5 x0 4)) (As := [vL y9]) (st' := []) (z := 50) rfl rfl rfl (Nat.le_of_ble_eq_true rfl) h.1 (Nat.le_of_ble_eq_true rfl) rfl (c_I (by decide +kernel) h.2 (fun y11 M10 h => ?_))
      obtain ⟨r12, h⟩ := h
      by_cases c13 : y11 = 0
      · rw [if_pos c13] at h
        refine g_40f (a := 1) (b := 52) (nx := 50) (by decide +kernel) r12 (by exact fun hz => ((cb_1 _ _).mp hz) c13) ?_
        refine g_5 (a := 1) (b := 0) (nx := 51) (by decide +kernel) rfl ?_
        exact g_91 (b := 0) (nx := 52) (by decide +kernel) h
      · rw [if_neg c13] at h
        refine g_40t (a := 1) (b := 52) (nx := 50) (by decide +kernel) r12 (by exact (cb_1 _ _).mpr c13) ?_
        refine g_11 (a := 1) (b := 1) (nx := 55) (by decide +kernel) rfl rfl (ls' := [some (vR x0), some (vI (x1 + 1)), some (vI 1)]) rfl ?_
        refine g_44 (a := 0) (b := 2) (nx := 58) (by decide +kernel) ?_
        exact h
-- 38 SyllableMaker$Cut.stressed()I
theorem t_38 {x0 : Int} {M : Mem} {Q : AV → Mem → Prop} (h0 : gO 1 x0) (h : (gO 2 (M x0 4)) ∧ (inR (M (M x0 4) 15) ∧ inR (M x0 9)) ∧ WR 38 27 [some (vR x0), some (vI ((M x0 9) - (min (M (M x0 4) 15) (M x0 9)))), some (vI ((M x0 9) - 2))] [] M Q) : WC 38 [vR x0] M Q := by
  show WR 38 0 [some (vR x0), none, none] [] M Q
  refine g_7 (a := 0) (b := 0) (nx := 1) (by decide +kernel) rfl ?_
  refine g_50 (a := 1) (b := 9) (nx := 4) (by decide +kernel) h0 ?_
  refine g_7 (a := 0) (b := 0) (nx := 5) (by decide +kernel) rfl ?_
  refine g_52 (a := 1) (b := 4) (nx := 8) (by decide +kernel) h0 ?_
  refine g_50 (a := 2) (b := 15) (nx := 11) (by decide +kernel) h.1 ?_
  replace h := h.2
  refine g_7 (a := 0) (b := 0) (nx := 12) (by decide +kernel) rfl ?_
  refine g_50 (a := 1) (b := 9) (nx := 15) (by decide +kernel) h0 ?_
  refine g_84 (a := 0) (b := 0) (nx := 18) (by decide +kernel) h.1.1 h.1.2 (Nat.le_of_ble_eq_true rfl) ?_
  replace h := h.2
  refine g_16 (a := 0) (b := 0) (nx := 19) (by decide +kernel) ?_
  refine g_8 (a := 1) (b := 0) (nx := 20) (by decide +kernel) rfl (ls' := [some (vR x0), some (vI ((M x0 9) - (min (M (M x0 4) 15) (M x0 9)))), none]) rfl ?_
  refine g_7 (a := 0) (b := 0) (nx := 21) (by decide +kernel) rfl ?_
  refine g_50 (a := 1) (b := 9) (nx := 24) (by decide +kernel) h0 ?_
  refine g_1 (a := 2) (b := 0) (nx := 25) (by decide +kernel) ?_
  refine g_16 (a := 0) (b := 0) (nx := 26) (by decide +kernel) ?_
  refine g_8 (a := 2) (b := 0) (nx := 27) (by decide +kernel) rfl (ls' := [some (vR x0), some (vI ((M x0 9) - (min (M (M x0 4) 15) (M x0 9)))), some (vI ((M x0 9) - 2))]) rfl ?_
  exact h
theorem t_38_27 {x0 x1 x2 : Int} {M : Mem} {Q : AV → Mem → Prop} (h0 : gO 1 x0) (h : inR x2 ∧ (inR x1 ∧ (if x2 < x1 then (inR (M x0 9) ∧ (if (M x0 9) = 0 then (Q (vI (-1)) M) else ((gO 2 (M x0 4)) ∧ (inR 0 ∧ inR ((M x0 9) - (M (M x0 4) 14))) ∧ Q (vI (max 0 ((M x0 9) - (M (M x0 4) 14)))) M))) else (WI 33 [vR x0, vI x2] M (fun y6 M5 => inR y6 ∧ (if y6 = 0 then (WR 38 27 [some (vR x0), some (vI x1), some (vI (x2 + (-1)))] [] M5 Q) else (Q (vI x2) M5))))))) : WR 38 27 [some (vR x0), some (vI x1), some (vI x2)] [] M Q := by
  refine g_5 (a := 2) (b := 0) (nx := 28) (by decide +kernel) rfl ?_
  refine g_5 (a := 1) (b := 0) (nx := 29) (by decide +kernel) rfl ?_
  obtain ⟨r1, h⟩ := h
  obtain ⟨r2, h⟩ := h
  by_cases c9 : x2 < x1
  · rw [if_pos c9] at h
    refine g_41t (a := 2) (b := 48) (nx := 32) (by decide +kernel) (by rw [wr_id r1, wr_id r2]; exact (cb_2 _ _).mpr c9) ?_
    refine g_7 (a := 0) (b := 0) (nx := 49) (by decide +kernel) rfl ?_
    refine g_50 (a := 1) (b := 9) (nx := 52) (by decide +kernel) h0 ?_
    obtain ⟨r3, h⟩ := h
    by_cases c4 : (M x0 9) = 0
    · rw [if_pos c4] at h
      refine g_40f (a := 1) (b := 59) (nx := 55) (by decide +kernel) r3 (by exact fun hz => ((cb_1 _ _).mp hz) c4) ?_
      refine g_1 (a := (-1)) (b := 0) (nx := 56) (by decide +kernel) ?_
      refine g_44 (a := 0) (b := 75) (nx := 59) (by decide +kernel) ?_
      exact g_91 (b := 0) (nx := 76) (by decide +kernel) h
    · rw [if_neg c4] at h
      refine g_40t (a := 1) (b := 59) (nx := 55) (by decide +kernel) r3 (by exact (cb_1 _ _).mpr c4) ?_
      refine g_1 (a := 0) (b := 0) (nx := 60) (by decide +kernel) ?_
      refine g_7 (a := 0) (b := 0) (nx := 61) (by decide +kernel) rfl ?_
      refine g_50 (a := 1) (b := 9) (nx := 64) (by decide +kernel) h0 ?_
      refine g_7 (a := 0) (b := 0) (nx := 65) (by decide +kernel) rfl ?_
      refine g_52 (a := 1) (b := 4) (nx := 68) (by decide +kernel) h0 ?_
      refine g_50 (a := 2) (b := 14) (nx := 71) (by decide +kernel) h.1 ?_
      replace h := h.2
      refine g_16 (a := 0) (b := 0) (nx := 72) (by decide +kernel) ?_
      refine g_85 (a := 0) (b := 0) (nx := 75) (by decide +kernel) h.1.1 h.1.2 (Nat.le_of_ble_eq_true rfl) ?_
      replace h := h.2
      exact g_91 (b := 0) (nx := 76) (by decide +kernel) h
  · rw [if_neg c9] at h
    refine g_41f (a := 2) (b := 48) (nx := 32) (by decide +kernel) (by rw [wr_id r1, wr_id r2]; exact fun hz => c9 ((cb_2 _ _).mp hz)) ?_
    refine g_7 (a := 0) (b := 0) (nx := 33) (by decide +kernel) rfl ?_
    refine g_5 (a := 2) (b := 0) (nx := 34) (by decide +kernel) rfl ?_
    refine g_80 (a := 33) (b := 1) (nx := 37) (by decide +kernel) (r := x0) (As := [vI x2]) (st' := []) (z := 33) rfl rfl rfl (Nat.le_of_ble_eq_true rfl) h0.2 (Nat.le_of_ble_eq_true rfl) rfl (c_I (by decide +kernel) h (fun y6 M5 h => ?_))
    obtain ⟨r7, h⟩ := h
    by_cases c8 : y6 = 0
    · rw [if_pos c8] at h
      refine g_40t (a := 0) (b := 42) (nx := 40) (by decide +kernel) r7 (by exact (cb_0 _ _).mpr c8) ?_
      refine g_11 (a := 2) (b := (-1)) (nx := 45) (by decide +kernel) rfl rfl (ls' := [some (vR x0), some (vI x1), some (vI (x2 + (-1)))]) rfl ?_
      refine g_44 (a := 0) (b := 27) (nx := 48) (by decide +kernel) ?_
      exact h
    · rw [if_neg c8] at h
      refine g_40f (a := 0) (b := 42) (nx := 40) (by decide +kernel) r7 (by exact fun hz => c8 ((cb_0 _ _).mp hz)) ?_
      refine g_5 (a := 2) (b := 0) (nx := 41) (by decide +kernel) rfl ?_
      exact g_91 (b := 0) (nx := 42) (by decide +kernel) h
-- 40 SyllableMaker$Law.clear()V
theorem t_40 {x0 : Int} {M : Mem} {Q : AV → Mem → Prop} (h0 : gO 2 x0) (h : ((shA SH (M x0 0)).1 = 6) ∧ WV 88 [vR (M x0 0)] M (fun M1 => ((shA SH (M1 x0 1)).1 = 10) ∧ WV 135 [vR (M1 x0 1)] M1 (fun M3 => WR 40 26 [some (vR x0), some (vI 0)] [] (upM (upM M3 x0 5 0) x0 6 0) Q))) : WC 40 [vR x0] M Q := by
  show WR 40 0 [some (vR x0), none] [] M Q
  refine g_7 (a := 0) (b := 0) (nx := 1) (by decide +kernel) rfl ?_
  refine g_52 (a := 2) (b := 0) (nx := 4) (by decide +kernel) h0 ?_
  refine g_80 (a := 88) (b := 0) (nx := 7) (by decide +kernel) (r := (M x0 0)) (As := []) (st' := []) (z := 88) rfl rfl rfl (Nat.le_of_ble_eq_true rfl) h.1 (Nat.le_of_ble_eq_true rfl) rfl (c_V (by decide +kernel) h.2 (fun M1 h => ?_))
  refine g_7 (a := 0) (b := 0) (nx := 8) (by decide +kernel) rfl ?_
  refine g_52 (a := 2) (b := 1) (nx := 11) (by decide +kernel) h0 ?_
  refine g_80 (a := 135) (b := 0) (nx := 14) (by decide +kernel) (r := (M1 x0 1)) (As := []) (st' := []) (z := 135) rfl rfl rfl (Nat.le_of_ble_eq_true rfl) h.1 (Nat.le_of_ble_eq_true rfl) rfl (c_V (by decide +kernel) h.2 (fun M3 h => ?_))
  refine g_7 (a := 0) (b := 0) (nx := 15) (by decide +kernel) rfl ?_
  refine g_1 (a := 0) (b := 0) (nx := 16) (by decide +kernel) ?_
  refine g_53 (a := 2) (b := 5) (nx := 19) (by decide +kernel) h0 ?_
  refine g_7 (a := 0) (b := 0) (nx := 20) (by decide +kernel) rfl ?_
  refine g_1 (a := 0) (b := 0) (nx := 21) (by decide +kernel) ?_
  refine g_53 (a := 2) (b := 6) (nx := 24) (by decide +kernel) h0 ?_
  refine g_1 (a := 0) (b := 0) (nx := 25) (by decide +kernel) ?_
  refine g_8 (a := 1) (b := 0) (nx := 26) (by decide +kernel) rfl (ls' := [some (vR x0), some (vI 0)]) rfl ?_
  exact h
theorem t_40_26 {x0 x1 : Int} {M : Mem} {Q : AV → Mem → Prop} (h0 : gO 2 x0) (h : inR x1 ∧ (if 6 ≤ x1 then (Q (vI 0) (upM (upM (upM (upM (upM (upM (upM (upM (upM (upM (upM M x0 7 (-1)) x0 8 4) x0 9 0) x0 10 1) x0 11 2) x0 12 1) x0 13 2) x0 14 2) x0 15 0) x0 16 (-1)) x0 17 1)) else ((gA 20 (M x0 4) x1) ∧ WR 40 26 [some (vR x0), some (vI (x1 + 1))] [] (upM M (M x0 4) x1 0) Q))) : WR 40 26 [some (vR x0), some (vI x1)] [] M Q := by
  refine g_5 (a := 1) (b := 0) (nx := 27) (by decide +kernel) rfl ?_
  refine g_1 (a := 6) (b := 0) (nx := 29) (by decide +kernel) ?_
  obtain ⟨r1, h⟩ := h
  by_cases c2 : 6 ≤ x1
  · rw [if_pos c2] at h
    refine g_41t (a := 3) (b := 45) (nx := 32) (by decide +kernel) (by rw [wr_id r1, wr_id (show inR 6 by decide)]; exact (cb_3 _ _).mpr c2) ?_
    refine g_7 (a := 0) (b := 0) (nx := 46) (by decide +kernel) rfl ?_
    refine g_1 (a := (-1)) (b := 0) (nx := 47) (by decide +kernel) ?_
    refine g_53 (a := 2) (b := 7) (nx := 50) (by decide +kernel) h0 ?_
    refine g_7 (a := 0) (b := 0) (nx := 51) (by decide +kernel) rfl ?_
    refine g_1 (a := 4) (b := 0) (nx := 52) (by decide +kernel) ?_
    refine g_53 (a := 2) (b := 8) (nx := 55) (by decide +kernel) h0 ?_
    refine g_7 (a := 0) (b := 0) (nx := 56) (by decide +kernel) rfl ?_
    refine g_1 (a := 0) (b := 0) (nx := 57) (by decide +kernel) ?_
    refine g_53 (a := 2) (b := 9) (nx := 60) (by decide +kernel) h0 ?_
    refine g_7 (a := 0) (b := 0) (nx := 61) (by decide +kernel) rfl ?_
    refine g_1 (a := 1) (b := 0) (nx := 62) (by decide +kernel) ?_
    refine g_53 (a := 2) (b := 10) (nx := 65) (by decide +kernel) h0 ?_
    refine g_7 (a := 0) (b := 0) (nx := 66) (by decide +kernel) rfl ?_
    refine g_1 (a := 2) (b := 0) (nx := 67) (by decide +kernel) ?_
    refine g_53 (a := 2) (b := 11) (nx := 70) (by decide +kernel) h0 ?_
    refine g_7 (a := 0) (b := 0) (nx := 71) (by decide +kernel) rfl ?_
    refine g_1 (a := 1) (b := 0) (nx := 72) (by decide +kernel) ?_
    refine g_53 (a := 2) (b := 12) (nx := 75) (by decide +kernel) h0 ?_
    refine g_7 (a := 0) (b := 0) (nx := 76) (by decide +kernel) rfl ?_
    refine g_1 (a := 2) (b := 0) (nx := 77) (by decide +kernel) ?_
    refine g_53 (a := 2) (b := 13) (nx := 80) (by decide +kernel) h0 ?_
    refine g_7 (a := 0) (b := 0) (nx := 81) (by decide +kernel) rfl ?_
    refine g_1 (a := 2) (b := 0) (nx := 82) (by decide +kernel) ?_
    refine g_53 (a := 2) (b := 14) (nx := 85) (by decide +kernel) h0 ?_
    refine g_7 (a := 0) (b := 0) (nx := 86) (by decide +kernel) rfl ?_
    refine g_1 (a := 0) (b := 0) (nx := 87) (by decide +kernel) ?_
    refine g_53 (a := 2) (b := 15) (nx := 90) (by decide +kernel) h0 ?_
    refine g_7 (a := 0) (b := 0) (nx := 91) (by decide +kernel) rfl ?_
    refine g_1 (a := (-1)) (b := 0) (nx := 92) (by decide +kernel) ?_
    refine g_53 (a := 2) (b := 16) (nx := 95) (by decide +kernel) h0 ?_
    refine g_7 (a := 0) (b := 0) (nx := 96) (by decide +kernel) rfl ?_
    refine g_1 (a := 1) (b := 0) (nx := 97) (by decide +kernel) ?_
    refine g_53 (a := 2) (b := 17) (nx := 100) (by decide +kernel) h0 ?_
    exact g_90 (a := 0) (b := 0) (nx := 101) (by decide +kernel) h
  · rw [if_neg c2] at h
    refine g_41f (a := 3) (b := 45) (nx := 32) (by decide +kernel) (by rw [wr_id r1, wr_id (show inR 6 by decide)]; exact fun hz => c2 ((cb_3 _ _).mp hz)) ?_
    refine g_7 (a := 0) (b := 0) (nx := 33) (by decide +kernel) rfl ?_
    refine g_52 (a := 2) (b := 4) (nx := 36) (by decide +kernel) h0 ?_
    refine g_5 (a := 1) (b := 0) (nx := 37) (by decide +kernel) rfl ?_
    refine g_1 (a := 0) (b := 0) (nx := 38) (by decide +kernel) ?_
    refine g_62 (a := 0) (b := 0) (nx := 39) (by decide +kernel) h.1 ?_
    replace h := h.2
    refine g_11 (a := 1) (b := 1) (nx := 42) (by decide +kernel) rfl rfl (ls' := [some (vR x0), some (vI (x1 + 1))]) rfl ?_
    refine g_44 (a := 0) (b := 26) (nx := 45) (by decide +kernel) ?_
    exact h
-- 41 SyllableMaker$Law.costAt(I)I
theorem t_41 {x0 x1 : Int} {M : Mem} {Q : AV → Mem → Prop} (h0 : gO 2 x0) (h : inR x1 ∧ (if x1 < 0 then (Q (vI (-1)) M) else (if 6 ≤ x1 then (Q (vI (-1)) M) else ((gA 20 (M x0 4) x1) ∧ Q (vI (M (M x0 4) x1)) M)))) : WC 41 [vR x0, vI x1] M Q := by
  show WR 41 0 [some (vR x0), some (vI x1)] [] M Q
  refine g_5 (a := 1) (b := 0) (nx := 1) (by decide +kernel) rfl ?_
  obtain ⟨r1, h⟩ := h
  by_cases c3 : x1 < 0
  · rw [if_pos c3] at h
    refine g_40t (a := 2) (b := 19) (nx := 4) (by decide +kernel) r1 (by exact (cb_2 _ _).mpr c3) ?_
    refine g_1 (a := (-1)) (b := 0) (nx := 20) (by decide +kernel) ?_
    exact g_91 (b := 0) (nx := 21) (by decide +kernel) h
  · rw [if_neg c3] at h
    refine g_40f (a := 2) (b := 19) (nx := 4) (by decide +kernel) r1 (by exact fun hz => c3 ((cb_2 _ _).mp hz)) ?_
    refine g_5 (a := 1) (b := 0) (nx := 5) (by decide +kernel) rfl ?_
    refine g_1 (a := 6) (b := 0) (nx := 7) (by decide +kernel) ?_
    by_cases c2 : 6 ≤ x1
    · rw [if_pos c2] at h
      refine g_41t (a := 3) (b := 19) (nx := 10) (by decide +kernel) (by rw [wr_id r1, wr_id (show inR 6 by decide)]; exact (cb_3 _ _).mpr c2) ?_
      refine g_1 (a := (-1)) (b := 0) (nx := 20) (by decide +kernel) ?_
      exact g_91 (b := 0) (nx := 21) (by decide +kernel) h
    · rw [if_neg c2] at h
      refine g_41f (a := 3) (b := 19) (nx := 10) (by decide +kernel) (by rw [wr_id r1, wr_id (show inR 6 by decide)]; exact fun hz => c2 ((cb_3 _ _).mp hz)) ?_
      refine g_7 (a := 0) (b := 0) (nx := 11) (by decide +kernel) rfl ?_
      refine g_52 (a := 2) (b := 4) (nx := 14) (by decide +kernel) h0 ?_
      refine g_5 (a := 1) (b := 0) (nx := 15) (by decide +kernel) rfl ?_
      refine g_61 (a := 0) (b := 0) (nx := 16) (by decide +kernel) h.1 ?_
      replace h := h.2
      refine g_44 (a := 0) (b := 20) (nx := 19) (by decide +kernel) ?_
      exact g_91 (b := 0) (nx := 21) (by decide +kernel) h
-- 42 SyllableMaker$Law.putCost(II)V
theorem t_42 {x0 x1 x2 : Int} {M : Mem} {Q : AV → Mem → Prop} (h0 : gO 2 x0) (h : inR x1 ∧ (if x1 < 0 then (Q (vI 0) M) else (if 6 ≤ x1 then (Q (vI 0) M) else ((gA 20 (M x0 4) x1) ∧ Q (vI 0) (upM M (M x0 4) x1 x2))))) : WC 42 [vR x0, vI x1, vI x2] M Q := by
  show WR 42 0 [some (vR x0), some (vI x1), some (vI x2)] [] M Q
  refine g_5 (a := 1) (b := 0) (nx := 1) (by decide +kernel) rfl ?_
  obtain ⟨r1, h⟩ := h
  by_cases c3 : x1 < 0
  · rw [if_pos c3] at h
    refine g_40t (a := 2) (b := 17) (nx := 4) (by decide +kernel) r1 (by exact (cb_2 _ _).mpr c3) ?_
    exact g_90 (a := 0) (b := 0) (nx := 18) (by decide +kernel) h
  · rw [if_neg c3] at h
    refine g_40f (a := 2) (b := 17) (nx := 4) (by decide +kernel) r1 (by exact fun hz => c3 ((cb_2 _ _).mp hz)) ?_
    refine g_5 (a := 1) (b := 0) (nx := 5) (by decide +kernel) rfl ?_
    refine g_1 (a := 6) (b := 0) (nx := 7) (by decide +kernel) ?_
    by_cases c2 : 6 ≤ x1
    · rw [if_pos c2] at h
      refine g_41t (a := 3) (b := 17) (nx := 10) (by decide +kernel) (by rw [wr_id r1, wr_id (show inR 6 by decide)]; exact (cb_3 _ _).mpr c2) ?_
      exact g_90 (a := 0) (b := 0) (nx := 18) (by decide +kernel) h
    · rw [if_neg c2] at h
      refine g_41f (a := 3) (b := 17) (nx := 10) (by decide +kernel) (by rw [wr_id r1, wr_id (show inR 6 by decide)]; exact fun hz => c2 ((cb_3 _ _).mp hz)) ?_
      refine g_7 (a := 0) (b := 0) (nx := 11) (by decide +kernel) rfl ?_
      refine g_52 (a := 2) (b := 4) (nx := 14) (by decide +kernel) h0 ?_
      refine g_5 (a := 1) (b := 0) (nx := 15) (by decide +kernel) rfl ?_
      refine g_5 (a := 2) (b := 0) (nx := 16) (by decide +kernel) rfl ?_
      refine g_62 (a := 0) (b := 0) (nx := 17) (by decide +kernel) h.1 ?_
      replace h := h.2
      exact g_90 (a := 0) (b := 0) (nx := 18) (by decide +kernel) h
-- 43 SyllableMaker$Law.addTold(J)V
theorem t_43 {x0 x1 : Int} {M : Mem} {Q : AV → Mem → Prop} (h0 : gO 2 x0) (h : inR (M x0 5) ∧ (if 12 ≤ (M x0 5) then (Q (vI 0) M) else ((gA 23 (M x0 2) (M x0 5)) ∧ Q (vI 0) (upM (upM M (M x0 2) (M x0 5) x1) x0 5 (((upM M (M x0 2) (M x0 5) x1) x0 5) + 1))))) : WC 43 [vR x0, vL x1] M Q := by
  show WR 43 0 [some (vR x0), some (vL x1), none] [] M Q
  refine g_7 (a := 0) (b := 0) (nx := 1) (by decide +kernel) rfl ?_
  refine g_50 (a := 2) (b := 5) (nx := 4) (by decide +kernel) h0 ?_
  refine g_1 (a := 12) (b := 0) (nx := 6) (by decide +kernel) ?_
  obtain ⟨r1, h⟩ := h
  by_cases c2 : 12 ≤ (M x0 5)
  · rw [if_pos c2] at h
    refine g_41t (a := 3) (b := 29) (nx := 9) (by decide +kernel) (by rw [wr_id r1, wr_id (show inR 12 by decide)]; exact (cb_3 _ _).mpr c2) ?_
    exact g_90 (a := 0) (b := 0) (nx := 30) (by decide +kernel) h
  · rw [if_neg c2] at h
    refine g_41f (a := 3) (b := 29) (nx := 9) (by decide +kernel) (by rw [wr_id r1, wr_id (show inR 12 by decide)]; exact fun hz => c2 ((cb_3 _ _).mp hz)) ?_
    refine g_7 (a := 0) (b := 0) (nx := 10) (by decide +kernel) rfl ?_
    refine g_52 (a := 2) (b := 2) (nx := 13) (by decide +kernel) h0 ?_
    refine g_7 (a := 0) (b := 0) (nx := 14) (by decide +kernel) rfl ?_
    refine g_50 (a := 2) (b := 5) (nx := 17) (by decide +kernel) h0 ?_
    refine g_6 (a := 1) (b := 0) (nx := 18) (by decide +kernel) rfl ?_
    refine g_68 (a := 0) (b := 0) (nx := 19) (by decide +kernel) h.1 ?_
    replace h := h.2
    refine g_7 (a := 0) (b := 0) (nx := 20) (by decide +kernel) rfl ?_
    refine g_13 (a := 0) (b := 0) (nx := 21) (by decide +kernel) rfl ?_
    refine g_50 (a := 2) (b := 5) (nx := 24) (by decide +kernel) h0 ?_
    refine g_1 (a := 1) (b := 0) (nx := 25) (by decide +kernel) ?_
    refine g_15 (a := 0) (b := 0) (nx := 26) (by decide +kernel) ?_
    refine g_53 (a := 2) (b := 5) (nx := 29) (by decide +kernel) h0 ?_
    exact g_90 (a := 0) (b := 0) (nx := 30) (by decide +kernel) h
-- 44 SyllableMaker$Law.isTold(J)Z
theorem t_44 {x0 x1 : Int} {M : Mem} {Q : AV → Mem → Prop} (h0 : gO 2 x0) (h : WR 44 2 [some (vR x0), some (vL x1), none, some (vI 0)] [] M Q) : WC 44 [vR x0, vL x1] M Q := by
  show WR 44 0 [some (vR x0), some (vL x1), none, none] [] M Q
  refine g_1 (a := 0) (b := 0) (nx := 1) (by decide +kernel) ?_
  refine g_8 (a := 3) (b := 0) (nx := 2) (by decide +kernel) rfl (ls' := [some (vR x0), some (vL x1), none, some (vI 0)]) rfl ?_
  exact h
theorem t_44_2 {x0 x1 x3 : Int} {M : Mem} {Q : AV → Mem → Prop} (h0 : gO 2 x0) (h : inR x3 ∧ (inR (M x0 5) ∧ (if (M x0 5) ≤ x3 then (Q (vI 0) M) else (if 12 ≤ x3 then (Q (vI 0) M) else ((gA 23 (M x0 2) x3) ∧ (in64 (M (M x0 2) x3) ∧ in64 x1) ∧ inR (if (M (M x0 2) x3) < x1 then -1 else if (M (M x0 2) x3) = x1 then 0 else 1) ∧ (if (if (M (M x0 2) x3) < x1 then -1 else if (M (M x0 2) x3) = x1 then 0 else 1) = 0 then (Q (vI 1) M) else (WR 44 2 [some (vR x0), some (vL x1), none, some (vI (x3 + 1))] [] M Q))))))) : WR 44 2 [some (vR x0), some (vL x1), none, some (vI x3)] [] M Q := by
  refine g_5 (a := 3) (b := 0) (nx := 3) (by decide +kernel) rfl ?_
  refine g_7 (a := 0) (b := 0) (nx := 4) (by decide +kernel) rfl ?_
  refine g_50 (a := 2) (b := 5) (nx := 7) (by decide +kernel) h0 ?_
  obtain ⟨r1, h⟩ := h
  obtain ⟨r2, h⟩ := h
  by_cases c6 : (M x0 5) ≤ x3
  · rw [if_pos c6] at h
    refine g_41t (a := 3) (b := 35) (nx := 10) (by decide +kernel) (by rw [wr_id r1, wr_id r2]; exact (cb_3 _ _).mpr c6) ?_
    refine g_1 (a := 0) (b := 0) (nx := 36) (by decide +kernel) ?_
    exact g_91z (b := 0) (nx := 37) (by decide +kernel) (by decide) h
  · rw [if_neg c6] at h
    refine g_41f (a := 3) (b := 35) (nx := 10) (by decide +kernel) (by rw [wr_id r1, wr_id r2]; exact fun hz => c6 ((cb_3 _ _).mp hz)) ?_
    refine g_5 (a := 3) (b := 0) (nx := 11) (by decide +kernel) rfl ?_
    refine g_1 (a := 12) (b := 0) (nx := 13) (by decide +kernel) ?_
    by_cases c5 : 12 ≤ x3
    · rw [if_pos c5] at h
      refine g_41t (a := 3) (b := 35) (nx := 16) (by decide +kernel) (by rw [wr_id r1, wr_id (show inR 12 by decide)]; exact (cb_3 _ _).mpr c5) ?_
      refine g_1 (a := 0) (b := 0) (nx := 36) (by decide +kernel) ?_
      exact g_91z (b := 0) (nx := 37) (by decide +kernel) (by decide) h
    · rw [if_neg c5] at h
      refine g_41f (a := 3) (b := 35) (nx := 16) (by decide +kernel) (by rw [wr_id r1, wr_id (show inR 12 by decide)]; exact fun hz => c5 ((cb_3 _ _).mp hz)) ?_
      refine g_7 (a := 0) (b := 0) (nx := 17) (by decide +kernel) rfl ?_
      refine g_52 (a := 2) (b := 2) (nx := 20) (by decide +kernel) h0 ?_
      refine g_5 (a := 3) (b := 0) (nx := 21) (by decide +kernel) rfl ?_
      refine g_67 (a := 0) (b := 0) (nx := 22) (by decide +kernel) h.1 ?_
      replace h := h.2
      refine g_6 (a := 1) (b := 0) (nx := 23) (by decide +kernel) rfl ?_
      refine g_34 (a := 0) (b := 0) (nx := 24) (by decide +kernel) h.1 ?_
      replace h := h.2
      obtain ⟨r3, h⟩ := h
      by_cases c4 : (if (M (M x0 2) x3) < x1 then -1 else if (M (M x0 2) x3) = x1 then 0 else 1) = 0
      · rw [if_pos c4] at h
        refine g_40f (a := 1) (b := 29) (nx := 27) (by decide +kernel) r3 (by exact fun hz => ((cb_1 _ _).mp hz) c4) ?_
        refine g_1 (a := 1) (b := 0) (nx := 28) (by decide +kernel) ?_
        exact g_91z (b := 0) (nx := 29) (by decide +kernel) (by decide) h
      · rw [if_neg c4] at h
        refine g_40t (a := 1) (b := 29) (nx := 27) (by decide +kernel) r3 (by exact (cb_1 _ _).mpr c4) ?_
        refine g_11 (a := 3) (b := 1) (nx := 32) (by decide +kernel) rfl rfl (ls' := [some (vR x0), some (vL x1), none, some (vI (x3 + 1))]) rfl ?_
        refine g_44 (a := 0) (b := 2) (nx := 35) (by decide +kernel) ?_
        exact h
-- 45 SyllableMaker$Law.addGlide(II)V
theorem t_45 {x0 x1 x2 : Int} {M : Mem} {Q : AV → Mem → Prop} (h0 : gO 2 x0) (h : inR (M x0 6) ∧ (if 6 ≤ (M x0 6) then (Q (vI 0) M) else ((gA 20 (M x0 3) (M x0 6)) ∧ Q (vI 0) (upM (upM M (M x0 3) (M x0 6) ((x1 * 16) + x2)) x0 6 (((upM M (M x0 3) (M x0 6) ((x1 * 16) + x2)) x0 6) + 1))))) : WC 45 [vR x0, vI x1, vI x2] M Q := by
  show WR 45 0 [some (vR x0), some (vI x1), some (vI x2)] [] M Q
  refine g_7 (a := 0) (b := 0) (nx := 1) (by decide +kernel) rfl ?_
  refine g_50 (a := 2) (b := 6) (nx := 4) (by decide +kernel) h0 ?_
  refine g_1 (a := 6) (b := 0) (nx := 6) (by decide +kernel) ?_
  obtain ⟨r1, h⟩ := h
  by_cases c2 : 6 ≤ (M x0 6)
  · rw [if_pos c2] at h
    refine g_41t (a := 3) (b := 34) (nx := 9) (by decide +kernel) (by rw [wr_id r1, wr_id (show inR 6 by decide)]; exact (cb_3 _ _).mpr c2) ?_
    exact g_90 (a := 0) (b := 0) (nx := 35) (by decide +kernel) h
  · rw [if_neg c2] at h
    refine g_41f (a := 3) (b := 34) (nx := 9) (by decide +kernel) (by rw [wr_id r1, wr_id (show inR 6 by decide)]; exact fun hz => c2 ((cb_3 _ _).mp hz)) ?_
    refine g_7 (a := 0) (b := 0) (nx := 10) (by decide +kernel) rfl ?_
    refine g_52 (a := 2) (b := 3) (nx := 13) (by decide +kernel) h0 ?_
    refine g_7 (a := 0) (b := 0) (nx := 14) (by decide +kernel) rfl ?_
    refine g_50 (a := 2) (b := 6) (nx := 17) (by decide +kernel) h0 ?_
    refine g_5 (a := 1) (b := 0) (nx := 18) (by decide +kernel) rfl ?_
    refine g_1 (a := 16) (b := 0) (nx := 20) (by decide +kernel) ?_
    refine g_17 (a := 0) (b := 0) (nx := 21) (by decide +kernel) ?_
    refine g_5 (a := 2) (b := 0) (nx := 22) (by decide +kernel) rfl ?_
    refine g_15 (a := 0) (b := 0) (nx := 23) (by decide +kernel) ?_
    refine g_62 (a := 0) (b := 0) (nx := 24) (by decide +kernel) h.1 ?_
    replace h := h.2
    refine g_7 (a := 0) (b := 0) (nx := 25) (by decide +kernel) rfl ?_
    refine g_13 (a := 0) (b := 0) (nx := 26) (by decide +kernel) rfl ?_
    refine g_50 (a := 2) (b := 6) (nx := 29) (by decide +kernel) h0 ?_
    refine g_1 (a := 1) (b := 0) (nx := 30) (by decide +kernel) ?_
    refine g_15 (a := 0) (b := 0) (nx := 31) (by decide +kernel) ?_
    refine g_53 (a := 2) (b := 6) (nx := 34) (by decide +kernel) h0 ?_
    exact g_90 (a := 0) (b := 0) (nx := 35) (by decide +kernel) h
-- 46 SyllableMaker$Law.isGlide(II)Z
theorem t_46 {x0 x1 x2 : Int} {M : Mem} {Q : AV → Mem → Prop} (h0 : gO 2 x0) (h : WR 46 2 [some (vR x0), some (vI x1), some (vI x2), some (vI 0)] [] M Q) : WC 46 [vR x0, vI x1, vI x2] M Q := by
  show WR 46 0 [some (vR x0), some (vI x1), some (vI x2), none] [] M Q
  refine g_1 (a := 0) (b := 0) (nx := 1) (by decide +kernel) ?_
  refine g_8 (a := 3) (b := 0) (nx := 2) (by decide +kernel) rfl (ls' := [some (vR x0), some (vI x1), some (vI x2), some (vI 0)]) rfl ?_
  exact h
theorem t_46_2 {x0 x1 x2 x3 : Int} {M : Mem} {Q : AV → Mem → Prop} (h0 : gO 2 x0) (h : inR x3 ∧ (inR (M x0 6) ∧ (if (M x0 6) ≤ x3 then (Q (vI 0) M) else (if 6 ≤ x3 then (Q (vI 0) M) else ((gA 20 (M x0 3) x3) ∧ inR (M (M x0 3) x3) ∧ (inR ((x1 * 16) + x2) ∧ (if (M (M x0 3) x3) = ((x1 * 16) + x2) then (Q (vI 1) M) else (WR 46 2 [some (vR x0), some (vI x1), some (vI x2), some (vI (x3 + 1))] [] M Q)))))))) : WR 46 2 [some (vR x0), some (vI x1), some (vI x2), some (vI x3)] [] M Q := by
  refine g_5 (a := 3) (b := 0) (nx := 3) (by decide +kernel) rfl ?_
  refine g_7 (a := 0) (b := 0) (nx := 4) (by decide +kernel) rfl ?_
  refine g_50 (a := 2) (b := 6) (nx := 7) (by decide +kernel) h0 ?_
  obtain ⟨r1, h⟩ := h
  obtain ⟨r2, h⟩ := h
  by_cases c7 : (M x0 6) ≤ x3
  · rw [if_pos c7] at h
    refine g_41t (a := 3) (b := 39) (nx := 10) (by decide +kernel) (by rw [wr_id r1, wr_id r2]; exact (cb_3 _ _).mpr c7) ?_
    refine g_1 (a := 0) (b := 0) (nx := 40) (by decide +kernel) ?_
    exact g_91z (b := 0) (nx := 41) (by decide +kernel) (by decide) h
  · rw [if_neg c7] at h
    refine g_41f (a := 3) (b := 39) (nx := 10) (by decide +kernel) (by rw [wr_id r1, wr_id r2]; exact fun hz => c7 ((cb_3 _ _).mp hz)) ?_
    refine g_5 (a := 3) (b := 0) (nx := 11) (by decide +kernel) rfl ?_
    refine g_1 (a := 6) (b := 0) (nx := 13) (by decide +kernel) ?_
    by_cases c6 : 6 ≤ x3
    · rw [if_pos c6] at h
      refine g_41t (a := 3) (b := 39) (nx := 16) (by decide +kernel) (by rw [wr_id r1, wr_id (show inR 6 by decide)]; exact (cb_3 _ _).mpr c6) ?_
      refine g_1 (a := 0) (b := 0) (nx := 40) (by decide +kernel) ?_
      exact g_91z (b := 0) (nx := 41) (by decide +kernel) (by decide) h
    · rw [if_neg c6] at h
      refine g_41f (a := 3) (b := 39) (nx := 16) (by decide +kernel) (by rw [wr_id r1, wr_id (show inR 6 by decide)]; exact fun hz => c6 ((cb_3 _ _).mp hz)) ?_
      refine g_7 (a := 0) (b := 0) (nx := 17) (by decide +kernel) rfl ?_
      refine g_52 (a := 2) (b := 3) (nx := 20) (by decide +kernel) h0 ?_
      refine g_5 (a := 3) (b := 0) (nx := 21) (by decide +kernel) rfl ?_
      refine g_61 (a := 0) (b := 0) (nx := 22) (by decide +kernel) h.1 ?_
      replace h := h.2
      refine g_5 (a := 1) (b := 0) (nx := 23) (by decide +kernel) rfl ?_
      refine g_1 (a := 16) (b := 0) (nx := 25) (by decide +kernel) ?_
      refine g_17 (a := 0) (b := 0) (nx := 26) (by decide +kernel) ?_
      refine g_5 (a := 2) (b := 0) (nx := 27) (by decide +kernel) rfl ?_
      refine g_15 (a := 0) (b := 0) (nx := 28) (by decide +kernel) ?_
      obtain ⟨r3, h⟩ := h
      obtain ⟨r4, h⟩ := h
      by_cases c5 : (M (M x0 3) x3) = ((x1 * 16) + x2)
      · rw [if_pos c5] at h
        refine g_41f (a := 1) (b := 33) (nx := 31) (by decide +kernel) (by rw [wr_id r3, wr_id r4]; exact fun hz => ((cb_1 _ _).mp hz) c5) ?_
        refine g_1 (a := 1) (b := 0) (nx := 32) (by decide +kernel) ?_
        exact g_91z (b := 0) (nx := 33) (by decide +kernel) (by decide) h
      · rw [if_neg c5] at h
        refine g_41t (a := 1) (b := 33) (nx := 31) (by decide +kernel) (by rw [wr_id r3, wr_id r4]; exact (cb_1 _ _).mpr c5) ?_
        refine g_11 (a := 3) (b := 1) (nx := 36) (by decide +kernel) rfl rfl (ls' := [some (vR x0), some (vI x1), some (vI x2), some (vI (x3 + 1))]) rfl ?_
        refine g_44 (a := 0) (b := 2) (nx := 39) (by decide +kernel) ?_
        exact h
-- 47 SyllableMaker$Law.isLongHeart(II)Z
theorem t_47 {x0 x1 x2 : Int} {M : Mem} {Q : AV → Mem → Prop} (h0 : gO 2 x0) (h : ((shA SH (M x0 0)).1 = 6) ∧ WI 94 [vR (M x0 0), vI x1] M (fun y2 M1 => inR y2 ∧ (if y2 = 0 then (Q (vI 0) M1) else (((shA SH (M1 x0 0)).1 = 6) ∧ WI 94 [vR (M1 x0 0), vI x2] M1 (fun y5 M4 => inR y5 ∧ (if y5 = 0 then (Q (vI 0) M4) else (inR x1 ∧ (inR x2 ∧ (if x1 = x2 then (Q (vI 1) M4) else (WI 46 [vR x0, vI x1, vI x2] M4 (fun y10 M9 => inR y10 ∧ (if y10 = 0 then (Q (vI 0) M9) else (Q (vI 1) M9))))))))))))) : WC 47 [vR x0, vI x1, vI x2] M Q := by
  show WR 47 0 [some (vR x0), some (vI x1), some (vI x2)] [] M Q
  refine g_7 (a := 0) (b := 0) (nx := 1) (by decide +kernel) rfl ?_
  refine g_52 (a := 2) (b := 0) (nx := 4) (by decide +kernel) h0 ?_
  refine g_5 (a := 1) (b := 0) (nx := 5) (by decide +kernel) rfl ?_
  refine g_80 (a := 94) (b := 1) (nx := 8) (by decide +kernel) (r := (M x0 0)) (As := [vI x1]) (st' := []) (z := 94) rfl rfl rfl (Nat.le_of_ble_eq_true rfl) h.1 (Nat.le_of_ble_eq_true rfl) rfl (c_I (by decide +kernel) h.2 (fun y2 M1 h => ?_))
  obtain ⟨r3, h⟩ := h
  by_cases c15 : y2 = 0
  · rw [if_pos c15] at h
    refine g_40t (a := 0) (b := 40) (nx := 11) (by decide +kernel) r3 (by exact (cb_0 _ _).mpr c15) ?_
    refine g_1 (a := 0) (b := 0) (nx := 41) (by decide +kernel) ?_
    exact g_91z (b := 0) (nx := 42) (by decide +kernel) (by decide) h
  · rw [if_neg c15] at h
    refine g_40f (a := 0) (b := 40) (nx := 11) (by decide +kernel) r3 (by exact fun hz => c15 ((cb_0 _ _).mp hz)) ?_
    refine g_7 (a := 0) (b := 0) (nx := 12) (by decide +kernel) rfl ?_
    refine g_52 (a := 2) (b := 0) (nx := 15) (by decide +kernel) h0 ?_
    refine g_5 (a := 2) (b := 0) (nx := 16) (by decide +kernel) rfl ?_
    refine g_80 (a := 94) (b := 1) (nx := 19) (by decide +kernel) (r := (M1 x0 0)) (As := [vI x2]) (st' := []) (z := 94) rfl rfl rfl (Nat.le_of_ble_eq_true rfl) h.1 (Nat.le_of_ble_eq_true rfl) rfl (c_I (by decide +kernel) h.2 (fun y5 M4 h => ?_))
    obtain ⟨r6, h⟩ := h
    by_cases c14 : y5 = 0
    · rw [if_pos c14] at h
      refine g_40t (a := 0) (b := 40) (nx := 22) (by decide +kernel) r6 (by exact (cb_0 _ _).mpr c14) ?_
      refine g_1 (a := 0) (b := 0) (nx := 41) (by decide +kernel) ?_
      exact g_91z (b := 0) (nx := 42) (by decide +kernel) (by decide) h
    · rw [if_neg c14] at h
      refine g_40f (a := 0) (b := 40) (nx := 22) (by decide +kernel) r6 (by exact fun hz => c14 ((cb_0 _ _).mp hz)) ?_
      refine g_5 (a := 1) (b := 0) (nx := 23) (by decide +kernel) rfl ?_
      refine g_5 (a := 2) (b := 0) (nx := 24) (by decide +kernel) rfl ?_
      obtain ⟨r7, h⟩ := h
      obtain ⟨r8, h⟩ := h
      by_cases c13 : x1 = x2
      · rw [if_pos c13] at h
        refine g_41t (a := 0) (b := 36) (nx := 27) (by decide +kernel) (by rw [wr_id r7, wr_id r8]; exact (cb_0 _ _).mpr c13) ?_
        refine g_1 (a := 1) (b := 0) (nx := 37) (by decide +kernel) ?_
        refine g_44 (a := 0) (b := 41) (nx := 40) (by decide +kernel) ?_
        exact g_91z (b := 0) (nx := 42) (by decide +kernel) (by decide) h
      · rw [if_neg c13] at h
        refine g_41f (a := 0) (b := 36) (nx := 27) (by decide +kernel) (by rw [wr_id r7, wr_id r8]; exact fun hz => c13 ((cb_0 _ _).mp hz)) ?_
        refine g_7 (a := 0) (b := 0) (nx := 28) (by decide +kernel) rfl ?_
        refine g_5 (a := 1) (b := 0) (nx := 29) (by decide +kernel) rfl ?_
        refine g_5 (a := 2) (b := 0) (nx := 30) (by decide +kernel) rfl ?_
        refine g_80 (a := 46) (b := 2) (nx := 33) (by decide +kernel) (r := x0) (As := [vI x1, vI x2]) (st' := []) (z := 46) rfl rfl rfl (Nat.le_of_ble_eq_true rfl) h0.2 (Nat.le_of_ble_eq_true rfl) rfl (c_I (by decide +kernel) h (fun y10 M9 h => ?_))
        obtain ⟨r11, h⟩ := h
        by_cases c12 : y10 = 0
        · rw [if_pos c12] at h
          refine g_40t (a := 0) (b := 40) (nx := 36) (by decide +kernel) r11 (by exact (cb_0 _ _).mpr c12) ?_
          refine g_1 (a := 0) (b := 0) (nx := 41) (by decide +kernel) ?_
          exact g_91z (b := 0) (nx := 42) (by decide +kernel) (by decide) h
        · rw [if_neg c12] at h
          refine g_40f (a := 0) (b := 40) (nx := 36) (by decide +kernel) r11 (by exact fun hz => c12 ((cb_0 _ _).mp hz)) ?_
          refine g_1 (a := 1) (b := 0) (nx := 37) (by decide +kernel) ?_
          refine g_44 (a := 0) (b := 41) (nx := 40) (by decide +kernel) ?_
          exact g_91z (b := 0) (nx := 42) (by decide +kernel) (by decide) h
-- 48 SyllableMaker$Law.openingKind(J)I
theorem t_48 {x0 x1 : Int} {M : Mem} {Q : AV → Mem → Prop} (h0 : gO 2 x0) (h : WI 85 [vL x1] M (fun y2 M1 => inR y2 ∧ (if 1 < y2 then (if y2 ≤ 4 then (WI 44 [vR x0, vL x1] M1 (fun y5 M4 => inR y5 ∧ (if y5 = 0 then (((shA SH (M4 x0 1)).1 = 10) ∧ WI 140 [vR (M4 x0 1), vL x1] M4 (fun y8 M7 => inR y8 ∧ (if y8 = 0 then (WI 49 [vR x0, vL x1] M7 (fun y11 M10 => inR y11 ∧ (if y11 = 0 then (Q (vI 0) M10) else (Q (vI 4) M10)))) else (Q (vI 3) M7)))) else (Q (vI 2) M4)))) else (Q (vI 0) M1)) else (Q (vI 1) M1)))) : WC 48 [vR x0, vL x1] M Q := by
  show WR 48 0 [some (vR x0), some (vL x1), none, none] [] M Q
  refine g_6 (a := 1) (b := 0) (nx := 1) (by decide +kernel) rfl ?_
  refine g_82 (a := 85) (b := 1) (nx := 4) (by decide +kernel) (As := [vL x1]) (st' := []) (z := 85) rfl rfl rfl (Nat.le_of_ble_eq_true rfl) (Nat.le_of_ble_eq_true rfl) rfl (c_I (by decide +kernel) h (fun y2 M1 h => ?_))
  refine g_8 (a := 3) (b := 0) (nx := 5) (by decide +kernel) rfl (ls' := [some (vR x0), some (vL x1), none, some (vI y2)]) rfl ?_
  refine g_5 (a := 3) (b := 0) (nx := 6) (by decide +kernel) rfl ?_
  refine g_1 (a := 1) (b := 0) (nx := 7) (by decide +kernel) ?_
  obtain ⟨r3, h⟩ := h
  by_cases c17 : 1 < y2
  · rw [if_pos c17] at h
    refine g_41t (a := 4) (b := 12) (nx := 10) (by decide +kernel) (by rw [wr_id r3, wr_id (show inR 1 by decide)]; exact (cb_4 _ _).mpr c17) ?_
    refine g_5 (a := 3) (b := 0) (nx := 13) (by decide +kernel) rfl ?_
    refine g_1 (a := 4) (b := 0) (nx := 14) (by decide +kernel) ?_
    by_cases c16 : y2 ≤ 4
    · rw [if_pos c16] at h
      refine g_41t (a := 5) (b := 19) (nx := 17) (by decide +kernel) (by rw [wr_id r3, wr_id (show inR 4 by decide)]; exact (cb_5 _ _).mpr c16) ?_
      refine g_7 (a := 0) (b := 0) (nx := 20) (by decide +kernel) rfl ?_
      refine g_6 (a := 1) (b := 0) (nx := 21) (by decide +kernel) rfl ?_
      refine g_80 (a := 44) (b := 1) (nx := 24) (by decide +kernel) (r := x0) (As := [vL x1]) (st' := []) (z := 44) rfl rfl rfl (Nat.le_of_ble_eq_true rfl) h0.2 (Nat.le_of_ble_eq_true rfl) rfl (c_I (by decide +kernel) h (fun y5 M4 h => ?_))
      obtain ⟨r6, h⟩ := h
      by_cases c15 : y5 = 0
      · rw [if_pos c15] at h
        refine g_40t (a := 0) (b := 29) (nx := 27) (by decide +kernel) r6 (by exact (cb_0 _ _).mpr c15) ?_
        refine g_7 (a := 0) (b := 0) (nx := 30) (by decide +kernel) rfl ?_
        refine g_52 (a := 2) (b := 1) (nx := 33) (by decide +kernel) h0 ?_
        refine g_6 (a := 1) (b := 0) (nx := 34) (by decide +kernel) rfl ?_
        refine g_80 (a := 140) (b := 1) (nx := 37) (by decide +kernel) (r := (M4 x0 1)) (As := [vL x1]) (st' := []) (z := 140) rfl rfl rfl (Nat.le_of_ble_eq_true rfl) h.1 (Nat.le_of_ble_eq_true rfl) rfl (c_I (by decide +kernel) h.2 (fun y8 M7 h => ?_))
        obtain ⟨r9, h⟩ := h
        by_cases c14 : y8 = 0
        · rw [if_pos c14] at h
          refine g_40t (a := 0) (b := 42) (nx := 40) (by decide +kernel) r9 (by exact (cb_0 _ _).mpr c14) ?_
          refine g_7 (a := 0) (b := 0) (nx := 43) (by decide +kernel) rfl ?_
          refine g_6 (a := 1) (b := 0) (nx := 44) (by decide +kernel) rfl ?_
          refine g_80 (a := 49) (b := 1) (nx := 47) (by decide +kernel) (r := x0) (As := [vL x1]) (st' := []) (z := 49) rfl rfl rfl (Nat.le_of_ble_eq_true rfl) h0.2 (Nat.le_of_ble_eq_true rfl) rfl (c_I (by decide +kernel) h (fun y11 M10 h => ?_))
          obtain ⟨r12, h⟩ := h
          by_cases c13 : y11 = 0
          · rw [if_pos c13] at h
            refine g_40t (a := 0) (b := 54) (nx := 50) (by decide +kernel) r12 (by exact (cb_0 _ _).mpr c13) ?_
            refine g_1 (a := 0) (b := 0) (nx := 55) (by decide +kernel) ?_
            exact g_91 (b := 0) (nx := 56) (by decide +kernel) h
          · rw [if_neg c13] at h
            refine g_40f (a := 0) (b := 54) (nx := 50) (by decide +kernel) r12 (by exact fun hz => c13 ((cb_0 _ _).mp hz)) ?_
            refine g_1 (a := 4) (b := 0) (nx := 51) (by decide +kernel) ?_
            refine g_44 (a := 0) (b := 55) (nx := 54) (by decide +kernel) ?_
            exact g_91 (b := 0) (nx := 56) (by decide +kernel) h
        · rw [if_neg c14] at h
          refine g_40f (a := 0) (b := 42) (nx := 40) (by decide +kernel) r9 (by exact fun hz => c14 ((cb_0 _ _).mp hz)) ?_
          refine g_1 (a := 3) (b := 0) (nx := 41) (by decide +kernel) ?_
          exact g_91 (b := 0) (nx := 42) (by decide +kernel) h
      · rw [if_neg c15] at h
        refine g_40f (a := 0) (b := 29) (nx := 27) (by decide +kernel) r6 (by exact fun hz => c15 ((cb_0 _ _).mp hz)) ?_
        refine g_1 (a := 2) (b := 0) (nx := 28) (by decide +kernel) ?_
        exact g_91 (b := 0) (nx := 29) (by decide +kernel) h
    · rw [if_neg c16] at h
      refine g_41f (a := 5) (b := 19) (nx := 17) (by decide +kernel) (by rw [wr_id r3, wr_id (show inR 4 by decide)]; exact fun hz => c16 ((cb_5 _ _).mp hz)) ?_
      refine g_1 (a := 0) (b := 0) (nx := 18) (by decide +kernel) ?_
      exact g_91 (b := 0) (nx := 19) (by decide +kernel) h
  · rw [if_neg c17] at h
    refine g_41f (a := 4) (b := 12) (nx := 10) (by decide +kernel) (by rw [wr_id r3, wr_id (show inR 1 by decide)]; exact fun hz => c17 ((cb_4 _ _).mp hz)) ?_
    refine g_1 (a := 1) (b := 0) (nx := 11) (by decide +kernel) ?_
    exact g_91 (b := 0) (nx := 12) (by decide +kernel) h
-- 49 SyllableMaker$Law.isRising(J)Z
theorem t_49 {x0 x1 : Int} {M : Mem} {Q : AV → Mem → Prop} (h0 : gO 2 x0) (h : inR (M x0 7) ∧ (if (M x0 7) = (-1) then (Q (vI 0) M) else (((shA SH (M x0 0)).1 = 6) ∧ WI 99 [vR (M x0 0), vL x1, vI (M x0 7), vI 1] M (fun y3 M2 => inR y3 ∧ (if y3 = 0 then (Q (vI 0) M2) else (Q (vI 1) M2)))))) : WC 49 [vR x0, vL x1] M Q := by
  show WR 49 0 [some (vR x0), some (vL x1), none] [] M Q
  refine g_7 (a := 0) (b := 0) (nx := 1) (by decide +kernel) rfl ?_
  refine g_50 (a := 2) (b := 7) (nx := 4) (by decide +kernel) h0 ?_
  refine g_1 (a := (-1)) (b := 0) (nx := 5) (by decide +kernel) ?_
  obtain ⟨r1, h⟩ := h
  by_cases c6 : (M x0 7) = (-1)
  · rw [if_pos c6] at h
    refine g_41t (a := 0) (b := 28) (nx := 8) (by decide +kernel) (by rw [wr_id r1, wr_id (show inR (-1) by decide)]; exact (cb_0 _ _).mpr c6) ?_
    refine g_1 (a := 0) (b := 0) (nx := 29) (by decide +kernel) ?_
    exact g_91z (b := 0) (nx := 30) (by decide +kernel) (by decide) h
  · rw [if_neg c6] at h
    refine g_41f (a := 0) (b := 28) (nx := 8) (by decide +kernel) (by rw [wr_id r1, wr_id (show inR (-1) by decide)]; exact fun hz => c6 ((cb_0 _ _).mp hz)) ?_
    refine g_7 (a := 0) (b := 0) (nx := 9) (by decide +kernel) rfl ?_
    refine g_52 (a := 2) (b := 0) (nx := 12) (by decide +kernel) h0 ?_
    refine g_6 (a := 1) (b := 0) (nx := 13) (by decide +kernel) rfl ?_
    refine g_7 (a := 0) (b := 0) (nx := 14) (by decide +kernel) rfl ?_
    refine g_50 (a := 2) (b := 7) (nx := 17) (by decide +kernel) h0 ?_
    refine g_1 (a := 1) (b := 0) (nx := 18) (by decide +kernel) ?_
    refine g_80 (a := 99) (b := 3) (nx := 21) (by decide +kernel) (r := (M x0 0)) (As := [vL x1, vI (M x0 7), vI 1]) (st' := []) (z := 99) rfl rfl rfl (Nat.le_of_ble_eq_true rfl) h.1 (Nat.le_of_ble_eq_true rfl) rfl (c_I (by decide +kernel) h.2 (fun y3 M2 h => ?_))
    obtain ⟨r4, h⟩ := h
    by_cases c5 : y3 = 0
    · rw [if_pos c5] at h
      refine g_40t (a := 0) (b := 28) (nx := 24) (by decide +kernel) r4 (by exact (cb_0 _ _).mpr c5) ?_
      refine g_1 (a := 0) (b := 0) (nx := 29) (by decide +kernel) ?_
      exact g_91z (b := 0) (nx := 30) (by decide +kernel) (by decide) h
    · rw [if_neg c5] at h
      refine g_40f (a := 0) (b := 28) (nx := 24) (by decide +kernel) r4 (by exact fun hz => c5 ((cb_0 _ _).mp hz)) ?_
      refine g_1 (a := 1) (b := 0) (nx := 25) (by decide +kernel) ?_
      refine g_44 (a := 0) (b := 29) (nx := 28) (by decide +kernel) ?_
      exact g_91z (b := 0) (nx := 30) (by decide +kernel) (by decide) h
-- 50 SyllableMaker$Law.isLegalClosing(J)Z
theorem t_50 {x0 x1 : Int} {M : Mem} {Q : AV → Mem → Prop} (h0 : gO 2 x0) (h : WI 85 [vL x1] M (fun y2 M1 => inR y2 ∧ (inR (M1 x0 8) ∧ (if (M1 x0 8) < y2 then (Q (vI 0) M1) else (((shA SH (M1 x0 0)).1 = 6) ∧ WI 99 [vR (M1 x0 0), vL x1, vI (M1 x0 9), vI 0] M1 (fun y6 M5 => inR y6 ∧ (if y6 = 0 then (Q (vI 0) M5) else (Q (vI 1) M5)))))))) : WC 50 [vR x0, vL x1] M Q := by
  show WR 50 0 [some (vR x0), some (vL x1), none] [] M Q
  refine g_6 (a := 1) (b := 0) (nx := 1) (by decide +kernel) rfl ?_
  refine g_82 (a := 85) (b := 1) (nx := 4) (by decide +kernel) (As := [vL x1]) (st' := []) (z := 85) rfl rfl rfl (Nat.le_of_ble_eq_true rfl) (Nat.le_of_ble_eq_true rfl) rfl (c_I (by decide +kernel) h (fun y2 M1 h => ?_))
  refine g_7 (a := 0) (b := 0) (nx := 5) (by decide +kernel) rfl ?_
  refine g_50 (a := 2) (b := 8) (nx := 8) (by decide +kernel) h0 ?_
  obtain ⟨r3, h⟩ := h
  obtain ⟨r4, h⟩ := h
  by_cases c9 : (M1 x0 8) < y2
  · rw [if_pos c9] at h
    refine g_41t (a := 4) (b := 31) (nx := 11) (by decide +kernel) (by rw [wr_id r3, wr_id r4]; exact (cb_4 _ _).mpr c9) ?_
    refine g_1 (a := 0) (b := 0) (nx := 32) (by decide +kernel) ?_
    exact g_91z (b := 0) (nx := 33) (by decide +kernel) (by decide) h
  · rw [if_neg c9] at h
    refine g_41f (a := 4) (b := 31) (nx := 11) (by decide +kernel) (by rw [wr_id r3, wr_id r4]; exact fun hz => c9 ((cb_4 _ _).mp hz)) ?_
    refine g_7 (a := 0) (b := 0) (nx := 12) (by decide +kernel) rfl ?_
    refine g_52 (a := 2) (b := 0) (nx := 15) (by decide +kernel) h0 ?_
    refine g_6 (a := 1) (b := 0) (nx := 16) (by decide +kernel) rfl ?_
    refine g_7 (a := 0) (b := 0) (nx := 17) (by decide +kernel) rfl ?_
    refine g_50 (a := 2) (b := 9) (nx := 20) (by decide +kernel) h0 ?_
    refine g_1 (a := 0) (b := 0) (nx := 21) (by decide +kernel) ?_
    refine g_80 (a := 99) (b := 3) (nx := 24) (by decide +kernel) (r := (M1 x0 0)) (As := [vL x1, vI (M1 x0 9), vI 0]) (st' := []) (z := 99) rfl rfl rfl (Nat.le_of_ble_eq_true rfl) h.1 (Nat.le_of_ble_eq_true rfl) rfl (c_I (by decide +kernel) h.2 (fun y6 M5 h => ?_))
    obtain ⟨r7, h⟩ := h
    by_cases c8 : y6 = 0
    · rw [if_pos c8] at h
      refine g_40t (a := 0) (b := 31) (nx := 27) (by decide +kernel) r7 (by exact (cb_0 _ _).mpr c8) ?_
      refine g_1 (a := 0) (b := 0) (nx := 32) (by decide +kernel) ?_
      exact g_91z (b := 0) (nx := 33) (by decide +kernel) (by decide) h
    · rw [if_neg c8] at h
      refine g_40f (a := 0) (b := 31) (nx := 27) (by decide +kernel) r7 (by exact fun hz => c8 ((cb_0 _ _).mp hz)) ?_
      refine g_1 (a := 1) (b := 0) (nx := 28) (by decide +kernel) ?_
      refine g_44 (a := 0) (b := 32) (nx := 31) (by decide +kernel) ?_
      exact g_91z (b := 0) (nx := 33) (by decide +kernel) (by decide) h
-- 51 SyllableMaker$Law.countLearntOpenings()I
theorem t_51 {x0 : Int} {M : Mem} {Q : AV → Mem → Prop} (h0 : gO 2 x0) (h : WR 51 4 [some (vR x0), some (vI 0), some (vI 0)] [] M Q) : WC 51 [vR x0] M Q := by
  show WR 51 0 [some (vR x0), none, none] [] M Q
  refine g_1 (a := 0) (b := 0) (nx := 1) (by decide +kernel) ?_
  refine g_8 (a := 1) (b := 0) (nx := 2) (by decide +kernel) rfl (ls' := [some (vR x0), some (vI 0), none]) rfl ?_
  refine g_1 (a := 0) (b := 0) (nx := 3) (by decide +kernel) ?_
  refine g_8 (a := 2) (b := 0) (nx := 4) (by decide +kernel) rfl (ls' := [some (vR x0), some (vI 0), some (vI 0)]) rfl ?_
  exact h
theorem t_51_4 {x0 x1 x2 : Int} {M : Mem} {Q : AV → Mem → Prop} (h0 : gO 2 x0) (h : (gO 10 (M x0 1)) ∧ inR x2 ∧ (inR (M (M x0 1) 2) ∧ (if (M (M x0 1) 2) ≤ x2 then (Q (vI x1) M) else (WI 52 [vR x0, vI x2] M (fun y4 M3 => inR y4 ∧ (if y4 = 0 then (WR 51 4 [some (vR x0), some (vI x1), some (vI (x2 + 1))] [] M3 Q) else (WR 51 4 [some (vR x0), some (vI (x1 + 1)), some (vI (x2 + 1))] [] M3 Q))))))) : WR 51 4 [some (vR x0), some (vI x1), some (vI x2)] [] M Q := by
  refine g_5 (a := 2) (b := 0) (nx := 5) (by decide +kernel) rfl ?_
  refine g_7 (a := 0) (b := 0) (nx := 6) (by decide +kernel) rfl ?_
  refine g_52 (a := 2) (b := 1) (nx := 9) (by decide +kernel) h0 ?_
  refine g_50 (a := 10) (b := 2) (nx := 12) (by decide +kernel) h.1 ?_
  replace h := h.2
  obtain ⟨r1, h⟩ := h
  obtain ⟨r2, h⟩ := h
  by_cases c7 : (M (M x0 1) 2) ≤ x2
  · rw [if_pos c7] at h
    refine g_41t (a := 3) (b := 32) (nx := 15) (by decide +kernel) (by rw [wr_id r1, wr_id r2]; exact (cb_3 _ _).mpr c7) ?_
    refine g_5 (a := 1) (b := 0) (nx := 33) (by decide +kernel) rfl ?_
    exact g_91 (b := 0) (nx := 34) (by decide +kernel) h
  · rw [if_neg c7] at h
    refine g_41f (a := 3) (b := 32) (nx := 15) (by decide +kernel) (by rw [wr_id r1, wr_id r2]; exact fun hz => c7 ((cb_3 _ _).mp hz)) ?_
    refine g_7 (a := 0) (b := 0) (nx := 16) (by decide +kernel) rfl ?_
    refine g_5 (a := 2) (b := 0) (nx := 17) (by decide +kernel) rfl ?_
    refine g_80 (a := 52) (b := 1) (nx := 20) (by decide +kernel) (r := x0) (As := [vI x2]) (st' := []) (z := 52) rfl rfl rfl (Nat.le_of_ble_eq_true rfl) h0.2 (Nat.le_of_ble_eq_true rfl) rfl (c_I (by decide +kernel) h (fun y4 M3 h => ?_))
    obtain ⟨r5, h⟩ := h
    by_cases c6 : y4 = 0
    · rw [if_pos c6] at h
      refine g_40t (a := 0) (b := 26) (nx := 23) (by decide +kernel) r5 (by exact (cb_0 _ _).mpr c6) ?_
      refine g_11 (a := 2) (b := 1) (nx := 29) (by decide +kernel) rfl rfl (ls' := [some (vR x0), some (vI x1), some (vI (x2 + 1))]) rfl ?_
      refine g_44 (a := 0) (b := 4) (nx := 32) (by decide +kernel) ?_
      exact h
    · rw [if_neg c6] at h
      refine g_40f (a := 0) (b := 26) (nx := 23) (by decide +kernel) r5 (by exact fun hz => c6 ((cb_0 _ _).mp hz)) ?_
      refine g_11 (a := 1) (b := 1) (nx := 26) (by decide +kernel) rfl rfl (ls' := [some (vR x0), some (vI (x1 + 1)), some (vI x2)]) rfl ?_
      refine g_11 (a := 2) (b := 1) (nx := 29) (by decide +kernel) rfl rfl (ls' := [some (vR x0), some (vI (x1 + 1)), some (vI (x2 + 1))]) rfl ?_
      refine g_44 (a := 0) (b := 4) (nx := 32) (by decide +kernel) ?_
      exact h
