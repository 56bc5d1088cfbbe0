/-! THE CUT, part two: what the class tells of it, nothing written. -/
def CutH (M : Mem) (p : Int) (L : Lw) (W : List (List Int)) (X : Ct) : Prop := LawIs M p L ∧ WrdIs M (p + 8) 20 L W ∧ RowIs M (M 9 5) (Xl X) ∧ (M 9 0 = 10 ∧ M 9 1 = 11 ∧ M 9 2 = 12 ∧ M 9 3 = 13 ∧ M 9 4 = p ∧ M 9 9 = cnt X ∧ M 9 7 = Xc X ∧ M 9 8 = Xw X) ∧ HOk X ∧ (∀ k : Int, 0 ≤ k → k < cnt X → M 10 k = hst X k ∧ M 11 k = hsz X k) ∧ (0 < Xc X → RowIs M (M 9 6) (XA X))
def CutIs (M : Mem) (p : Int) (L : Lw) (W : List (List Int)) (X : Ct) : Prop := CutH M p L W X ∧ (∀ k : Int, 0 ≤ k → k < cnt X → M 12 k = cls X k) ∧ GOk X
def CstIs (M : Mem) (p : Int) (c : Int → Int) : Prop := ∀ i : Int, 0 ≤ i → i < 6 → M (p + 53) i = c i ∧ 0 ≤ c i ∧ c i ≤ 999
theorem sh_cut : gO 1 9 ∧ shA SH 10 = (20, 12) ∧ shA SH 11 = (20, 12) ∧ shA SH 12 = (20, 12) ∧ shA SH 13 = (20, 12) := ⟨⟨by decide, by decide +kernel⟩, by decide +kernel, by decide +kernel, by decide +kernel, by decide +kernel⟩
section RD
variable {M : Mem} {r p i s k : Int} {l : List Int} {L : Lw} {W : List (List Int)} {X : Ct} {c : Int → Int}
theorem s13 {Q : Int → Mem → Prop} (h : CutH M p L W X) (hi : inR k) : WI 13 [vR 9, vI k] M Q = Q (b2i (decide (0 ≤ k ∧ k < cnt X))) M := by
  have h9 := h.2.2.2.1.2.2.2.2.2.1
  have hc := h.2.2.2.2.1.1
  have h0 : 0 ≤ cnt X := Int.natCast_nonneg _
  clear h
  refine FN.wi (WC.fn (t_13 sh_cut.1 ?_))
  simp only [h9, gA, gO, true_and, and_true]
  repeat' first | (refine ⟨by omega, ?_⟩) | split
  all_goals first
    | (exfalso; omega)
    | (rw [decide_eq_false (by omega)]; rfl)
    | (rw [decide_eq_true (by omega)]; rfl)
theorem s14 {Q : Int → Mem → Prop} (h : CutH M p L W X) (hi : inR k) : WI 14 [vR 9, vI k] M Q = Q (if 0 ≤ k ∧ k < cnt X then hen X k else 0) M := by
  have h9 := h.2.2.2.1.2.2.2.2.2.1
  have ha := h.2.2.2.1.1
  have hb := h.2.2.2.1.2.1
  have hc := h.2.2.2.2.1.1
  have h0 : 0 ≤ cnt X := Int.natCast_nonneg _
  have hk := h.2.2.2.2.2.1 k
  clear h
  refine FN.wi (WC.fn (t_14 sh_cut.1 ?_))
  simp only [h9, ha, hb, sh_cut.2.1, sh_cut.2.2.1, gA, gO, true_and, and_true]
  by_cases hc : 0 ≤ k ∧ k < cnt X
  · rw [if_pos hc, (hk hc.1 hc.2).1, (hk hc.1 hc.2).2]
    repeat' first | (refine ⟨by omega, ?_⟩) | split
    all_goals first
      | (exfalso; omega)
      | exact ⟨rfl, rfl⟩
      | rfl
  · rw [if_neg hc]
    clear hk
    repeat' first | (refine ⟨by omega, ?_⟩) | split
    all_goals first
      | (exfalso; omega)
      | exact ⟨rfl, rfl⟩
      | rfl
theorem s15 {Q : Int → Mem → Prop} (h : CutH M p L W X) (h0 : 0 ≤ k) (h1 : k < cnt X) : WI 15 [vR 9, vI k] M Q = Q (beh X k) M := by
  have hc := h.2.2.2.2.1.1
  have hr := h.2.2.1
  refine FN.wi (WC.fn (t_15 sh_cut.1 ?_))
  rw [s13 h (by omega)]
  refine ⟨by have := b2i_r (decide (0 ≤ k + 1 ∧ k + 1 < cnt X)); omega, ?_⟩
  unfold beh
  by_cases h2 : k + 1 < cnt X
  · rw [decide_eq_true (by omega), if_neg (by decide), if_pos h2, s14 h (by omega), if_pos ⟨h0, h1⟩, h.2.2.2.1.1]
    rw [(h.2.2.2.2.2.1 (k + 1) (by omega) h2).1]
    exact ⟨⟨by rw [sh_cut.2.1], by omega, by rw [sh_cut.2.1]; show _ < ((12 : Nat) : Int); omega⟩, rfl, rfl⟩
  · rw [decide_eq_false (by omega), if_pos (by decide), if_neg h2, s14 h (by omega), if_pos ⟨h0, h1⟩]
    refine ⟨⟨hr.1.1, by rw [hr.1.2.1]⟩, ?_⟩
    rw [hr.2.2.1]
    exact ⟨rfl, rfl⟩
theorem hen_r (h : HOk X) (h0 : 0 ≤ k) (h1 : k < cnt X) : 0 ≤ hst X k ∧ hst X k < hen X k ∧ hen X k ≤ Xn X ∧ Xn X ≤ 12 ∧ 1 ≤ hsz X k ∧ hsz X k ≤ 2 ∧ cnt X ≤ 12 := by
  have a := h.2.2 k h0 h1
  have b := h.2.1
  have c := h.1
  have f : hen X k = hst X k + hsz X k := rfl
  omega
theorem s24 {Q : Int → Mem → Prop} (h : CutIs M p L W X) (h0 : 0 ≤ k) (h1 : k < cnt X) : WI 24 [vR 9, vI k] M Q = Q (ofr X k) M := by
  have hc := h.1.2.2.2.2.1.1
  refine FN.wi (WC.fn (t_24 sh_cut.1 ?_))
  unfold ofr
  refine ⟨by omega, ?_⟩
  by_cases h2 : k = 0
  · rw [if_pos h2, if_pos h2, h.1.2.2.2.1.2.2.2.2.2.2.1]
    exact ⟨rfl, rfl⟩
  · rw [if_neg h2, if_neg h2, s14 h.1 (by omega), if_pos (by omega), s13 h.1 (by omega), decide_eq_true (by omega)]
    refine ⟨by decide, ?_⟩
    rw [if_neg (by decide), h.1.2.2.2.1.2.2.1, h.2.1 (k - 1) (by omega) (by omega)]
    exact ⟨⟨by rw [sh_cut.2.2.2.1], by omega, by rw [sh_cut.2.2.2.1]; show _ < ((12 : Nat) : Int); omega⟩, rfl, rfl⟩
theorem s25 {Q : Int → Mem → Prop} (h : CutIs M p L W X) (h0 : 0 ≤ k) (h1 : k < cnt X) : WI 25 [vR 9, vI k] M Q = Q (osz X k) M := by
  have hc := h.1.2.2.2.2.1.1
  refine FN.wi (WC.fn (t_25 sh_cut.1 ?_))
  rw [s13 h.1 (by omega), decide_eq_true (by omega)]
  refine ⟨by decide, ?_⟩
  rw [if_neg (by decide), s24 h h0 h1, h.1.2.2.2.1.1, (h.1.2.2.2.2.2.1 k h0 h1).1]
  exact ⟨⟨by rw [sh_cut.2.1], by omega, by rw [sh_cut.2.1]; show _ < ((12 : Nat) : Int); omega⟩, rfl, rfl⟩
theorem s26 {Q : Int → Mem → Prop} (h : CutH M p L W X) (h0 : 0 ≤ k) (h1 : k < cnt X) : WI 26 [vR 9, vI k] M Q = Q (hsz X k) M := by
  have hc := h.2.2.2.2.1.1
  refine FN.wi (WC.fn (t_26 sh_cut.1 ?_))
  rw [s13 h (by omega), decide_eq_true (by omega)]
  refine ⟨by decide, ?_⟩
  rw [if_neg (by decide), h.2.2.2.1.2.1, (h.2.2.2.2.2.1 k h0 h1).2]
  exact ⟨⟨by rw [sh_cut.2.2.1], by omega, by rw [sh_cut.2.2.1]; show _ < ((12 : Nat) : Int); omega⟩, rfl, rfl⟩
theorem s27 {Q : Int → Mem → Prop} (h : CutIs M p L W X) (h0 : 0 ≤ k) (h1 : k < cnt X) : WI 27 [vR 9, vI k] M Q = Q (csz X k) M := by
  have hc := h.1.2.2.2.2.1.1
  refine FN.wi (WC.fn (t_27 sh_cut.1 ?_))
  rw [s13 h.1 (by omega), decide_eq_true (by omega)]
  refine ⟨by decide, ?_⟩
  rw [if_neg (by decide), h.1.2.2.2.1.2.2.1, h.2.1 k h0 h1, h.1.2.2.2.1.2.2.2.2.2.1, h.1.2.2.2.1.2.2.2.2.2.2.2]
  refine ⟨⟨by rw [sh_cut.2.2.2.1], by omega, by rw [sh_cut.2.2.2.1]; show _ < ((12 : Nat) : Int); omega⟩, by omega, by omega, ?_⟩
  unfold csz
  by_cases h2 : k + 1 = cnt X
  · rw [if_pos h2, if_pos (by omega)]
    exact ⟨rfl, rfl⟩
  · rw [if_neg h2, if_neg (by omega)]
    exact ⟨rfl, rfl⟩
theorem s29 {Q : Int → Mem → Prop} (h : CutH M p L W X) (h0 : 0 ≤ k) (h1 : k < cnt X) : WL 29 [vR 9, vI k] M Q = Q (keyOf (sub (Xl X) (hst X k) (hsz X k))) M := by
  have hh := hen_r h.2.2.2.2.1 h0 h1
  have f : hen X k = hst X k + hsz X k := rfl
  refine FN.wl (WC.fn (t_29 sh_cut.1 ?_))
  rw [s14 h (by omega), if_pos ⟨h0, h1⟩, s26 h h0 h1, s26 h h0 h1, show hen X k - hsz X k = hst X k by omega, s83 h.2.2.1 (by omega) (by omega) (by show _ ≤ Xn X; omega), h.2.2.1.1.2.1]
  exact ⟨rfl, rfl, rfl⟩
theorem s30 {Q : Int → Mem → Prop} (h : CutIs M p L W X) (h0 : 0 ≤ k) (h1 : k < cnt X) : WL 30 [vR 9, vI k] M Q = Q (keyOf (ckl X k)) M := by
  have hh := hen_r h.1.2.2.2.2.1 h0 h1
  have hb := beh_r h.1.2.2.2.2.1 h0 h1
  have hc := cls_r h.1.2.2.2.2.1 h.2.2 h0 h1
  have hd := csz_r h.1.2.2.2.2.1 h.2.2 h0 h1
  refine FN.wl (WC.fn (t_30 sh_cut.1 ?_))
  rw [s14 h.1 (by omega), if_pos ⟨h0, h1⟩, s27 h h0 h1, s83 h.1.2.2.1 (by omega) (by omega) (by show _ ≤ Xn X; omega), h.1.2.2.1.1.2.1]
  exact ⟨rfl, rfl, rfl⟩
theorem s31 {Q : Int → Mem → Prop} (h : CutH M p L W X) (h0 : 0 ≤ k) (h1 : k < cnt X) : WL 31 [vR 9, vI k] M Q = Q (keyOf (sub (Xl X) (hst X k) (Xn X - hst X k))) M := by
  have hh := hen_r h.2.2.2.2.1 h0 h1
  have f : hen X k = hst X k + hsz X k := rfl
  have hr := h.2.2.1
  refine FN.wl (WC.fn (t_31 sh_cut.1 ?_))
  rw [s14 h (by omega), if_pos ⟨h0, h1⟩, s26 h h0 h1, show hen X k - hsz X k = hst X k by omega, hr.2.2.1]
  rw [s83 hr (by omega) (by show 0 ≤ Xn X - _; omega) (by show hst X k + (Xn X - hst X k) ≤ Xn X; omega), hr.1.2.1]
  exact ⟨⟨hr.1.1, by rw [hr.1.2.1]⟩, rfl, rfl, rfl⟩
theorem s28 {Q : Int → Mem → Prop} (h : CutIs M p L W X) (h0 : 0 ≤ k) (h1 : k < cnt X) : WL 28 [vR 9, vI k] M Q = Q (keyOf (okl X k)) M := by
  have hh := hen_r h.1.2.2.2.2.1 h0 h1
  have ho := ofr_r h.1.2.2.2.2.1 h.2.2 h0 h1
  have hr := h.1.2.2.1
  have h7 := h.1.2.2.2.1.2.2.2.2.2.2.1
  have hxc := h.2.2.2
  have e : osz X k = hst X k - ofr X k := rfl
  have hown : ¬ (k = 0 ∧ 0 < Xc X) → WI 24 [vR 9, vI k] M (fun y3 M2 => WI 25 [vR 9, vI k] M2 (fun y5 M4 => ((shA SH (M 9 5)).1 = 5) ∧ WL 83 [vR (M 9 5), vI y3, vI y5] M4 (fun y7 M6 => vL y7 = vL (keyOf (okl X k)) ∧ M6 = M))) := by
    intro hn
    rcases ho with ho | ho
    · exact absurd ⟨ho.1, ho.2.1⟩ hn
    · rw [s24 h h0 h1, s25 h h0 h1, s83 hr (by omega) (by omega) (by show _ ≤ Xn X; omega), hr.1.2.1]
      unfold okl
      rw [if_neg hn]
      exact ⟨rfl, rfl, rfl⟩
  refine FN.wl (WC.fn (t_28 sh_cut.1 ?_))
  refine ⟨by omega, ?_⟩
  rw [h7]
  by_cases h2 : k = 0
  · rw [if_pos h2]
    refine ⟨by omega, ?_⟩
    by_cases h3 : Xc X ≤ 0
    · rw [if_pos h3]
      exact hown (by omega)
    · rw [if_neg h3]
      have ha := h.1.2.2.2.2.2.2 (by omega)
      have hap := ha.1.1
      refine ⟨by omega, ?_⟩
      rw [if_neg (by omega), ha.2.2.1, s83 ha (by omega) (by omega) (by omega), ha.1.2.1]
      unfold okl
      rw [if_pos ⟨h2, by omega⟩]
      exact ⟨⟨hap, by rw [ha.1.2.1]⟩, rfl, rfl, rfl⟩
  · rw [if_neg h2]
    exact hown (by omega)
end RD
