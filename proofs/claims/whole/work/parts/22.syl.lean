/-! SYLLABLE, part one: what is told of one. -/
def tellS (L : Lw) (W : List (List Int)) (c : Int → Int) (X : Ct) (k what : Int) : Int := if what = 0 then ofr X k else if what = 1 then osz X k else if what = 2 then hsz X k else if what = 3 then csz X k else if what = 4 then wgt L X k else if what = 5 then b2i (hvy L X k) else if what = 6 then cst L W c X k else -100
section SY
variable {M : Mem} {p k what : Int} {L : Lw} {W : List (List Int)} {X : Ct} {c : Int → Int}
theorem s154 {Q : Int → Mem → Prop} (h : CutIs M p L W X) (hC : CstIs M p c) (e2 : M 1 2 = 9) (h0 : 0 ≤ k) (h1 : k < cnt X) (hw : inR what) : WI 154 [vR 1, vI k, vI what] M Q = Q (tellS L W c X k what) M := by
  refine FN.wi (WC.fn (t_154 o1.1 ⟨hw, ?_⟩))
  unfold tellS
  rw [e2]
  by_cases b0 : what = 0
  · rw [if_pos b0, if_pos b0, s24 h h0 h1]
    exact ⟨sh9, rfl, rfl⟩
  rw [if_neg b0, if_neg b0]
  by_cases b1 : what = 1
  · rw [if_pos b1, if_pos b1, s25 h h0 h1]
    exact ⟨sh9, rfl, rfl⟩
  rw [if_neg b1, if_neg b1]
  by_cases b2 : what = 2
  · rw [if_pos b2, if_pos b2, s26 h.1 h0 h1]
    exact ⟨sh9, rfl, rfl⟩
  rw [if_neg b2, if_neg b2]
  by_cases b3 : what = 3
  · rw [if_pos b3, if_pos b3, s27 h h0 h1]
    exact ⟨sh9, rfl, rfl⟩
  rw [if_neg b3, if_neg b3]
  by_cases b4 : what = 4
  · rw [if_pos b4, if_pos b4, s32 h h0 h1]
    exact ⟨sh9, rfl, rfl⟩
  rw [if_neg b4, if_neg b4]
  by_cases b5 : what = 5
  · rw [if_pos b5, if_pos b5, s33 h h0 h1]
    refine ⟨sh9, by have := b2i_r (hvy L X k); omega, ?_⟩
    cases hvy L X k <;> exact ⟨rfl, rfl⟩
  rw [if_neg b5, if_neg b5]
  by_cases b6 : what = 6
  · rw [if_pos b6, if_pos b6, s35 h hC h0 h1]
    exact ⟨sh9, rfl, rfl⟩
  · rw [if_neg b6, if_neg b6]
    exact ⟨rfl, rfl⟩
theorem over_r {a b : List Int} (hw : Wf L) (ha : a.length ≤ 12) : 0 ≤ over L W a b ∧ over L W a b ≤ 4 ∧ over L W a b ≤ a.length ∧ (0 < cnt (X0 L a) → over L W a b ≤ beh (X0 L a) (cnt (X0 L a) - 1)) ∧ (0 < over L W a b → pkn L (gi b 0) = true) := by
  have hz := hw.2.2.2.2.2.2.2.2.2.2.2.2
  unfold over
  by_cases h1 : pkn L (gi b 0) = true
  · rw [if_pos h1]
    by_cases h2 : cnt (X0 L a) = 0
    · rw [if_pos h2]
      exact ⟨by omega, by omega, by omega, fun q => by omega, fun _ => h1⟩
    · rw [if_neg h2]
      have hH := X0_h L a ha
      have hG := X0_g L a ha
      have hc0 : 0 ≤ cnt (X0 L a) := Int.natCast_nonneg _
      have hr1 := csz_r hH hG (k := cnt (X0 L a) - 1) (by omega) (by omega)
      have hr2 := cls_r hH hG (k := cnt (X0 L a) - 1) (by omega) (by omega)
      have hr3 := beh_r hH (k := cnt (X0 L a) - 1) (by omega) (by omega)
      have hh := hen_r hH (k := cnt (X0 L a) - 1) (by omega) (by omega)
      have hXn : Xn (X0 L a) = a.length := rfl
      have hd := dn_r (fun s => decide (kind L W (sub a (a.length - s) s) ≠ 0)) (min (Lz L 10) (csz (X0 L a) (cnt (X0 L a) - 1))).toNat
      exact ⟨hd.1, by omega, by omega, fun _ => by omega, fun _ => h1⟩
  · rw [if_neg h1]
    refine ⟨by omega, by omega, by omega, fun q => ?_, fun q => by omega⟩
    exact (beh_r (X0_h L a ha) (by omega) (by omega)).1
end SY
