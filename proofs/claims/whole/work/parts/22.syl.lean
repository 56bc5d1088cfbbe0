/-! SYLLABLE, part one: what is told of one. -/
def tellS (L : Lw) (W : List (List Int)) (c : Int → Int) (X : Ct) (k what : Int) : Int := if what = 0 then ofr X k else if what = 1 then osz X k else if what = 2 then hsz X k else if what = 3 then csz X k else if what = 4 then wgt L X k else if what = 5 then b2i (hvy L X k) else if what = 6 then cst L W c X k else -100
section SY
variable {M : Mem} {p k what : Int} {L : Lw} {W : List (List Int)} {X : Ct} {c : Int → Int}
theorem s154 {Q : Int → Mem → Prop} (h : CutIs M p L W X) (hC : CstIs M p c) (e2 : M 1 2 = 9) (h0 : 0 ≤ k) (h1 : k < cnt X) (hw : inR what) : WI 154 [vR 1, vI k, vI what] M Q = Q (tellS L W c X k what) M := by
  refine FN.wi (WC.fn (t_154 o1.1 ⟨hw, ?_⟩))
  unfold tellS
  rw [e2]
  by_cases b0 : what = 0
  · rw [if_pos b0, if_pos b0, s24 h h0 h1]
    exact ⟨sh9, rfl, rfl⟩
  rw [if_neg b0, if_neg b0]
  by_cases b1 : what = 1
  · rw [if_pos b1, if_pos b1, s25 h h0 h1]
    exact ⟨sh9, rfl, rfl⟩
  rw [if_neg b1, if_neg b1]
  by_cases b2 : what = 2
  · rw [if_pos b2, if_pos b2, s26 h.1 h0 h1]
    exact ⟨sh9, rfl, rfl⟩
  rw [if_neg b2, if_neg b2]
  by_cases b3 : what = 3
  · rw [if_pos b3, if_pos b3, s27 h h0 h1]
    exact ⟨sh9, rfl, rfl⟩
  rw [if_neg b3, if_neg b3]
  by_cases b4 : what = 4
  · rw [if_pos b4, if_pos b4, s32 h h0 h1]
    exact ⟨sh9, rfl, rfl⟩
  rw [if_neg b4, if_neg b4]
  by_cases b5 : what = 5
  · rw [if_pos b5, if_pos b5, s33 h h0 h1]
    refine ⟨sh9, by have := b2i_r (hvy L X k); omega, ?_⟩
    cases hvy L X k <;> exact ⟨rfl, rfl⟩
  rw [if_neg b5, if_neg b5]
  by_cases b6 : what = 6
  · rw [if_pos b6, if_pos b6, s35 h hC h0 h1]
    exact ⟨sh9, rfl, rfl⟩
  · rw [if_neg b6, if_neg b6]
    exact ⟨rfl, rfl⟩
theorem over_r {a b : List Int} (hw : Wf L) (ha : a.length ≤ 12) : 0 ≤ over L W a b ∧ over L W a b ≤ 4 ∧ over L W a b ≤ a.length ∧ (0 < cnt (X0 L a) → over L W a b ≤ beh (X0 L a) (cnt (X0 L a) - 1)) ∧ (0 < over L W a b → pkn L (gi b 0) = true) := by
  have hz := hw.2.2.2.2.2.2.2.2.2.2.2.2
  unfold over
  by_cases h1 : pkn L (gi b 0) = true
  · rw [if_pos h1]
    by_cases h2 : cnt (X0 L a) = 0
    · rw [if_pos h2]
      exact ⟨by omega, by omega, by omega, fun q => by omega, fun _ => h1⟩
    · rw [if_neg h2]
      have hH := X0_h L a ha
      have hG := X0_g L a ha
      have hc0 : 0 ≤ cnt (X0 L a) := Int.natCast_nonneg _
      have hr1 := csz_r hH hG (k := cnt (X0 L a) - 1) (by omega) (by omega)
      have hr2 := cls_r hH hG (k := cnt (X0 L a) - 1) (by omega) (by omega)
      have hr3 := beh_r hH (k := cnt (X0 L a) - 1) (by omega) (by omega)
      have hh := hen_r hH (k := cnt (X0 L a) - 1) (by omega) (by omega)
      have hXn : Xn (X0 L a) = a.length := rfl
      have hd := dn_r (fun s => decide (kind L W (sub a (a.length - s) s) ≠ 0)) (min (Lz L 10) (csz (X0 L a) (cnt (X0 L a) - 1))).toNat
      exact ⟨hd.1, by omega, by omega, fun _ => by omega, fun _ => h1⟩
  · rw [if_neg h1]
    refine ⟨by omega, by omega, by omega, fun q => ?_, fun q => by omega⟩
    exact (beh_r (X0_h L a ha) (by omega) (by omega)).1
/-- a joined word's cut -/
def aheadW (S : List (List Int)) (k : Int) : List Int := if 0 < k then S.getD (k - 1).toNat [] else []
def XJ (L : Lw) (W S : List (List Int)) (k : Int) : Ct := wJ (XP L W (X0 L (S.getD k.toNat []))) (overAt L W S k) (overAt L W S (k + 1)) (aheadW S k)
variable {q : Int} {S : List (List Int)}
theorem s107 {Q : Int → Mem → Prop} (h : ClsQ M p q L W S c) (h0 : 0 ≤ k) (h1 : k < S.length) (hQ : ∀ M' : Mem, FrC M M' → CutIs M' p L W (XJ L W S k) → Q 1 M') : WI 107 [vR 14, vR p, vI k] M Q := by
  have h8 := h.2.2.1.2.2.2.1
  have hw := h.1.1.2.2.2.2.2
  have eq : (shA SH q).1 = 10 := by rw [h.2.2.1.1.2.1]
  have hq : WrC q 8 := Or.inr ⟨h.2.1, rfl⟩
  refine t_107 o1.2 (cOver h (by omega) (fun M1 g1 => cOver (h.fr g1.fr) (by omega) (fun M2 g2 => ?_)))
  have g12 := g1.tr g2
  have h2 := h.fr g12.fr
  obtain ⟨-, -, -, -, -, -, -, -, p140, p141⟩ := h2.2.2.2.2
  obtain ⟨ra, -, -⟩ := wrd_at hq h2.2.2.1 h0 h1
  have ra0 := ra.1.1
  rw [p141, s136 h2.2.2.1 (by omega), if_pos ⟨h0, h1⟩]
  refine ⟨eq, by omega, ?_⟩
  rw [if_neg (by omega), p140]
  refine ⟨sh9, s11 h2.1 ra (fun M3 g3 hX _ => ?_)⟩
  have e3 : M3 14 = M2 14 := g3.1 14 (by omega)
  rw [e3, p140]
  refine ⟨sh9, s17 hX (fun M4 g4 hP => ?_)⟩
  have g34 := g3.tr (FrC.o12 g4)
  have h4 := h2.fr g34.fr
  obtain ⟨-, -, -, -, -, -, -, -, r140, r141⟩ := h4.2.2.2.2
  rw [r141, s136 h4.2.2.1 (by omega), r140]
  refine ⟨eq, sh9, ?_⟩
  have hA12 := ra.2.2.2.1
  have o2 : overAt L W S (k + 1) = if k + 1 < S.length then over L W (S.getD k.toNat []) (S.getD (k + 1).toNat []) else 0 := by
    unfold overAt
    by_cases z : k + 1 < S.length
    · rw [if_pos ⟨by omega, z⟩, if_pos z, show k + 1 - 1 = k by omega]
    · rw [if_neg (by omega), if_neg z]
  have r2 := over_r (L := L) (W := W) (a := S.getD k.toNat []) (b := S.getD (k + 1).toNat []) hw hA12
  have hG := XP_g (L := L) (W := W) (X0_h L _ hA12) (X0_g L _ hA12)
  have went : 0 ≤ overAt L W S (k + 1) ∧ (0 < cnt (X0 L (S.getD k.toNat [])) → overAt L W S (k + 1) ≤ beh (X0 L (S.getD k.toNat [])) (cnt (X0 L (S.getD k.toNat [])) - 1)) := by
    rw [o2]
    by_cases z : k + 1 < S.length
    · rw [if_pos z]
      exact ⟨r2.1, r2.2.2.2.1⟩
    · rw [if_neg z]
      exact ⟨by omega, fun y => (beh_r (X0_h L _ hA12) (by omega) (by omega)).1⟩
  have goal : ∀ a : Int, 0 ≤ a → (a = 0 ∨ RowIs M4 a (aheadW S k)) → (if a = 0 then 0 else overAt L W S k) = overAt L W S k → GOk (XJ L W S k) → WV 22 [vR 9, vR a, vI (overAt L W S k), vI (overAt L W S (k + 1))] M4 (fun M13 => ∃ x, vI 1 = vI x ∧ Q x M13) := by
    intro a a0 hA e hG2
    have e' : wJ (XP L W (X0 L (S.getD k.toNat []))) (if a = 0 then 0 else overAt L W S k) (overAt L W S (k + 1)) (aheadW S k) = XJ L W S k := by rw [e]; rfl
    refine s22 (A := aheadW S k) hP a0 hA (by rw [e']; exact hG2) (fun M5 g5 hJ => ⟨1, rfl, hQ M5 (g12.tr (g34.tr g5)) (by rw [e'] at hJ; exact hJ)⟩)
  by_cases z : 0 < k
  · rw [if_pos (show 0 ≤ k - 1 ∧ k - 1 < (S.length : Int) by omega)]
    obtain ⟨rb, -, -⟩ := wrd_at hq h4.2.2.1 (i := k - 1) (by omega) (by omega)
    have rb0 := rb.1.1
    have hB12 := rb.2.2.2.1
    have eA : aheadW S k = S.getD (k - 1).toNat [] := by unfold aheadW; rw [if_pos z]
    have o1 : overAt L W S k = over L W (S.getD (k - 1).toNat []) (S.getD k.toNat []) := by unfold overAt; rw [if_pos ⟨z, h1⟩]
    have r1 := over_r (L := L) (W := W) (a := S.getD (k - 1).toNat []) (b := S.getD k.toNat []) hw hB12
    refine goal _ (by omega) (Or.inr (by rw [eA]; exact rb)) (by rw [if_neg (by omega)]) ⟨hG.1, ?_, ?_, went.1, went.2, ?_, fun y _ => ?_, ?_, ?_⟩
    · show 0 ≤ overAt L W S k; rw [o1]; exact r1.1
    · show overAt L W S k ≤ 4; rw [o1]; exact r1.2.1
    · show overAt L W S k ≤ (aheadW S k).length; rw [o1, eA]; exact r1.2.2.1
    · replace y : 0 < overAt L W S k := y
      rw [o1] at y
      have hp := r1.2.2.2.2 y
      have hl : 1 ≤ (S.getD k.toNat []).length := by
        rcases Nat.eq_zero_or_pos (S.getD k.toNat []).length with w0 | w0
        · rw [List.length_eq_zero_iff.mp w0] at hp
          exact absurd (pkn_on hp).1 (by decide)
        · exact w0
      exact ((lay_hd (L := L) hl).1 hp).2
    · show dg (aheadW S k); rw [eA]; exact rb.2.2.2.2.1
    · show (aheadW S k).length ≤ 12; rw [eA]; exact hB12
  · rw [if_neg (show ¬ (0 ≤ k - 1 ∧ k - 1 < (S.length : Int)) by omega)]
    have o1 : overAt L W S k = 0 := by unfold overAt; rw [if_neg (by omega)]
    have eA : aheadW S k = [] := by unfold aheadW; rw [if_neg z]
    refine goal 0 (by decide) (Or.inl rfl) (by rw [if_pos rfl, o1]) ⟨hG.1, ?_, ?_, went.1, went.2, ?_, fun y _ => ?_, ?_, ?_⟩
    · show 0 ≤ overAt L W S k; omega
    · show overAt L W S k ≤ 4; omega
    · show overAt L W S k ≤ (aheadW S k).length; omega
    · replace y : 0 < overAt L W S k := y
      omega
    · show dg (aheadW S k); rw [eA]; intro s hs; cases hs
    · show (aheadW S k).length ≤ 12; rw [eA]; decide
/-- what syllable tells -/
def aSyl (L : Lw) (W S : List (List Int)) (c : Int → Int) (w by' k what : Int) : Int := match wd W S w with
  | none => -100
  | some l => if by' < 0 then -100 else if by' ≤ 2 then (if by' = 2 then (if w < 100 then (if 0 ≤ k ∧ k < cnt (X0 L l) then tellS L W c (XJ L W S w) k what else -100) else -100) else if 0 ≤ k ∧ k < cnt (X0 L l) then tellS L W c (if by' = 1 then wG (X0 L l) (chpR L W c (X0 L l)).1 else XP L W (X0 L l)) k what else -100) else -100
theorem cSyl {Q : Int → Mem → Prop} {w by' : Int} (h : ClsQ M p q L W S c) (hw : inR w) (hb : inR by') (hk : inR k) (hi : inR what) (hQ : ∀ M' : Mem, Fr M M' → Q (aSyl L W S c w by' k what) M') : WI 153 [vR 1, vI w, vI by', vI k, vI what] M Q := by
  have hr := wP_r (w := w) h
  refine t_153 o1.1 ?_
  rw [s175 h hw]
  refine ⟨by omega, ?_⟩
  unfold aSyl at hQ
  cases e : wd W S w with
  | none =>
    rw [e] at hQ
    rw [wP_none e, if_pos rfl]
    exact ⟨_, rfl, hQ M Fr.rf⟩
  | some l =>
    rw [e] at hQ
    dsimp only at hQ
    have hs := (wP_some h e).1
    rw [if_neg (by have := hs.1.1; omega)]
    refine ⟨hb, ?_⟩
    by_cases a0 : by' < 0
    · rw [if_pos a0] at hQ ⊢
      exact ⟨_, rfl, hQ M Fr.rf⟩
    rw [if_neg a0] at hQ ⊢
    by_cases a5 : 2 < by'
    · rw [if_neg (show ¬ by' ≤ 2 by omega)] at hQ ⊢
      exact ⟨_, rfl, hQ M Fr.rf⟩
    rw [if_pos (show by' ≤ 2 by omega)] at hQ ⊢
    obtain ⟨-, -, p2, p3, -, -, -, p7, -, -⟩ := h.2.2.2.2
    have fin : ∀ (X : Ct) (M' : Mem), FrC M M' → CutIs M' p L W X → cnt X = cnt (X0 L l) → (∀ M' : Mem, Fr M M' → Q (if 0 ≤ k ∧ k < cnt (X0 L l) then tellS L W c X k what else -100) M') → ((shA SH (M' 1 2)).1 = 1) ∧ WI 13 [vR (M' 1 2), vI k] M' (fun y17 M16 => inR y17 ∧ (if y17 = 0 then (∃ x, vI (-100) = vI x ∧ Q x M16) else (WI 154 [vR 1, vI k, vI what] M16 (fun y20 M19 => ∃ x, vI y20 = vI x ∧ Q x M19)))) := by
      intro X M' g hX ec hQ
      have e2 : M' 1 2 = 9 := by rw [g.1 1 (by omega)]; exact p2
      rw [e2, s13 hX.1 hk, ec]
      refine ⟨sh9, by have := b2i_r (decide (0 ≤ k ∧ k < cnt (X0 L l))); omega, ?_⟩
      have := hQ M' g.fr
      by_cases z : 0 ≤ k ∧ k < cnt (X0 L l)
      · rw [if_pos z] at this
        rw [decide_eq_true z, if_neg (by decide), s154 hX (h.2.2.2.1.fr h.1.1.1 g.fr) e2 z.1 (by omega) hi]
        exact ⟨_, rfl, this⟩
      · rw [if_neg z] at this
        rw [decide_eq_false z, if_pos (by decide)]
        exact ⟨_, rfl, this⟩
    by_cases b2 : by' = 2
    · rw [if_pos b2] at hQ ⊢
      refine ⟨hw, ?_⟩
      by_cases w1 : w < 100
      · rw [if_pos w1] at hQ ⊢
        have hwd : 0 ≤ w ∧ w < S.length ∧ l = S.getD w.toNat [] := by
          rcases wd_is e with z | z
          · exact z
          · omega
        rw [p3, p7]
        refine ⟨o1.2.2, s107 h hwd.1 hwd.2.1 (fun M1 g1 hJ => ?_)⟩
        refine fin _ M1 g1 hJ ?_ hQ
        rw [hwd.2.2]
        rfl
      · rw [if_neg w1] at hQ ⊢
        exact ⟨_, rfl, hQ M Fr.rf⟩
    rw [if_neg b2] at hQ ⊢
    rw [p2, p7]
    refine ⟨sh9, s11 h.1 hs (fun M1 g1 hX _ => ?_)⟩
    have e1 : M1 1 2 = 9 := by rw [g1.1 1 (by omega)]; exact p2
    by_cases b1 : by' = 1
    · rw [if_pos b1]
      rw [if_pos b1] at hQ
      rw [e1]
      exact ⟨sh9, s18 hX (h.2.2.2.1.fr h.1.1.1 g1.fr) (fun M2 g2 hY => fin _ M2 (g1.tr g2) hY rfl hQ)⟩
    · rw [if_neg b1]
      rw [if_neg b1] at hQ
      rw [e1]
      exact ⟨sh9, s17 hX (fun M2 g2 hY => fin _ M2 (g1.tr (FrC.o12 g2)) hY rfl hQ)⟩
end SY
