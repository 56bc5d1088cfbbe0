/-! THE CLASS ASKED, part one: which word; word, at, within, judge. -/
def wd (W S : List (List Int)) (w : Int) : Option (List Int) := if 100 ≤ w then (if w - 100 < W.length then some (W.getD (w - 100).toNat []) else none) else if 0 ≤ w ∧ w < S.length then some (S.getD w.toNat []) else none
def PtrC (M : Mem) (p q : Int) : Prop := M 1 0 = 2 ∧ M 1 1 = 4 ∧ M 1 2 = 9 ∧ M 1 3 = 14 ∧ M 1 4 = 53 ∧ M 1 5 = 63 ∧ M 1 6 = 67 ∧ M 1 7 = p ∧ M 14 0 = 9 ∧ M 14 1 = q
/-- the class as it can be asked -/
def ClsQ (M : Mem) (p q : Int) (L : Lw) (W S : List (List Int)) (c : Int → Int) : Prop := CutB M p L W ∧ (q = 15 ∨ q = 34) ∧ WrdIs M q 8 L S ∧ CstIs M p c ∧ PtrC M p q
theorem ClsQ.fr {M M' : Mem} {p q : Int} {L : Lw} {W S : List (List Int)} {c : Int → Int} (h : ClsQ M p q L W S c) (g : Fr M M') : ClsQ M' p q L W S c := by
  refine ⟨h.1.fr g, h.2.1, h.2.2.1.fr (Or.inr ⟨h.2.1, rfl⟩) g, h.2.2.2.1.fr h.1.1.1 g, ?_⟩
  have := h.2.2.2.2
  unfold PtrC at this ⊢
  rw [g.1 1 (by unfold Scr; omega), g.1 14 (by unfold Scr; omega)]
  exact this
theorem o1 : gO 11 1 ∧ gO 7 14 := ⟨⟨by decide, by decide +kernel⟩, ⟨by decide, by decide +kernel⟩⟩
section AK
variable {M : Mem} {p q w : Int} {L : Lw} {W S : List (List Int)} {c : Int → Int} {l : List Int}
def wP (M : Mem) (p q : Int) (W S : List (List Int)) (w : Int) : Int := if 100 ≤ w then (if 0 ≤ w - 100 ∧ w - 100 < W.length then M (p + 10) (w - 100) else 0) else if 0 ≤ w ∧ w < S.length then M (q + 2) w else 0
theorem wrd_at {c : Nat} (hq : WrC q c) (h : WrdIs M q c L W) {i : Int} (h0 : 0 ≤ i) (h1 : i < W.length) : RowIs M (M (q + 2) i) (W.getD i.toNat []) ∧ RowS (M (q + 2) i) ∧ M (M (q + 2) i) 2 = leadKey L (W.getD i.toNat []) := by
  obtain ⟨n, rfl⟩ := Int.eq_ofNat_of_zero_le h0
  obtain ⟨a, b, c1, c2⟩ := h.2.2.2.2.2 n (by omega)
  rw [Int.toNat_natCast]
  refine ⟨a, ?_, b⟩
  unfold RowS Scr
  unfold WrC at hq
  omega
theorem wP_some (h : ClsQ M p q L W S c) (hw : wd W S w = some l) : RowIs M (wP M p q W S w) l ∧ RowS (wP M p q W S w) := by
  unfold wd at hw
  unfold wP
  by_cases q1 : 100 ≤ w
  · rw [if_pos q1] at hw ⊢
    by_cases q2 : w - 100 < W.length
    · rw [if_pos q2] at hw
      rw [if_pos ⟨by omega, q2⟩]
      cases hw
      have := wrd_at (lw8 h.1.1.1) h.1.2.1 (i := w - 100) (by omega) q2
      rw [show p + 8 + 2 = p + 10 by omega] at this
      exact ⟨this.1, this.2.1⟩
    · rw [if_neg q2] at hw; cases hw
  · rw [if_neg q1] at hw ⊢
    by_cases q2 : 0 ≤ w ∧ w < S.length
    · rw [if_pos q2] at hw ⊢
      cases hw
      have := wrd_at (Or.inr ⟨h.2.1, rfl⟩) h.2.2.1 q2.1 q2.2
      exact ⟨this.1, this.2.1⟩
    · rw [if_neg q2] at hw; cases hw
theorem wP_none (hw : wd W S w = none) : wP M p q W S w = 0 := by
  unfold wd at hw
  unfold wP
  by_cases q1 : 100 ≤ w
  · rw [if_pos q1] at hw ⊢
    by_cases q2 : w - 100 < W.length
    · rw [if_pos q2] at hw; cases hw
    · rw [if_neg (by omega)]
  · rw [if_neg q1] at hw ⊢
    by_cases q2 : 0 ≤ w ∧ w < S.length
    · rw [if_pos q2] at hw; cases hw
    · rw [if_neg q2]
theorem wP_r (h : ClsQ M p q L W S c) : 0 ≤ wP M p q W S w := by
  cases hw : wd W S w with
  | none => rw [wP_none hw]; omega
  | some l => have := (wP_some h hw).1.1.1; omega
theorem s175 {Q : Int → Mem → Prop} (h : ClsQ M p q L W S c) (hi : inR w) : WF 175 [vR 1, vI w] M Q = Q (wP M p q W S w) M := by
  obtain ⟨-, -, -, p3, -, -, -, p7, -, p14⟩ := h.2.2.2.2
  have hr := wP_r (w := w) h
  have h1 : M p 1 = p + 8 := h.1.1.2.1.2.1
  have e8 : (shA SH (p + 8)).1 = 10 := by rw [h.1.2.1.1.2.1]
  have eq : (shA SH q).1 = 10 := by rw [h.2.2.1.1.2.1]
  refine FN.wf (WC.fn (t_175 o1.1 ⟨hi, ?_⟩))
  unfold wP at hr ⊢
  by_cases q1 : 100 ≤ w
  · rw [if_pos q1] at hr
    rw [if_pos q1, p7, h1, s136 h.1.2.1 (by omega), show p + 8 + 2 = p + 10 by omega, if_pos q1]
    exact ⟨h.1.1.o.1, e8, hr, rfl, rfl⟩
  · rw [if_neg q1] at hr
    rw [if_neg q1, p3, p14, s136 h.2.2.1 hi, if_neg q1]
    exact ⟨o1.2, eq, hr, rfl, rfl⟩
/-- what at tells -/
def aAt (W S : List (List Int)) (w i : Int) : Int := match wd W S w with
  | none => -1
  | some l => gi l i
theorem cAt {Q : Int → Mem → Prop} {i : Int} (h : ClsQ M p q L W S c) (hw : inR w) (hi : inR i) : WI 152 [vR 1, vI w, vI i] M Q = Q (aAt W S w i) M := by
  have hr := wP_r (w := w) h
  refine FN.wi (WC.fn (t_152 o1.1 ?_))
  rw [s175 h hw]
  refine ⟨by omega, ?_⟩
  unfold aAt
  cases e : wd W S w with
  | none =>
    rw [wP_none e, if_pos rfl]
    exact ⟨rfl, rfl⟩
  | some l =>
    have hs := (wP_some h e).1
    rw [if_neg (by have := hs.1.1; omega), s82 hs hi]
    exact ⟨by rw [hs.1.2.1], rfl, rfl⟩
theorem sh9 : (shA SH 9).1 = 1 := by decide +kernel
/-- what word tells -/
def aWord (L : Lw) (W S : List (List Int)) (c : Int → Int) (w what : Int) : Int := match wd W S w with
  | none => -1
  | some l => if what < 0 then -1 else if what ≤ 5 then (if what = 0 then l.length else if what = 1 then cnt (X0 L l) else if what = 5 then waysX (X0 L l) else if cnt (X0 L l) = 0 then -1 else if what = 4 then (chpR L W c (X0 L l)).2 else if what = 2 then strs L (XP L W (X0 L l)) else tot L W c (XP L W (X0 L l))) else -1
theorem cWord {Q : Int → Mem → Prop} {what : Int} (h : ClsQ M p q L W S c) (hw : inR w) (hi : inR what) (hQ : ∀ M' : Mem, Fr M M' → Q (aWord L W S c w what) M') : WI 151 [vR 1, vI w, vI what] M Q := by
  have hr := wP_r (w := w) h
  refine t_151 o1.1 ?_
  rw [s175 h hw]
  refine ⟨by omega, ?_⟩
  unfold aWord at hQ
  cases e : wd W S w with
  | none =>
    rw [e] at hQ
    rw [wP_none e, if_pos rfl]
    exact ⟨_, rfl, hQ M Fr.rf⟩
  | some l =>
    rw [e] at hQ
    dsimp only at hQ
    have hs := (wP_some h e).1
    rw [if_neg (by have := hs.1.1; omega)]
    refine ⟨hi, ?_⟩
    by_cases a0 : what < 0
    · rw [if_pos a0] at hQ ⊢
      exact ⟨_, rfl, hQ M Fr.rf⟩
    rw [if_neg a0] at hQ ⊢
    by_cases a5 : 5 < what
    · rw [if_neg (show ¬ what ≤ 5 by omega)] at hQ ⊢
      exact ⟨_, rfl, hQ M Fr.rf⟩
    rw [if_pos (show what ≤ 5 by omega)] at hQ ⊢
    by_cases b0 : what = 0
    · rw [if_pos b0] at hQ ⊢
      rw [hs.2.2.1]
      exact ⟨⟨hs.1.1, by rw [hs.1.2.1]⟩, _, rfl, hQ M Fr.rf⟩
    rw [if_neg b0] at hQ ⊢
    obtain ⟨-, -, p2, -, -, -, -, p7, -, -⟩ := h.2.2.2.2
    rw [p2, p7]
    refine ⟨sh9, s11 h.1 hs (fun M1 g1 hX _ => ?_)⟩
    have e1 : M1 1 2 = 9 := by rw [g1.1 1 (by omega)]; exact p2
    have h9 : M1 9 9 = cnt (X0 L l) := hX.1.2.2.2.1.2.2.2.2.2.1
    have hC1 := h.2.2.2.1.fr h.1.1.1 g1.fr
    by_cases b1 : what = 1
    · rw [if_pos b1] at hQ ⊢
      rw [e1, h9]
      exact ⟨sh_cut.1, _, rfl, hQ M1 g1.fr⟩
    rw [if_neg b1] at hQ ⊢
    by_cases b5 : what = 5
    · rw [if_pos b5] at hQ ⊢
      rw [e1, s16 hX.1]
      exact ⟨sh9, _, rfl, hQ M1 g1.fr⟩
    rw [if_neg b5] at hQ ⊢
    rw [e1, h9]
    have hcb := hX.1.2.2.2.2.1.1
    have hc0 : 0 ≤ cnt (X0 L l) := Int.natCast_nonneg _
    refine ⟨sh_cut.1, by omega, ?_⟩
    by_cases b6 : cnt (X0 L l) = 0
    · rw [if_pos b6] at hQ ⊢
      exact ⟨_, rfl, hQ M1 g1.fr⟩
    rw [if_neg b6] at hQ ⊢
    by_cases b4 : what = 4
    · rw [if_pos b4] at hQ ⊢
      exact ⟨sh9, s18 hX hC1 (fun M2 g2 _ => ⟨_, rfl, hQ M2 (g1.tr g2).fr⟩)⟩
    rw [if_neg b4] at hQ ⊢
    refine ⟨sh9, s17 hX (fun M2 g2 hP => ?_)⟩
    have g12 := g1.tr (FrC.o12 g2)
    have e2 : M2 1 2 = 9 := by rw [g2 1 (by decide)]; exact e1
    by_cases b2 : what = 2
    · rw [if_pos b2] at hQ ⊢
      rw [e2, s38 hP]
      exact ⟨sh9, _, rfl, hQ M2 g12.fr⟩
    · rw [if_neg b2] at hQ ⊢
      rw [e2, s36 hP (h.2.2.2.1.fr h.1.1.1 g12.fr)]
      exact ⟨sh9, _, rfl, hQ M2 g12.fr⟩
/-- what within tells -/
def aWithin (L : Lw) (W S : List (List Int)) (c : Int → Int) (w m : Int) : Int := match wd W S w with
  | none => -1
  | some l => upTo L W c (X0 L l) m
theorem cWithin {Q : Int → Mem → Prop} {m : Int} (h : ClsQ M p q L W S c) (hw : inR w) (hi : inR m) (hQ : ∀ M' : Mem, Fr M M' → Q (aWithin L W S c w m) M') : WI 156 [vR 1, vI w, vI m] M Q := by
  have hr := wP_r (w := w) h
  refine t_156 o1.1 ?_
  rw [s175 h hw]
  refine ⟨by omega, ?_⟩
  unfold aWithin at hQ
  cases e : wd W S w with
  | none =>
    rw [e] at hQ
    rw [wP_none e, if_pos rfl]
    exact ⟨_, rfl, hQ M Fr.rf⟩
  | some l =>
    rw [e] at hQ
    have hs := (wP_some h e).1
    obtain ⟨-, -, p2, -, -, -, -, p7, -, -⟩ := h.2.2.2.2
    rw [if_neg (by have := hs.1.1; omega), p2, p7]
    refine ⟨sh9, s11 h.1 hs (fun M1 g1 hX _ => ?_)⟩
    have e1 : M1 1 2 = 9 := by rw [g1.1 1 (by omega)]; exact p2
    rw [e1]
    exact ⟨sh9, s20 hX (h.2.2.2.1.fr h.1.1.1 g1.fr) hi (fun M2 g2 => ⟨_, rfl, hQ M2 (g1.tr g2).fr⟩)⟩
end AK
