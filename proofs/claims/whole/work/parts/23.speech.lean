/-! SPEECH, by the class. -/
def isChg (X : Ct) (k : Int) : Bool := decide ((k = 0 ∧ 0 < Xc X) ∨ (k + 1 = cnt X ∧ 0 < Xw X))
def nChg (X : Ct) : Int := smF (fun i => b2i (isChg X i)) 0 X.2.1.length
def XPk (L : Lw) (W S : List (List Int)) (k : Int) : Ct := XP L W (X0 L (S.getD k.toNat []))
def aSpeech (L : Lw) (W S : List (List Int)) (what : Int) : Int := if S.length = 0 then -1 else if what = 0 then smF (fun k => nHvy L (XJ L W S k)) 0 S.length else if what = 1 then smF (fun k => nHvy L (XPk L W S k)) 0 S.length else if what = 2 then smF (fun k => nChg (XJ L W S k)) 0 S.length else -1
section SP
variable {M : Mem} {p q k what : Int} {L : Lw} {W S : List (List Int)} {X : Ct} {c : Int → Int}
theorem s23 {Q : Int → Mem → Prop} (h : CutIs M p L W X) (h0 : 0 ≤ k) (h1 : k < cnt X) : WI 23 [vR 9, vI k] M Q = Q (b2i (isChg X k)) M := by
  have hc := h.1.2.2.2.2.1.1
  have g := h.2.2
  have hw := g.2.2.2.2.1 (by omega)
  have hb := beh_r h.1.2.2.2.2.1 (k := cnt X - 1) (by omega) (by omega)
  have hcm := g.2.1
  have hcm2 := g.2.2.1
  have hwm := g.2.2.2.1
  refine FN.wi (WC.fn (t_23 sh_cut.1 ?_))
  rw [h.1.2.2.2.1.2.2.2.2.2.1, h.1.2.2.2.1.2.2.2.2.2.2.1, h.1.2.2.2.1.2.2.2.2.2.2.2]
  unfold isChg
  have tail : ¬ (k = 0 ∧ 0 < Xc X) → inR (cnt X - 1) ∧ (if k = cnt X - 1 then inR (Xw X) ∧ (if Xw X ≤ 0 then vI 0 = vI (b2i (decide ((k = 0 ∧ 0 < Xc X) ∨ (k + 1 = cnt X ∧ 0 < Xw X)))) ∧ M = M else vI 1 = vI (b2i (decide ((k = 0 ∧ 0 < Xc X) ∨ (k + 1 = cnt X ∧ 0 < Xw X)))) ∧ M = M) else vI 0 = vI (b2i (decide ((k = 0 ∧ 0 < Xc X) ∨ (k + 1 = cnt X ∧ 0 < Xw X)))) ∧ M = M) := by
    intro hn
    refine ⟨by omega, ?_⟩
    by_cases a : k = cnt X - 1
    · rw [if_pos a]
      refine ⟨by omega, ?_⟩
      by_cases b : Xw X ≤ 0
      · rw [if_pos b, decide_eq_false (by omega)]
        exact ⟨rfl, rfl⟩
      · rw [if_neg b, decide_eq_true (by omega)]
        exact ⟨rfl, rfl⟩
    · rw [if_neg a, decide_eq_false (by omega)]
      exact ⟨rfl, rfl⟩
  refine ⟨by omega, ?_⟩
  by_cases z : k = 0
  · rw [if_pos z]
    refine ⟨by omega, ?_⟩
    by_cases y : 0 < Xc X
    · rw [if_pos y, decide_eq_true (Or.inl ⟨z, y⟩)]
      exact ⟨rfl, rfl⟩
    · rw [if_neg y]
      exact tail (by omega)
  · rw [if_neg z]
    exact tail (by omega)
theorem s106 {Q : Int → Mem → Prop} (h : ClsQ M p q L W S c) (h0 : 0 ≤ k) (h1 : k < S.length) (hQ : ∀ M' : Mem, FrC M M' → CutIs M' p L W (XPk L W S k) → Q 1 M') : WI 106 [vR 14, vR p, vI k] M Q := by
  have h8 := h.2.2.1.2.2.2.1
  have eq : (shA SH q).1 = 10 := by rw [h.2.2.1.1.2.1]
  obtain ⟨-, -, -, -, -, -, -, -, p140, p141⟩ := h.2.2.2.2
  obtain ⟨ra, -, -⟩ := wrd_at (Or.inr ⟨h.2.1, rfl⟩ : WrC q 8) h.2.2.1 h0 h1
  have ra0 := ra.1.1
  refine t_106 o1.2 ?_
  rw [p141, s136 h.2.2.1 (by omega), if_pos ⟨h0, h1⟩, p140]
  refine ⟨eq, by omega, ?_⟩
  rw [if_neg (by omega)]
  refine ⟨sh9, s11 h.1 ra (fun M3 g3 hX _ => ?_)⟩
  rw [show M3 14 = M 14 from g3.1 14 (by omega), p140]
  exact ⟨sh9, s17 hX (fun M4 g4 hP => ⟨1, rfl, hQ M4 (g3.tr (FrC.o12 g4)) hP⟩)⟩
theorem spk (h : ClsQ M p q L W S c) : gO 10 q ∧ M 14 1 = q ∧ M 14 0 = 9 ∧ M q 2 = S.length ∧ S.length ≤ 8 := ⟨⟨h.2.2.1.1.1, by rw [h.2.2.1.1.2.1]⟩, h.2.2.2.2.2.2.2.2.2.2.2.2.2, h.2.2.2.2.2.2.2.2.2.2.2.2.1, h.2.2.1.2.2.1, h.2.2.1.2.2.2.1⟩
theorem s108 {Q : Int → Mem → Prop} (h : ClsQ M p q L W S c) (hQ : ∀ M' : Mem, FrC M M' → Q (smF (fun k => nHvy L (XJ L W S k)) 0 S.length) M') : WI 108 [vR 14, vR p] M Q := by
  have key : ∀ (n : Nat) (j a : Int) (N : Mem), 0 ≤ j → j + n = S.length → FrC M N → (∀ M' : Mem, FrC M M' → Q (a + smF (fun k => nHvy L (XJ L W S k)) j n) M') → WR 108 4 [some (vR 14), some (vR p), some (vI a), some (vI j)] [] N (fun r M' => ∃ x, r = vI x ∧ Q x M') := by
    intro n
    induction n with
    | zero =>
      intro j a N hj hn g hQ
      obtain ⟨oq, e1, e0, e2, l8⟩ := spk (h.fr g.fr)
      refine t_108_4 o1.2 ?_
      rw [e1, e2]
      refine ⟨oq, by omega, by omega, ?_⟩
      rw [if_pos (by omega)]
      have := hQ N g
      rw [show smF (fun k => nHvy L (XJ L W S k)) j 0 = 0 from rfl, Int.add_zero] at this
      exact ⟨a, rfl, this⟩
    | succ n ih =>
      intro j a N hj hn g hQ
      obtain ⟨oq, e1, e0, e2, l8⟩ := spk (h.fr g.fr)
      refine t_108_4 o1.2 ?_
      rw [e1, e2]
      refine ⟨oq, by omega, by omega, ?_⟩
      rw [if_neg (by omega)]
      refine s107 (h.fr g.fr) hj (by omega) (fun M1 g1 hJ => ⟨by decide, ?_⟩)
      have gg := g.tr g1
      rw [if_neg (by decide), (spk (h.fr gg.fr)).2.2.1, s34 hJ]
      refine ⟨sh9, ih (j + 1) _ M1 (by omega) (by omega) gg (fun M' g' => ?_)⟩
      have := hQ M' g'
      rw [show smF (fun k => nHvy L (XJ L W S k)) j (n + 1) = nHvy L (XJ L W S j) + smF (fun k => nHvy L (XJ L W S k)) (j + 1) n from rfl, ← Int.add_assoc] at this
      exact this
  refine t_108 o1.2 (key S.length 0 0 M (by omega) (by omega) FrC.rf (fun M' g => ?_))
  rw [Int.zero_add]
  exact hQ M' g
theorem s109 {Q : Int → Mem → Prop} (h : ClsQ M p q L W S c) (hQ : ∀ M' : Mem, FrC M M' → Q (smF (fun k => nHvy L (XPk L W S k)) 0 S.length) M') : WI 109 [vR 14, vR p] M Q := by
  have key : ∀ (n : Nat) (j a : Int) (N : Mem), 0 ≤ j → j + n = S.length → FrC M N → (∀ M' : Mem, FrC M M' → Q (a + smF (fun k => nHvy L (XPk L W S k)) j n) M') → WR 109 4 [some (vR 14), some (vR p), some (vI a), some (vI j)] [] N (fun r M' => ∃ x, r = vI x ∧ Q x M') := by
    intro n
    induction n with
    | zero =>
      intro j a N hj hn g hQ
      obtain ⟨oq, e1, e0, e2, l8⟩ := spk (h.fr g.fr)
      refine t_109_4 o1.2 ?_
      rw [e1, e2]
      refine ⟨oq, by omega, by omega, ?_⟩
      rw [if_pos (by omega)]
      have := hQ N g
      rw [show smF (fun k => nHvy L (XPk L W S k)) j 0 = 0 from rfl, Int.add_zero] at this
      exact ⟨a, rfl, this⟩
    | succ n ih =>
      intro j a N hj hn g hQ
      obtain ⟨oq, e1, e0, e2, l8⟩ := spk (h.fr g.fr)
      refine t_109_4 o1.2 ?_
      rw [e1, e2]
      refine ⟨oq, by omega, by omega, ?_⟩
      rw [if_neg (by omega)]
      refine s106 (h.fr g.fr) hj (by omega) (fun M1 g1 hJ => ⟨by decide, ?_⟩)
      have gg := g.tr g1
      rw [if_neg (by decide), (spk (h.fr gg.fr)).2.2.1, s34 hJ]
      refine ⟨sh9, ih (j + 1) _ M1 (by omega) (by omega) gg (fun M' g' => ?_)⟩
      have := hQ M' g'
      rw [show smF (fun k => nHvy L (XPk L W S k)) j (n + 1) = nHvy L (XPk L W S j) + smF (fun k => nHvy L (XPk L W S k)) (j + 1) n from rfl, ← Int.add_assoc] at this
      exact this
  refine t_109 o1.2 (key S.length 0 0 M (by omega) (by omega) FrC.rf (fun M' g => ?_))
  rw [Int.zero_add]
  exact hQ M' g
theorem s110 {Q : Int → Mem → Prop} (h : ClsQ M p q L W S c) (hQ : ∀ M' : Mem, FrC M M' → Q (smF (fun k => nChg (XJ L W S k)) 0 S.length) M') : WI 110 [vR 14, vR p] M Q := by
  have key : ∀ (n : Nat) (j a : Int) (l4 l5 : Option AV) (N : Mem), 0 ≤ j → j + n = S.length → FrC M N → (∀ M' : Mem, FrC M M' → Q (a + smF (fun k => nChg (XJ L W S k)) j n) M') → WR 110 4 [some (vR 14), some (vR p), some (vI a), some (vI j), l4, l5] [] N (fun r M' => ∃ x, r = vI x ∧ Q x M') := by
    intro n
    induction n with
    | zero =>
      intro j a l4 l5 N hj hn g hQ
      obtain ⟨oq, e1, e0, e2, l8⟩ := spk (h.fr g.fr)
      refine t_110_4 o1.2 ?_
      rw [e1, e2]
      refine ⟨oq, by omega, by omega, ?_⟩
      rw [if_pos (by omega)]
      have := hQ N g
      rw [show smF (fun k => nChg (XJ L W S k)) j 0 = 0 from rfl, Int.add_zero] at this
      exact ⟨a, rfl, this⟩
    | succ n ih =>
      intro j a l4 l5 N hj hn g hQ
      obtain ⟨oq, e1, e0, e2, l8⟩ := spk (h.fr g.fr)
      refine t_110_4 o1.2 ?_
      rw [e1, e2]
      refine ⟨oq, by omega, by omega, ?_⟩
      rw [if_neg (by omega)]
      refine s107 (h.fr g.fr) hj (by omega) (fun M1 g1 hJ => ⟨by decide, ?_⟩)
      have gg := g.tr g1
      have e14 := (spk (h.fr gg.fr)).2.2.1
      have h9 : M1 9 9 = cnt (XJ L W S j) := hJ.1.2.2.2.1.2.2.2.2.2.1
      have hc := hJ.1.2.2.2.2.1.1
      rw [if_neg (by decide), e14, h9]
      refine ⟨sh_cut.1, ?_⟩
      have inner : ∀ (m : Nat) (i b : Int), 0 ≤ i → i + m = cnt (XJ L W S j) → (∀ M' : Mem, FrC M M' → Q (b + smF (fun i => b2i (isChg (XJ L W S j) i)) i m + smF (fun k => nChg (XJ L W S k)) (j + 1) n) M') → WR 110 40 [some (vR 14), some (vR p), some (vI b), some (vI j), some (vI (cnt (XJ L W S j))), some (vI i)] [] M1 (fun r M' => ∃ x, r = vI x ∧ Q x M') := by
        intro m
        induction m with
        | zero =>
          intro i b hi hm hQ2
          refine t_110_40 o1.2 ⟨by omega, by omega, ?_⟩
          rw [if_pos (by omega)]
          refine ih (j + 1) b _ _ M1 (by omega) (by omega) gg (fun M' g' => ?_)
          have := hQ2 M' g'
          rw [show smF (fun i => b2i (isChg (XJ L W S j) i)) i 0 = 0 from rfl, Int.add_zero] at this
          exact this
        | succ m ihm =>
          intro i b hi hm hQ2
          refine t_110_40 o1.2 ⟨by omega, by omega, ?_⟩
          rw [if_neg (by omega), e14, s23 hJ hi (by omega)]
          refine ⟨sh9, by have := b2i_r (isChg (XJ L W S j) i); omega, ?_⟩
          have eq : smF (fun i => b2i (isChg (XJ L W S j) i)) i (m + 1) = b2i (isChg (XJ L W S j) i) + smF (fun i => b2i (isChg (XJ L W S j) i)) (i + 1) m := rfl
          rw [eq, ← Int.add_assoc] at hQ2
          cases hv : isChg (XJ L W S j) i
          · rw [hv] at hQ2
            rw [if_pos (by decide)]
            exact ihm (i + 1) _ (by omega) (by omega) hQ2
          · rw [hv] at hQ2
            rw [if_neg (by decide)]
            exact ihm (i + 1) _ (by omega) (by omega) hQ2
      refine inner (XJ L W S j).2.1.length 0 a (by omega) (by unfold cnt; omega) (fun M' g' => ?_)
      have := hQ M' g'
      rw [show smF (fun k => nChg (XJ L W S k)) j (n + 1) = nChg (XJ L W S j) + smF (fun k => nChg (XJ L W S k)) (j + 1) n from rfl, ← Int.add_assoc] at this
      exact this
  refine t_110 o1.2 (key S.length 0 0 _ _ M (by omega) (by omega) FrC.rf (fun M' g => ?_))
  rw [Int.zero_add]
  exact hQ M' g
theorem cSpeech {Q : Int → Mem → Prop} (h : ClsQ M p q L W S c) (hi : inR what) (hQ : ∀ M' : Mem, Fr M M' → Q (aSpeech L W S what) M') : WI 164 [vR 1, vI what] M Q := by
  obtain ⟨-, -, -, p3, -, -, -, p7, -, -⟩ := h.2.2.2.2
  obtain ⟨oq, e1, e0, e2, l8⟩ := spk h
  refine t_164 o1.1 ?_
  rw [p3, e1, e2, p7]
  unfold aSpeech at hQ
  refine ⟨o1.2, oq, by omega, ?_⟩
  by_cases z : S.length = 0
  · rw [if_pos z] at hQ
    rw [if_pos (by omega)]
    exact ⟨_, rfl, hQ M Fr.rf⟩
  rw [if_neg z] at hQ
  rw [if_neg (by omega)]
  refine ⟨hi, ?_⟩
  by_cases b0 : what = 0
  · rw [if_pos b0] at hQ ⊢
    exact ⟨o1.2.2, s108 h (fun M' g => ⟨_, rfl, hQ M' g.fr⟩)⟩
  rw [if_neg b0] at hQ ⊢
  by_cases b1 : what = 1
  · rw [if_pos b1] at hQ ⊢
    exact ⟨o1.2.2, s109 h (fun M' g => ⟨_, rfl, hQ M' g.fr⟩)⟩
  rw [if_neg b1] at hQ ⊢
  by_cases b2 : what = 2
  · rw [if_pos b2] at hQ ⊢
    exact ⟨o1.2.2, s110 h (fun M' g => ⟨_, rfl, hQ M' g.fr⟩)⟩
  · rw [if_neg b2] at hQ ⊢
    exact ⟨_, rfl, hQ M Fr.rf⟩
end SP
