/-! SYLLABLE and SPEECH, by the model. -/
section MS
variable {M : Mem} {k w what : Int} {L : Lw} {W S : List (List Int)} {X : Ct} {c : Int → Int}
theorem mSyl {Q : Int → Mem → Prop} {by' : Int} (h : MdlQ M L W S c) (hw : inR w) (hb : inR by') (hk : inR k) (hi : inR what) (hQ : ∀ M' : Mem, FrM M M' → Q (aSyl L W S c w by' k what) M') : WI 260 [vR 204, vI w, vI by', vI k, vI what] M Q := by
  have h8 := h.2.2.1.2.1
  have no : aSyl L W S c w by' k what = -100 → WR 260 46 [some (vR 204), some (vI w), some (vI by'), some (vI k), some (vI what), none, none] [] M (fun r M' => ∃ x, r = vI x ∧ Q x M') := fun e => t_260_46 o204 ⟨_, rfl, by rw [← e]; exact hQ M FrM.rf⟩
  refine t_260 o204 ?_
  rw [m219 h hw]
  cases e : wd W S w with
  | none => exact ⟨by decide, by rw [show b2i (Option.isSome (none : Option (List Int))) = 0 from rfl, if_pos rfl]; exact no (by unfold aSyl; rw [e])⟩
  | some l =>
    have hd := wd_is e
    have h12 := (hd.ok h.2.1 h.2.2.1).1.2.1
    rw [show b2i (Option.isSome (some l)) = 1 from rfl, if_neg (by decide), wr_id hb, m177 (by omega) (by decide) (by decide)]
    refine ⟨by decide, by have := b2i_r (decide (0 ≤ by' ∧ by' ≤ 2)); omega, ?_⟩
    have ea : ∀ P : by' ≥ 0 ∧ by' ≤ 2, aSyl L W S c w by' k what = if by' = 2 then (if w < 100 then (if 0 ≤ k ∧ k < cnt (X0 L l) then tellS L W c (XJ L W S w) k what else -100) else -100) else if 0 ≤ k ∧ k < cnt (X0 L l) then tellS L W c (if by' = 1 then wG (X0 L l) (chpR L W c (X0 L l)).1 else XP L W (X0 L l)) k what else -100 := fun P => by
      unfold aSyl
      rw [e]
      dsimp only
      rw [if_neg (by omega), if_pos P.2]
    by_cases a0 : 0 ≤ by' ∧ by' ≤ 2
    rotate_left
    · rw [decide_eq_false a0, if_pos (by decide)]
      refine no ?_
      unfold aSyl
      rw [e]
      dsimp only
      by_cases q : by' < 0
      · rw [if_pos q]
      · rw [if_neg q, if_neg (by omega)]
    have ea := ea a0
    rw [decide_eq_true a0, if_neg (by decide)]
    refine ⟨hb, ?_⟩
    have twh : ∀ X : Ct, ¬ (0 ≤ what ∧ what ≤ 6) → tellS L W c X k what = -100 := fun X z => by
      unfold tellS
      rw [if_neg (by omega), if_neg (by omega), if_neg (by omega), if_neg (by omega), if_neg (by omega), if_neg (by omega), if_neg (by omega)]
    have hG0 := X0_g L l h12
    -- what is told of a cut that is not joined
    have tell : ∀ (X : Ct) (N : Mem) (x5 x6 : Int), FrM M N → MCut N L W X → 0 ≤ k → k < cnt X → (0 ≤ what ∧ what ≤ 6) → ¬ by' = 2 → tellS L W c X k what = aSyl L W S c w by' k what → WR 260 124 [some (vR 204), some (vI w), some (vI by'), some (vI k), some (vI what), some (vI x5), some (vI x6)] [] N (fun r M' => ∃ x, r = vI x ∧ Q x M') := by
      intro X N x5 x6 g hN k0 k1 wr b2 et
      have hcN := hN.1.2.2.2.2.2.2.1.1
      have fin : ∀ v : Int, v = tellS L W c X k what → ∃ x, vI v = vI x ∧ Q x N := fun v z => ⟨_, rfl, by rw [z, et]; exact hQ N g⟩
      refine t_260_124 o204 ⟨hb, ?_⟩
      rw [if_neg b2]
      refine ⟨hi, ?_⟩
      by_cases c0 : what = 0
      · rw [if_pos c0, m239 hN k0 k1]
        exact fin _ (by rw [c0]; rfl)
      rw [if_neg c0]
      by_cases c1 : what = 1
      · rw [if_pos c1, m240 hN k0 k1]
        exact fin _ (by rw [c1]; rfl)
      rw [if_neg c1]
      by_cases c2 : what = 2
      · rw [if_pos c2, hN.1.p.2.2.1, (hN.1.2.2.2.2.2.2.2 k k0 k1).2]
        exact ⟨gC zC.2.2.1 k0 (by show _ < ((12 : Nat) : Int); omega), fin _ (by rw [c2]; rfl)⟩
      rw [if_neg c2]
      by_cases c3 : what = 3
      · rw [if_pos c3, m241 hN k0 k1]
        exact fin _ (by rw [c3]; rfl)
      rw [if_neg c3]
      by_cases c4 : what = 4
      · rw [if_pos c4, m242 hN k0 k1]
        exact fin _ (by rw [c4]; rfl)
      rw [if_neg c4]
      by_cases c5 : what = 5
      · rw [if_pos c5, m243 hN k0 k1, m178 (by have := b2i_r (hvy L X k); omega)]
        refine fin _ ?_
        rw [c5]
        show _ = b2i (hvy L X k)
        cases hvy L X k <;> rfl
      · rw [if_neg c5, m245 hN (h.fr g).2.2.2 k0 k1]
        refine fin _ ?_
        rw [show what = 6 by omega]
        rfl
    by_cases b2 : by' = 2
    · rw [if_pos b2, m220 h hw]
      refine ⟨by have := b2i_r (decide (0 ≤ w ∧ w < (S.length : Int))); omega, ?_⟩
      by_cases sd : 0 ≤ w ∧ w < S.length
      rotate_left
      · rw [decide_eq_false sd, if_pos (by decide)]
        refine no ?_
        rw [ea, if_pos b2, if_neg (fun z => by rcases hd with q | q <;> omega)]
      have el : l = S.getD w.toNat [] := by
        rcases hd with q | q
        · exact q.2.2
        · omega
      rw [if_pos b2, if_pos (show w < 100 by omega)] at ea
      rw [decide_eq_true sd, if_neg (by decide), wr_id hi, m177 (by omega) (by decide) (by decide)]
      refine ⟨by have := b2i_r (decide (0 ≤ what ∧ what ≤ 6)); omega, ?_⟩
      by_cases wr : 0 ≤ what ∧ what ≤ 6
      rotate_left
      · rw [decide_eq_false wr, if_pos (by decide)]
        refine no ?_
        rw [ea, twh _ wr]
        split <;> rfl
      rw [decide_eq_true wr, if_neg (by decide), if_pos b2]
      refine m257 h (by omega) (fun M1 g1 => ?_)
      rw [if_pos b2]
      have h1 := h.fr g1
      refine m257 h1 (by omega) (fun M2 g2 => ?_)
      have h2 := h1.fr g2
      refine m227 h2.1 h2.2.1 h2.2.2.1 hd (fun M3 g3 hX => ?_)
      have g13 := (g1.tr g2).tr g3
      have hcb := hX.2.2.2.2.2.2.1.1
      have hc0 : 0 ≤ cnt (X0 L l) := Int.natCast_nonneg _
      rw [hX.2.2.2.1, wr_id hk, wr_id (show inR (cnt (X0 L l) - 1) by omega), m177 (by omega) (by decide) (by omega)]
      refine ⟨by have := b2i_r (decide (0 ≤ k ∧ k ≤ cnt (X0 L l) - 1)); omega, ?_⟩
      by_cases kr : 0 ≤ k ∧ k ≤ cnt (X0 L l) - 1
      rotate_left
      · rw [decide_eq_false kr, if_pos (by decide)]
        rw [if_neg (by omega)] at ea
        exact ⟨_, rfl, by rw [← ea]; exact hQ M3 g13⟩
      rw [decide_eq_true kr, if_neg (by decide), if_neg (show ¬ by' = 1 by omega)]
      rw [if_pos (by omega)] at ea
      refine m238 hX ⟨rfl, rfl⟩ hG0 (fun M4 g4 hP => ?_)
      have g14 := g13.tr (frm35 (fun k a _ => g4 k a))
      have h4 := h.fr g14
      refine t_260_124 o204 ⟨hb, ?_⟩
      rw [if_pos b2]
      have hJ := XJ_g (L := L) (W := W) (S := S) (k := w) h.1.2.2.2.2 (fun i q => (h.2.2.1.2.2 i q).2.2) sd.1 sd.2
      have eJ : XJ L W S w = wJ (XP L W (X0 L l)) (overAt L W S w) (overAt L W S (w + 1)) (aheadW S w) := by rw [el]; rfl
      rw [eJ] at hJ ea
      refine m259 hP h4.2.2.1 h4.2.2.2 hJ (fun z => ?_) kr.1 (by show k < cnt (X0 L l); omega) wr.1 (by omega) (fun M5 g5 => ?_)
      · have : 0 < w := by
          rcases Int.lt_or_le 0 w with q | q
          · exact q
          · exfalso
            unfold overAt at z
            rw [if_neg (by omega)] at z
            omega
        refine ⟨by omega, by omega, ?_⟩
        unfold aheadW
        rw [if_pos this]
      · obtain ⟨f5, -⟩ := hP.o (N := M5) (fun j _ a _ => g5 j a)
        refine ⟨_, rfl, ?_⟩
        have := hQ M5 (g14.tr f5)
        rw [ea] at this
        unfold tellJ
        rw [if_neg (by omega)]
        exact this
    · rw [if_neg b2, wr_id hi, m177 (by omega) (by decide) (by decide)]
      rw [if_neg b2] at ea
      refine ⟨by have := b2i_r (decide (0 ≤ what ∧ what ≤ 6)); omega, ?_⟩
      by_cases wr : 0 ≤ what ∧ what ≤ 6
      rotate_left
      · rw [decide_eq_false wr, if_pos (by decide)]
        refine no ?_
        rw [ea, twh _ wr]
        split <;> rfl
      rw [decide_eq_true wr, if_neg (by decide), if_neg b2, if_neg b2]
      refine m227 h.1 h.2.1 h.2.2.1 hd (fun M3 g3 hX => ?_)
      have hcb := hX.2.2.2.2.2.2.1.1
      have hc0 : 0 ≤ cnt (X0 L l) := Int.natCast_nonneg _
      rw [hX.2.2.2.1, wr_id hk, wr_id (show inR (cnt (X0 L l) - 1) by omega), m177 (by omega) (by decide) (by omega)]
      refine ⟨by have := b2i_r (decide (0 ≤ k ∧ k ≤ cnt (X0 L l) - 1)); omega, ?_⟩
      by_cases kr : 0 ≤ k ∧ k ≤ cnt (X0 L l) - 1
      rotate_left
      · rw [decide_eq_false kr, if_pos (by decide)]
        rw [if_neg (by omega)] at ea
        exact ⟨_, rfl, by rw [← ea]; exact hQ M3 g3⟩
      rw [decide_eq_true kr, if_neg (by decide)]
      rw [if_pos (by omega)] at ea
      by_cases b1 : by' = 1
      · rw [if_pos b1]
        rw [if_pos b1] at ea
        exact m250 hX ⟨rfl, rfl⟩ hG0 (h.fr g3).2.2.2 h.cs (fun M4 g4 hP => tell _ M4 _ _ (g3.tr (frm35 g4)) hP kr.1 (by show k < cnt (X0 L l); omega) wr b2 ea.symm)
      · rw [if_neg b1]
        rw [if_neg b1] at ea
        exact m238 hX ⟨rfl, rfl⟩ hG0 (fun M4 g4 hP => tell _ M4 _ _ (g3.tr (frm35 (fun k a _ => g4 k a))) hP kr.1 (by show k < cnt (X0 L l); omega) wr b2 ea.symm)
theorem mSpeech {Q : Int → Mem → Prop} (h : MdlQ M L W S c) (hi : inR what) (hQ : ∀ M' : Mem, FrM M M' → Q (aSpeech L W S what) M') : WI 261 [vR 204, vI what] M Q := by
  have h8 := h.2.2.1.2.1
  have e56 := h.2.2.1.1
  refine t_261 o204 ?_
  rw [e56]
  refine ⟨by omega, ?_⟩
  unfold aSpeech at hQ
  by_cases z : S.length = 0
  · rw [if_pos z] at hQ
    rw [if_pos (by omega)]
    exact ⟨_, rfl, hQ M FrM.rf⟩
  rw [if_neg z] at hQ
  rw [if_neg (by omega), wr_id hi, m177 (by omega) (by decide) (by decide)]
  refine ⟨by have := b2i_r (decide (0 ≤ what ∧ what ≤ 2)); omega, ?_⟩
  by_cases wr : 0 ≤ what ∧ what ≤ 2
  rotate_left
  · rw [if_neg (by omega), if_neg (by omega), if_neg (by omega)] at hQ
    rw [decide_eq_false wr, if_pos (by decide)]
    exact ⟨_, rfl, hQ M FrM.rf⟩
  rw [decide_eq_true wr, if_neg (by decide)]
  obtain ⟨f, ef⟩ : ∃ f : Int → Int → Int, f = fun k i => if what = 0 then b2i (hvy L (XJ L W S k) i) else if what = 1 then b2i (hvy L (XPk L W S k) i) else b2i (isChg (XJ L W S k) i) := ⟨_, rfl⟩
  have hQ2 : ∀ M' : Mem, FrM M M' → Q (smF (fun k => smF (f k) 0 (X0 L (S.getD k.toNat [])).2.1.length) 0 S.length) M' := by
    intro M' g
    have := hQ M' g
    by_cases w0 : what = 0
    · rw [if_pos w0] at this
      have e : f = fun k i => b2i (hvy L (XJ L W S k) i) := by rw [ef]; funext k i; exact if_pos w0
      rw [e]
      exact this
    rw [if_neg w0] at this
    by_cases w1 : what = 1
    · rw [if_pos w1] at this
      have e : f = fun k i => b2i (hvy L (XPk L W S k) i) := by rw [ef]; funext k i; exact (if_neg w0).trans (if_pos w1)
      rw [e]
      exact this
    · rw [if_neg w1, if_pos (by omega)] at this
      have e : f = fun k i => b2i (isChg (XJ L W S k) i) := by rw [ef]; funext k i; exact (if_neg w0).trans (if_neg w1)
      rw [e]
      exact this
  have key : ∀ (n : Nat) (j a : Int) (l4 l5 l6 : Option AV) (N : Mem), 0 ≤ j → j + n = S.length → FrM M N → (∀ M' : Mem, FrM M M' → Q (a + smF (fun k => smF (f k) 0 (X0 L (S.getD k.toNat [])).2.1.length) j n) M') → WR 261 25 [some (vR 204), some (vI what), some (vI a), some (vI j), l4, l5, l6] [] N (fun r M' => ∃ x, r = vI x ∧ Q x M') := by
    intro n
    induction n with
    | zero =>
      intro j a l4 l5 l6 N hj hn g hQ
      refine t_261_25 o204 ?_
      rw [(h.fr g).2.2.1.1]
      refine ⟨by omega, by omega, ?_⟩
      rw [if_pos (by omega)]
      have := hQ N g
      rw [show smF (fun k => smF (f k) 0 (X0 L (S.getD k.toNat [])).2.1.length) j 0 = 0 from rfl, Int.add_zero] at this
      exact ⟨a, rfl, this⟩
    | succ n ih =>
      intro j a l4 l5 l6 N hj hn g hQ
      refine t_261_25 o204 ?_
      rw [(h.fr g).2.2.1.1]
      refine ⟨by omega, by omega, ?_⟩
      rw [if_neg (by omega)]
      refine m257 (h.fr g) (by omega) (fun M1 g1 => ?_)
      refine m257 (h.fr (g.tr g1)) (by omega) (fun M2 g2 => ?_)
      have hN := h.fr ((g.tr g1).tr g2)
      have hd : WdIs W S j (S.getD j.toNat []) := Or.inl ⟨by omega, by omega, rfl⟩
      have h12 := (hd.ok h.2.1 h.2.2.1).1.2.1
      refine m227 hN.1 hN.2.1 hN.2.2.1 hd (fun M3 g3 hX => ?_)
      refine m238 hX ⟨rfl, rfl⟩ (X0_g L _ h12) (fun M4 g4 hP => ?_)
      have gg := (((g.tr g1).tr g2).tr g3).tr (frm35 (fun k a _ => g4 k a))
      have hJ := XJ_g (L := L) (W := W) (S := S) (k := j) h.1.2.2.2.2 (fun i q => (h.2.2.1.2.2 i q).2.2) hj (by omega)
      have eJ : XJ L W S j = wJ (XP L W (X0 L (S.getD j.toNat []))) (overAt L W S j) (overAt L W S (j + 1)) (aheadW S j) := rfl
      have hAh : 0 < overAt L W S j → 1 ≤ j ∧ j ≤ S.length ∧ aheadW S j = S.getD (j - 1).toNat [] := fun z => by
        have : 0 < j := by
          rcases Int.lt_or_le 0 j with q | q
          · exact q
          · exfalso
            unfold overAt at z
            rw [if_neg (by omega)] at z
            omega
        refine ⟨by omega, by omega, ?_⟩
        unfold aheadW
        rw [if_pos this]
      have inner : ∀ (m : Nat) (i b : Int) (N : Mem), 0 ≤ i → i + m = cnt (X0 L (S.getD j.toNat [])) → FrM M N → MCut N L W (XP L W (X0 L (S.getD j.toNat []))) → (∀ M' : Mem, FrM M M' → Q (b + smF (f j) i m + smF (fun k => smF (f k) 0 (X0 L (S.getD k.toNat [])).2.1.length) (j + 1) n) M') → WR 261 61 [some (vR 204), some (vI what), some (vI b), some (vI j), some (vI (overAt L W S j)), some (vI (overAt L W S (j + 1))), some (vI i)] [] N (fun r M' => ∃ x, r = vI x ∧ Q x M') := by
        intro m
        induction m with
        | zero =>
          intro i b N hi2 hm gN hPN hQ2
          have hc := hPN.1.2.2.2.2.2.2.1.1
          have e70 : N 204 70 = cnt (X0 L (S.getD j.toNat [])) := hPN.1.2.2.2.1
          replace hc : cnt (X0 L (S.getD j.toNat [])) ≤ 12 := hc
          refine t_261_61 o204 ?_
          rw [e70]
          refine ⟨by omega, by omega, ?_⟩
          rw [if_pos (by omega)]
          refine ih (j + 1) b _ _ _ N (by omega) (by omega) gN (fun M' g' => ?_)
          have := hQ2 M' g'
          rw [show smF (f j) i 0 = 0 from rfl, Int.add_zero] at this
          exact this
        | succ m ihm =>
          intro i b N hi2 hm gN hPN hQ2
          have hc := hPN.1.2.2.2.2.2.2.1.1
          have e70 : N 204 70 = cnt (X0 L (S.getD j.toNat [])) := hPN.1.2.2.2.1
          replace hc : cnt (X0 L (S.getD j.toNat [])) ≤ 12 := hc
          have hN := h.fr gN
          rw [show smF (f j) i (m + 1) = f j i + smF (f j) (i + 1) m from rfl, ← Int.add_assoc] at hQ2
          have i1 : i < cnt (XP L W (X0 L (S.getD j.toNat []))) := by show i < cnt (X0 L (S.getD j.toNat [])); omega
          refine t_261_61 o204 ?_
          rw [e70]
          refine ⟨by omega, by omega, ?_⟩
          rw [if_neg (by omega)]
          refine ⟨hi, ?_⟩
          by_cases w1 : what = 1
          · rw [if_pos w1, m243 hPN hi2 i1, m178 (by have := b2i_r (hvy L (XP L W (X0 L (S.getD j.toNat []))) i); omega)]
            refine ihm (i + 1) _ N (by omega) (by omega) gN hPN ?_
            have e : f j i = (if b2i (hvy L (XP L W (X0 L (S.getD j.toNat []))) i) = 0 then 0 else 1) := by
              rw [ef]
              dsimp only
              rw [if_neg (by omega), if_pos w1]
              show b2i (hvy L (XP L W (X0 L (S.getD j.toNat []))) i) = _
              cases hvy L (XP L W (X0 L (S.getD j.toNat []))) i <;> rfl
            rw [← e]
            exact hQ2
          · rw [if_neg w1]
            rw [eJ] at hJ
            by_cases w0 : what = 0
            · rw [if_pos w0]
              refine m259 hPN hN.2.2.1 hN.2.2.2 hJ hAh hi2 i1 (by decide) (by decide) (fun M5 g5 => ?_)
              obtain ⟨f5, hP5⟩ := hPN.o (N := M5) (fun j _ a _ => g5 j a)
              refine ihm (i + 1) _ M5 (by omega) (by omega) (gN.tr f5) hP5 ?_
              have e : f j i = tellJ L W c (wJ (XP L W (X0 L (S.getD j.toNat []))) (overAt L W S j) (overAt L W S (j + 1)) (aheadW S j)) i 5 := by
                rw [ef]
                dsimp only
                rw [if_pos w0]
                rfl
              rw [← e]
              exact hQ2
            · rw [if_neg w0]
              refine m259 hPN hN.2.2.1 hN.2.2.2 hJ hAh hi2 i1 (by decide) (by decide) (fun M5 g5 => ?_)
              obtain ⟨f5, hP5⟩ := hPN.o (N := M5) (fun j _ a _ => g5 j a)
              refine ihm (i + 1) _ M5 (by omega) (by omega) (gN.tr f5) hP5 ?_
              have e : f j i = tellJ L W c (wJ (XP L W (X0 L (S.getD j.toNat []))) (overAt L W S j) (overAt L W S (j + 1)) (aheadW S j)) i 7 := by
                rw [ef]
                dsimp only
                rw [if_neg w0, if_neg w1]
                rfl
              rw [← e]
              exact hQ2
      refine inner (X0 L (S.getD j.toNat [])).2.1.length 0 a M4 (by omega) (by unfold cnt; omega) gg hP (fun M' g' => ?_)
      have := hQ M' g'
      rw [show smF (fun k => smF (f k) 0 (X0 L (S.getD k.toNat [])).2.1.length) j (n + 1) = smF (f j) 0 (X0 L (S.getD j.toNat [])).2.1.length + smF (fun k => smF (f k) 0 (X0 L (S.getD k.toNat [])).2.1.length) (j + 1) n from rfl, ← Int.add_assoc] at this
      exact this
  refine key S.length 0 0 _ _ _ M (by omega) (by omega) FrM.rf (fun M' g => ?_)
  rw [Int.zero_add]
  exact hQ2 M' g
end MS
