/-! JUDGE, on both sides. -/
def aJudge (L : Lw) (W S : List (List Int)) (c : Int → Int) (w cut what : Int) : Int := match wd W S w with
  | none => -2
  | some l => if what < 0 then -2 else if what ≤ 2 then (match (if cnt (X0 L l) = 0 then none else tldD (bsL (X0 L l)) cut) with
    | none => -2
    | some d => if what = 1 then fstBad L W (wG (X0 L l) d) else if what = 0 then tot L W c (wG (X0 L l) d) else upTo L W c (X0 L l) (tot L W c (wG (X0 L l) d) - 1)) else -2
section JU
variable {M : Mem} {p q w : Int} {L : Lw} {W S : List (List Int)} {c : Int → Int} {l : List Int} {X : Ct}
theorem cJudge {Q : Int → Mem → Prop} {cut what : Int} (h : ClsQ M p q L W S c) (hw : inR w) (hc : in64 cut) (hi : inR what) (hQ : ∀ M' : Mem, Fr M M' → Q (aJudge L W S c w cut what) M') : WI 155 [vR 1, vI w, vL cut, vI what] M Q := by
  have hr := wP_r (w := w) h
  refine t_155 o1.1 ?_
  rw [s175 h hw]
  refine ⟨by omega, ?_⟩
  unfold aJudge at hQ
  cases e : wd W S w with
  | none =>
    rw [e] at hQ
    rw [wP_none e, if_pos rfl]
    exact ⟨_, rfl, hQ M Fr.rf⟩
  | some l =>
    rw [e] at hQ
    dsimp only at hQ
    have hs := (wP_some h e).1
    rw [if_neg (by have := hs.1.1; omega)]
    refine ⟨hi, ?_⟩
    by_cases a0 : what < 0
    · rw [if_pos a0] at hQ ⊢
      exact ⟨_, rfl, hQ M Fr.rf⟩
    rw [if_neg a0] at hQ ⊢
    by_cases a5 : 2 < what
    · rw [if_neg (show ¬ what ≤ 2 by omega)] at hQ ⊢
      exact ⟨_, rfl, hQ M Fr.rf⟩
    rw [if_pos (show what ≤ 2 by omega)] at hQ ⊢
    obtain ⟨-, -, p2, -, -, -, -, p7, -, -⟩ := h.2.2.2.2
    rw [p2, p7]
    refine ⟨sh9, s11 h.1 hs (fun M1 g1 hX _ => ?_)⟩
    have e1 : M1 1 2 = 9 := by rw [g1.1 1 (by omega)]; exact p2
    rw [e1]
    refine ⟨sh9, s21 hX hc (fun M2 g2 => ?_)⟩
    have g12 := g1.tr (FrC.o12 g2)
    have e2 : M2 1 2 = 9 := by rw [g2 1 (by decide)]; exact e1
    cases hd : (if cnt (X0 L l) = 0 then none else tldD (bsL (X0 L l)) cut) with
    | none =>
      rw [hd] at hQ
      dsimp only
      refine ⟨by decide, ?_⟩
      rw [if_pos rfl]
      exact ⟨_, rfl, hQ M2 g12.fr⟩
    | some d =>
      rw [hd] at hQ
      dsimp only at hQ ⊢
      intro _ hY
      have hC2 := h.2.2.2.1.fr h.1.1.1 g12.fr
      have ht := tot_r (W := W) h.1.1.2.2.2.2.2 (X := wG (X0 L l) d) hY.1.2.2.2.2.1 hY.2.2 hC2
      refine ⟨by decide, ?_⟩
      rw [if_neg (by decide)]
      by_cases b1 : what = 1
      · rw [if_pos b1] at hQ ⊢
        rw [e2, s37 hY]
        exact ⟨sh9, _, rfl, hQ M2 g12.fr⟩
      rw [if_neg b1] at hQ ⊢
      rw [e2, s36 hY hC2]
      refine ⟨sh9, ?_⟩
      by_cases b0 : what = 0
      · rw [if_pos b0] at hQ ⊢
        exact ⟨_, rfl, hQ M2 g12.fr⟩
      rw [if_neg b0] at hQ ⊢
      rw [e2]
      exact ⟨sh9, s20 hY hC2 (by omega) (fun M3 g3 => ⟨_, rfl, hQ M3 (g12.tr g3).fr⟩)⟩
theorem mBad {P : AV → Mem → Prop} (h : MCut M L W X) (x1 x2 x4 x5 : Int) (hP : P (vI (fstBad L W X)) M) : WR 256 153 [some (vR 204), some (vI x1), some (vL x2), none, some (vI x4), some (vL x5), none, some (vI 0)] [] M P := by
  have hH := h.1.2.2.2.2.2.2.1
  have hc := hH.1
  have e64 := h.1.p.1
  have key : ∀ (n : Nat) (j : Int), 0 ≤ j → j + n = cnt X → P (vI (fnd (bad L W X) j n)) M → WR 256 153 [some (vR 204), some (vI x1), some (vL x2), none, some (vI x4), some (vL x5), none, some (vI j)] [] M P := by
    intro n
    induction n with
    | zero =>
      intro j hj hn hP
      refine t_256_153 o204 ?_
      rw [h.1.2.2.2.1]
      refine ⟨by omega, by omega, ?_⟩
      rw [if_pos (by omega)]
      exact hP
    | succ n ih =>
      intro j hj hn hP
      have hkr := kind_r L W (okl X j)
      refine t_256_153 o204 ?_
      rw [h.1.2.2.2.1, m239 h hj (by omega), m240 h hj (by omega), e64, mCK h hj (by omega)]
      refine ⟨by omega, by omega, ?_⟩
      rw [if_neg (by omega)]
      refine ⟨by omega, ?_⟩
      unfold fnd bad at hP
      by_cases e1 : kind L W (okl X j) = 0
      · rw [decide_eq_true e1, Bool.true_or, if_pos rfl] at hP
        rw [if_pos e1]
        exact hP
      · rw [decide_eq_false e1, Bool.false_or] at hP
        rw [if_neg e1, m229 h.1 hj (by omega), m241 h hj (by omega), e64, mCC h hj (by omega)]
        refine ⟨by have := b2i_r (closes L (ckl X j)); omega, ?_⟩
        cases hcl : closes L (ckl X j)
        · rw [hcl, if_pos (by decide)] at hP
          exact hP
        · rw [hcl, if_neg (by decide)] at hP
          rw [if_neg (by decide)]
          exact ih (j + 1) (by omega) (by omega) hP
  exact key X.2.1.length 0 (by omega) (by unfold cnt; omega) hP
theorem mJudge {Q : Int → Mem → Prop} {cut what : Int} (h : MdlQ M L W S c) (hw : inR w) (hc : in64 cut) (hi : inR what) (hQ : ∀ M' : Mem, FrM M M' → Q (aJudge L W S c w cut what) M') : WI 256 [vR 204, vI w, vL cut, vI what] M Q := by
  refine t_256 o204 ?_
  rw [m219 h hw]
  unfold aJudge at hQ
  cases e : wd W S w with
  | none =>
    rw [e] at hQ
    exact ⟨by decide, by rw [show b2i (Option.isSome (none : Option (List Int))) = 0 from rfl, if_pos rfl]; exact ⟨_, rfl, hQ M FrM.rf⟩⟩
  | some l =>
    rw [e] at hQ
    dsimp only at hQ
    have hd := wd_is e
    have h12 := (hd.ok h.2.1 h.2.2.1).1.2.1
    rw [show b2i (Option.isSome (some l)) = 1 from rfl, if_neg (by decide), wr_id hi, m177 (by omega) (by decide) (by decide)]
    refine ⟨by decide, by have := b2i_r (decide (0 ≤ what ∧ what ≤ 2)); omega, ?_⟩
    by_cases a0 : what < 0
    · rw [if_pos a0] at hQ
      rw [decide_eq_false (by omega), if_pos (by decide)]
      exact ⟨_, rfl, hQ M FrM.rf⟩
    rw [if_neg a0] at hQ
    by_cases a5 : 2 < what
    · rw [if_neg (show ¬ what ≤ 2 by omega)] at hQ
      rw [decide_eq_false (by omega), if_pos (by decide)]
      exact ⟨_, rfl, hQ M FrM.rf⟩
    rw [if_pos (show what ≤ 2 by omega)] at hQ
    rw [decide_eq_true (by omega), if_neg (by decide)]
    refine ⟨⟨hc, by decide⟩, cmp3_r _ _, ?_⟩
    have hH := X0_h L l h12
    have hG := X0_g L l h12
    have hcb := hH.1
    have hcl : cnt (X0 L l) = (X0 L l).2.1.length := rfl
    have hbl := bsL_len (X0 L l)
    by_cases hneg : cut < 0
    · rw [if_pos hneg, if_neg (show ¬ (0 : Int) ≤ -1 by decide)]
      have hn : (if cnt (X0 L l) = 0 then none else tldD (bsL (X0 L l)) cut) = none := by
        split
        · rfl
        · exact tld_neg (by omega) hneg hc.1
      rw [hn] at hQ
      exact ⟨_, rfl, hQ M FrM.rf⟩
    have ec : (0 : Int) ≤ (if cut < 0 then -1 else if cut = 0 then 0 else 1) := by
      rw [if_neg hneg]
      split <;> decide
    rw [if_pos ec]
    refine m227 h.1 h.2.1 h.2.2.1 hd (fun M1 g1 hX => ?_)
    rw [hX.2.2.2.1]
    refine ⟨by omega, ?_⟩
    by_cases q0 : cnt (X0 L l) = 0
    · rw [if_pos q0] at hQ ⊢
      exact ⟨_, rfl, hQ M1 g1⟩
    rw [if_neg q0] at hQ ⊢
    refine m247 hX.1.1 (fun M2 g2 hz => ?_)
    have hzC := mZ0 hX ⟨rfl, rfl⟩ hG g2 hz
    have fr : ∀ {N : Mem}, (∀ k : Int, k ≠ 235 → N k = M1 k) → FrM M N := fun {N} g => g1.tr (frm35 (fun k a _ => g k a))
    have key : ∀ (n : Nat) (pre : List Int) (y : Int) (N : Mem), pre.length + n = (X0 L l).2.1.length - 1 → 0 ≤ y → y < 9223372036854775808 → (∀ k : Int, k ≠ 235 → N k = M1 k) → (∀ k : Int, 0 ≤ k → k < pre.length → N 235 k = gi pre k ∧ 0 ≤ gi pre k ∧ gi pre k ≤ beh (X0 L l) k) → (∀ M' : Mem, FrM M M' → Q (match tldD ((bsL (X0 L l)).drop pre.length) y with
        | none => -2
        | some d => if what = 1 then fstBad L W (wG (X0 L l) (pre ++ d)) else if what = 0 then tot L W c (wG (X0 L l) (pre ++ d)) else upTo L W c (X0 L l) (tot L W c (wG (X0 L l) (pre ++ d)) - 1)) M') → WR 256 55 [some (vR 204), some (vI w), some (vL cut), none, some (vI what), some (vL y), none, some (vI pre.length)] [] N (fun r M' => ∃ x, r = vI x ∧ Q x M') := by
      intro n
      induction n with
      | zero =>
        intro pre y N hn y0 y1 hN hpre hQ
        have hC := hX.up (M' := N) (fun k a _ => hN k a)
        have hfr := fr hN
        refine t_256_55 o204 ?_
        rw [hC.2.2.2.1]
        refine ⟨by omega, by omega, ?_⟩
        rw [if_pos (by omega)]
        refine ⟨⟨by omega, by decide⟩, cmp3_r _ _, ?_⟩
        rw [List.drop_eq_nil_of_le (show (bsL (X0 L l)).length ≤ pre.length by omega), tldD] at hQ
        by_cases q : y = 0
        · rw [if_pos q] at hQ
          dsimp only at hQ
          rw [List.append_nil] at hQ
          rw [if_neg (show ¬ y < 0 by omega), if_pos q, if_pos (show (0 : Int) ≤ 0 by decide)]
          have hY : MCut N L W (wG (X0 L l) pre) := ⟨hC, fun k a b => (hpre k a (by have : k + 1 < cnt (X0 L l) := b; omega)).1, wG_g hG (fun k a b => (hpre k a (by omega)).2), rfl, rfl⟩
          have hCN := (h.fr hfr).2.2.2
          have ht := tot_r (W := W) h.1.2.2.2.2 (X := wG (X0 L l) pre) hH hY.2.2.1 h.cs
          refine ⟨hi, ?_⟩
          by_cases b0 : what = 0
          · rw [if_neg (show ¬ what = 1 by omega), if_pos b0] at hQ
            rw [if_pos b0, m246 hY hCN]
            exact ⟨_, rfl, hQ N hfr⟩
          rw [if_neg b0]
          by_cases b2 : what = 2
          · rw [if_neg (show ¬ what = 1 by omega), if_neg b0] at hQ
            rw [if_pos b2, m246 hY hCN]
            exact m251 hC ⟨rfl, rfl⟩ hG hCN (by omega) h.cs (fun M3 g3 => ⟨_, rfl, hQ M3 (hfr.tr (frm35 (fun k a _ => g3 k a)))⟩)
          · rw [if_pos (show what = 1 by omega)] at hQ
            rw [if_neg b2]
            exact mBad hY _ _ _ _ ⟨_, rfl, hQ N hfr⟩
        · rw [if_neg q] at hQ
          rw [if_neg (show ¬ y < 0 by omega), if_neg q, if_neg (show ¬ (1 : Int) ≤ 0 by decide)]
          exact ⟨_, rfl, hQ N hfr⟩
      | succ n ih =>
        intro pre y N hn y0 y1 hN hpre hQ
        have hC := hX.up (M' := N) (fun k a _ => hN k a)
        have hb := beh_r hH (k := (pre.length : Int)) (by omega) (by omega)
        have e67 := hC.p.2.2.2.1
        have hg35 : gA 20 235 (pre.length : Int) := gC zC.2.2.2.1 (by omega) (by show _ < ((12 : Nat) : Int); omega)
        have eb : (bsL (X0 L l)).drop pre.length = beh (X0 L l) pre.length :: (bsL (X0 L l)).drop (pre.length + 1) := by
          rw [drop_cons (by omega), bsL_gi (by omega) (by omega)]
        rw [eb] at hQ
        have et : tldD (beh (X0 L l) pre.length :: (bsL (X0 L l)).drop (pre.length + 1)) y = if beh (X0 L l) pre.length < y % 16 then none else match tldD ((bsL (X0 L l)).drop (pre.length + 1)) (y % 18446744073709551616 / 16) with
          | some d => some (y % 16 :: d)
          | none => none := rfl
        rw [et, key_m y0 (by omega)] at hQ
        have gN : ∀ k : Int, k ≠ 235 → upM N 235 (pre.length : Int) (y % 16) k = M1 k := fun k a => by rw [upM_o a]; exact hN k a
        have hCu := hX.up (M' := upM N 235 (pre.length : Int) (y % 16)) (fun k a _ => gN k a)
        refine t_256_55 o204 ?_
        rw [hC.2.2.2.1, e67, hCu.p.2.2.2.1, upM_s, m230 hCu (by omega) (by omega)]
        refine ⟨by omega, by omega, ?_⟩
        rw [if_neg (by omega)]
        refine ⟨by omega, hg35, by omega, hg35, by omega, by omega, ?_⟩
        by_cases q : y % 16 ≤ beh (X0 L l) pre.length
        · rw [if_pos q]
          rw [if_neg (show ¬ beh (X0 L l) pre.length < y % 16 by omega)] at hQ
          have hpl : (pre ++ [y % 16]).length = pre.length + 1 := by simp
          have := ih (pre ++ [y % 16]) (y / 16) (upM N 235 (pre.length : Int) (y % 16)) (by omega) (by omega) (by omega) gN (fun k a b => ?_) (fun M' g => ?_)
          · rw [hpl] at this
            exact this
          · rw [gi_app a]
            by_cases q2 : k < pre.length
            · rw [if_pos q2, upM_f (by omega)]
              exact hpre k a q2
            · rw [if_neg q2, show k = (pre.length : Int) by omega, Int.sub_self, upM_s]
              exact ⟨rfl, by show 0 ≤ y % 16; omega, q⟩
          · have := hQ M' g
            rw [hpl]
            cases hdd : tldD ((bsL (X0 L l)).drop (pre.length + 1)) (y / 16) with
            | none =>
              rw [hdd] at this
              exact this
            | some d =>
              rw [hdd] at this
              dsimp only at this ⊢
              rw [List.append_assoc, List.singleton_append]
              exact this
        · rw [if_neg q]
          rw [if_pos (show beh (X0 L l) pre.length < y % 16 by omega)] at hQ
          exact ⟨_, rfl, hQ _ (fr gN)⟩
    have := key ((X0 L l).2.1.length - 1) [] cut M2 (by simp) (by omega) (by omega) g2 (fun k a b => absurd b (by simp; omega)) (fun M' g => by
      have := hQ M' g
      rw [List.length_nil, List.drop_zero]
      cases hdd : tldD (bsL (X0 L l)) cut with
      | none => rw [hdd] at this; exact this
      | some d => rw [hdd] at this; exact this)
    exact this
end JU
