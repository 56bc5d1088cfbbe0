/-! THE MODEL ASKED, part one: which word; word, at, within. -/
def MdlQ (M : Mem) (L : Lw) (W S : List (List Int)) (c : Int → Int) : Prop := MLaw M L ∧ MLrn M L W ∧ MSpk M L S ∧ MCost M c
theorem MdlQ.fr {M M' : Mem} {L : Lw} {W S : List (List Int)} {c : Int → Int} (h : MdlQ M L W S c) (g : FrM M M') : MdlQ M' L W S c := ⟨h.1.fr g, h.2.1.fr g, h.2.2.1.fr g, h.2.2.2.fr g⟩
theorem MdlQ.cs {M : Mem} {L : Lw} {W S : List (List Int)} {c : Int → Int} (h : MdlQ M L W S c) : CstIs (fun _ j => c (j : Int)) 0 c := fun i a b => ⟨rfl, (h.2.2.2 i a b).2⟩
theorem wd_is {W S : List (List Int)} {w : Int} {l : List Int} (h : wd W S w = some l) : WdIs W S w l := by
  unfold wd at h
  by_cases q1 : 100 ≤ w
  · rw [if_pos q1] at h
    by_cases q2 : w - 100 < W.length
    · rw [if_pos q2] at h
      cases h
      exact Or.inr ⟨q1, by omega, rfl⟩
    · rw [if_neg q2] at h; cases h
  · rw [if_neg q1] at h
    by_cases q2 : 0 ≤ w ∧ w < S.length
    · rw [if_pos q2] at h
      cases h
      exact Or.inl ⟨q2.1, q2.2, rfl⟩
    · rw [if_neg q2] at h; cases h
section AM
variable {M : Mem} {w : Int} {L : Lw} {W S : List (List Int)} {c : Int → Int} {l : List Int}
theorem m219 {Q : Int → Mem → Prop} (h : MdlQ M L W S c) (hi : inR w) : WI 219 [vR 204, vI w] M Q = Q (b2i (wd W S w).isSome) M := by
  have h8 := h.2.2.1.2.1
  have h20 := h.2.1.2.1
  refine FN.wi (WC.fn (t_219 o204 ?_))
  rw [wr_id hi, h.2.2.1.1, wr_id (show inR ((S.length : Int) - 1) by omega), m177 (by omega) (by decide) (by omega), h.1.1.at (show ((61 : Int), (230 : Int)) ∈ mpT by decide)]
  refine ⟨by have := b2i_r (decide (0 ≤ w ∧ w ≤ (S.length : Int) - 1)); omega, ?_⟩
  unfold wd
  by_cases q : 0 ≤ w ∧ w ≤ (S.length : Int) - 1
  · rw [decide_eq_true q, if_neg (by decide), if_neg (show ¬ 100 ≤ w by omega), if_pos (show 0 ≤ w ∧ w < (S.length : Int) by omega)]
    exact ⟨rfl, rfl⟩
  · rw [decide_eq_false q, if_pos (by decide), h.2.1.1, wr_id (show inR (100 + (W.length : Int) - 1) by omega), m177 (by omega) (by decide) (by omega)]
    refine ⟨gC z230 (by decide) (by decide), by have := b2i_r (decide (100 ≤ w ∧ w ≤ 100 + (W.length : Int) - 1)); omega, ?_⟩
    by_cases q2 : 100 ≤ w ∧ w ≤ 100 + (W.length : Int) - 1
    · rw [decide_eq_true q2, if_neg (by decide), if_pos q2.1, if_pos (show w - 100 < (W.length : Int) by omega)]
      exact ⟨rfl, rfl⟩
    · rw [decide_eq_false q2, if_pos (by decide)]
      by_cases q3 : 100 ≤ w
      · rw [if_pos q3, if_neg (by omega)]
        exact ⟨rfl, rfl⟩
      · rw [if_neg q3, if_neg (by omega)]
        exact ⟨rfl, rfl⟩
theorem m220 {Q : Int → Mem → Prop} (h : MdlQ M L W S c) (hi : inR w) : WI 220 [vR 204, vI w] M Q = Q (b2i (decide (0 ≤ w ∧ w < S.length))) M := by
  have h8 := h.2.2.1.2.1
  refine FN.wi (WC.fn (t_220 o204 ?_))
  rw [wr_id hi, h.2.2.1.1, wr_id (show inR ((S.length : Int) - 1) by omega), m177 (by omega) (by decide) (by omega)]
  have e : decide (0 ≤ w ∧ w ≤ (S.length : Int) - 1) = decide (0 ≤ w ∧ w < S.length) := decide_eq_decide.mpr (by omega)
  rw [e]
  exact ⟨by have := b2i_r (decide (0 ≤ w ∧ w < (S.length : Int))); omega, rfl, rfl⟩
theorem mAt {Q : Int → Mem → Prop} {i : Int} (h : MdlQ M L W S c) (hw : inR w) (hi : inR i) : WI 223 [vR 204, vI w, vI i] M Q = Q (aAt W S w i) M := by
  refine FN.wi (WC.fn (t_223 o204 ?_))
  rw [m219 h hw]
  unfold aAt
  cases e : wd W S w with
  | none => exact ⟨by decide, by rw [show b2i (Option.isSome (none : Option (List Int))) = 0 from rfl, if_pos rfl]; exact ⟨rfl, rfl⟩⟩
  | some l =>
    have hd := wd_is e
    have h12 := (hd.ok h.2.1 h.2.2.1).1.2.1
    rw [show b2i (Option.isSome (some l)) = 1 from rfl, if_neg (by decide), m221 h.1.1 h.2.1 h.2.2.1 hd, wr_id hi, wr_id (show inR ((l.length : Int) - 1) by omega), m177 (by omega) (by decide) (by omega)]
    refine ⟨by decide, by have := b2i_r (decide (0 ≤ i ∧ i ≤ (l.length : Int) - 1)); omega, ?_⟩
    by_cases q : 0 ≤ i ∧ i ≤ (l.length : Int) - 1
    · rw [decide_eq_true q, if_neg (by decide), m222 h.1.1 h.2.1 h.2.2.1 hd q.1 (by omega)]
      exact ⟨rfl, rfl⟩
    · rw [decide_eq_false q, if_pos (by decide)]
      dsimp only
      rw [gi_out (by omega)]
      exact ⟨rfl, rfl⟩
theorem mWord {Q : Int → Mem → Prop} {what : Int} (h : MdlQ M L W S c) (hw : inR w) (hi : inR what) (hQ : ∀ M' : Mem, FrM M M' → Q (aWord L W S c w what) M') : WI 253 [vR 204, vI w, vI what] M Q := by
  refine t_253 o204 ?_
  rw [m219 h hw]
  unfold aWord at hQ
  cases e : wd W S w with
  | none =>
    rw [e] at hQ
    exact ⟨by decide, by rw [show b2i (Option.isSome (none : Option (List Int))) = 0 from rfl, if_pos rfl]; exact ⟨_, rfl, hQ M FrM.rf⟩⟩
  | some l =>
    rw [e] at hQ
    dsimp only at hQ
    have hd := wd_is e
    have h12 := (hd.ok h.2.1 h.2.2.1).1.2.1
    rw [show b2i (Option.isSome (some l)) = 1 from rfl, if_neg (by decide), wr_id hi, m177 (by omega) (by decide) (by decide)]
    refine ⟨by decide, by have := b2i_r (decide (0 ≤ what ∧ what ≤ 5)); omega, ?_⟩
    by_cases a0 : what < 0
    · rw [if_pos a0] at hQ
      rw [decide_eq_false (by omega), if_pos (by decide)]
      exact ⟨_, rfl, hQ M FrM.rf⟩
    rw [if_neg a0] at hQ
    by_cases a5 : 5 < what
    · rw [if_neg (show ¬ what ≤ 5 by omega)] at hQ
      rw [decide_eq_false (by omega), if_pos (by decide)]
      exact ⟨_, rfl, hQ M FrM.rf⟩
    rw [if_pos (show what ≤ 5 by omega)] at hQ
    rw [decide_eq_true (by omega), if_neg (by decide)]
    refine m227 h.1 h.2.1 h.2.2.1 hd (fun M1 g1 hX => ⟨hi, ?_⟩)
    rw [hX.2.2.1, hX.2.2.2.1]
    have h1 := h.fr g1
    have hG := X0_g L l h12
    have hcb := hX.2.2.2.2.2.2.1.1
    have hc0 : 0 ≤ cnt (X0 L l) := Int.natCast_nonneg _
    by_cases b0 : what = 0
    · rw [if_pos b0] at hQ ⊢
      exact ⟨_, rfl, hQ M1 g1⟩
    rw [if_neg b0] at hQ ⊢
    by_cases b1 : what = 1
    · rw [if_pos b1] at hQ ⊢
      exact ⟨_, rfl, hQ M1 g1⟩
    rw [if_neg b1] at hQ ⊢
    by_cases b5 : what = 5
    · rw [if_pos b5] at hQ ⊢
      rw [m249 hX]
      exact ⟨_, rfl, hQ M1 g1⟩
    rw [if_neg b5] at hQ ⊢
    refine ⟨by omega, ?_⟩
    by_cases b6 : cnt (X0 L l) = 0
    · rw [if_pos b6] at hQ ⊢
      exact ⟨_, rfl, hQ M1 g1⟩
    rw [if_neg b6] at hQ ⊢
    by_cases b4 : what = 4
    · rw [if_pos b4] at hQ ⊢
      exact m250 hX ⟨rfl, rfl⟩ hG h1.2.2.2 h.cs (fun M2 g2 _ => ⟨_, rfl, hQ M2 (g1.tr (frm35 g2))⟩)
    rw [if_neg b4] at hQ ⊢
    refine m238 hX ⟨rfl, rfl⟩ hG (fun M2 g2 hP => ?_)
    have g12 := g1.tr (frm35 (fun k a _ => g2 k a))
    by_cases b2 : what = 2
    · rw [if_pos b2] at hQ ⊢
      rw [m252 hP (by show 0 < cnt (X0 L l); omega)]
      exact ⟨_, rfl, hQ M2 g12⟩
    · rw [if_neg b2] at hQ ⊢
      rw [m246 hP (h.fr g12).2.2.2]
      exact ⟨_, rfl, hQ M2 g12⟩
theorem mWithin {Q : Int → Mem → Prop} {m : Int} (h : MdlQ M L W S c) (hw : inR w) (hi : inR m) (hQ : ∀ M' : Mem, FrM M M' → Q (aWithin L W S c w m) M') : WI 255 [vR 204, vI w, vI m] M Q := by
  refine t_255 o204 ?_
  rw [m219 h hw]
  unfold aWithin at hQ
  cases e : wd W S w with
  | none =>
    rw [e] at hQ
    exact ⟨by decide, by rw [show b2i (Option.isSome (none : Option (List Int))) = 0 from rfl, if_pos rfl]; exact ⟨_, rfl, hQ M FrM.rf⟩⟩
  | some l =>
    rw [e] at hQ
    have hd := wd_is e
    have h12 := (hd.ok h.2.1 h.2.2.1).1.2.1
    rw [show b2i (Option.isSome (some l)) = 1 from rfl, if_neg (by decide)]
    exact ⟨by decide, m227 h.1 h.2.1 h.2.2.1 hd (fun M1 g1 hX => m251 hX ⟨rfl, rfl⟩ (X0_g L l h12) (h.fr g1).2.2.2 hi h.cs (fun M2 g2 => ⟨_, rfl, hQ M2 (g1.tr (frm35 (fun k a _ => g2 k a)))⟩))⟩
end AM
