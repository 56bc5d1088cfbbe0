/-! THE CUT, part three: weights, costs, which is legal, which is stressed. -/
section RD
variable {M : Mem} {r p i s k : Int} {l : List Int} {L : Lw} {W : List (List Int)} {X : Ct} {c : Int → Int}
theorem mul_r {a b m n : Int} (ha : 0 ≤ a) (ha2 : a ≤ m) (hb : 0 ≤ b) (hb2 : b ≤ n) : 0 ≤ a * b ∧ a * b ≤ m * n := ⟨Int.mul_nonneg ha hb, Int.mul_le_mul ha2 hb2 hb (by omega)⟩
theorem wgt_r (hw : Wf L) (h : HOk X) (g : GOk X) (h0 : 0 ≤ k) (h1 : k < cnt X) : 0 ≤ wgt L X k ∧ wgt L X k ≤ 117 := by
  have hb := beh_r h h0 h1
  have hc := cls_r h g h0 h1
  have hd := csz_r h g h0 h1
  have hz := hw.2.2
  unfold WfZ at hz
  have hm := mul_r (a := csz X k) (b := Lz L 5) (m := 12) (n := 9) (by omega) (by omega) (by omega) (by omega)
  unfold wgt
  split <;> omega
theorem s32 {Q : Int → Mem → Prop} (h : CutIs M p L W X) (h0 : 0 ≤ k) (h1 : k < cnt X) : WI 32 [vR 9, vI k] M Q = Q (wgt L X k) M := by
  have hh := hen_r h.1.2.2.2.2.1 h0 h1
  have hp := h.1.2.2.2.1.2.2.2.2.1
  obtain ⟨-, -, -, n3, n4, n5, -⟩ := h.1.1.2.2.2.2.1
  refine FN.wi (WC.fn (t_32 sh_cut.1 ?_))
  rw [s26 h.1 h0 h1, hp]
  unfold wgt
  refine ⟨by omega, ?_⟩
  by_cases h2 : hsz X k = 2
  · rw [if_pos h2, if_pos h2]
    refine ⟨h.1.1.o.1, ?_⟩
    rw [s27 h h0 h1, hp, n4, n5]
    exact ⟨h.1.1.o.1, rfl, rfl⟩
  · rw [if_neg h2, if_neg h2]
    refine ⟨h.1.1.o.1, ?_⟩
    rw [s27 h h0 h1, hp, n3, n5]
    exact ⟨h.1.1.o.1, rfl, rfl⟩
theorem s33 {Q : Int → Mem → Prop} (h : CutIs M p L W X) (h0 : 0 ≤ k) (h1 : k < cnt X) : WI 33 [vR 9, vI k] M Q = Q (b2i (hvy L X k)) M := by
  have hp := h.1.2.2.2.1.2.2.2.2.1
  have n6 := h.1.1.2.2.2.2.1.2.2.2.2.2.2.1
  have hw := h.1.1.2.2.2.2.2
  have hr := wgt_r hw h.1.2.2.2.2.1 h.2.2 h0 h1
  have hz := hw.2.2.2.2.2.2.2.2.1
  refine FN.wi (WC.fn (t_33 sh_cut.1 ?_))
  rw [s32 h h0 h1, hp, n6]
  unfold hvy
  refine ⟨h.1.1.o.1, by omega, by omega, ?_⟩
  by_cases h2 : wgt L X k < Lz L 6
  · rw [if_pos h2, decide_eq_false (by omega)]
    exact ⟨rfl, rfl⟩
  · rw [if_neg h2, decide_eq_true (by omega)]
    exact ⟨rfl, rfl⟩
/-- how many heavy ones -/
def nHvy (L : Lw) (X : Ct) : Int := smF (fun k => b2i (hvy L X k)) 0 X.2.1.length
theorem s34 {Q : Int → Mem → Prop} (h : CutIs M p L W X) : WI 34 [vR 9] M Q = Q (nHvy L X) M := by
  have h9 := h.1.2.2.2.1.2.2.2.2.2.1
  have hc := h.1.2.2.2.2.1.1
  have key : ∀ (n : Nat) (j a : Int) (P : AV → Mem → Prop), 0 ≤ j → j + n = cnt X → P (vI (a + smF (fun k => b2i (hvy L X k)) j n)) M → WR 34 4 [some (vR 9), some (vI a), some (vI j)] [] M P := by
    intro n
    induction n with
    | zero =>
      intro j a P hj hn hP
      refine t_34_4 sh_cut.1 ?_
      rw [h9]
      refine ⟨by omega, by omega, ?_⟩
      rw [if_pos (by omega)]
      rw [show smF (fun k => b2i (hvy L X k)) j 0 = 0 from rfl, Int.add_zero] at hP
      exact hP
    | succ n ih =>
      intro j a P hj hn hP
      refine t_34_4 sh_cut.1 ?_
      rw [h9, s33 h hj (by omega)]
      refine ⟨by omega, by omega, ?_⟩
      rw [if_neg (by omega)]
      rw [show smF (fun k => b2i (hvy L X k)) j (n + 1) = b2i (hvy L X j) + smF (fun k => b2i (hvy L X k)) (j + 1) n from rfl, ← Int.add_assoc] at hP
      refine ⟨by have := b2i_r (hvy L X j); omega, ?_⟩
      cases hv : hvy L X j
      · rw [hv] at hP
        rw [if_pos (by decide)]
        exact ih (j + 1) _ P (by omega) (by omega) hP
      · rw [hv] at hP
        rw [if_neg (by decide)]
        exact ih (j + 1) _ P (by omega) (by omega) hP
  refine FN.wi (WC.fn (t_34 sh_cut.1 (key X.2.1.length 0 0 _ (by omega) (by unfold cnt; omega) ⟨?_, rfl⟩)))
  rw [Int.zero_add]
  rfl
theorem okl_ok (h : HOk X) (g : GOk X) (hd : dg (Xl X)) (h0 : 0 ≤ k) (h1 : k < cnt X) : dg (okl X k) ∧ (okl X k).length ≤ 12 ∧ ((okl X k).length : Int) = osz X k := by
  have ho := ofr_r h g h0 h1
  have hh := hen_r h h0 h1
  have e : osz X k = hst X k - ofr X k := rfl
  unfold okl
  rcases ho with ho | ho
  · rw [if_pos ⟨ho.1, ho.2.1⟩]
    have hA := g.2.2.2.2.2
    have := sub_len (l := XA X) (a := (XA X).length - Xc X) (n := Xc X) (by omega) (by omega) (by omega)
    exact ⟨sub_dg hA.2.2.1 _ _, by omega, by omega⟩
  · rw [if_neg ho.1]
    have := sub_len (l := Xl X) (a := ofr X k) (n := osz X k) (by omega) (by omega) (by show _ ≤ Xn X; omega)
    exact ⟨sub_dg hd _ _, by omega, by omega⟩
theorem ckl_ok (h : HOk X) (g : GOk X) (hd : dg (Xl X)) (h0 : 0 ≤ k) (h1 : k < cnt X) : dg (ckl X k) ∧ (ckl X k).length ≤ 12 ∧ ((ckl X k).length : Int) = csz X k := by
  have hh := hen_r h h0 h1
  have hb := beh_r h h0 h1
  have hc := cls_r h g h0 h1
  have hd' := csz_r h g h0 h1
  unfold ckl
  have := sub_len (l := Xl X) (a := hen X k) (n := csz X k) (by omega) (by omega) (by show _ ≤ Xn X; omega)
  exact ⟨sub_dg hd _ _, by omega, by omega⟩
/-- two heavy ones side by side -/
def clash (L : Lw) (c : Int → Int) (X : Ct) (k : Int) : Int := if 0 < k ∧ hvy L X (k - 1) = true ∧ hvy L X k = true then c 5 else 0
theorem s35_c (h : CutIs M p L W X) (hC : CstIs M p c) {P : Int → Mem → Prop} (h0 : 0 ≤ i) (h1 : i < 6) : WI 41 [vR p, vI i] M P = P (c i) M := by
  rw [s41 h.1.1 (by omega), if_pos ⟨h0, h1⟩, (hC i h0 h1).1]
theorem s35_tail (h : CutIs M p L W X) (hC : CstIs M p c) (h0 : 0 ≤ k) (h1 : k < cnt X) (z : Int) {P : AV → Mem → Prop} (hP : P (vI (z + clash L c X k)) M) : inR k ∧ (if k ≤ 0 then P (vI (z)) M else WI 33 [vR 9, vI (k - 1)] M (fun y20 M19 => inR y20 ∧ (if y20 = 0 then P (vI (z)) M19 else WI 33 [vR 9, vI k] M19 (fun y23 M22 => inR y23 ∧ (if y23 = 0 then P (vI (z)) M22 else ((shA SH (M22 9 4)).1 = 2 ∧ WI 41 [vR (M22 9 4), vI 5] M22 (fun y26 M25 => P (vI (z + y26)) M25))))))) := by
  have hH := h.1.2.2.2.2.1
  have hh := hen_r hH h0 h1
  have hp := h.1.2.2.2.1.2.2.2.2.1
  unfold clash at hP
  refine ⟨by omega, ?_⟩
  by_cases hk : k ≤ 0
  · rw [if_pos hk]
    rw [if_neg (fun q => by omega), Int.add_zero] at hP
    exact hP
  · rw [if_neg hk, s33 h (by omega) (by omega)]
    refine ⟨by have := b2i_r (hvy L X (k - 1)); omega, ?_⟩
    cases hv : hvy L X (k - 1)
    · rw [hv, if_neg (fun q => absurd q.2.1 (by decide)), Int.add_zero] at hP
      exact hP
    · rw [if_neg (by decide), s33 h h0 h1]
      refine ⟨by have := b2i_r (hvy L X k); omega, ?_⟩
      cases hv2 : hvy L X k
      · rw [hv2, if_neg (fun q => absurd q.2.2 (by decide)), Int.add_zero] at hP
        exact hP
      · rw [hv, hv2, if_pos ⟨by omega, rfl, rfl⟩] at hP
        rw [if_neg (by decide), hp, s35_c h hC (by decide) (by decide)]
        exact ⟨h.1.1.o.1.2, hP⟩
theorem s35_mid (h : CutIs M p L W X) (hC : CstIs M p c) (h0 : 0 ≤ k) (h1 : k < cnt X) (z : Int) {P : AV → Mem → Prop} (hP : P (vI (z + (if closes L (ckl X k) = true then 0 else c 4) + clash L c X k)) M) : WL 30 [vR 9, vI k] M (fun y14 M13 => (shA SH p).1 = 2 ∧ WI 50 [vR p, vL y14] M13 (fun y16 M15 => inR y16 ∧ (if y16 = 0 then ((shA SH (M15 9 4)).1 = 2 ∧ WI 41 [vR (M15 9 4), vI 4] M15 (fun y31 M30 => inR k ∧ (if k ≤ 0 then P (vI (z + y31)) M30 else WI 33 [vR 9, vI (k - 1)] M30 (fun y20 M19 => inR y20 ∧ (if y20 = 0 then P (vI (z + y31)) M19 else WI 33 [vR 9, vI k] M19 (fun y23 M22 => inR y23 ∧ (if y23 = 0 then P (vI (z + y31)) M22 else ((shA SH (M22 9 4)).1 = 2 ∧ WI 41 [vR (M22 9 4), vI 5] M22 (fun y26 M25 => P (vI (z + y31 + y26)) M25))))))))) else (inR k ∧ (if k ≤ 0 then P (vI (z)) M15 else WI 33 [vR 9, vI (k - 1)] M15 (fun y20 M19 => inR y20 ∧ (if y20 = 0 then P (vI (z)) M19 else WI 33 [vR 9, vI k] M19 (fun y23 M22 => inR y23 ∧ (if y23 = 0 then P (vI (z)) M22 else ((shA SH (M22 9 4)).1 = 2 ∧ WI 41 [vR (M22 9 4), vI 5] M22 (fun y26 M25 => P (vI (z + y26)) M25))))))))))) := by
  have hH := h.1.2.2.2.2.1
  have hck := ckl_ok hH h.2.2 h.1.2.2.1.2.2.2.2.1 h0 h1
  have hp := h.1.2.2.2.1.2.2.2.2.1
  rw [s30 h h0 h1, s50 h.1.1 hck.1 (by omega)]
  refine ⟨h.1.1.o.1.2, by have := b2i_r (closes L (ckl X k)); omega, ?_⟩
  cases hcl : closes L (ckl X k)
  · rw [hcl, if_neg (by decide)] at hP
    rw [if_pos (by decide), hp, s35_c h hC (by decide) (by decide)]
    exact ⟨h.1.1.o.1.2, s35_tail h hC h0 h1 _ hP⟩
  · rw [hcl, if_pos rfl, Int.add_zero] at hP
    rw [if_neg (by decide)]
    exact s35_tail h hC h0 h1 _ hP
theorem s35 {Q : Int → Mem → Prop} (h : CutIs M p L W X) (hC : CstIs M p c) (h0 : 0 ≤ k) (h1 : k < cnt X) : WI 35 [vR 9, vI k] M Q = Q (cst L W c X k) M := by
  have hL := h.1.1
  have hp := h.1.2.2.2.1.2.2.2.2.1
  have hH := h.1.2.2.2.2.1
  have hh := hen_r hH h0 h1
  have hdg := h.1.2.2.1.2.2.2.2.1
  have hok := okl_ok hH h.2.2 hdg h0 h1
  have ho2 := hL.o.1.2
  have hkr := kind_r L W (okl X k)
  have hosz : osz X k ≤ 12 ∧ 0 ≤ osz X k := by omega
  have hcst : ∀ e : Int, e = (if osz X k = 0 then c 0 else if kind L W (okl X k) = 4 then c 2 else if kind L W (okl X k) = 0 then c 3 else 0) → (fun (r : AV) (N : Mem) => r = vI (cst L W c X k) ∧ N = M) (vI (csz X k * c 1 + e + (if closes L (ckl X k) = true then 0 else c 4) + clash L c X k)) M := by
    intro e he
    subst he
    exact ⟨rfl, rfl⟩
  refine FN.wi (WC.fn (t_35 sh_cut.1 ?_))
  rw [s27 h h0 h1, hp, s35_c h hC (by decide) (by decide), s28 h h0 h1, hp, s48 hL h.1.2.1 hok.1 (by omega), s25 h h0 h1]
  refine ⟨ho2, ho2, by omega, ?_⟩
  by_cases e0 : osz X k = 0
  · rw [if_pos e0, hp, s35_c h hC (by decide) (by decide), hp]
    have := hcst (c 0) (by rw [if_pos e0])
    exact ⟨ho2, s35_mid h hC h0 h1 _ (P := fun r N => r = vI (cst L W c X k) ∧ N = M) this⟩
  rw [if_neg e0]
  refine ⟨by omega, ?_⟩
  by_cases e1 : kind L W (okl X k) = 4
  · rw [if_pos e1, hp, s35_c h hC (by decide) (by decide), hp]
    have := hcst (c 2) (by rw [if_neg e0, if_pos e1])
    exact ⟨ho2, s35_mid h hC h0 h1 _ (P := fun r N => r = vI (cst L W c X k) ∧ N = M) this⟩
  rw [if_neg e1]
  by_cases e2 : kind L W (okl X k) = 0
  · rw [if_pos e2, hp, s35_c h hC (by decide) (by decide), hp]
    have := hcst (c 3) (by rw [if_neg e0, if_neg e1, if_pos e2])
    exact ⟨ho2, s35_mid h hC h0 h1 _ (P := fun r N => r = vI (cst L W c X k) ∧ N = M) this⟩
  rw [if_neg e2, hp]
  have := hcst 0 (by rw [if_neg e0, if_neg e1, if_neg e2])
  rw [Int.add_zero] at this
  exact s35_mid h hC h0 h1 _ (P := fun r N => r = vI (cst L W c X k) ∧ N = M) this
theorem cst_r (hw : Wf L) (h : HOk X) (g : GOk X) (hC : CstIs M p c) (h0 : 0 ≤ k) (h1 : k < cnt X) : 0 ≤ cst L W c X k ∧ cst L W c X k ≤ 15984 := by
  have hb := beh_r h h0 h1
  have hc := cls_r h g h0 h1
  have hd := csz_r h g h0 h1
  have c0 := (hC 0 (by decide) (by decide)).2
  have c1 := (hC 1 (by decide) (by decide)).2
  have c2 := (hC 2 (by decide) (by decide)).2
  have c3 := (hC 3 (by decide) (by decide)).2
  have c4 := (hC 4 (by decide) (by decide)).2
  have c5 := (hC 5 (by decide) (by decide)).2
  have hm := mul_r (a := csz X k) (b := c 1) (m := 12) (n := 999) (by omega) (by omega) (by omega) (by omega)
  unfold cst
  have t1 : 0 ≤ (if osz X k = 0 then c 0 else if kind L W (okl X k) = 4 then c 2 else if kind L W (okl X k) = 0 then c 3 else 0) ∧ (if osz X k = 0 then c 0 else if kind L W (okl X k) = 4 then c 2 else if kind L W (okl X k) = 0 then c 3 else 0) ≤ 999 := by
    repeat' split
    all_goals omega
  have t2 : 0 ≤ (if closes L (ckl X k) = true then 0 else c 4) ∧ (if closes L (ckl X k) = true then 0 else c 4) ≤ 999 := by split <;> omega
  have t3 : 0 ≤ (if 0 < k ∧ hvy L X (k - 1) = true ∧ hvy L X k = true then c 5 else 0) ∧ (if 0 < k ∧ hvy L X (k - 1) = true ∧ hvy L X k = true then c 5 else 0) ≤ 999 := by split <;> omega
  omega
theorem smF_r {f : Int → Int} {m : Int} (hm : 0 ≤ m) : ∀ (n : Nat) (j : Int), (∀ k : Int, j ≤ k → k < j + n → 0 ≤ f k ∧ f k ≤ m) → 0 ≤ smF f j n ∧ smF f j n ≤ m * n
  | 0, j, _ => ⟨Int.le_refl _, by simp [smF]⟩
  | n + 1, j, h => by
    have h1 := h j (by omega) (by omega)
    have h2 := smF_r hm n (j + 1) (fun k a b => h k (by omega) (by omega))
    have e : m * ((n + 1 : Nat) : Int) = m * n + m := by rw [Int.natCast_succ, Int.mul_add, Int.mul_one]
    unfold smF
    omega
theorem tot_r (hw : Wf L) (h : HOk X) (g : GOk X) (hC : CstIs M p c) : 0 ≤ tot L W c X ∧ tot L W c X ≤ 191808 := by
  have hc : (X.2.1.length : Int) ≤ 12 := h.1
  have := smF_r (f := cst L W c X) (m := 15984) (by decide) X.2.1.length 0 (fun k a b => cst_r hw h g hC a (by unfold cnt; omega))
  unfold tot
  omega
theorem s36 {Q : Int → Mem → Prop} (h : CutIs M p L W X) (hC : CstIs M p c) : WI 36 [vR 9] M Q = Q (tot L W c X) M := by
  have h9 := h.1.2.2.2.1.2.2.2.2.2.1
  have hc := h.1.2.2.2.2.1.1
  have key : ∀ (n : Nat) (j a : Int) (P : AV → Mem → Prop), 0 ≤ j → j + n = cnt X → P (vI (a + smF (cst L W c X) j n)) M → WR 36 4 [some (vR 9), some (vI a), some (vI j)] [] M P := by
    intro n
    induction n with
    | zero =>
      intro j a P hj hn hP
      refine t_36_4 sh_cut.1 ?_
      rw [h9]
      refine ⟨by omega, by omega, ?_⟩
      rw [if_pos (by omega)]
      rw [show smF (cst L W c X) j 0 = 0 from rfl, Int.add_zero] at hP
      exact hP
    | succ n ih =>
      intro j a P hj hn hP
      refine t_36_4 sh_cut.1 ?_
      rw [h9, s35 h hC hj (by omega)]
      refine ⟨by omega, by omega, ?_⟩
      rw [if_neg (by omega)]
      rw [show smF (cst L W c X) j (n + 1) = cst L W c X j + smF (cst L W c X) (j + 1) n from rfl, ← Int.add_assoc] at hP
      exact ih (j + 1) _ P (by omega) (by omega) hP
  refine FN.wi (WC.fn (t_36 sh_cut.1 (key X.2.1.length 0 0 _ (by omega) (by unfold cnt; omega) ⟨?_, rfl⟩)))
  rw [Int.zero_add]
  rfl
/-- the first of which opening or closing is not legal, -1 -/
def bad (L : Lw) (W : List (List Int)) (X : Ct) (k : Int) : Bool := decide (kind L W (okl X k) = 0) || !closes L (ckl X k)
def fstBad (L : Lw) (W : List (List Int)) (X : Ct) : Int := fnd (bad L W X) 0 X.2.1.length
theorem s37 {Q : Int → Mem → Prop} (h : CutIs M p L W X) : WI 37 [vR 9] M Q = Q (fstBad L W X) M := by
  have h9 := h.1.2.2.2.1.2.2.2.2.2.1
  have hH := h.1.2.2.2.2.1
  have hc := hH.1
  have hp := h.1.2.2.2.1.2.2.2.2.1
  have ho2 := h.1.1.o.1.2
  have hdg := h.1.2.2.1.2.2.2.2.1
  have key : ∀ (n : Nat) (j : Int) (l2 : Option AV) (P : AV → Mem → Prop), 0 ≤ j → j + n = cnt X → P (vI (fnd (bad L W X) j n)) M → WR 37 2 [some (vR 9), some (vI j), l2] [] M P := by
    intro n
    induction n with
    | zero =>
      intro j l2 P hj hn hP
      refine t_37_2 sh_cut.1 ?_
      rw [h9]
      refine ⟨by omega, by omega, ?_⟩
      rw [if_pos (by omega)]
      exact hP
    | succ n ih =>
      intro j l2 P hj hn hP
      have hok := okl_ok hH h.2.2 hdg hj (by omega)
      have hck := ckl_ok hH h.2.2 hdg hj (by omega)
      have hkr := kind_r L W (okl X j)
      refine t_37_2 sh_cut.1 ?_
      rw [h9, hp, s28 h hj (by omega), s48 h.1.1 h.1.2.1 hok.1 (by omega)]
      refine ⟨by omega, by omega, ?_⟩
      rw [if_neg (by omega)]
      refine ⟨ho2, by omega, ?_⟩
      unfold fnd bad at hP
      by_cases e1 : kind L W (okl X j) = 0
      · rw [decide_eq_true e1, Bool.true_or, if_pos rfl] at hP
        rw [if_pos e1]
        exact hP
      · rw [decide_eq_false e1, Bool.false_or] at hP
        rw [if_neg e1, s30 h hj (by omega), hp, s50 h.1.1 hck.1 (by omega)]
        refine ⟨ho2, by have := b2i_r (closes L (ckl X j)); omega, ?_⟩
        cases hcl : closes L (ckl X j)
        · rw [hcl, if_pos (by decide)] at hP
          exact hP
        · rw [hcl, if_neg (by decide)] at hP
          rw [if_neg (by decide)]
          exact ih (j + 1) _ P (by omega) (by omega) hP
  exact FN.wi (WC.fn (t_37 sh_cut.1 (key X.2.1.length 0 _ _ (by omega) (by unfold cnt; omega) ⟨rfl, rfl⟩)))
/-- the last one of so many from a place on, -1 -/
def lst (P : Int → Bool) (lo : Int) : Nat → Int
  | 0 => -1
  | m + 1 => if P (lo + m) = true then lo + m else lst P lo m
def strLo (L : Lw) (X : Ct) : Int := cnt X - min (Lz L 8) (cnt X)
def strs (L : Lw) (X : Ct) : Int := if lst (hvy L X) (strLo L X) (cnt X - 1 - strLo L X).toNat = -1 then (if cnt X = 0 then -1 else max 0 (cnt X - Lz L 7)) else lst (hvy L X) (strLo L X) (cnt X - 1 - strLo L X).toNat
theorem s38 {Q : Int → Mem → Prop} (h : CutIs M p L W X) : WI 38 [vR 9] M Q = Q (strs L X) M := by
  have h9 := h.1.2.2.2.1.2.2.2.2.2.1
  have hH := h.1.2.2.2.2.1
  have hc := hH.1
  have hc0 : 0 ≤ cnt X := Int.natCast_nonneg _
  have hp := h.1.2.2.2.1.2.2.2.2.1
  have ho := h.1.1.o.1
  obtain ⟨-, -, -, -, -, -, -, n7, n8, -⟩ := h.1.1.2.2.2.2.1
  have hz := h.1.1.2.2.2.2.2.2.2
  unfold WfZ at hz
  have hlo : 0 ≤ strLo L X ∧ strLo L X ≤ cnt X := by unfold strLo; omega
  have key : ∀ (n : Nat) (P : AV → Mem → Prop), strLo L X + n ≤ cnt X - 1 ∨ n = 0 → P (vI (if lst (hvy L X) (strLo L X) n = -1 then (if cnt X = 0 then -1 else max 0 (cnt X - Lz L 7)) else lst (hvy L X) (strLo L X) n)) M → ∀ j : Int, (n = 0 → j < strLo L X ∧ inR j) → (0 < n → j = strLo L X + n - 1) → WR 38 27 [some (vR 9), some (vI (strLo L X)), some (vI j)] [] M P := by
    intro n
    induction n with
    | zero =>
      intro P hn hP j hj _
      have hj := hj rfl
      refine t_38_27 sh_cut.1 ?_
      rw [h9, hp, n7]
      refine ⟨hj.2, by omega, ?_⟩
      rw [if_pos hj.1]
      rw [if_pos (show lst (hvy L X) (strLo L X) 0 = -1 from rfl)] at hP
      refine ⟨by omega, ?_⟩
      by_cases e : cnt X = 0
      · rw [if_pos e] at hP ⊢
        exact hP
      · rw [if_neg e] at hP ⊢
        exact ⟨ho, by omega, hP⟩
    | succ n ih =>
      intro P hn hP j _ hj
      have hj := hj (by omega)
      refine t_38_27 sh_cut.1 ?_
      refine ⟨by omega, by omega, ?_⟩
      rw [if_neg (by omega), s33 h (by omega) (by omega)]
      refine ⟨by have := b2i_r (hvy L X j); omega, ?_⟩
      have e : lst (hvy L X) (strLo L X) (n + 1) = if hvy L X j = true then j else lst (hvy L X) (strLo L X) n := by
        show (if hvy L X (strLo L X + (n : Int)) = true then strLo L X + (n : Int) else _) = _
        rw [show strLo L X + (n : Int) = j by omega]
      rw [e] at hP
      cases hv : hvy L X j
      · rw [hv, if_neg (show ¬ false = true by decide)] at hP
        rw [if_pos (by decide)]
        exact ih P (by omega) hP (j + (-1)) (by omega) (by omega)
      · rw [hv, if_pos rfl, if_neg (by omega)] at hP
        rw [if_neg (by decide)]
        exact hP
  refine FN.wi (WC.fn (t_38 sh_cut.1 ?_))
  rw [hp, n8, h9]
  refine ⟨ho, by omega, ?_⟩
  exact key (cnt X - 1 - strLo L X).toNat _ (by omega) ⟨rfl, rfl⟩ (cnt X - 2) (by omega) (by omega)
end RD
