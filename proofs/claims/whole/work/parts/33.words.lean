/-! LISTS OF WORDS WRITTEN, by the class. -/
/-- so many rows stand in an array, all unlike -/
def RPt (M : Mem) (a : Int) (n : Nat) (lo hi : Int) : Prop := (∀ i : Int, 0 ≤ i → i < n → RowC (M a i) ∧ M (M a i) 0 = M a i + 1 ∧ lo ≤ M a i ∧ M a i ≤ hi) ∧ ∀ i j : Int, 0 ≤ i → i < j → j < n → M a i ≠ M a j
def WrdP (M : Mem) (q : Int) (c : Nat) (L : Lw) (W : List (List Int)) : Prop := WrdIs M q c L W ∧ RPt M (q + 2) c (q + 3) (q + 1 + 2 * c)
theorem RPt.ne {M : Mem} {a : Int} {n : Nat} {lo hi : Int} (h : RPt M a n lo hi) {i j : Int} (i0 : 0 ≤ i) (i1 : i < n) (j0 : 0 ≤ j) (j1 : j < n) (e : i ≠ j) : M a i ≠ M a j := by
  rcases Int.lt_or_gt_of_ne e with z | z
  · exact h.2 i j i0 z j1
  · exact fun y => h.2 j i j0 z i1 y.symm
/-- two rows' cells are unlike -/
theorem RowC.ne {r s : Int} (hr : RowC r) (hs : RowC s) : r ≠ s + 1 := fun e => by
  have h1 := hr.2.1
  have h2 := hs.2.2
  rw [e, h2] at h1
  cases h1
def insL (n : Nat) (l : List Int) (W : List (List Int)) : List (List Int) := W.take n ++ l :: W.drop n
def delL (n : Nat) (W : List (List Int)) : List (List Int) := W.take n ++ W.drop (n + 1)
theorem insL_len {n : Nat} {l : List Int} {W : List (List Int)} (h : n ≤ W.length) : (insL n l W).length = W.length + 1 := by
  unfold insL
  rw [List.length_append, List.length_cons, List.length_take, List.length_drop]
  omega
theorem delL_len {n : Nat} {W : List (List Int)} (h : n < W.length) : (delL n W).length = W.length - 1 := by
  unfold delL
  rw [List.length_append, List.length_take, List.length_drop]
  omega
theorem getD_app {A B : List (List Int)} {i : Nat} : (A ++ B).getD i [] = if i < A.length then A.getD i [] else B.getD (i - A.length) [] := by
  rw [List.getD_eq_getElem?_getD, List.getD_eq_getElem?_getD, List.getD_eq_getElem?_getD]
  by_cases h : i < A.length
  · rw [if_pos h, List.getElem?_append_left h]
  · rw [if_neg h, List.getElem?_append_right (by omega)]
theorem getD_take {A : List (List Int)} {n i : Nat} (h : i < n) : (A.take n).getD i [] = A.getD i [] := by
  rw [List.getD_eq_getElem?_getD, List.getD_eq_getElem?_getD, List.getElem?_take_of_lt h]
theorem getD_drop {A : List (List Int)} {n i : Nat} : (A.drop n).getD i [] = A.getD (n + i) [] := by
  rw [List.getD_eq_getElem?_getD, List.getD_eq_getElem?_getD, List.getElem?_drop]
theorem insL_at {n i : Nat} {l : List Int} {W : List (List Int)} (h : n ≤ W.length) : (insL n l W).getD i [] = if i < n then W.getD i [] else if i = n then l else W.getD (i - 1) [] := by
  have hl : (W.take n).length = n := by rw [List.length_take]; omega
  unfold insL
  rw [getD_app, hl]
  by_cases q : i < n
  · rw [if_pos q, if_pos q, getD_take q]
  · rw [if_neg q, if_neg q]
    by_cases e : i = n
    · rw [if_pos e, e, Nat.sub_self]
      rfl
    · rw [if_neg e]
      obtain ⟨d, hd⟩ : ∃ d, i - n = d + 1 := ⟨i - n - 1, by omega⟩
      rw [hd]
      show (W.drop n).getD d [] = _
      rw [getD_drop, show n + d = i - 1 by omega]
theorem delL_at {n i : Nat} {W : List (List Int)} (h : n ≤ W.length) : (delL n W).getD i [] = if i < n then W.getD i [] else W.getD (i + 1) [] := by
  have hl : (W.take n).length = n := by rw [List.length_take]; omega
  unfold delL
  rw [getD_app, hl]
  by_cases q : i < n
  · rw [if_pos q, if_pos q, getD_take q]
  · rw [if_neg q, if_neg q, getD_drop, show n + 1 + (i - n) = i + 1 by omega]
theorem insL_end {l : List Int} {W : List (List Int)} : insL W.length l W = W ++ [l] := by
  unfold insL
  rw [List.take_length, List.drop_length]
theorem del_ins {n : Nat} {W : List (List Int)} (h : n < W.length) : insL n (W.getD n []) (delL n W) = W := by
  have hl : (W.take n).length = n := by rw [List.length_take]; omega
  unfold insL delL
  have e1 : (W.take n ++ W.drop (n + 1)).take n = W.take n := by
    rw [List.take_append_of_le_length (by omega), List.take_of_length_le (by omega)]
  have e2 : (W.take n ++ W.drop (n + 1)).drop n = W.drop (n + 1) := by
    rw [List.drop_append_of_le_length (by omega), List.drop_eq_nil_of_le (by omega), List.nil_append]
  rw [e1, e2]
  have e3 : W.getD n [] :: W.drop (n + 1) = W.drop n := by
    rw [List.getD_eq_getElem?_getD, List.getElem?_eq_getElem h]
    exact List.getElem_cons_drop h
  rw [e3, List.take_append_drop]
theorem app_del {l : List Int} {W : List (List Int)} : delL W.length (W ++ [l]) = W := by
  unfold delL
  rw [List.take_append_of_le_length (Nat.le_refl _), List.take_length, List.drop_eq_nil_of_le (by simp), List.append_nil]
/-- what is written into a list of words -/
def FrW (q : Int) (c : Nat) (M M' : Mem) : Prop := (∀ k : Int, k ≠ q → ¬ (q + 2 ≤ k ∧ k ≤ q + 2 + 2 * c) → M' k = M k) ∧ ∀ j : Int, j ≠ 2 → M' q j = M q j
theorem FrW.rf {q : Int} {c : Nat} {M : Mem} : FrW q c M M := ⟨fun _ _ _ => rfl, fun _ _ => rfl⟩
section WW
variable {M : Mem} {p q r i : Int} {n : Nat} {L : Lw} {W S : List (List Int)} {l : List Int} {c : Int → Int}
theorem s81 {Q : Mem → Prop} {r' : Int} (hc : RowC r) (h0 : M r 0 = r + 1) (hr : RowK M L r' l) (ne : r ≠ r') (hQ : ∀ M' : Mem, (∀ k : Int, k ≠ r → k ≠ r + 1 → M' k = M k) → M' r 0 = M r 0 → RowK M' L r l → Q M') : WV 81 [vR r, vR r'] M Q := by
  obtain ⟨⟨hc', k0, k1, k2, k3, k4⟩, k5⟩ := hr
  have ho : gO 5 r := ⟨hc.1, by rw [hc.2.1]⟩
  have ho' : gO 5 r' := ⟨hc'.1, by rw [hc'.2.1]⟩
  have n1 := hc.ne hc'
  have n2 := hc'.ne hc
  have n3 : r ≠ r + 1 := by omega
  have key : ∀ (t j : Nat) (N : Mem), j + t = 12 → (∀ k : Int, k ≠ r + 1 → N k = M k) → (∀ i : Int, 0 ≤ i → i < j → N (r + 1) i = M (r' + 1) i) → WR 81 2 [some (vR r), some (vR r'), some (vI j)] [] N (fun _ M' => Q M') := by
    intro t
    induction t with
    | zero =>
      intro j N hj g hk
      have er : N r = M r := g r n3
      have er' : N r' = M r' := g r' n2
      refine t_81_2 ho ?_
      rw [er, h0, hc.2.2, er', k1]
      refine ⟨⟨by have := hc.1; omega, by decide, by decide, by decide⟩, by omega, by decide, ?_⟩
      rw [if_pos (by show ((12 : Nat) : Int) ≤ j; omega)]
      have e2 : upM N r 1 (l.length : Int) r' = M r' := by rw [upM_o (Ne.symm ne)]; exact er'
      rw [e2, k5]
      refine ⟨ho', ho', hQ _ (fun k a b => by rw [upM_o a, upM_o a]; exact g k b) (by rw [upM_f (by decide), upM_f (by decide), er]) ⟨⟨hc, by rw [upM_f (by decide), upM_f (by decide), er]; exact h0, by rw [upM_f (by decide), upM_s], k2, k3, fun i hi => ?_⟩, upM_s⟩⟩
      rw [upM_o (by omega), upM_o (by omega), hk i (by omega) (by omega)]
      exact k4 i hi
    | succ t ih =>
      intro j N hj g hk
      have er : N r = M r := g r n3
      have er' : N r' = M r' := g r' n2
      have ea : N (r' + 1) = M (r' + 1) := g (r' + 1) (by omega)
      refine t_81_2 ho ?_
      rw [er, h0, hc.2.2, er', k0, ea]
      refine ⟨⟨by have := hc.1; omega, by decide, by decide, by decide⟩, by omega, by decide, ?_⟩
      rw [if_neg (by show ¬ ((12 : Nat) : Int) ≤ j; omega)]
      refine ⟨ho', ⟨by rw [hc'.2.2], by omega, by rw [hc'.2.2]; show _ < ((12 : Nat) : Int); omega⟩, ⟨by rw [hc.2.2], by omega, by rw [hc.2.2]; show _ < ((12 : Nat) : Int); omega⟩, ih (j + 1) _ (by omega) (fun k a => by rw [upM_o a]; exact g k a) (fun i a b => ?_)⟩
      by_cases e : i = j
      · rw [e, upM_s]
      · rw [upM_f e]
        exact hk i a (by omega)
  exact t_81 ho (key 12 0 M (by omega) (fun _ _ => rfl) (fun i a b => by omega))
theorem s138 {Q : Int → Mem → Prop} {d : Nat} (h : WrdP M q n L W) (hr : RowK M L r l) (hout : r < q + 3 ∨ q + 1 + 2 * n < r) (hd : d ≤ W.length) (hQ : ∀ M' : Mem, FrW q n M M' → (if W.length < n then WrdP M' q n L (insL d l W) → Q 1 M' else M' = M → Q 0 M')) : WI 138 [vR q, vI d, vR r] M Q := by
  obtain ⟨⟨⟨hq, hs, hs2⟩, h0, h2, hc, hc2, hw⟩, hp⟩ := h
  have ho : gO 10 q := ⟨hq, by rw [hs]⟩
  have hr0 := hr.1.1.1
  have g24 : ∀ {i : Int}, 0 ≤ i → i < n → gA 24 (q + 2) i := fun {i} a b => ⟨by rw [hs2], a, by rw [hs2]; exact b⟩
  refine t_138 ho ⟨by omega, ?_⟩
  rw [if_neg (by omega), h0, h2, hs2]
  refine ⟨⟨by omega, (show 20 ≤ 24 by decide), (show 24 ≤ 41 by decide), (show 24 ≠ 40 by decide)⟩, by omega, by show inR (n : Int); omega, ?_⟩
  by_cases full : W.length < n
  rotate_left
  · rw [if_pos (by show (n : Int) ≤ _; omega)]
    have := hQ M FrW.rf
    rw [if_neg full] at this
    exact ⟨_, rfl, this rfl⟩
  rw [if_neg (by show ¬ (n : Int) ≤ _; omega)]
  refine ⟨by omega, ?_⟩
  rw [if_neg (by omega), if_pos (by omega)]
  obtain ⟨cF, pF, loF, hiF⟩ := hp.1 W.length (by omega) (by omega)
  refine ⟨Or.inl (g24 (by omega) (by omega)), ?_⟩
  have key : ∀ (t j : Nat) (N : Mem), j = d + t → j ≤ W.length → (∀ k : Int, k ≠ q + 2 → N k = M k) → (∀ i : Int, 0 ≤ i → i < n → N (q + 2) i = if (j : Int) < i ∧ i ≤ W.length then M (q + 2) (i - 1) else M (q + 2) i) → WR 138 46 [some (vR q), some (vI d), some (vR r), some (vR (M (q + 2) W.length)), some (vI j)] [] N (fun r M' => ∃ x, r = vI x ∧ Q x M') := by
    intro t
    induction t with
    | zero =>
      intro j N hj hjl g hk
      have rq : r ≠ q + 2 := fun e => by
        have := hr.1.1.2.1
        rw [e, hs2] at this
        cases this
      have hrowN : RowK N L r l := ⟨hr.1.fr (g r rq) (g (r + 1) (by
        intro e
        have := hr.1.1.2.2
        rw [e, hs2] at this
        cases this)), by rw [g r rq]; exact hr.2⟩
      refine t_138_46 ho ⟨by omega, by omega, ?_⟩
      rw [if_pos (by omega)]
      have eF : N (M (q + 2) W.length) 0 = M (q + 2) W.length + 1 := by rw [g _ (by omega)]; exact pF
      refine ⟨by rw [cF.2.1], s81 cF eF hrowN (by omega) (fun N2 g2 g20 hrow2 => ?_)⟩
      have hF1 : q + 2 ≠ M (q + 2) W.length + 1 := fun e => by
        have := cF.2.2
        rw [← e, hs2] at this
        cases this
      have eq : N2 q = M q := by rw [g2 q (by omega) (by omega)]; exact g q (by omega)
      have ea : N2 (q + 2) = N (q + 2) := g2 (q + 2) (by omega) hF1
      have eq' : ∀ v : Int, upM N2 (q + 2) d v q = M q := fun v => by rw [upM_o (by omega)]; exact eq
      rw [eq, h0, eq', h2]
      refine ⟨⟨g24 (by omega) (by omega), ⟨by omega, by rw [cF.2.1]⟩⟩, _, rfl, ?_⟩
      have hfin : ∀ k : Int, k ≠ q → k ≠ q + 2 → upM (upM N2 (q + 2) d (M (q + 2) W.length)) q 2 ((W.length : Int) + 1) k = N2 k := fun k a b => by rw [upM_o a, upM_o b]
      have fr : FrW q n M (upM (upM N2 (q + 2) d (M (q + 2) W.length)) q 2 ((W.length : Int) + 1)) := ⟨fun k a b => by rw [hfin k a (by omega), g2 k (by omega) (by omega)]; exact g k (by omega), fun j a => by rw [upM_f a, eq']⟩
      have := hQ _ fr
      rw [if_pos full] at this
      refine this ?_
      -- the array then
      have arr : ∀ i : Int, 0 ≤ i → i < n → upM (upM N2 (q + 2) d (M (q + 2) W.length)) q 2 ((W.length : Int) + 1) (q + 2) i = if i = d then M (q + 2) W.length else if (d : Int) < i ∧ i ≤ W.length then M (q + 2) (i - 1) else M (q + 2) i := fun i a b => by
        rw [upM_o (by omega)]
        by_cases e : i = d
        · rw [if_pos e, e, upM_s]
        · rw [if_neg e, upM_f e, ea, hk i a b, show (j : Int) = d by omega]
      have rowAt : ∀ i : Int, 0 ≤ i → i < n → i ≠ W.length → upM (upM N2 (q + 2) d (M (q + 2) W.length)) q 2 ((W.length : Int) + 1) (M (q + 2) i) = M (M (q + 2) i) ∧ upM (upM N2 (q + 2) d (M (q + 2) W.length)) q 2 ((W.length : Int) + 1) (M (q + 2) i + 1) = M (M (q + 2) i + 1) := fun i a b e => by
        obtain ⟨c1, c2, c3, c4⟩ := hp.1 i a b
        have ne := hp.ne a b (by omega) (show (W.length : Int) < n by omega) e
        have x1 := c1.ne cF
        have x2 := cF.ne c1
        have y1 : M (q + 2) i + 1 ≠ q + 2 := fun z => by
          have := c1.2.2
          rw [z, hs2] at this
          cases this
        exact ⟨by rw [hfin _ (by omega) (by omega), g2 _ ne x1]; exact g _ (by omega), by rw [hfin _ (by omega) y1, g2 _ (by omega) (by omega)]; exact g _ y1⟩
      have freeAt : upM (upM N2 (q + 2) d (M (q + 2) W.length)) q 2 ((W.length : Int) + 1) (M (q + 2) W.length) = N2 (M (q + 2) W.length) ∧ upM (upM N2 (q + 2) d (M (q + 2) W.length)) q 2 ((W.length : Int) + 1) (M (q + 2) W.length + 1) = N2 (M (q + 2) W.length + 1) := ⟨hfin _ (by omega) (by omega), hfin _ (by omega) (Ne.symm hF1)⟩
      refine ⟨⟨⟨hq, hs, hs2⟩, by rw [upM_f (by decide), eq']; exact h0, by rw [upM_s, insL_len hd]; rfl, by rw [insL_len hd]; omega, hc2, fun i hi => ?_⟩, fun i a b => ?_, fun i j a b e => ?_⟩
      · rw [insL_len hd] at hi
        rw [arr i (by omega) (by omega), insL_at hd]
        by_cases e : i = d
        · rw [if_pos (by omega), if_neg (by omega), if_pos e]
          exact ⟨hrow2.1.fr freeAt.1 freeAt.2, by rw [freeAt.1]; exact hrow2.2, by omega, by omega⟩
        · rw [if_neg (by omega)]
          by_cases e2 : i < d
          · rw [if_neg (by omega), if_pos e2]
            obtain ⟨a1, a2, a3, a4⟩ := hw i (by omega)
            obtain ⟨b1, b2⟩ := rowAt i (by omega) (by omega) (by omega)
            exact ⟨a1.fr b1 b2, by rw [b1]; exact a2, a3, a4⟩
          · rw [if_pos (by omega), if_neg e2, if_neg e]
            obtain ⟨a1, a2, a3, a4⟩ := hw (i - 1) (by omega)
            obtain ⟨b1, b2⟩ := rowAt ((i : Int) - 1) (by omega) (by omega) (by omega)
            rw [show ((i - 1 : Nat) : Int) = (i : Int) - 1 by omega] at a1 a2 a3 a4
            exact ⟨a1.fr b1 b2, by rw [b1]; exact a2, a3, a4⟩
      · rw [arr i a b]
        have old : ∀ x : Int, 0 ≤ x → x < n → RowC (M (q + 2) x) ∧ upM (upM N2 (q + 2) d (M (q + 2) W.length)) q 2 ((W.length : Int) + 1) (M (q + 2) x) 0 = M (q + 2) x + 1 ∧ q + 3 ≤ M (q + 2) x ∧ M (q + 2) x ≤ q + 1 + 2 * n := fun x x0 x1 => by
          obtain ⟨c1, c2, c3, c4⟩ := hp.1 x x0 x1
          by_cases e : x = W.length
          · rw [e]
            exact ⟨cF, by rw [freeAt.1, g20]; exact eF, loF, hiF⟩
          · exact ⟨c1, by rw [(rowAt x x0 x1 e).1]; exact c2, c3, c4⟩
        by_cases e : i = d
        · rw [if_pos e]; exact old _ (by omega) (by omega)
        · rw [if_neg e]
          by_cases e2 : (d : Int) < i ∧ i ≤ W.length
          · rw [if_pos e2]; exact old _ (by omega) (by omega)
          · rw [if_neg e2]; exact old _ a b
      · rw [arr i a (by omega), arr j (by omega) e]
        have nn := fun (x y : Int) (x0 : 0 ≤ x) (x1 : x < n) (y0 : 0 ≤ y) (y1 : y < n) (z : x ≠ y) => hp.ne x0 x1 y0 y1 z
        by_cases e1 : i = d
        · rw [if_pos e1, if_neg (by omega)]
          by_cases e3 : (d : Int) < j ∧ j ≤ W.length
          · rw [if_pos e3]; exact nn _ _ (by omega) (by omega) (by omega) (by omega) (by omega)
          · rw [if_neg e3]; exact nn _ _ (by omega) (by omega) (by omega) (by omega) (by omega)
        · rw [if_neg e1]
          by_cases e2 : (d : Int) < i ∧ i ≤ W.length
          · rw [if_pos e2, if_neg (by omega)]
            by_cases e3 : (d : Int) < j ∧ j ≤ W.length
            · rw [if_pos e3]; exact nn _ _ (by omega) (by omega) (by omega) (by omega) (by omega)
            · rw [if_neg e3]; exact nn _ _ (by omega) (by omega) (by omega) (by omega) (by omega)
          · rw [if_neg e2]
            by_cases e4 : j = d
            · rw [if_pos e4]; exact nn _ _ (by omega) (by omega) (by omega) (by omega) (by omega)
            · rw [if_neg e4]
              by_cases e3 : (d : Int) < j ∧ j ≤ W.length
              · rw [if_pos e3]; exact nn _ _ (by omega) (by omega) (by omega) (by omega) (by omega)
              · rw [if_neg e3]; exact nn _ _ (by omega) (by omega) (by omega) (by omega) (by omega)
    | succ t ih =>
      intro j N hj hjl g hk
      have eq : N q = M q := g q (by omega)
      have ej := hk ((j : Int) - 1) (by omega) (by omega)
      rw [if_neg (by omega)] at ej
      obtain ⟨c1, c2, c3, c4⟩ := hp.1 ((j : Int) - 1) (by omega) (by omega)
      refine t_138_46 ho ⟨by omega, by omega, ?_⟩
      rw [if_neg (by omega), eq, h0, ej]
      refine ⟨Or.inl (g24 (by omega) (by omega)), ⟨g24 (by omega) (by omega), ⟨c1.1, by rw [c1.2.1]⟩⟩, ?_⟩
      rw [show (j : Int) + (-1) = ((j - 1 : Nat) : Int) by omega]
      refine ih (j - 1) _ (by omega) (by omega) (fun k a => by rw [upM_o a]; exact g k a) (fun i a b => ?_)
      by_cases e : i = j
      · rw [e, upM_s, if_pos (by omega)]
      · rw [upM_f e, hk i a b]
        by_cases e2 : (j : Int) < i ∧ i ≤ W.length
        · rw [if_pos e2, if_pos (by omega)]
        · rw [if_neg e2, if_neg (by omega)]
  exact key (W.length - d) W.length M (by omega) (Nat.le_refl _) (fun _ _ => rfl) (fun i a b => by rw [if_neg (by omega)])
theorem s137 {Q : Int → Mem → Prop} (h : WrdP M q n L W) (hr : RowK M L r l) (hout : r < q + 3 ∨ q + 1 + 2 * n < r) (hQ : ∀ M' : Mem, FrW q n M M' → (if W.length < n then WrdP M' q n L (W ++ [l]) → Q 1 M' else M' = M → Q 0 M')) : WI 137 [vR q, vR r] M Q := by
  refine t_137 ⟨h.1.1.1, by rw [h.1.1.2.1]⟩ ?_
  rw [h.1.2.2.1]
  refine s138 h hr hout (Nat.le_refl _) (fun M' g => ?_)
  have := hQ M' g
  by_cases q1 : W.length < n
  · rw [if_pos q1] at this ⊢
    intro hW
    rw [insL_end] at hW
    exact ⟨by decide, _, rfl, this hW⟩
  · rw [if_neg q1] at this ⊢
    intro e
    exact ⟨by decide, _, rfl, this e⟩
theorem s139 {Q : Mem → Prop} {d : Nat} (h : WrdP M q n L W) (hd : d < W.length) (hQ : ∀ M' : Mem, (∀ k : Int, k ≠ q → k ≠ q + 2 → M' k = M k) → (∀ j : Int, j ≠ 2 → M' q j = M q j) → WrdP M' q n L (delL d W) → Q M') : WV 139 [vR q, vI d] M Q := by
  obtain ⟨⟨⟨hq, hs, hs2⟩, h0, h2, hc, hc2, hw⟩, hp⟩ := h
  have ho : gO 10 q := ⟨hq, by rw [hs]⟩
  have g24 : ∀ {i : Int}, 0 ≤ i → i < n → gA 24 (q + 2) i := fun {i} a b => ⟨by rw [hs2], a, by rw [hs2]; exact b⟩
  obtain ⟨cF, pF, loF, hiF⟩ := hp.1 d (by omega) (by omega)
  refine t_139 ho ⟨by omega, ?_⟩
  rw [if_neg (by omega), h0, h2, hs2]
  refine ⟨by omega, ?_⟩
  rw [if_neg (by omega)]
  refine ⟨⟨by omega, (show 20 ≤ 24 by decide), (show 24 ≤ 41 by decide), (show 24 ≠ 40 by decide)⟩, by show inR (n : Int); omega, ?_⟩
  rw [if_pos (by show _ ≤ (n : Int); omega)]
  refine ⟨Or.inl (g24 (by omega) (by omega)), ?_⟩
  have key : ∀ (t j : Nat) (N : Mem), j + t = W.length - 1 → d ≤ j → (∀ k : Int, k ≠ q + 2 → N k = M k) → (∀ i : Int, 0 ≤ i → i < n → N (q + 2) i = if (d : Int) ≤ i ∧ i < j then M (q + 2) (i + 1) else M (q + 2) i) → WR 139 34 [some (vR q), some (vI d), some (vR (M (q + 2) d)), some (vI j)] [] N (fun _ M' => Q M') := by
    intro t
    induction t with
    | zero =>
      intro j N hj hjd g hk
      have eq : N q = M q := g q (by omega)
      refine t_139_34 ho ?_
      rw [eq, h2]
      refine ⟨by omega, by omega, ?_⟩
      rw [if_pos (by omega)]
      have eq0 : upM N q 2 ((W.length : Int) - 1) q 0 = q + 2 := by rw [upM_f (by decide), eq]; exact h0
      rw [eq0, upM_s]
      refine ⟨⟨g24 (by omega) (by omega), ⟨cF.1, by rw [cF.2.1]⟩⟩, ?_⟩
      have arr : ∀ i : Int, 0 ≤ i → i < n → upM (upM N q 2 ((W.length : Int) - 1)) (q + 2) ((W.length : Int) - 1) (M (q + 2) d) (q + 2) i = if i = (W.length : Int) - 1 then M (q + 2) d else if (d : Int) ≤ i ∧ i < (W.length : Int) - 1 then M (q + 2) (i + 1) else M (q + 2) i := fun i a b => by
        by_cases e : i = (W.length : Int) - 1
        · rw [if_pos e, e, upM_s]
        · rw [if_neg e, upM_f e, upM_o (by omega), hk i a b, show (j : Int) = (W.length : Int) - 1 by omega]
      have oth : ∀ k : Int, k ≠ q → k ≠ q + 2 → upM (upM N q 2 ((W.length : Int) - 1)) (q + 2) ((W.length : Int) - 1) (M (q + 2) d) k = M k := fun k a b => by rw [upM_o b, upM_o a]; exact g k b
      have row : ∀ x : Int, 0 ≤ x → x < n → upM (upM N q 2 ((W.length : Int) - 1)) (q + 2) ((W.length : Int) - 1) (M (q + 2) d) (M (q + 2) x) = M (M (q + 2) x) ∧ upM (upM N q 2 ((W.length : Int) - 1)) (q + 2) ((W.length : Int) - 1) (M (q + 2) d) (M (q + 2) x + 1) = M (M (q + 2) x + 1) := fun x a b => by
        obtain ⟨c1, c2, c3, c4⟩ := hp.1 x a b
        have y1 : M (q + 2) x + 1 ≠ q + 2 := fun z => by
          have := c1.2.2
          rw [z, hs2] at this
          cases this
        exact ⟨oth _ (by omega) (by omega), oth _ (by omega) y1⟩
      refine hQ _ oth (fun j a => by rw [upM_o (by omega), upM_f a, eq]) ⟨⟨⟨hq, hs, hs2⟩, by rw [upM_o (by omega)]; exact eq0, by rw [upM_o (by omega), upM_s, delL_len hd]; omega, by rw [delL_len hd]; omega, hc2, fun i hi => ?_⟩, fun i a b => ?_, fun i j a b e => ?_⟩
      · rw [delL_len hd] at hi
        rw [arr i (by omega) (by omega), delL_at (by omega), if_neg (by omega)]
        by_cases e : i < d
        · rw [if_pos e, if_neg (by omega)]
          obtain ⟨a1, a2, a3, a4⟩ := hw i (by omega)
          obtain ⟨b1, b2⟩ := row i (by omega) (by omega)
          exact ⟨a1.fr b1 b2, by rw [b1]; exact a2, a3, a4⟩
        · rw [if_neg e, if_pos (by omega)]
          obtain ⟨a1, a2, a3, a4⟩ := hw (i + 1) (by omega)
          obtain ⟨b1, b2⟩ := row ((i : Int) + 1) (by omega) (by omega)
          rw [show ((i + 1 : Nat) : Int) = (i : Int) + 1 from rfl] at a1 a2 a3 a4
          exact ⟨a1.fr b1 b2, by rw [b1]; exact a2, a3, a4⟩
      · rw [arr i a b]
        have old : ∀ x : Int, 0 ≤ x → x < n → RowC (M (q + 2) x) ∧ upM (upM N q 2 ((W.length : Int) - 1)) (q + 2) ((W.length : Int) - 1) (M (q + 2) d) (M (q + 2) x) 0 = M (q + 2) x + 1 ∧ q + 3 ≤ M (q + 2) x ∧ M (q + 2) x ≤ q + 1 + 2 * n := fun x x0 x1 => by
          obtain ⟨c1, c2, c3, c4⟩ := hp.1 x x0 x1
          exact ⟨c1, by rw [(row x x0 x1).1]; exact c2, c3, c4⟩
        by_cases e : i = (W.length : Int) - 1
        · rw [if_pos e]; exact old _ (by omega) (by omega)
        · rw [if_neg e]
          by_cases e2 : (d : Int) ≤ i ∧ i < (W.length : Int) - 1
          · rw [if_pos e2]; exact old _ (by omega) (by omega)
          · rw [if_neg e2]; exact old _ a b
      · rw [arr i a (by omega), arr j (by omega) e]
        have nn := fun (x y : Int) (x0 : 0 ≤ x) (x1 : x < n) (y0 : 0 ≤ y) (y1 : y < n) (z : x ≠ y) => hp.ne x0 x1 y0 y1 z
        by_cases e1 : i = (W.length : Int) - 1
        · rw [if_pos e1, if_neg (by omega), if_neg (by omega)]
          exact nn _ _ (by omega) (by omega) (by omega) (by omega) (by omega)
        · rw [if_neg e1]
          by_cases e2 : (d : Int) ≤ i ∧ i < (W.length : Int) - 1
          · rw [if_pos e2]
            by_cases e4 : j = (W.length : Int) - 1
            · rw [if_pos e4]; exact nn _ _ (by omega) (by omega) (by omega) (by omega) (by omega)
            · rw [if_neg e4]
              by_cases e3 : (d : Int) ≤ j ∧ j < (W.length : Int) - 1
              · rw [if_pos e3]; exact nn _ _ (by omega) (by omega) (by omega) (by omega) (by omega)
              · rw [if_neg e3]; exact nn _ _ (by omega) (by omega) (by omega) (by omega) (by omega)
          · rw [if_neg e2]
            by_cases e4 : j = (W.length : Int) - 1
            · rw [if_pos e4]; exact nn _ _ (by omega) (by omega) (by omega) (by omega) (by omega)
            · rw [if_neg e4]
              by_cases e3 : (d : Int) ≤ j ∧ j < (W.length : Int) - 1
              · rw [if_pos e3]; exact nn _ _ (by omega) (by omega) (by omega) (by omega) (by omega)
              · rw [if_neg e3]; exact nn _ _ (by omega) (by omega) (by omega) (by omega) (by omega)
    | succ t ih =>
      intro j N hj hjd g hk
      have eq : N q = M q := g q (by omega)
      have ej := hk ((j : Int) + 1) (by omega) (by omega)
      rw [if_neg (by omega)] at ej
      obtain ⟨c1, c2, c3, c4⟩ := hp.1 ((j : Int) + 1) (by omega) (by omega)
      refine t_139_34 ho ?_
      rw [eq, h2]
      refine ⟨by omega, by omega, ?_⟩
      rw [if_neg (by omega), h0, ej]
      refine ⟨Or.inl (g24 (by omega) (by omega)), ⟨g24 (by omega) (by omega), ⟨c1.1, by rw [c1.2.1]⟩⟩, ih (j + 1) _ (by omega) (by omega) (fun k a => by rw [upM_o a]; exact g k a) (fun i a b => ?_)⟩
      by_cases e : i = j
      · rw [e, upM_s, if_pos (by omega)]
      · rw [upM_f e, hk i a b]
        by_cases e2 : (d : Int) ≤ i ∧ i < j
        · rw [if_pos e2, if_pos (by omega)]
        · rw [if_neg e2, if_neg (by omega)]
  exact key (W.length - 1 - d) d M (by omega) (Nat.le_refl _) (fun _ _ => rfl) (fun i a b => by rw [if_neg (by omega)])
end WW
