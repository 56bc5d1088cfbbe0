/-! THE CLASS READ, part three: climbing rows, lists of words, why an opening is legal. -/
section RD
variable {M : Mem} {r p q i s : Int} {l : List Int} {L : Lw} {c : Nat} {W : List (List Int)}
theorem key_2 {m : List Int} {a b : Int} (h : dg (m ++ [a, b])) : keyOf (m ++ [a, b]) = 16 * keyOf (m ++ [a]) + b ∧ dg (m ++ [a]) ∧ 0 ≤ b ∧ b < 16 := by
  have e : m ++ [a, b] = (m ++ [a]) ++ [b] := by simp
  rw [e] at h ⊢
  exact ⟨keyOf_snoc _ _, (dg_snoc h).1, (dg_snoc h).2⟩
/-- of a row that climbs: as the class tells it -/
def climb (L : Lw) (up st : Int) (a b : Int) : Bool := if up = 0 then Pd L st a b else Pu L st a b
theorem s99_len (l : List Int) : l.length ≤ 1 ∨ ∃ m a b, l = m ++ [a, b] := by
  rcases snoc_cases l with rfl | ⟨m, b, rfl⟩
  · exact Or.inl (by decide)
  · rcases snoc_cases m with rfl | ⟨m, a, rfl⟩
    · exact Or.inl (Nat.le_refl 1)
    · exact Or.inr ⟨m, a, b, by simp⟩
theorem adj_short (P : Int → Int → Bool) {l : List Int} (h : l.length ≤ 1) : adjB P l = true := by
  match l, h with
  | [], _ => rfl
  | [_], _ => simp [adjB]
theorem s99 {Q : Int → Mem → Prop} {st up : Int} (h : LawIs M p L) (hd : dg l) (hl : l.length ≤ 13) (hst : -1 ≤ st ∧ st ≤ 9) (hup : up = 0 ∨ up = 1) : WI 99 [vR (p + 1), vL (keyOf l), vI st, vI up] M Q = Q (b2i (adjB (climb L up st) l)) M := by
  have ho := h.o.2
  have hw := h.2.2.2.2.2
  have key : ∀ (n : Nat) (m : List Int) (l7 : Option AV) (P : AV → Mem → Prop), m.length ≤ n → n ≤ 13 → dg m → P (vI (b2i (adjB (climb L up st) m))) M → WR 99 3 [some (vR (p + 1)), some (vL (keyOf l)), none, some (vI st), some (vI up), some (vL (keyOf m)), none, l7] [] M P := by
    intro n
    induction n with
    | zero =>
      intro m l7 P hm hn hdm hP
      have h1 := (key_bd _ m rfl hdm).2
      rw [show m.length = 0 by omega] at h1
      refine t_99_3 ho ?_
      have e : (if keyOf m < 256 then (-1 : Int) else if keyOf m = 256 then 0 else 1) = -1 := if_pos (by omega)
      rw [e]
      have := key_pos hdm
      refine ⟨by omega, by decide, ?_⟩
      rw [if_pos (by decide)]
      rw [adj_short _ (by omega)] at hP
      exact hP
    | succ n ih =>
      intro m l7 P hm hn hdm hP
      have hlt := key_lt hdm (by omega)
      have hpos := key_pos hdm
      rcases s99_len m with h1 | ⟨m, a, b, rfl⟩
      · have h2 := (key_bd _ m rfl hdm).2
        have h3 := p16_le h1
        have h4 : (16 : Int) ^ 1 = 16 := rfl
        refine t_99_3 ho ?_
        have e : (if keyOf m < 256 then (-1 : Int) else if keyOf m = 256 then 0 else 1) = -1 := if_pos (by omega)
        rw [e]
        refine ⟨by omega, by decide, ?_⟩
        rw [if_pos (by decide)]
        rw [adj_short _ (by omega)] at hP
        exact hP
      · obtain ⟨e1, hd1, hb⟩ := key_2 hdm
        have e2 := keyOf_snoc m a
        have ha := (dg_snoc hd1).2
        have hge : 256 ≤ keyOf (m ++ [a, b]) := by
          have := key_pos (dg_snoc hd1).1
          omega
        have hx : keyOf (m ++ [a, b]) % 18446744073709551616 / 16 = keyOf (m ++ [a]) := by omega
        have hb2 : and32 (keyOf (m ++ [a, b])) 15 = b := by rw [and32_15]; omega
        have ha2 : and32 (keyOf (m ++ [a])) 15 = a := by rw [and32_15]; omega
        have hlen : (m ++ [a]).length ≤ n := by
          simp only [List.length_append, List.length_cons, List.length_nil] at hm ⊢
          omega
        refine t_99_3 ho ?_
        have e : (if keyOf (m ++ [a, b]) < 256 then (-1 : Int) else if keyOf (m ++ [a, b]) = 256 then 0 else 1) = 0 ∨ (if keyOf (m ++ [a, b]) < 256 then (-1 : Int) else if keyOf (m ++ [a, b]) = 256 then 0 else 1) = 1 := by
          rw [if_neg (by omega)]
          split
          · exact Or.inl rfl
          · exact Or.inr rfl
        refine ⟨by omega, cmp3_r _ _, ?_⟩
        rw [if_neg (by omega), hx, hb2, ha2, s93 h (by omega), s93 h (by omega)]
        have oa := opn_r hw a
        have ob := opn_r hw b
        rw [adjB_snoc] at hP
        refine ⟨by omega, ?_⟩
        rcases hup with rfl | rfl
        · rw [if_pos rfl]
          have hcl : climb L 0 st a b = decide (st ≤ opn L a - opn L b) := if_pos rfl
          rw [hcl] at hP
          refine ⟨by omega, by omega, ?_⟩
          by_cases hc : st ≤ opn L a - opn L b
          · rw [if_pos (by omega)]
            rw [decide_eq_true hc, Bool.and_true] at hP
            exact ih (m ++ [a]) _ P hlen (by omega) hd1 hP
          · rw [if_neg (by omega)]
            rw [decide_eq_false hc, Bool.and_false] at hP
            exact hP
        · rw [if_neg (by decide)]
          have hcl : climb L 1 st a b = decide (st ≤ opn L b - opn L a) := if_neg (by decide)
          rw [hcl] at hP
          refine ⟨by omega, by omega, ?_⟩
          by_cases hc : st ≤ opn L b - opn L a
          · rw [if_pos (by omega)]
            rw [decide_eq_true hc, Bool.and_true] at hP
            exact ih (m ++ [a]) _ P hlen (by omega) hd1 hP
          · rw [if_neg (by omega)]
            rw [decide_eq_false hc, Bool.and_false] at hP
            exact hP
  exact FN.wi (WC.fn (t_99 ho (key l.length l none _ (by omega) hl hd ⟨rfl, rfl⟩)))
theorem s49 {Q : Int → Mem → Prop} (h : LawIs M p L) (hd : dg l) (hl : l.length ≤ 13) : WI 49 [vR p, vL (keyOf l)] M Q = Q (b2i (rising L l)) M := by
  have hw := h.2.2.2.2.2
  have h7 := h.2.2.2.2.1.1
  have hz := hw.2.2.1
  refine FN.wi (WC.fn (t_49 h.o.1 ?_))
  rw [h7, h.2.1.1, h.o.2.2]
  unfold rising
  refine ⟨by omega, ?_⟩
  by_cases hr : Lz L 0 = -1
  · rw [if_pos hr, decide_eq_false (fun hc => hc hr)]
    exact ⟨rfl, rfl⟩
  · rw [if_neg hr, s99 h hd hl hz (Or.inr rfl), decide_eq_true hr, Bool.true_and]
    have e : climb L 1 (Lz L 0) = Pu L (Lz L 0) := by funext a b; exact if_neg (by decide)
    rw [e]
    refine ⟨rfl, by have := b2i_r (adjB (Pu L (Lz L 0)) l); omega, ?_⟩
    cases adjB (Pu L (Lz L 0)) l <;> exact ⟨rfl, rfl⟩
theorem s50 {Q : Int → Mem → Prop} (h : LawIs M p L) (hd : dg l) (hl : l.length ≤ 13) : WI 50 [vR p, vL (keyOf l)] M Q = Q (b2i (closes L l)) M := by
  have hw := h.2.2.2.2.2
  have h8 := h.2.2.2.2.1.2.1
  have h9 := h.2.2.2.2.1.2.2.1
  have hz := hw.2.2.2.1
  have hz2 := hw.2.2.2.2.1
  refine FN.wi (WC.fn (t_50 h.o.1 ?_))
  rw [s85 hd hl, h8, h9, h.2.1.1, h.o.2.2]
  unfold closes
  refine ⟨by omega, by omega, ?_⟩
  by_cases hr : Lz L 1 < l.length
  · rw [if_pos hr, decide_eq_false (by omega)]
    exact ⟨rfl, rfl⟩
  · rw [if_neg hr, s99 h hd hl (by omega) (Or.inl rfl), decide_eq_true (by omega), Bool.true_and]
    have e : climb L 0 (Lz L 2) = Pd L (Lz L 2) := by funext a b; exact if_pos rfl
    rw [e]
    refine ⟨rfl, by have := b2i_r (adjB (Pd L (Lz L 2)) l); omega, ?_⟩
    cases adjB (Pd L (Lz L 2)) l <;> exact ⟨rfl, rfl⟩
theorem s136 {Q : Int → Mem → Prop} (h : WrdIs M q c L W) (hi : inR i) : WF 136 [vR q, vI i] M Q = Q (if 0 ≤ i ∧ i < W.length then M (q + 2) i else 0) M := by
  obtain ⟨⟨hq, hs, hs2⟩, h0, h2, hc, hc2, hr⟩ := h
  refine FN.wf (WC.fn (t_136 ⟨hq, by rw [hs]⟩ ?_))
  simp only [h0, h2, hs2, gA, gO, true_and, and_true]
  by_cases hk : 0 ≤ i ∧ i < W.length
  · obtain ⟨n, rfl⟩ := Int.eq_ofNat_of_zero_le hk.1
    have hp := (hr n (by omega)).1.1.1
    rw [if_pos hk]
    clear hr
    repeat' first | (refine ⟨by omega, ?_⟩) | split
    all_goals first
      | (exfalso; omega)
      | rfl
  · rw [if_neg hk]
    clear hr
    repeat' first | (refine ⟨by omega, ?_⟩) | split
    all_goals first
      | (exfalso; omega)
      | rfl
theorem lead_dg (hd : dg l) : dg (leadL L l) ∧ (leadL L l).length ≤ l.length := by
  unfold leadL
  exact ⟨fun s hs => hd s ((List.takeWhile_sublist _).subset hs), (List.takeWhile_sublist _).length_le⟩
theorem leadKey_r (hd : dg l) (hl : l.length ≤ 13) : 0 ≤ leadKey L l ∧ leadKey L l < 9007199254740992 := by
  unfold leadKey
  have h1 := lead_dg (L := L) hd
  have h2 := key_pos h1.1
  have h3 := key_lt h1.1 (by omega)
  split <;> omega
theorem leadKey_eq {m : List Int} (hd : dg l) (hm : dg m) : (leadKey L l = keyOf m) ↔ (hasPk L l = true ∧ leadL L l = m) := by
  unfold leadKey
  have h1 := lead_dg (L := L) hd
  have h2 := key_pos hm
  split
  · rename_i h
    rw [key_eq h1.1 hm]
    exact ⟨fun e => ⟨h, e⟩, fun e => e.2⟩
  · rename_i h
    exact ⟨fun e => by omega, fun e => absurd e.1 h⟩
theorem s140 {Q : Int → Mem → Prop} {m : List Int} (h : WrdIs M q c L W) (hm : dg m) (hml : m.length ≤ 13) : WI 140 [vR q, vL (keyOf m)] M Q = Q (b2i (isLead L W m)) M := by
  obtain ⟨⟨hq, hs, hs2⟩, h0, h2, hc, hc2, hr⟩ := h
  have ho : gO 10 q := ⟨hq, by rw [hs]⟩
  have hp := key_pos hm
  have hlt := key_lt hm hml
  have key : ∀ (k j : Nat) (P : AV → Mem → Prop), j + k = W.length → P (vI (b2i (isLead L (W.drop j) m))) M → WR 140 2 [some (vR q), some (vL (keyOf m)), none, some (vI j)] [] M P := by
    intro k
    induction k with
    | zero =>
      intro j P hj hP
      refine t_140_2 ho ?_
      simp only [h2]
      refine ⟨by omega, by omega, ?_⟩
      rw [if_pos (by omega)]
      rw [List.drop_eq_nil_of_le (by omega)] at hP
      exact hP
    | succ k ih =>
      intro j P hj hP
      obtain ⟨hrow, hlead, -⟩ := hr j (by omega)
      have hlr := leadKey_r (L := L) hrow.2.2.2.2.1 (by have := hrow.2.2.2.1; omega)
      refine t_140_2 ho ?_
      simp only [h0, h2, hs2, hlead, gA, gO, true_and, and_true]
      refine ⟨by omega, by omega, ?_⟩
      rw [if_neg (by omega)]
      refine ⟨by omega, by omega, ?_⟩
      rw [if_neg (by omega)]
      refine ⟨by omega, ⟨hrow.1.1, by rw [hrow.1.2.1]⟩, by omega, cmp3_r _ _, ?_⟩
      have hdrop : W.drop j = W.getD j [] :: W.drop (j + 1) := by
        rw [List.getD_eq_getElem?_getD, List.getElem?_eq_getElem (by omega)]
        exact (List.getElem_cons_drop (by omega)).symm
      rw [hdrop] at hP
      unfold isLead at hP
      rw [List.any_cons] at hP
      by_cases he : leadKey L (W.getD j []) = keyOf m
      · rw [if_pos ((cmp3 _ _).mpr he)]
        have := (leadKey_eq hrow.2.2.2.2.1 hm).mp he
        rw [this.1, decide_eq_true this.2] at hP
        exact hP
      · rw [if_neg (fun hc => he ((cmp3 _ _).mp hc))]
        have hf : (hasPk L (W.getD j []) && decide (leadL L (W.getD j []) = m)) = false := by
          rw [Bool.eq_false_iff]
          intro ht
          rw [Bool.and_eq_true, decide_eq_true_eq] at ht
          exact he ((leadKey_eq hrow.2.2.2.2.1 hm).mpr ht)
        rw [hf, Bool.false_or] at hP
        exact ih (j + 1) P (by omega) hP
  exact FN.wi (WC.fn (t_140 ho (key W.length 0 _ (by omega) ⟨by rw [List.drop_zero], rfl⟩)))
theorem kind_r (L : Lw) (W : List (List Int)) (l : List Int) : 0 ≤ kind L W l ∧ kind L W l ≤ 4 := by
  unfold kind
  repeat' split
  all_goals omega
theorem s48 {Q : Int → Mem → Prop} (h : LawIs M p L) (hW : WrdIs M (p + 8) 20 L W) (hd : dg l) (hl : l.length ≤ 13) : WI 48 [vR p, vL (keyOf l)] M Q = Q (kind L W l) M := by
  have h1 : M p 1 = p + 8 := h.2.1.2.1
  have hs : (shA SH (p + 8)).1 = 10 := by rw [hW.1.2.1]
  refine FN.wi (WC.fn (t_48 h.o.1 ?_))
  rw [s85 hd hl]
  unfold kind
  refine ⟨by omega, ?_⟩
  by_cases c1 : l.length ≤ 1
  · rw [if_neg (by omega), if_pos c1]
    exact ⟨rfl, rfl⟩
  rw [if_pos (by omega), if_neg c1]
  by_cases c2 : 4 < l.length
  · rw [if_neg (by omega), if_pos c2]
    exact ⟨rfl, rfl⟩
  rw [if_pos (by omega), if_neg c2, s44 h hd hl]
  refine ⟨by have := b2i_r (decide (l ∈ Ltd L)); omega, ?_⟩
  by_cases c3 : l ∈ Ltd L
  · rw [decide_eq_true c3, if_neg (by decide), if_pos c3]
    exact ⟨rfl, rfl⟩
  rw [decide_eq_false c3, if_pos (by decide), if_neg c3, h1, hs, s140 hW hd hl]
  refine ⟨rfl, by have := b2i_r (isLead L W l); omega, ?_⟩
  cases c4 : isLead L W l
  · rw [if_pos (by decide), if_neg (by decide), s49 h hd hl]
    refine ⟨by have := b2i_r (rising L l); omega, ?_⟩
    cases rising L l <;> exact ⟨rfl, rfl⟩
  · exact ⟨rfl, rfl⟩
end RD
