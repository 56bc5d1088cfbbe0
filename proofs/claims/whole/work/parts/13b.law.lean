/-! THE CLASS READ, part two: keys, laws, lists of words. -/
section RD
variable {M : Mem} {r p q i s : Int} {l : List Int} {L : Lw} {c : Nat} {W : List (List Int)}
theorem key_m {x : Int} (h0 : 0 ≤ x) (h1 : x < 18446744073709551616) : x % 18446744073709551616 = x := by omega
theorem s92 {Q : Int → Mem → Prop} (h : LawIs M p L) (hi : inR i) : WI 92 [vR (p + 1), vI i] M Q = Q (if 0 ≤ i ∧ i < Ln L then Llt L i + 97 else -1) M := by
  refine FN.wi (WC.fn (t_92 h.o.2 ?_))
  rw [s90 h hi]
  have hn := h.n.2
  refine ⟨by have := b2i_r (decide (0 ≤ i ∧ i < Ln L)); omega, ?_⟩
  by_cases hc : 0 ≤ i ∧ i < Ln L
  · rw [if_pos hc, decide_eq_true hc, if_neg (by decide)]
    simp only [h.a, h.as, gA, gO, true_and, and_true]
    rw [(h.2.2.1.2 i hc.1 hc.2).1]
    exact ⟨by omega, rfl⟩
  · rw [if_neg hc, decide_eq_false hc, if_pos (by decide)]
    exact ⟨rfl, rfl⟩
theorem s85 {Q : Int → Mem → Prop} (hd : dg l) (hl : l.length ≤ 13) : WI 85 [vL (keyOf l)] M Q = Q l.length M := by
  have key : ∀ (n : Nat) (m : List Int) (j x : Int) (P : AV → Mem → Prop), m.length = n → dg m → n ≤ 13 → inR j → 0 ≤ j → j + n < 100 → P (vI (j + n)) M → WR 85 6 [some (vL x), none, some (vI j), some (vL (keyOf m / 16)), none] [] M P := by
    intro n
    induction n with
    | zero =>
      intro m j x P hm hdm hn hj h0 h1 hP
      rw [List.length_eq_zero_iff.mp hm]
      refine t_85_6 ?_
      rw [show keyOf [] / 16 = 0 from rfl]
      refine ⟨by omega, by decide, ?_⟩
      rw [if_pos (by decide)]
      simpa using hP
    | succ n ih =>
      intro m j x P hm hdm hn hj h0 h1 hP
      rcases snoc_cases m with rfl | ⟨m', t, rfl⟩
      · cases hm
      rw [List.length_append] at hm
      have hm' : m'.length = n := by simpa using hm
      obtain ⟨a1, a2⟩ := key_div hdm
      have hp := key_pos (dg_snoc hdm).1
      have hlt := key_lt (dg_snoc hdm).1 (by omega)
      refine t_85_6 ?_
      rw [a1]
      have e : (if keyOf m' < 0 then (-1 : Int) else if keyOf m' = 0 then 0 else 1) = 1 := by rw [if_neg (by omega), if_neg (by omega)]
      rw [e]
      refine ⟨by omega, by decide, ?_⟩
      rw [if_neg (by decide), key_m (by omega) (by omega)]
      exact ih m' (j + 1) x P hm' (dg_snoc hdm).1 (by omega) (by omega) (by omega) (by omega) (by rw [show j + 1 + (n : Int) = j + ((n + 1 : Nat) : Int) by omega]; exact hP)
  have hp := key_pos hd
  have hlt := key_lt hd hl
  refine FN.wi (WC.fn (t_85 ?_))
  rw [key_m (by omega) (by omega)]
  exact key l.length l 0 _ _ rfl hd hl (by omega) (by omega) (by omega) ⟨by rw [Int.zero_add], rfl⟩
theorem s41 {Q : Int → Mem → Prop} (h : LawIs M p L) (hi : inR i) : WI 41 [vR p, vI i] M Q = Q (if 0 ≤ i ∧ i < 6 then M (p + 53) i else -1) M := by
  have hp : M p 4 = p + 53 := by
    have := h.2.1
    unfold PtrL at this
    exact this.2.2.2.2.1
  have hs : shA SH (p + 53) = (20, 6) := by
    have := shL h.1
    unfold ShL at this
    exact this.2.2.2.2.2.2.2.2.2.2.2.2.2.2
  refine FN.wi (WC.fn (t_41 h.o.1 ?_))
  clear h
  simp only [hp, hs, gA, gO, true_and, and_true]
  by_cases hc : 0 ≤ i ∧ i < 6
  · rw [if_pos hc]
    repeat' first | (refine ⟨by omega, ?_⟩) | split
    all_goals first
      | (exfalso; omega)
      | rfl
  · rw [if_neg hc]
    repeat' first | (refine ⟨by omega, ?_⟩) | split
    all_goals first
      | (exfalso; omega)
      | rfl
theorem gtd {i : Nat} {xs : List (List Int)} (h : i < xs.length) : xs.getD i [] ∈ xs := by
  rw [List.getD_eq_getElem?_getD, List.getElem?_eq_getElem h]
  exact List.getElem_mem _
theorem cmp3 (a b : Int) : (if a < b then (-1 : Int) else if a = b then 0 else 1) = 0 ↔ a = b := by
  split
  · exact ⟨fun h => absurd h (by decide), fun h => by omega⟩
  · split
    · exact ⟨fun _ => by assumption, fun _ => rfl⟩
    · exact ⟨fun h => absurd h (by decide), fun h => absurd h (by assumption)⟩
theorem cmp3_r (a b : Int) : inR (if a < b then (-1 : Int) else if a = b then 0 else 1) := by
  split
  · decide
  · split <;> decide
theorem Wf.tdg (h : Wf L) {t : List Int} (ht : t ∈ Ltd L) : dg t ∧ t.length ≤ 4 := by
  have h1 := h.2.1.2.1 t ht
  exact ⟨fun s hs => ⟨(h1.2.2 s hs).1, by have := (h1.2.2 s hs).2.1; have := h.1.1; omega⟩, h1.2.1⟩
theorem s44 {Q : Int → Mem → Prop} (h : LawIs M p L) (hd : dg l) (hl : l.length ≤ 13) : WI 44 [vR p, vL (keyOf l)] M Q = Q (b2i (decide (l ∈ Ltd L))) M := by
  have h2 : M p 2 = p + 51 := by
    have := h.2.1
    unfold PtrL at this
    exact this.2.2.1
  have hs : shA SH (p + 51) = (23, 12) := by
    have := shL h.1
    unfold ShL at this
    exact this.2.2.2.2.2.2.2.2.2.2.2.2.1
  have ho := h.o.1
  obtain ⟨h5, hk, -, -⟩ := h.2.2.2.1
  have hw := h.2.2.2.2.2
  have hn := hw.2.1.1
  have hp := key_pos hd
  have hlt := key_lt hd hl
  clear h
  have key : ∀ (k j : Nat) (P : AV → Mem → Prop), j + k = (Ltd L).length → P (vI (b2i (anyB (fun x => decide ((Ltd L).getD x.toNat [] = l)) j k))) M → WR 44 2 [some (vR p), some (vL (keyOf l)), none, some (vI j)] [] M P := by
    intro k
    induction k with
    | zero =>
      intro j P hj hP
      refine t_44_2 ho ?_
      simp only [h5]
      refine ⟨by omega, by omega, ?_⟩
      rw [if_pos (by omega)]
      exact hP
    | succ k ih =>
      intro j P hj hP
      have hm := hw.tdg (gtd (i := j) (xs := Ltd L) (by omega))
      have hp2 := key_pos hm.1
      have hlt2 := key_lt hm.1 (by omega)
      refine t_44_2 ho ?_
      simp only [h5, h2, hs, hk j (by omega), gA, gO, true_and, and_true]
      refine ⟨by omega, by omega, ?_⟩
      rw [if_neg (by omega), if_neg (by omega)]
      refine ⟨by omega, by omega, cmp3_r _ _, ?_⟩
      unfold anyB at hP
      rw [Int.toNat_natCast] at hP
      by_cases he : (Ltd L).getD j [] = l
      · rw [if_pos ((cmp3 _ _).mpr (by rw [he]))]
        rw [decide_eq_true he] at hP
        exact hP
      · rw [if_neg (fun hc => he ((key_eq hm.1 hd).mp ((cmp3 _ _).mp hc)))]
        rw [decide_eq_false he, Bool.false_or] at hP
        exact ih (j + 1) P (by omega) hP
  have h0 := key (Ltd L).length 0 (fun r N => r = vI (b2i (decide (l ∈ Ltd L))) ∧ N = M) (by omega) ⟨by rw [show ((0 : Nat) : Int) = 0 from rfl, anyB_mem (fun i hi => by rw [Int.toNat_natCast])]; exact congrArg (fun t => vI (b2i t)) (decide_eq_decide.mpr Iff.rfl), rfl⟩
  exact FN.wi (WC.fn (t_44 ho h0))
theorem s46 {Q : Int → Mem → Prop} {a b : Int} (h : LawIs M p L) (ha : 0 ≤ a ∧ a < 16) (hb : 0 ≤ b ∧ b < 16) : WI 46 [vR p, vI a, vI b] M Q = Q (b2i (decide ((a, b) ∈ Lgl L))) M := by
  have h2 : M p 3 = p + 52 := by
    have := h.2.1
    unfold PtrL at this
    exact this.2.2.2.1
  have hs : shA SH (p + 52) = (20, 6) := by
    have := shL h.1
    unfold ShL at this
    exact this.2.2.2.2.2.2.2.2.2.2.2.2.2.1
  have ho := h.o.1
  obtain ⟨-, -, h5, hk⟩ := h.2.2.2.1
  have hw := h.2.2.2.2.2
  have hn := hw.2.1.2.2.1
  have hn2 := hw.1.1
  have hg := hw.2.1.2.2.2
  clear h
  have key : ∀ (k j : Nat) (P : AV → Mem → Prop), j + k = (Lgl L).length → P (vI (b2i (anyB (fun x => decide ((Lgl L).getD x.toNat (0, 0) = (a, b))) j k))) M → WR 46 2 [some (vR p), some (vI a), some (vI b), some (vI j)] [] M P := by
    intro k
    induction k with
    | zero =>
      intro j P hj hP
      refine t_46_2 ho ?_
      simp only [h5]
      refine ⟨by omega, by omega, ?_⟩
      rw [if_pos (by omega)]
      exact hP
    | succ k ih =>
      intro j P hj hP
      have hm : (Lgl L).getD j (0, 0) ∈ Lgl L := by
        rw [List.getD_eq_getElem?_getD, List.getElem?_eq_getElem (by omega)]
        exact List.getElem_mem _
      have hg := hg _ hm
      refine t_46_2 ho ?_
      simp only [h5, h2, hs, hk j (by omega), gA, gO, true_and, and_true]
      unfold anyB at hP
      rw [Int.toNat_natCast] at hP
      generalize (Lgl L).getD j (0, 0) = g at hg hP
      obtain ⟨u, v⟩ := g
      dsimp only at hg ⊢
      refine ⟨by omega, by omega, ?_⟩
      rw [if_neg (by omega), if_neg (by omega)]
      refine ⟨by omega, by omega, by omega, ?_⟩
      by_cases he : (u, v) = (a, b)
      · rw [if_pos (by cases he; omega)]
        rw [decide_eq_true he] at hP
        exact hP
      · rw [if_neg (fun hc => he (by rw [show u = a by omega, show v = b by omega]))]
        rw [decide_eq_false he, Bool.false_or] at hP
        exact ih (j + 1) P (by omega) hP
  have h0 := key (Lgl L).length 0 (fun r N => r = vI (b2i (decide ((a, b) ∈ Lgl L))) ∧ N = M) (by omega) ⟨by rw [show ((0 : Nat) : Int) = 0 from rfl, anyB_mem (fun i hi => by rw [Int.toNat_natCast])]; exact congrArg (fun t => vI (b2i t)) (decide_eq_decide.mpr Iff.rfl), rfl⟩
  exact FN.wi (WC.fn (t_46 ho h0))
/-- a heart of two: peaks that are one and the same, or a glide -/
def longH (L : Lw) (a b : Int) : Bool := pkn L a && pkn L b && (decide (a = b) || decide ((a, b) ∈ Lgl L))
theorem pkn_on (h : pkn L s = true) : 0 ≤ s ∧ s < Ln L ∧ Lpk L s = true := by
  unfold pkn at h
  rw [Bool.and_eq_true, decide_eq_true_eq] at h
  exact ⟨h.1.1, h.1.2, h.2⟩
theorem s47 {Q : Int → Mem → Prop} {a b : Int} (h : LawIs M p L) (ha : inR a) (hb : inR b) : WI 47 [vR p, vI a, vI b] M Q = Q (b2i (longH L a b)) M := by
  have h0 : M p 0 = p + 1 := h.2.1.1
  have hn2 := h.n.2
  refine FN.wi (WC.fn (t_47 h.o.1 ?_))
  rw [h0, s94 h ha, h.o.2.2]
  refine ⟨rfl, by have := b2i_r (pkn L a); omega, ?_⟩
  unfold longH
  cases hpa : pkn L a
  · exact ⟨rfl, rfl⟩
  rw [if_neg (by decide), h0, s94 h hb, h.o.2.2]
  refine ⟨rfl, by have := b2i_r (pkn L b); omega, ?_⟩
  cases hpb : pkn L b
  · exact ⟨rfl, rfl⟩
  have h1 := pkn_on hpa
  have h2 := pkn_on hpb
  rw [if_neg (by decide)]
  refine ⟨ha, hb, ?_⟩
  by_cases he : a = b
  · rw [if_pos he, decide_eq_true he]
    exact ⟨rfl, rfl⟩
  · rw [if_neg he, decide_eq_false he, s46 h (by omega) (by omega), Bool.false_or]
    refine ⟨by have := b2i_r (decide ((a, b) ∈ Lgl L)); omega, ?_⟩
    cases decide ((a, b) ∈ Lgl L) <;> exact ⟨rfl, rfl⟩
end RD
