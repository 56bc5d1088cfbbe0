/-! THE CLASS READ: what its rows, sounds and laws tell. -/
abbrev Lw : Type := Nat × (Int → Int) × (Int → Int) × (Int → Bool) × List (List Int) × List (Int × Int) × (Nat → Int)
/-- how many sounds; a sound's letter (0 .. 25), how open it is, whether it is a peak; the openings told; the glides; the numbers: 0 rise, 1 most of closings, 2 fall, 3 short, 4 long, 5 closing, 6 heavy from, 7 stress back, 8 window, 9 help, 10 move -/
def Ln (L : Lw) : Nat := L.1
def Llt (L : Lw) : Int → Int := L.2.1
def Lop (L : Lw) : Int → Int := L.2.2.1
def Lpk (L : Lw) : Int → Bool := L.2.2.2.1
def Ltd (L : Lw) : List (List Int) := L.2.2.2.2.1
def Lgl (L : Lw) : List (Int × Int) := L.2.2.2.2.2.1
def Lz (L : Lw) : Nat → Int := L.2.2.2.2.2.2
def b2i (b : Bool) : Int := if b = true then 1 else 0
def onr (L : Lw) (s : Int) : Prop := 0 ≤ s ∧ s < Ln L
def opn (L : Lw) (s : Int) : Int := if 0 ≤ s ∧ s < Ln L then Lop L s else -1
def pkn (L : Lw) (s : Int) : Bool := decide (0 ≤ s ∧ s < Ln L) && Lpk L s
def gi (l : List Int) (i : Int) : Int := if 0 ≤ i then l.getD i.toNat (-1) else -1
def onl (L : Lw) (l : List Int) : Prop := ∀ s ∈ l, 0 ≤ s ∧ s < Ln L
def WfS (L : Lw) : Prop := Ln L ≤ 16 ∧ (∀ s : Int, 0 ≤ s → s < Ln L → 0 ≤ Llt L s ∧ Llt L s < 26 ∧ 0 ≤ Lop L s ∧ Lop L s ≤ 9) ∧ ∀ s t : Int, 0 ≤ s → s < t → t < Ln L → Llt L s ≠ Llt L t
def WfT (L : Lw) : Prop := (Ltd L).length ≤ 12 ∧ (∀ l ∈ Ltd L, 2 ≤ l.length ∧ l.length ≤ 4 ∧ ∀ s ∈ l, 0 ≤ s ∧ s < Ln L ∧ Lpk L s = false) ∧ (Lgl L).length ≤ 6 ∧ ∀ g ∈ Lgl L, 0 ≤ g.1 ∧ g.1 < Ln L ∧ 0 ≤ g.2 ∧ g.2 < Ln L ∧ Lpk L g.1 = true ∧ Lpk L g.2 = true
def WfZ (L : Lw) : Prop := (-1 ≤ Lz L 0 ∧ Lz L 0 ≤ 9) ∧ (0 ≤ Lz L 1 ∧ Lz L 1 ≤ 4) ∧ (0 ≤ Lz L 2 ∧ Lz L 2 ≤ 9) ∧ (0 ≤ Lz L 3 ∧ Lz L 3 ≤ 9) ∧ (0 ≤ Lz L 4 ∧ Lz L 4 ≤ 9) ∧ (0 ≤ Lz L 5 ∧ Lz L 5 ≤ 9) ∧ (1 ≤ Lz L 6 ∧ Lz L 6 ≤ 99) ∧ (1 ≤ Lz L 7 ∧ Lz L 7 ≤ 4) ∧ (0 ≤ Lz L 8 ∧ Lz L 8 ≤ 9) ∧ (Lz L 9 = -1 ∨ (0 ≤ Lz L 9 ∧ Lz L 9 < Ln L ∧ Lpk L (Lz L 9) = true)) ∧ (0 ≤ Lz L 10 ∧ Lz L 10 ≤ 4)
def Wf (L : Lw) : Prop := WfS L ∧ WfT L ∧ WfZ L
/-! where it lies -/
def RowC (r : Int) : Prop := 0 < r ∧ shA SH r = (5, 3) ∧ shA SH (r + 1) = (20, 12)
def RowIs (M : Mem) (r : Int) (l : List Int) : Prop := RowC r ∧ M r 0 = r + 1 ∧ M r 1 = l.length ∧ l.length ≤ 12 ∧ dg l ∧ ∀ i : Nat, i < l.length → M (r + 1) i = l.getD i (-1)
def LwC (p : Int) : Prop := p = 96 ∨ p = 150
def PtrL (M : Mem) (p : Int) : Prop := M p 0 = p + 1 ∧ M p 1 = p + 8 ∧ M p 2 = p + 51 ∧ M p 3 = p + 52 ∧ M p 4 = p + 53 ∧ M (p + 1) 0 = p + 2 ∧ M (p + 1) 1 = p + 3 ∧ M (p + 1) 2 = p + 4 ∧ M (p + 1) 3 = p + 5 ∧ M (p + 1) 4 = p + 6 ∧ M (p + 1) 5 = p + 7 ∧ M (p + 8) 0 = p + 10 ∧ M (p + 8) 1 = p + 9
def ShL (p : Int) : Prop := 0 < p ∧ shA SH p = (2, 18) ∧ shA SH (p + 1) = (6, 7) ∧ shA SH (p + 2) = (20, 16) ∧ shA SH (p + 3) = (20, 16) ∧ shA SH (p + 4) = (22, 16) ∧ shA SH (p + 5) = (20, 13) ∧ shA SH (p + 6) = (20, 16) ∧ shA SH (p + 7) = (20, 16) ∧ shA SH (p + 8) = (10, 3) ∧ shA SH (p + 9) = (20, 13) ∧ shA SH (p + 10) = (24, 20) ∧ shA SH (p + 51) = (23, 12) ∧ shA SH (p + 52) = (20, 6) ∧ shA SH (p + 53) = (20, 6)
theorem shL {p : Int} (h : LwC p) : ShL p := by
  unfold ShL
  rcases h with rfl | rfl <;> decide +kernel
def SndIs (M : Mem) (p : Int) (L : Lw) : Prop := M (p + 1) 6 = Ln L ∧ ∀ s : Int, 0 ≤ s → s < Ln L → M (p + 2) s = Llt L s + 97 ∧ M (p + 3) s = Lop L s ∧ M (p + 4) s = b2i (Lpk L s)
def TldIs (M : Mem) (p : Int) (L : Lw) : Prop := M p 5 = (Ltd L).length ∧ (∀ i : Nat, i < (Ltd L).length → M (p + 51) i = keyOf ((Ltd L).getD i [])) ∧ M p 6 = (Lgl L).length ∧ ∀ i : Nat, i < (Lgl L).length → M (p + 52) i = 16 * ((Lgl L).getD i (0, 0)).1 + ((Lgl L).getD i (0, 0)).2
def NumIs (M : Mem) (p : Int) (L : Lw) : Prop := M p 7 = Lz L 0 ∧ M p 8 = Lz L 1 ∧ M p 9 = Lz L 2 ∧ M p 10 = Lz L 3 ∧ M p 11 = Lz L 4 ∧ M p 12 = Lz L 5 ∧ M p 13 = Lz L 6 ∧ M p 14 = Lz L 7 ∧ M p 15 = Lz L 8 ∧ M p 16 = Lz L 9 ∧ M p 17 = Lz L 10
def LawIs (M : Mem) (p : Int) (L : Lw) : Prop := LwC p ∧ PtrL M p ∧ SndIs M p L ∧ TldIs M p L ∧ NumIs M p L ∧ Wf L
theorem gi_nat {l : List Int} {i : Nat} : gi l i = l.getD i (-1) := by
  unfold gi
  rw [if_pos (by omega), Int.toNat_natCast]
theorem gi_out {l : List Int} {i : Int} (h : i < 0 ∨ (l.length : Int) ≤ i) : gi l i = -1 := by
  unfold gi
  split
  · rw [List.getD_eq_getElem?_getD, List.getElem?_eq_none (by omega)]
    rfl
  · rfl
theorem RowIs.at {M : Mem} {r : Int} {l : List Int} (h : RowIs M r l) {i : Int} (h0 : 0 ≤ i) (h1 : i < l.length) : M (r + 1) i = gi l i := by
  obtain ⟨n, rfl⟩ := Int.eq_ofNat_of_zero_le h0
  rw [gi_nat]
  exact h.2.2.2.2.2 n (by omega)
theorem gi_dg {l : List Int} (h : dg l) {i : Int} (h0 : 0 ≤ i) (h1 : i < l.length) : 0 ≤ gi l i ∧ gi l i < 16 := by
  obtain ⟨n, rfl⟩ := Int.eq_ofNat_of_zero_le h0
  rw [gi_nat, List.getD_eq_getElem?_getD, List.getElem?_eq_getElem (by omega)]
  exact h _ (List.getElem_mem _)
theorem gi_dg' {l : List Int} (h : dg l) (i : Int) : -1 ≤ gi l i ∧ gi l i < 16 := by
  by_cases h0 : 0 ≤ i ∧ i < l.length
  · have := gi_dg h h0.1 h0.2
    omega
  · rw [gi_out (by omega)]
    omega
/-! loops as numbers and truths -/
def fnd (P : Int → Bool) : Int → Nat → Int
  | _, 0 => -1
  | i, k + 1 => if P i = true then i else fnd P (i + 1) k
def anyB (P : Int → Bool) : Int → Nat → Bool
  | _, 0 => false
  | i, k + 1 => P i || anyB P (i + 1) k
theorem anyB_mem {α : Type} [DecidableEq α] {xs : List α} {d l : α} {P : Int → Bool} (h : ∀ i : Nat, i < xs.length → P i = decide (xs.getD i d = l)) : anyB P 0 xs.length = decide (l ∈ xs) := by
  have key : ∀ (k i : Nat), i + k = xs.length → anyB P i k = decide (l ∈ xs.drop i) := by
    intro k
    induction k with
    | zero =>
      intro i hi
      rw [List.drop_eq_nil_of_le (by omega)]
      simp [anyB]
    | succ k ih =>
      intro i hi
      unfold anyB
      have hd : xs.drop i = xs.getD i d :: xs.drop (i + 1) := by
        rw [List.getD_eq_getElem?_getD, List.getElem?_eq_getElem (by omega)]
        exact (List.getElem_cons_drop (by omega)).symm
      rw [h i (by omega), show (i : Int) + 1 = ((i + 1 : Nat) : Int) by omega, ih (i + 1) (by omega), hd]
      by_cases h1 : xs.getD i d = l
      · rw [decide_eq_true h1, Bool.true_or]
        exact (decide_eq_true (by rw [h1]; exact List.mem_cons_self)).symm
      · rw [decide_eq_false h1, Bool.false_or]
        exact decide_eq_decide.mpr ⟨List.mem_cons_of_mem _, fun hm => (List.mem_cons.mp hm).elim (fun e => absurd e.symm h1) id⟩
  have := key xs.length 0 (by omega)
  rw [List.drop_zero] at this
  exact this
def adjB (P : Int → Int → Bool) : List Int → Bool
  | [] => true
  | a :: r => (match r with
    | [] => true
    | b :: _ => P a b) && adjB P r
theorem adjB_snoc (P : Int → Int → Bool) (a b : Int) : ∀ m : List Int, adjB P (m ++ [a, b]) = (adjB P (m ++ [a]) && P a b)
  | [] => by simp [adjB]
  | [c] => by simp [adjB, Bool.and_assoc]
  | c :: e :: r => by
    have := adjB_snoc P a b (e :: r)
    rw [List.cons_append, List.cons_append, List.cons_append, List.cons_append] at *
    unfold adjB
    rw [this]
    simp [Bool.and_assoc]
def numOf (L : Lw) (c : Int) : Int := fnd (fun s => decide (Llt L s + 97 = c)) 0 (Ln L)
def Pu (L : Lw) (st a b : Int) : Bool := decide (st ≤ opn L b - opn L a)
def Pd (L : Lw) (st a b : Int) : Bool := decide (st ≤ opn L a - opn L b)
def rising (L : Lw) (l : List Int) : Bool := decide (Lz L 0 ≠ -1) && adjB (Pu L (Lz L 0)) l
def closes (L : Lw) (l : List Int) : Bool := decide ((l.length : Int) ≤ Lz L 1) && adjB (Pd L (Lz L 2)) l
def hasPk (L : Lw) (l : List Int) : Bool := l.any (pkn L)
def leadL (L : Lw) (l : List Int) : List Int := l.takeWhile fun s => !pkn L s
def leadKey (L : Lw) (l : List Int) : Int := if hasPk L l = true then keyOf (leadL L l) else 0
def isLead (L : Lw) (W : List (List Int)) (l : List Int) : Bool := W.any fun w => hasPk L w && decide (leadL L w = l)
def kind (L : Lw) (W : List (List Int)) (l : List Int) : Int := if l.length ≤ 1 then 1 else if 4 < l.length then 0 else if l ∈ Ltd L then 2 else if isLead L W l = true then 3 else if rising L l = true then 4 else 0
def WrdIs (M : Mem) (q : Int) (c : Nat) (L : Lw) (W : List (List Int)) : Prop := (0 < q ∧ shA SH q = (10, 3) ∧ shA SH (q + 2) = (24, c)) ∧ M q 0 = q + 2 ∧ M q 2 = W.length ∧ W.length ≤ c ∧ c ≤ 20 ∧ ∀ i : Nat, i < W.length → RowIs M (M (q + 2) i) (W.getD i []) ∧ M (M (q + 2) i) 2 = leadKey L (W.getD i []) ∧ q + 3 ≤ M (q + 2) i ∧ M (q + 2) i ≤ q + 1 + 2 * c
theorem b2i_r (b : Bool) : 0 ≤ b2i b ∧ b2i b ≤ 1 := by cases b <;> decide
theorem b2i_0 {b : Bool} : b2i b = 0 ↔ b = false := by cases b <;> decide
theorem opn_r {L : Lw} (h : Wf L) (s : Int) : -1 ≤ opn L s ∧ opn L s ≤ 9 := by
  unfold opn
  split
  · rename_i hs
    have := h.1.2.1 s hs.1 hs.2
    omega
  · omega
section RD
variable {M : Mem} {r p i s : Int} {l : List Int} {L : Lw}
theorem s82 {Q : Int → Mem → Prop} (hr : RowIs M r l) (hi : inR i) : WI 82 [vR r, vI i] M Q = Q (gi l i) M := by
  have hat := @RowIs.at M r l hr i
  have hout := @gi_out l i
  obtain ⟨hc, h0, h1, h2, h3, h4⟩ := hr
  refine FN.wi (WC.fn (t_82 ⟨hc.1, by rw [hc.2.1]⟩ ?_))
  have hp := hc.1
  simp only [h0, h1, hc.2.2, gA, gO, true_and, and_true]
  repeat' first | (refine ⟨by omega, ?_⟩) | split
  · rw [hout (by omega)]
  · rw [hout (by omega)]
  · exfalso; omega
  · rw [hat (by omega) (by omega)]
theorem LawIs.o {M : Mem} {p : Int} {L : Lw} (h : LawIs M p L) : gO 2 p ∧ gO 6 (p + 1) := by
  have hs := shL h.1
  unfold ShL at hs
  exact ⟨⟨hs.1, by rw [hs.2.1]⟩, ⟨by have := hs.1; omega, by rw [hs.2.2.1]⟩⟩
theorem LawIs.n {M : Mem} {p : Int} {L : Lw} (h : LawIs M p L) : M (p + 1) 6 = Ln L ∧ Ln L ≤ 16 := ⟨h.2.2.1.1, h.2.2.2.2.2.1.1⟩
theorem LawIs.a {M : Mem} {p : Int} {L : Lw} (h : LawIs M p L) : M (p + 1) 0 = p + 2 ∧ M (p + 1) 1 = p + 3 ∧ M (p + 1) 2 = p + 4 := by
  have hp := h.2.1
  unfold PtrL at hp
  exact ⟨hp.2.2.2.2.2.1, hp.2.2.2.2.2.2.1, hp.2.2.2.2.2.2.2.1⟩
theorem LawIs.as {M : Mem} {p : Int} {L : Lw} (h : LawIs M p L) : shA SH (p + 2) = (20, 16) ∧ shA SH (p + 3) = (20, 16) ∧ shA SH (p + 4) = (22, 16) := by
  have hs := shL h.1
  unfold ShL at hs
  exact ⟨hs.2.2.2.1, hs.2.2.2.2.1, hs.2.2.2.2.2.1⟩
theorem s90 {Q : Int → Mem → Prop} (h : LawIs M p L) (hi : inR i) : WI 90 [vR (p + 1), vI i] M Q = Q (b2i (decide (0 ≤ i ∧ i < Ln L))) M := by
  obtain ⟨h1, hn⟩ := h.n
  refine FN.wi (WC.fn (t_90 h.o.2 ?_))
  clear h
  simp only [h1, gA, gO, true_and, and_true]
  repeat' first | (refine ⟨by omega, ?_⟩) | split
  all_goals first
    | (exfalso; omega)
    | (rw [decide_eq_false (by omega)]; rfl)
    | (rw [decide_eq_true (by omega)]; rfl)
theorem s93 {Q : Int → Mem → Prop} (h : LawIs M p L) (hi : inR i) : WI 93 [vR (p + 1), vI i] M Q = Q (opn L i) M := by
  obtain ⟨h1, hn⟩ := h.n
  have h2 := h.2.2.1.2 i
  refine FN.wi (WC.fn (t_93 h.o.2 ?_))
  simp only [h1, h.a, h.as, gA, gO, true_and, and_true]
  clear h
  by_cases hc : 0 ≤ i ∧ i < Ln L
  · have ho : opn L i = Lop L i := if_pos hc
    rw [ho, (h2 hc.1 hc.2).2.1]
    repeat' first | (refine ⟨by omega, ?_⟩) | split
    all_goals first
      | (exfalso; omega)
      | rfl
  · have ho : opn L i = -1 := if_neg hc
    rw [ho]
    clear h2
    repeat' first | (refine ⟨by omega, ?_⟩) | split
    all_goals first
      | (exfalso; omega)
      | rfl
theorem s94 {Q : Int → Mem → Prop} (h : LawIs M p L) (hi : inR i) : WI 94 [vR (p + 1), vI i] M Q = Q (b2i (pkn L i)) M := by
  obtain ⟨h1, hn⟩ := h.n
  have h2 := h.2.2.1.2 i
  refine FN.wi (WC.fn (t_94 h.o.2 ?_))
  have hb := b2i_r (Lpk L i)
  simp only [h1, h.a, h.as, pkn, gA, gO, true_and, and_true]
  clear h
  refine ⟨hi, ?_⟩
  by_cases hc : 0 ≤ i ∧ i < Ln L
  · rw [if_neg (by omega), decide_eq_true hc, Bool.true_and]
    refine ⟨by omega, ?_⟩
    rw [if_neg (by omega), if_neg (by omega), (h2 (by omega) (by omega)).2.2]
    refine ⟨by omega, by omega, ?_⟩
    cases Lpk L i <;> simp [b2i]
  · rw [decide_eq_false hc, Bool.false_and]
    clear h2
    repeat' first | (refine ⟨by omega, ?_⟩) | split
    all_goals first
      | (exfalso; omega)
      | rfl
theorem s91 {Q : Int → Mem → Prop} (h : LawIs M p L) (hi : inR i) : WI 91 [vR (p + 1), vI i] M Q = Q (numOf L i) M := by
  obtain ⟨h1, hn⟩ := h.n
  have h2 := h.2.2.1.2
  have h3 := h.2.2.2.2.2.1.2.1
  have ho := h.o.2
  have ha := h.a.1
  have has := h.as.1
  clear h
  have key : ∀ (k : Nat) (j : Int) (P : AV → Mem → Prop), 0 ≤ j → j + k = Ln L → P (vI (fnd (fun s => decide (Llt L s + 97 = i)) j k)) M → WR 91 2 [some (vR (p + 1)), some (vI i), some (vI j)] [] M P := by
    intro k
    induction k with
    | zero =>
      intro j P h0 hj hP
      refine t_91_2 ho ?_
      simp only [h1]
      refine ⟨by omega, by omega, ?_⟩
      rw [if_pos (by omega)]
      exact hP
    | succ k ih =>
      intro j P h0 hj hP
      refine t_91_2 ho ?_
      have h3 := h3 j h0 (by omega)
      have h2 := (h2 j h0 (by omega)).1
      simp only [h1, ha, has, h2, gA, gO, true_and, and_true]
      refine ⟨by omega, by omega, ?_⟩
      rw [if_neg (by omega), if_neg (by omega)]
      refine ⟨by omega, by omega, by omega, ?_⟩
      unfold fnd at hP
      split
      · rename_i he
        rw [if_pos (decide_eq_true he)] at hP
        exact hP
      · rename_i he
        rw [if_neg (by rw [decide_eq_false he]; decide)] at hP
        exact ih (j + 1) P (by omega) (by omega) hP
  exact FN.wi (WC.fn (t_91 ho (key (Ln L) 0 _ (by omega) (by omega) ⟨rfl, rfl⟩)))
end RD
