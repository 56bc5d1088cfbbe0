/-! WHAT IS POSSIBLE, part one: chains and learnt openings. -/
theorem sN_swap {f : Nat → Nat → Int} (n : Nat) : ∀ m : Nat, sN (fun i => sN (fun j => f i j) n) m = sN (fun j => sN (fun i => f i j) m) n
  | 0 => (sN_zero n fun _ _ => rfl).symm
  | m + 1 => by
    show sN (fun i => sN (fun j => f i j) n) m + sN (fun j => f m j) n = sN (fun j => sN (fun i => f i j) m + f m j) n
    rw [sN_swap n m, sN_add]
/-- rows of sounds, each in the relation to the one before it: how many end with this one -/
def chG (rel : Nat → Nat → Bool) (ok : Nat → Bool) (n : Nat) : Nat → Nat → Int
  | 0 => fun i => if ok i = true then 1 else 0
  | k + 1 => fun i => if ok i = true then sN (fun j => if rel i j = true then chG rel ok n k j else 0) n else 0
theorem chG_s (rel : Nat → Nat → Bool) (ok : Nat → Bool) (n k i : Nat) : chG rel ok n (k + 1) i = if ok i = true then sN (fun j => if rel i j = true then chG rel ok n k j else 0) n else 0 := rfl
def chD (rel : Nat → Nat → Bool) (ok : Nat → Bool) (n : Nat) : Nat → Nat → Int
  | 0 => fun _ => 1
  | m + 1 => fun i => sN (fun j => if ok j = true ∧ rel j i = true then chD rel ok n m j else 0) n
theorem chD_eq (rel : Nat → Nat → Bool) (ok : Nat → Bool) (n : Nat) : ∀ (m i : Nat), chG (fun a b => rel b a) ok n m i = if ok i = true then chD rel ok n m i else 0
  | 0, _ => rfl
  | m + 1, i => by
    rw [chG_s]
    by_cases q : ok i = true
    · rw [if_pos q, if_pos q]
      refine sN_congr n fun j _ => ?_
      try dsimp only
      rw [chD_eq rel ok n m j]
      by_cases q2 : rel j i = true
      · by_cases q3 : ok j = true
        · rw [if_pos q2, if_pos q3, if_pos ⟨q3, q2⟩]
        · rw [if_pos q2, if_neg q3, if_neg (fun z => q3 z.1)]
      · rw [if_neg q2, if_neg (fun z => q2 z.2)]
    · rw [if_neg q, if_neg q]
theorem chG_ok (rel : Nat → Nat → Bool) (ok : Nat → Bool) (n k i : Nat) (h : ¬ ok i = true) : chG rel ok n k i = 0 := by
  cases k with
  | zero => exact if_neg h
  | succ k => rw [chG_s, if_neg h]
/-- read from behind they are as many -/
theorem chG_rev (rel : Nat → Nat → Bool) (ok : Nat → Bool) (n k : Nat) : sN (chG rel ok n k) n = sN (chG (fun a b => rel b a) ok n k) n := by
  have step : ∀ (a m : Nat), sN (fun i => chG rel ok n (a + 1) i * chD rel ok n m i) n = sN (fun i => chG rel ok n a i * chD rel ok n (m + 1) i) n := by
    intro a m
    have e1 : sN (fun i => chG rel ok n (a + 1) i * chD rel ok n m i) n = sN (fun i => sN (fun j => if ok i = true ∧ rel i j = true then chG rel ok n a j * chD rel ok n m i else 0) n) n := by
      refine sN_congr n fun i _ => ?_
      try dsimp only
      rw [chG_s]
      by_cases q : ok i = true
      · rw [if_pos q, ← sN_mulR]
        refine sN_congr n fun j _ => ?_
        try dsimp only
        by_cases q2 : rel i j = true
        · rw [if_pos q2, if_pos ⟨q, q2⟩]
        · rw [if_neg q2, if_neg (fun z => q2 z.2), Int.zero_mul]
      · rw [if_neg q, Int.zero_mul]
        exact (sN_zero n fun j _ => if_neg (fun z => q z.1)).symm
    have e2 : sN (fun i => chG rel ok n a i * chD rel ok n (m + 1) i) n = sN (fun j => sN (fun i => if ok i = true ∧ rel i j = true then chG rel ok n a j * chD rel ok n m i else 0) n) n := by
      refine sN_congr n fun j _ => ?_
      show chG rel ok n a j * sN (fun i => if ok i = true ∧ rel i j = true then chD rel ok n m i else 0) n = _
      rw [← sN_mulL]
      refine sN_congr n fun i _ => ?_
      try dsimp only
      split
      · rfl
      · exact Int.mul_zero _
    rw [e1, e2, sN_swap]
  have all : ∀ (a m : Nat), sN (fun i => chG rel ok n a i * chD rel ok n m i) n = sN (fun i => chG rel ok n 0 i * chD rel ok n (m + a) i) n := by
    intro a
    induction a with
    | zero => intro m; rfl
    | succ a ih =>
      intro m
      rw [step a m, ih (m + 1), show m + 1 + a = m + (a + 1) by omega]
  have h := all k 0
  rw [Nat.zero_add] at h
  have h1 : sN (fun i => chG rel ok n k i * chD rel ok n 0 i) n = sN (chG rel ok n k) n := sN_congr n fun i _ => Int.mul_one _
  have h2 : sN (fun i => chG rel ok n 0 i * chD rel ok n k i) n = sN (chG (fun a b => rel b a) ok n k) n := by
    refine sN_congr n fun i _ => ?_
    try dsimp only
    rw [chD_eq rel ok n k i]
    show (if ok i = true then (1 : Int) else 0) * _ = _
    split
    · exact Int.one_mul _
    · exact Int.zero_mul _
  rw [← h1, h, h2]
theorem chG_b (rel : Nat → Nat → Bool) (ok : Nat → Bool) {n : Nat} (hn : n ≤ 16) : ∀ (k i : Nat), 0 ≤ chG rel ok n k i ∧ chG rel ok n k i ≤ (16 : Int) ^ k
  | 0, i => by
    show (0 : Int) ≤ (if ok i = true then 1 else 0) ∧ (if ok i = true then 1 else 0) ≤ (1 : Int)
    split <;> omega
  | k + 1, i => by
    have ih := chG_b rel ok hn k
    have hp := p16_pos k
    have h1 : ∀ m : Nat, 0 ≤ sN (fun j => if rel i j = true then chG rel ok n k j else 0) m ∧ sN (fun j => if rel i j = true then chG rel ok n k j else 0) m ≤ m * (16 : Int) ^ k := by
      intro m
      induction m with
      | zero => exact ⟨Int.le_refl _, by rw [show ((0 : Nat) : Int) = 0 from rfl, Int.zero_mul]; exact Int.le_refl _⟩
      | succ m ihm =>
        have e : sN (fun j => if rel i j = true then chG rel ok n k j else 0) (m + 1) = sN (fun j => if rel i j = true then chG rel ok n k j else 0) m + (if rel i m = true then chG rel ok n k m else 0) := rfl
        have h2 := ih m
        rw [e, show ((m + 1 : Nat) : Int) = (m : Int) + 1 from rfl, Int.add_mul, Int.one_mul]
        split <;> omega
    have h2 := h1 n
    have h3 : (n : Int) * (16 : Int) ^ k ≤ 16 * (16 : Int) ^ k := Int.mul_le_mul_of_nonneg_right (by omega) (by omega)
    rw [chG_s, Int.pow_succ]
    split <;> omega
def okP (L : Lw) (i : Nat) : Bool := !pkn L (i : Int)
def rlU (L : Lw) (st : Int) (i j : Nat) : Bool := decide (st ≤ opn L (i : Int) - opn L (j : Int))
/-- how many rows of so many sounds climb -/
def chn (L : Lw) (st : Int) (size : Nat) : Int := sN (chG (rlU L st) (okP L) (Ln L) (size - 1)) (Ln L)
theorem chn_b {L : Lw} (hn : Ln L ≤ 16) (st : Int) {size : Nat} (h : 1 ≤ size) : 0 ≤ chn L st size ∧ chn L st size ≤ (16 : Int) ^ size := by
  have hp := p16_pos (size - 1)
  have h1 : ∀ m : Nat, 0 ≤ sN (chG (rlU L st) (okP L) (Ln L) (size - 1)) m ∧ sN (chG (rlU L st) (okP L) (Ln L) (size - 1)) m ≤ m * (16 : Int) ^ (size - 1) := by
    intro m
    induction m with
    | zero => exact ⟨Int.le_refl _, by rw [show ((0 : Nat) : Int) = 0 from rfl, Int.zero_mul]; exact Int.le_refl _⟩
    | succ m ihm =>
      have e : sN (chG (rlU L st) (okP L) (Ln L) (size - 1)) (m + 1) = sN (chG (rlU L st) (okP L) (Ln L) (size - 1)) m + chG (rlU L st) (okP L) (Ln L) (size - 1) m := rfl
      have h2 := chG_b (rlU L st) (okP L) hn (size - 1) m
      rw [e, show ((m + 1 : Nat) : Int) = (m : Int) + 1 from rfl, Int.add_mul, Int.one_mul]
      omega
  have h2 := h1 (Ln L)
  have h3 : (Ln L : Int) * (16 : Int) ^ (size - 1) ≤ 16 * (16 : Int) ^ (size - 1) := Int.mul_le_mul_of_nonneg_right (by omega) (by omega)
  obtain ⟨s, rfl⟩ : ∃ s, size = s + 1 := ⟨size - 1, by omega⟩
  rw [Nat.add_sub_cancel] at h2 h3
  rw [Int.pow_succ]
  unfold chn
  rw [Nat.add_sub_cancel]
  omega
/-- whether a learnt word begins with an opening of 2 .. 4 sounds with which no word ahead of it begins -/
def newL (L : Lw) (W : List (List Int)) (i : Nat) : Bool := (hasPk L (W.getD i []) && decide (2 ≤ (leadL L (W.getD i [])).length ∧ (leadL L (W.getD i [])).length ≤ 4)) && !anyB (fun j => hasPk L (W.getD j.toNat []) && decide (leadL L (W.getD j.toNat []) = leadL L (W.getD i []))) 0 i
def nNew (L : Lw) (W : List (List Int)) : Int := sN (fun i => b2i (newL L W i)) W.length
def nTld (L : Lw) (o : Int) : Int := sN (fun i => if (((Ltd L).getD i []).length : Int) = o ∧ rising L ((Ltd L).getD i []) = false then 1 else 0) (Ltd L).length
def nLrn (L : Lw) (W : List (List Int)) (o : Int) : Int := sN (fun i => if newL L W i = true ∧ ((leadL L (W.getD i [])).length : Int) = o ∧ (¬ leadL L (W.getD i []) ∈ Ltd L) ∧ rising L (leadL L (W.getD i [])) = false then 1 else 0) W.length
def nPk (L : Lw) : Int := sN (fun i => b2i (pkn L (i : Int))) (Ln L)
def opC (L : Lw) (W : List (List Int)) (o : Int) : Int := if o = 0 then 1 else if o = 1 then chn L 0 1 else if o ≤ 4 then (if Lz L 0 = -1 then 0 else chn L (Lz L 0) o.toNat) + nTld L o + nLrn L W o else 0
def clC (L : Lw) (k : Int) : Int := if k ≤ Lz L 1 then (if k = 0 then 1 else chn L (Lz L 2) k.toNat) else 0
def hrt (L : Lw) (h : Int) : Int := if h = 1 then nPk L else nPk L + (Lgl L).length
section PO
variable {M : Mem} {p q : Int} {L : Lw} {W S : List (List Int)} {c : Int → Int}
theorem s85z {Q : Int → Mem → Prop} : WI 85 [vL 0] M Q = Q 0 M := by
  refine FN.wi (WC.fn (t_85 (t_85_6 ?_)))
  refine ⟨by decide, by decide, ?_⟩
  rw [if_pos (by decide)]
  exact ⟨rfl, rfl⟩
theorem s53 {Q : Int → Mem → Prop} (h : LawIs M p L) (hW : WrdIs M (p + 8) 20 L W) {i : Nat} (hi : i < W.length) : WL 53 [vR p, vI i] M Q = Q (leadKey L (W.getD i [])) M := by
  have h1 : M p 1 = p + 8 := h.2.1.2.1
  have h20 := hW.2.2.2.1
  obtain ⟨a, -, e⟩ := wrd_at (lw8 h.1) hW (i := (i : Int)) (by omega) (by omega)
  rw [Int.toNat_natCast] at e
  have a0 := a.1.1
  refine FN.wl (WC.fn (t_53 h.o.1 ?_))
  rw [h1, s136 hW (by omega), if_pos (by omega)]
  refine ⟨by rw [hW.1.2.1], by omega, ?_⟩
  rw [if_neg (by omega), e]
  exact ⟨⟨a0, by rw [a.1.2.1]⟩, rfl, rfl⟩
theorem wrd_dg (hW : WrdIs M q 20 L W) {i : Nat} (hi : i < W.length) : dg (W.getD i []) ∧ (W.getD i []).length ≤ 12 := ⟨(hW.2.2.2.2.2 i hi).1.2.2.2.2.1, (hW.2.2.2.2.2 i hi).1.2.2.2.1⟩
theorem s52 {Q : Int → Mem → Prop} (h : LawIs M p L) (hW : WrdIs M (p + 8) 20 L W) {i : Nat} (hi : i < W.length) : WI 52 [vR p, vI i] M Q = Q (b2i (newL L W i)) M := by
  have hd := wrd_dg hW hi
  have h20 := hW.2.2.2.1
  have hl := lead_dg (L := L) hd.1
  refine FN.wi (WC.fn (t_52 h.o.1 ?_))
  rw [s53 h hW hi]
  unfold newL
  cases hp : hasPk L (W.getD i [])
  · have ek : leadKey L (W.getD i []) = 0 := by unfold leadKey; rw [hp, if_neg (by decide)]
    rw [ek, s85z]
    exact ⟨by decide, by rw [if_pos (by decide)]; exact ⟨rfl, rfl⟩⟩
  · have ek : leadKey L (W.getD i []) = keyOf (leadL L (W.getD i [])) := by unfold leadKey; rw [if_pos hp]
    rw [ek, s85 hl.1 (by omega), Bool.true_and]
    refine ⟨by omega, ?_⟩
    by_cases q1 : 2 ≤ (leadL L (W.getD i [])).length ∧ (leadL L (W.getD i [])).length ≤ 4
    rotate_left
    · rw [decide_eq_false q1, Bool.false_and]
      by_cases q2 : ((leadL L (W.getD i [])).length : Int) < 2
      · rw [if_pos q2]; exact ⟨rfl, rfl⟩
      · rw [if_neg q2, if_neg (by omega)]; exact ⟨rfl, rfl⟩
    rw [if_neg (by omega), if_pos (by omega), decide_eq_true q1, Bool.true_and]
    have key : ∀ (n j : Nat) (P : AV → Mem → Prop), j + n = i → P (vI (b2i (!anyB (fun j => hasPk L (W.getD j.toNat []) && decide (leadL L (W.getD j.toNat []) = leadL L (W.getD i []))) j n))) M → WR 52 29 [some (vR p), some (vI i), some (vL (keyOf (leadL L (W.getD i [])))), none, some (vI (leadL L (W.getD i [])).length), some (vI j)] [] M P := by
      intro n
      induction n with
      | zero =>
        intro j P hj hP
        refine t_52_29 h.o.1 ⟨by omega, by omega, ?_⟩
        rw [if_pos (by omega)]
        exact hP
      | succ n ih =>
        intro j P hj hP
        have hdj := wrd_dg hW (i := j) (by omega)
        have hr := leadKey_r (L := L) hdj.1 (by omega)
        have hk1 := key_pos hl.1
        have hk2 := key_lt hl.1 (by omega)
        unfold anyB at hP
        rw [Int.toNat_natCast] at hP
        refine t_52_29 h.o.1 ⟨by omega, by omega, ?_⟩
        rw [if_neg (by omega), s53 h hW (by omega)]
        refine ⟨⟨by omega, by omega⟩, cmp3_r _ _, ?_⟩
        have iff1 := leadKey_eq (L := L) (l := W.getD j []) hdj.1 hl.1
        by_cases e : leadKey L (W.getD j []) = keyOf (leadL L (W.getD i []))
        · rw [if_pos ((cmp3 _ _).mpr e)]
          have := iff1.mp e
          rw [this.1, decide_eq_true this.2] at hP
          exact hP
        · rw [if_neg (fun z => e ((cmp3 _ _).mp z))]
          have ef : (hasPk L (W.getD j []) && decide (leadL L (W.getD j []) = leadL L (W.getD i []))) = false := by
            rw [Bool.eq_false_iff]
            intro ht
            rw [Bool.and_eq_true, decide_eq_true_eq] at ht
            exact e (iff1.mpr ht)
          rw [ef, Bool.false_or] at hP
          exact ih (j + 1) P (by omega) hP
    exact key i 0 _ (by omega) ⟨rfl, rfl⟩
theorem s51 {Q : Int → Mem → Prop} (h : LawIs M p L) (hW : WrdIs M (p + 8) 20 L W) : WI 51 [vR p] M Q = Q (nNew L W) M := by
  have h1 : M p 1 = p + 8 := h.2.1.2.1
  have ho : gO 10 (p + 8) := ⟨hW.1.1, by rw [hW.1.2.1]⟩
  have h20 := hW.2.2.2.1
  have key : ∀ (n i : Nat) (P : AV → Mem → Prop), i + n = W.length → P (vI (nNew L W)) M → WR 51 4 [some (vR p), some (vI (sN (fun i => b2i (newL L W i)) i)), some (vI i)] [] M P := by
    intro n
    induction n with
    | zero =>
      intro i P hi hP
      refine t_51_4 h.o.1 ?_
      rw [h1, hW.2.2.1]
      refine ⟨ho, by omega, by omega, ?_⟩
      rw [if_pos (by omega)]
      unfold nNew at hP
      rw [show i = W.length by omega]
      exact hP
    | succ n ih =>
      intro i P hi hP
      refine t_51_4 h.o.1 ?_
      rw [h1, hW.2.2.1, s52 h hW (by omega)]
      refine ⟨ho, by omega, by omega, ?_⟩
      rw [if_neg (by omega)]
      refine ⟨by have := b2i_r (newL L W i); omega, ?_⟩
      have := ih (i + 1) P (by omega) hP
      have e : sN (fun i => b2i (newL L W i)) (i + 1) = sN (fun i => b2i (newL L W i)) i + b2i (newL L W i) := rfl
      rw [e] at this
      cases hv : newL L W i
      · rw [if_pos (by decide)]
        rw [hv, show b2i false = 0 from rfl, Int.add_zero] at this
        exact this
      · rw [if_neg (by decide)]
        rw [hv] at this
        exact this
  exact FN.wi (WC.fn (t_51 h.o.1 (key W.length 0 _ (by omega) ⟨rfl, rfl⟩)))
theorem s95 {Q : Int → Mem → Prop} (h : LawIs M p L) : WI 95 [vR (p + 1)] M Q = Q (nPk L) M := by
  obtain ⟨h6, hn⟩ := h.n
  have key : ∀ (n i : Nat) (P : AV → Mem → Prop), i + n = Ln L → P (vI (nPk L)) M → WR 95 4 [some (vR (p + 1)), some (vI (sN (fun i => b2i (pkn L (i : Int))) i)), some (vI i)] [] M P := by
    intro n
    induction n with
    | zero =>
      intro i P hi hP
      refine t_95_4 h.o.2 ?_
      rw [h6]
      refine ⟨by omega, by omega, ?_⟩
      rw [if_pos (by omega)]
      unfold nPk at hP
      rw [show i = Ln L by omega]
      exact hP
    | succ n ih =>
      intro i P hi hP
      refine t_95_4 h.o.2 ?_
      rw [h6, s94 h (by omega)]
      refine ⟨by omega, by omega, ?_⟩
      rw [if_neg (by omega)]
      refine ⟨by have := b2i_r (pkn L (i : Int)); omega, ?_⟩
      have := ih (i + 1) P (by omega) hP
      have e : sN (fun i => b2i (pkn L (i : Int))) (i + 1) = sN (fun i => b2i (pkn L (i : Int))) i + b2i (pkn L (i : Int)) := rfl
      rw [e] at this
      cases hv : pkn L (i : Int)
      · rw [if_pos (by decide)]
        rw [hv] at this
        exact this
      · rw [if_neg (by decide)]
        rw [hv] at this
        exact this
  exact FN.wi (WC.fn (t_95 h.o.2 (key (Ln L) 0 _ (by omega) ⟨rfl, rfl⟩)))
theorem nPk_r (hn : Ln L ≤ 16) : 0 ≤ nPk L ∧ nPk L ≤ 16 := by
  have : ∀ m : Nat, 0 ≤ sN (fun i => b2i (pkn L (i : Int))) m ∧ sN (fun i => b2i (pkn L (i : Int))) m ≤ m := by
    intro m
    induction m with
    | zero => exact ⟨Int.le_refl _, Int.le_refl _⟩
    | succ m ih =>
      have e : sN (fun i => b2i (pkn L (i : Int))) (m + 1) = sN (fun i => b2i (pkn L (i : Int))) m + b2i (pkn L (m : Int)) := rfl
      have := b2i_r (pkn L (m : Int))
      rw [e]
      omega
  have := this (Ln L)
  unfold nPk
  omega
theorem chn_1 : chn L 0 1 = Ln L - nPk L := by
  have : ∀ m : Nat, sN (chG (rlU L 0) (okP L) (Ln L) 0) m = m - sN (fun i => b2i (pkn L (i : Int))) m := by
    intro m
    induction m with
    | zero => rfl
    | succ m ih =>
      show sN (chG (rlU L 0) (okP L) (Ln L) 0) m + (if okP L m = true then 1 else 0) = ((m + 1 : Nat) : Int) - (sN (fun i => b2i (pkn L (i : Int))) m + b2i (pkn L (m : Int)))
      rw [ih]
      unfold okP
      cases pkn L (m : Int)
      · rw [if_pos (by decide), show b2i false = 0 from rfl]; omega
      · rw [if_neg (by decide), show b2i true = 1 from rfl]; omega
  exact this (Ln L)
end PO
