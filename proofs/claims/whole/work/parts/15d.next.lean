/-! ALL CUTS ONE AFTER ANOTHER, by the class. -/
/-- the next row of digits, the last one counted up first -/
def nxtL : List Int → List Int → Option (List Int)
  | b :: bs, d :: ds => match nxtL bs ds with
    | some e => some (d :: e)
    | none => if d < b then some ((d + 1) :: List.replicate ds.length 0) else none
  | _, _ => none
theorem nxtL_no {b d : Int} {bs ds : List Int} (h : nxtL bs ds = none) (hd : ¬ d < b) : nxtL (b :: bs) (d :: ds) = none := by
  rw [nxtL, h]
  dsimp only
  rw [if_neg hd]
theorem nxtL_yes {b d : Int} {bs ds : List Int} (h : nxtL bs ds = none) (hd : d < b) : ∀ as cs : List Int, as.length = cs.length → nxtL (as ++ b :: bs) (cs ++ d :: ds) = some (cs ++ (d + 1) :: List.replicate ds.length 0)
  | [], [], _ => by
    rw [List.nil_append, List.nil_append, nxtL, h]
    dsimp only
    rw [if_pos hd]
    rfl
  | a :: as, c :: cs, e => by
    rw [List.cons_append, List.cons_append, nxtL, nxtL_yes h hd as cs (by simpa using e)]
    rfl
/-- the gaps' sizes -/
def bsL (X : Ct) : List Int := (List.range (X.2.1.length - 1)).map fun k : Nat => beh X (k : Int)
theorem bsL_len (X : Ct) : (bsL X).length = X.2.1.length - 1 := by
  unfold bsL
  rw [List.length_map, List.length_range]
theorem bsL_gi {X : Ct} {k : Int} (h0 : 0 ≤ k) (h1 : k + 1 < cnt X) : gi (bsL X) k = beh X k := by
  have hc : cnt X = X.2.1.length := rfl
  exact gi_map h0 (by omega)
theorem gi_cons_drop {l : List Int} {i : Nat} (h : i < l.length) : l.drop i = gi l i :: l.drop (i + 1) := drop_cons h
/-- as many digits as gaps -/
def GLen (X : Ct) : Prop := X.2.2.1.length = X.2.1.length - 1
def Xd (X : Ct) : List Int := X.2.2.1
theorem nxt_len : ∀ (bs ds e : List Int), nxtL bs ds = some e → e.length = ds.length
  | b :: bs, d :: ds, e, h => by
    rw [nxtL] at h
    cases hn : nxtL bs ds with
    | none =>
      rw [hn] at h
      dsimp only at h
      split at h
      · cases h
        simp
      · cases h
    | some e' =>
      rw [hn] at h
      cases h
      rw [List.length_cons, List.length_cons, nxt_len bs ds e' hn]
  | [], _, _, h => by rw [nxtL] at h; cases h; intros; contradiction
  | _ :: _, [], _, h => by rw [nxtL] at h; cases h; intros; contradiction
theorem gi_app {a b : List Int} {k : Int} (h0 : 0 ≤ k) : gi (a ++ b) k = if k < a.length then gi a k else gi b (k - a.length) := by
  obtain ⟨m, rfl⟩ := Int.eq_ofNat_of_zero_le h0
  rw [gi_nat, List.getD_eq_getElem?_getD]
  split
  · rw [gi_nat, List.getD_eq_getElem?_getD, List.getElem?_append_left (by omega)]
  · rw [show (m : Int) - a.length = ((m - a.length : Nat) : Int) by omega, gi_nat, List.getD_eq_getElem?_getD, List.getElem?_append_right (by omega)]
theorem gi_take {a : List Int} {n : Nat} {k : Int} (h0 : 0 ≤ k) (h1 : k < n) : gi (a.take n) k = gi a k := by
  obtain ⟨m, rfl⟩ := Int.eq_ofNat_of_zero_le h0
  rw [gi_nat, gi_nat, List.getD_eq_getElem?_getD, List.getD_eq_getElem?_getD, List.getElem?_take, if_pos (by omega)]
theorem gi_cons0 {x : Int} {l : List Int} : gi (x :: l) 0 = x := rfl
theorem gi_consS {x : Int} {l : List Int} {k : Int} (h : 0 < k) : gi (x :: l) k = gi l (k - 1) := by
  obtain ⟨m, rfl⟩ := Int.eq_ofNat_of_zero_le (show 0 ≤ k - 1 by omega) |>.imp fun m e => (show k = ((m + 1 : Nat) : Int) by omega)
  rw [gi_nat, show ((m + 1 : Nat) : Int) - 1 = (m : Int) by omega, gi_nat]
  rfl
section NX
variable {M : Mem} {p r : Int} {L : Lw} {W : List (List Int)} {l : List Int} {X : Ct}
theorem s19 {Q : Int → Mem → Prop} (h : CutIs M p L W X) (hg : GLen X) (hQ : ∀ M' : Mem, (∀ k : Int, k ≠ 12 → M' k = M k) → match nxtL (bsL X) (Xd X) with
    | some e => CutIs M' p L W (wG X e) → Q 1 M'
    | none => Q 0 M') : WI 19 [vR 9] M Q := by
  have hH := h.1.2.2.2.2.1
  have hc12 := hH.1
  have hc0 : 0 ≤ cnt X := Int.natCast_nonneg _
  have hcl : cnt X = X.2.1.length := rfl
  have hbl := bsL_len X
  unfold GLen at hg
  have key : ∀ (n : Nat) (j : Int) (N : Mem), n ≤ X.2.1.length - 1 → (0 < n → j = (n : Int) - 1) → (n = 0 → j < 0 ∧ inR j) → (∀ k : Int, k ≠ 12 → N k = M k) → (∀ k : Int, 0 ≤ k → k < n → N 12 k = Xg X k) → (∀ k : Int, n ≤ k → k < cnt X → N 12 k = if k + 1 = cnt X then beh X k else 0) → nxtL ((bsL X).drop n) ((Xd X).drop n) = none → WR 19 7 [some (vR 9), some (vI j)] [] N (fun r M' => ∃ x, r = vI x ∧ Q x M') := by
    intro n
    induction n with
    | zero =>
      intro j N hn hj hj0 hN hk hz hnx
      obtain ⟨a, b⟩ := hj0 rfl
      refine t_19_7 sh_cut.1 ⟨b, ?_⟩
      rw [if_pos a]
      rw [List.drop_zero, List.drop_zero] at hnx
      have := hQ N hN
      rw [hnx] at this
      exact ⟨0, rfl, this⟩
    | succ n ih =>
      intro j N hn hj hj0 hN hk hz hnx
      have hj := hj (by omega)
      have hjn : j = (n : Int) := by omega
      subst hjn
      have hC := h.1.up (M' := N) (fun k a _ => hN k a)
      have h2 := hC.2.2.2.1.2.2.1
      have hb := beh_r hH (k := (n : Int)) (by omega) (by omega)
      have hgn := h.2.2.1 (n : Int) (by omega) (by omega)
      have hg12 : gA 20 12 (n : Int) := ⟨by rw [sh_cut.2.2.2.1], by omega, by rw [sh_cut.2.2.2.1]; show _ < ((12 : Nat) : Int); omega⟩
      refine t_19_7 sh_cut.1 ⟨by omega, ?_⟩
      rw [if_neg (by omega), h2, s15 hC (by omega) (by omega), hk n (by omega) (by omega), h2]
      refine ⟨hg12, by omega, by omega, ?_⟩
      have eb : (bsL X).drop n = beh X n :: (bsL X).drop (n + 1) := by
        rw [drop_cons (by omega), bsL_gi (by omega) (by omega)]
      have ed : (Xd X).drop n = Xg X n :: (Xd X).drop (n + 1) := drop_cons (show n < X.2.2.1.length by omega)
      by_cases hlt : beh X n ≤ Xg X n
      · rw [if_pos hlt]
        refine ⟨hg12, ih (n + (-1)) _ (by omega) (by omega) (by omega) (fun k a => by rw [upM_o a]; exact hN k a) (fun k a b => ?_) (fun k a b => ?_) ?_⟩
        · rw [upM_f (by omega)]
          exact hk k a (by omega)
        · by_cases e : k = n
          · rw [e, upM_s, if_neg (by omega)]
          · rw [upM_f e]
            exact hz k (by omega) b
        · rw [eb, ed]
          exact nxtL_no hnx (by omega)
      · rw [if_neg hlt, hk n (by omega) (by omega)]
        refine ⟨hg12, hg12, ?_⟩
        have hne : nxtL (bsL X) (Xd X) = some ((Xd X).take n ++ (Xg X n + 1) :: List.replicate ((Xd X).drop (n + 1)).length 0) := by
          have := nxtL_yes hnx (show Xg X n < beh X n by omega) ((bsL X).take n) ((Xd X).take n) (by rw [List.length_take, List.length_take, hbl, show (Xd X).length = _ from hg])
          rw [← eb, ← ed, List.take_append_drop, List.take_append_drop] at this
          exact this
        have := hQ (upM N 12 n (Xg X n + 1)) (fun k a => by rw [upM_o a]; exact hN k a)
        rw [hne] at this
        have hdl : (Xd X).length = X.2.1.length - 1 := hg
        have htl : ((Xd X).take n).length = n := by rw [List.length_take]; omega
        have hrl : ((Xd X).drop (n + 1)).length = X.2.1.length - 1 - (n + 1) := by rw [List.length_drop, hdl]
        have hv : ∀ k : Int, 0 ≤ k → k + 1 < cnt X → gi ((Xd X).take n ++ (Xg X n + 1) :: List.replicate ((Xd X).drop (n + 1)).length 0) k = if k < n then Xg X k else if k = n then Xg X n + 1 else 0 := by
          intro k a b
          rw [gi_app a, htl]
          by_cases e1 : k < n
          · rw [if_pos e1, if_pos e1, gi_take a e1]
            rfl
          · rw [if_neg e1, if_neg e1]
            by_cases e2 : k = n
            · rw [if_pos e2, e2, Int.sub_self]
              rfl
            · rw [if_neg e2, gi_consS (by omega), gi_rep (by omega) (by omega)]
        refine ⟨1, rfl, this ⟨(hC.up (fun k a _ => upM_o a)).g _, fun k a b => ?_, wG_g h.2.2 (fun k a b => ?_)⟩⟩
        · replace b : k < cnt X := b
          show _ = if k + 1 = cnt X then beh X k else gi ((Xd X).take n ++ (Xg X n + 1) :: List.replicate ((Xd X).drop (n + 1)).length 0) k
          by_cases q : k + 1 = cnt X
          · rw [if_pos q, upM_f (by omega), hz k (by omega) b, if_pos q]
          · rw [if_neg q, hv k a (by omega)]
            by_cases e1 : k < n
            · rw [if_pos e1, upM_f (by omega), hk k a (by omega)]
            · rw [if_neg e1]
              by_cases e2 : k = n
              · rw [if_pos e2, e2, upM_s]
              · rw [if_neg e2, upM_f e2, hz k (by omega) b, if_neg q]
        · rw [hv k a b]
          have hbk := beh_r hH a (by omega)
          have hgk := h.2.2.1 k a b
          by_cases e1 : k < n
          · rw [if_pos e1]; exact hgk
          · rw [if_neg e1]
            by_cases e2 : k = n
            · rw [if_pos e2, e2]; omega
            · rw [if_neg e2]; omega
  refine t_19 sh_cut.1 ?_
  rw [h.1.2.2.2.1.2.2.2.2.2.1]
  have hcM : ∀ k : Int, 0 ≤ k → k < cnt X → M 12 k = if k + 1 = cnt X then beh X k else Xg X k := h.2.1
  refine key (X.2.1.length - 1) (cnt X - 2) M (Nat.le_refl _) (by omega) (by omega) (fun _ _ => rfl) (fun k a b => ?_) (fun k a b => ?_) ?_
  · rw [hcM k a (by omega), if_neg (by omega)]
  · rw [hcM k (by omega) b, if_pos (by omega), if_pos (by omega)]
  · rw [List.drop_eq_nil_of_le (show (bsL X).length ≤ X.2.1.length - 1 by omega)]
    rw [nxtL]
    intros; contradiction
/-- how many of the cuts behind one are such, at most so many tried -/
def cntU (f : List Int → Bool) (bs : List Int) : Nat → List Int → Int
  | 0, _ => 0
  | n + 1, d => match nxtL bs d with
    | none => 0
    | some e => b2i (f e) + cntU f bs n e
/-- the cheapest of the cuts behind one, and what it costs; the one that came first stays -/
def chp (t : List Int → Int) (bs : List Int) : Nat → List Int → List Int → Int → List Int × Int
  | 0, _, best, least => (best, least)
  | n + 1, d, best, least => match nxtL bs d with
    | none => (best, least)
    | some e => if t e < least then chp t bs n e e (t e) else chp t bs n e best least
theorem cut12 (h : CutIs M p L W X) {M' : Mem} (g : ∀ k : Int, k ≠ 12 → M' k = M k) {d : List Int} (hc : ∀ k : Int, 0 ≤ k → k < cnt X → M' 12 k = cls (wG X d) k) (hG : GOk (wG X d)) : CutIs M' p L W (wG X d) := ⟨(h.1.up (fun k a _ => g k a)).g d, hc, hG⟩
def Z0 (X : Ct) : List Int := List.replicate (X.2.1.length - 1) 0
theorem Z0_g (h : HOk X) (g : GOk X) : GOk (wG X (Z0 X)) := by
  refine wG_g g fun k a b => ?_
  have hc : cnt X = X.2.1.length := rfl
  have hb := beh_r h a (by omega)
  unfold Z0
  rw [gi_rep a (by omega)]
  omega
theorem s12' {Q : Mem → Prop} (h : CutIs M p L W X) (hQ : ∀ M' : Mem, (∀ k : Int, k ≠ 12 → M' k = M k) → CutIs M' p L W (wG X (Z0 X)) → Q M') : WV 12 [vR 9] M Q := by
  refine s12 h.1 fun M' a b => hQ M' a (cut12 h a (fun k q0 q1 => ?_) (Z0_g h.1.2.2.2.2.1 h.2.2))
  have hc : cnt X = X.2.1.length := rfl
  rw [b k q0 q1]
  show _ = if k + 1 = cnt X then beh X k else gi (Z0 X) k
  by_cases q : k + 1 = cnt X
  · rw [if_pos q, if_pos q]
  · rw [if_neg q, if_neg q]
    unfold Z0
    rw [gi_rep q0 (by omega)]
theorem FrC.o12 {M M' : Mem} (g : ∀ k : Int, k ≠ 12 → M' k = M k) : FrC M M' := ⟨fun k q => g k (by omega), fun j _ _ => by rw [g 9 (by decide)]⟩
theorem nxt_bd : ∀ (bs ds e : List Int), nxtL bs ds = some e → e.length = ds.length := nxt_len
variable {c : Int → Int}
def upTo (L : Lw) (W : List (List Int)) (c : Int → Int) (X : Ct) (m : Int) : Int := if cnt X = 0 then 0 else b2i (decide (tot L W c (wG X (Z0 X)) ≤ m)) + cntU (fun d => decide (tot L W c (wG X d) ≤ m)) (bsL X) 100000 (Z0 X)
theorem b2i_dec (q : Prop) [Decidable q] : b2i (decide q) = if q then 1 else 0 := by
  by_cases h : q
  · rw [if_pos h, decide_eq_true h]; rfl
  · rw [if_neg h, decide_eq_false h]; rfl
theorem s20 {Q : Int → Mem → Prop} {m : Int} (h : CutIs M p L W X) (hC : CstIs M p c) (hm : inR m) (hQ : ∀ M' : Mem, FrC M M' → Q (upTo L W c X m) M') : WI 20 [vR 9, vI m] M Q := by
  have hH := h.1.2.2.2.2.1
  have hw := h.1.1.2.2.2.2.2
  have hp := h.1.1.1
  have hcl : cnt X = X.2.1.length := rfl
  have key : ∀ (n : Nat) (i a : Int) (d : List Int) (N : Mem), i + n = 100000 → 0 ≤ i → (∀ k : Int, k ≠ 12 → N k = M k) → CutIs N p L W (wG X d) → d.length = X.2.1.length - 1 → (∀ M' : Mem, FrC M M' → Q (a + cntU (fun d => decide (tot L W c (wG X d) ≤ m)) (bsL X) n d) M') → WR 20 29 [some (vR 9), some (vI m), some (vI a), some (vI i)] [] N (fun r M' => ∃ x, r = vI x ∧ Q x M') := by
    intro n
    induction n with
    | zero =>
      intro i a d N hi h0 hN hd hl hQ
      refine t_20_29 sh_cut.1 ⟨by omega, ?_⟩
      rw [if_pos (by omega)]
      have := hQ N (FrC.o12 hN)
      rw [show cntU (fun d => decide (tot L W c (wG X d) ≤ m)) (bsL X) 0 d = 0 from rfl, Int.add_zero] at this
      exact ⟨a, rfl, this⟩
    | succ n ih =>
      intro i a d N hi h0 hN hd hl hQ
      refine t_20_29 sh_cut.1 ⟨by omega, ?_⟩
      rw [if_neg (by omega)]
      refine s19 hd hl (fun M' g => ?_)
      have gM : ∀ k : Int, k ≠ 12 → M' k = M k := fun k q => (g k q).trans (hN k q)
      have hu : cntU (fun d => decide (tot L W c (wG X d) ≤ m)) (bsL X) (n + 1) d = match nxtL (bsL X) d with
        | none => 0
        | some e => b2i (decide (tot L W c (wG X e) ≤ m)) + cntU (fun d => decide (tot L W c (wG X d) ≤ m)) (bsL X) n e := rfl
      show match nxtL (bsL X) d with
        | some e => CutIs M' p L W (wG X e) → _
        | none => _
      cases hn : nxtL (bsL X) d with
      | none =>
        dsimp only
        refine ⟨by decide, ?_⟩
        rw [if_pos rfl]
        have := hQ M' (FrC.o12 gM)
        rw [hu, hn, Int.add_zero] at this
        exact ⟨a, rfl, this⟩
      | some e =>
        dsimp only
        intro hM'
        have hr := tot_r (W := W) hw (X := wG X e) hH hM'.2.2 (hC.fr hp (FrC.o12 gM).fr)
        refine ⟨by decide, ?_⟩
        rw [if_neg (by decide), s36 hM' (hC.fr hp (FrC.o12 gM).fr)]
        refine ⟨by omega, by omega, ?_⟩
        have hel := nxt_len _ _ _ hn
        have nx : ∀ z : Int, z = b2i (decide (tot L W c (wG X e) ≤ m)) → WR 20 29 [some (vR 9), some (vI m), some (vI (a + z)), some (vI (i + 1))] [] M' (fun r M' => ∃ x, r = vI x ∧ Q x M') := by
          intro z hz
          refine ih (i + 1) (a + z) e M' (by omega) (by omega) gM hM' (by omega) (fun M2 g2 => ?_)
          have := hQ M2 g2
          rw [hu, hn, ← Int.add_assoc] at this
          rw [hz]
          exact this
        by_cases q : m < tot L W c (wG X e)
        · rw [if_pos q]
          exact nx 0 (by rw [decide_eq_false (by omega)]; rfl)
        · rw [if_neg q]
          exact nx 1 (by rw [decide_eq_true (by omega)]; rfl)
  refine t_20 sh_cut.1 ?_
  rw [h.1.2.2.2.1.2.2.2.2.2.1]
  refine ⟨by have := hH.1; omega, ?_⟩
  unfold upTo at hQ
  by_cases q0 : cnt X = 0
  · rw [if_pos q0]
    rw [if_pos q0] at hQ
    exact ⟨0, rfl, hQ M FrC.rf⟩
  · rw [if_neg q0]
    rw [if_neg q0] at hQ
    refine s12' h fun M' gM hM' => ?_
    have hr := tot_r (W := W) hw (X := wG X (Z0 X)) hH hM'.2.2 (hC.fr hp (FrC.o12 gM).fr)
    rw [s36 hM' (hC.fr hp (FrC.o12 gM).fr)]
    refine ⟨by omega, by omega, ?_⟩
    have hz : (Z0 X).length = X.2.1.length - 1 := List.length_replicate
    by_cases q : m < tot L W c (wG X (Z0 X))
    · rw [if_pos q]
      rw [decide_eq_false (by omega)] at hQ
      exact key 100000 0 0 (Z0 X) M' (by omega) (by omega) gM hM' hz hQ
    · rw [if_neg q]
      rw [decide_eq_true (by omega)] at hQ
      exact key 100000 0 1 (Z0 X) M' (by omega) (by omega) gM hM' hz hQ
end NX
