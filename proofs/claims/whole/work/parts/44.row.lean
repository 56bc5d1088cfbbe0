/-! a row that is read: its codes and its fault, by the class -/
theorem fnd_r (P : Int → Bool) : ∀ (k : Nat) (i : Int), fnd P i k = -1 ∨ (i ≤ fnd P i k ∧ fnd P i k < i + k ∧ P (fnd P i k) = true)
  | 0, i => Or.inl rfl
  | k + 1, i => by
    unfold fnd
    by_cases q : P i = true
    · rw [if_pos q]
      exact Or.inr ⟨Int.le_refl _, by omega, q⟩
    · rw [if_neg q]
      rcases fnd_r P k (i + 1) with z | ⟨z1, z2, z3⟩
      · exact Or.inl z
      · exact Or.inr ⟨by omega, by omega, z3⟩
theorem num_r (L : Lw) (x : Int) : -1 ≤ numOf L x ∧ numOf L x < Ln L ∧ (numOf L x ≠ -1 → 0 ≤ numOf L x) := by
  unfold numOf
  rcases fnd_r (fun s => decide (Llt L s + 97 = x)) (Ln L) 0 with z | ⟨z1, z2, z3⟩
  · rw [z]; omega
  · omega
section RW
variable {M M' : Mem} {fp p : Int} {T : List Int} {t : Tk} {L : Lw}
def cds (L : Lw) (T : List Int) (t : Tk) : List Int := (tx T t).map (numOf L)
def badA (L : Lw) (pk a : Int) : Bool := decide (a = -1) || (decide (pk = 1) && pkn L a) || (decide (pk = 2) && !pkn L a)
/-- a row's fault -/
def rEr (L : Lw) (T : List Int) (t : Tk) (pk : Int) (lo hi : Nat) : Int := if t.1 ≠ 1 then wrg t else if (cds L T t).any (badA L pk) = true then 3 else if t.2.2 < lo ∨ hi < t.2.2 then 4 else 0
def FrR (M M' : Mem) : Prop := (∀ k : Int, k ≠ 2 → k ≠ 5 → k ≠ 6 → M' k = M k) ∧ (∀ j : Int, j < 2 → M' 2 j = M 2 j) ∧ M' 5 0 = M 5 0
theorem FrR.rf : FrR M M := ⟨fun _ _ _ _ => rfl, fun _ _ => rfl, rfl⟩
theorem FrR.tr {M1 M2 : Mem} (h : FrR M M1) (g : FrR M1 M2) : FrR M M2 := ⟨fun k a b c => (g.1 k a b c).trans (h.1 k a b c), fun j a => (g.2.1 j a).trans (h.2.1 j a), g.2.2.trans h.2.2⟩
theorem FrK.r (h : FrK M M') : FrR M M' := ⟨fun k a _ _ => h.1 k a, h.2, by rw [h.1 5 (by decide)]⟩
theorem LawIs.eq (h : LawIs M p L) (e : ∀ k : Int, p ≤ k → k ≤ p + 53 → M' k = M k) : LawIs M' p L := by
  unfold LawIs PtrL SndIs TldIs NumIs at h ⊢
  rw [e p (by omega) (by omega), e (p + 1) (by omega) (by omega), e (p + 2) (by omega) (by omega), e (p + 3) (by omega) (by omega), e (p + 4) (by omega) (by omega), e (p + 8) (by omega) (by omega), e (p + 51) (by omega) (by omega), e (p + 52) (by omega) (by omega)]
  exact h
theorem LawIs.frR (h : LawIs M p L) (g : FrR M M') : LawIs M' p L := h.eq fun k a _ => g.1 k (by have := h.1; unfold LwC at this; omega) (by have := h.1; unfold LwC at this; omega) (by have := h.1; unfold LwC at this; omega)
theorem r5 : RowC 5 := ⟨by decide, by decide +kernel, by decide +kernel⟩
theorem cds_len (h : TkOk T t) : (cds L T t).length = t.2.2 := by
  unfold cds
  rw [List.length_map, tx_len h.1]
theorem cds_at (h : TkOk T t) {j : Nat} (hj : j < t.2.2) : (cds L T t)[j]? = some (numOf L (bt T (t.2.1 + j))) := by
  have hl := tx_len h.1
  have e := tx_at h.1 hj
  unfold cds
  rw [List.getElem?_map, List.getElem?_eq_getElem (by omega)]
  rw [List.getD_eq_getElem?_getD, List.getElem?_eq_getElem (by omega), Option.getD_some] at e
  rw [e]
  rfl
theorem FrR.row (h0 : ∀ k : Int, k ≠ 5 → k ≠ 5 + 1 → M' k = M k) (h1 : M' 5 0 = M 5 0) : FrR M M' := ⟨fun k _ b c => h0 k b c, fun j a => by rw [h0 2 (by decide) (by decide)], h1⟩
theorem s75 {Q : Int → Mem → Prop} {pk : Int} {lo hi : Nat} (h : TpR M T t 0 fp) (h4 : M 4 0 = 2 ∧ M 4 1 = 5 ∧ M 4 4 = p) (h5 : M 5 0 = 6) (hL : LawIs M p L) (hpk : 0 ≤ pk ∧ pk ≤ 2) (hlo : lo ≤ 12 ∧ hi ≤ 12) (hQ : ∀ M' : Mem, FrR M M' → (if rEr L T t pk lo hi = 0 then TpR M' T t 0 fp ∧ RowK M' L 5 (cds L T t) → Q 1 M' else TpR M' T t (rEr L T t pk lo hi) t.2.1 → Q 0 M')) : WI 75 [vR 4, vI pk, vI lo, vI hi] M Q := by
  obtain ⟨h40, h41, h44⟩ := h4
  have k4 := h.2.2.2.2.2.2.1
  have sh2 : (shA SH 2).1 = 9 := o2.1.2
  have sh5 : (shA SH 5).1 = 5 := by rw [r5.2.1]
  have o5 : gO 5 5 := ⟨by decide, sh5⟩
  have wr := @wrg_r t
  have n16 := hL.n
  refine t_75 o4 ?_
  rw [h40, h41, h.2.1.1]
  refine ⟨o2.1, by omega, ?_⟩
  by_cases q : t.1 = 1
  rotate_left
  · have en : rEr L T t pk lo hi = wrg t := by unfold rEr; rw [if_pos q]
    rw [if_neg q]
    refine ⟨sh2, s126 h (by decide) (fun M1 g1 h1 => ?_)⟩
    have := hQ M1 g1.r
    rw [en, if_neg (by omega)] at this
    exact ⟨_, rfl, this h1⟩
  obtain ⟨l1, l2, l3⟩ := h.2.2.2.1 q
  rw [if_pos q]
  have cl := @cds_len T t L h.2.2
  have fault : ∀ (x : Int) (N : Mem), FrR M N → TpR N T t 0 fp → rEr L T t pk lo hi = x → x ≠ 0 → WV 125 [vR 2, vI x] N (fun M' => ∃ y, vI 0 = vI y ∧ Q y M') := fun x N g hN en xn => by
    refine s125 hN (by decide) (fun M1 g1 h1 => ?_)
    have := hQ M1 (g.tr g1.r)
    rw [en, if_neg xn] at this
    rw [if_pos rfl, if_pos rfl] at h1
    exact ⟨_, rfl, this h1⟩
  have key : ∀ (n j : Nat) (l5 l6 : Option AV), j + n = t.2.2 → ∀ N : Mem, FrR M N → TpR N T t 0 fp → RowK N L 5 ((cds L T t).take j) → ((cds L T t).take j).any (badA L pk) = false → WR 75 30 [some (vR 4), some (vI pk), some (vI lo), some (vI hi), some (vI j), l5, l6] [] N (fun r M' => ∃ y, r = vI y ∧ Q y M') := by
    intro n
    induction n with
    | zero =>
      intro j l5 l6 hj N g hN hR hb
      have e4 : N 4 = M 4 := g.1 4 (by decide) (by decide) (by decide)
      have ej : (cds L T t).take j = cds L T t := List.take_of_length_le (by omega)
      rw [ej] at hR hb
      have sz := hR.1.2.2.1
      rw [cl] at sz
      refine t_75_30 o4 ?_
      rw [e4, h40, h41, hN.2.1.2.2, sz]
      refine ⟨o2.1, by omega, by omega, ?_⟩
      rw [if_pos (by omega)]
      have er : rEr L T t pk lo hi = if t.2.2 < lo ∨ hi < t.2.2 then 4 else 0 := by
        unfold rEr
        rw [if_neg (by omega), if_neg (by rw [hb]; decide)]
      refine ⟨o5, by omega, by omega, ?_⟩
      by_cases q1 : t.2.2 < lo
      · rw [if_pos (by omega)]
        exact ⟨sh2, fault 4 N g hN (by rw [er, if_pos (Or.inl q1)]) (by decide)⟩
      rw [if_neg (by omega)]
      refine ⟨o5, by omega, ?_⟩
      by_cases q2 : t.2.2 ≤ hi
      · rw [if_pos (by omega)]
        have := hQ N g
        rw [if_neg (show ¬ (t.2.2 < lo ∨ hi < t.2.2) by omega)] at er
        rw [er, if_pos rfl] at this
        exact ⟨_, rfl, this ⟨hN, hR⟩⟩
      · rw [if_neg (by omega)]
        exact ⟨sh2, fault 4 N g hN (by rw [er, if_pos (Or.inr (by omega))]) (by decide)⟩
    | succ n ih =>
      intro j l5 l6 hj N g hN hR hb
      have e4 : N 4 = M 4 := g.1 4 (by decide) (by decide) (by decide)
      have hLN := hL.frR g
      have p0 : N p 0 = p + 1 := hLN.2.1.1
      have br := l3 j (by omega)
      have ca := @cds_at T t L h.2.2 j (by omega)
      have ct : (cds L T t).take (j + 1) = (cds L T t).take j ++ [numOf L (bt T (t.2.1 + j))] := by
        rw [List.take_add_one, ca]
        rfl
      have nr := num_r L (bt T (t.2.1 + j))
      refine t_75_30 o4 ?_
      rw [e4, h40, h41, h44, hN.2.1.2.2, p0]
      refine ⟨o2.1, by omega, by omega, ?_⟩
      rw [if_neg (by omega)]
      refine ⟨hL.o.1, sh2, ?_⟩
      rw [s132 hN.1 hN.2.1.2 hN.2.2.1 (by omega), show sgn (bt T (t.2.1 + j)) = bt T (t.2.1 + j) by unfold sgn; rw [if_pos (by omega)]]
      refine ⟨hL.o.2.2, ?_⟩
      rw [s91 hLN (by omega), e4, h44, p0]
      refine ⟨hL.o.1, hL.o.2.2, ?_⟩
      rw [s94 hLN (by omega), e4, h40, h41]
      generalize numOf L (bt T (t.2.1 + j)) = a at *
      have b3 : badA L pk a = true → rEr L T t pk lo hi = 3 := fun z => by
        unfold rEr
        rw [if_neg (by omega), if_pos (List.any_eq_true.mpr ⟨a, List.mem_of_getElem? ca, z⟩)]
      have next : badA L pk a = false → a ≠ -1 → (shA SH 5).1 = 5 ∧ WV 80 [vR 5, vI a, vI (b2i (pkn L a))] N (fun M25 => WR 75 30 [some (vR 4), some (vI pk), some (vI lo), some (vI hi), some (vI ((j : Int) + 1)), some (vI a), some (vI (b2i (pkn L a)))] [] M25 (fun r M' => ∃ y, r = vI y ∧ Q y M')) := fun z z2 => by
        refine ⟨sh5, s80 hR (by rw [List.length_take]; omega) (by omega) (fun M1 g1 g2 hR1 => ?_)⟩
        rw [← ct] at hR1
        refine ih (j + 1) _ _ (by omega) M1 (g.tr (FrR.row g1 g2)) ⟨hN.1.fr (g1 2 (by decide) (by decide)) (g1 3 (by decide) (by decide)), ?_, hN.2.2⟩ hR1 ?_
        · unfold TokC
          rw [g1 2 (by decide) (by decide)]
          exact hN.2.1
        · rw [ct, List.any_append, hb, List.any_cons, z]
          rfl
      refine ⟨by omega, ?_⟩
      by_cases q1 : a = -1
      · rw [if_pos q1]
        exact ⟨sh2, fault 3 N g hN (b3 (by unfold badA; rw [decide_eq_true q1]; rfl)) (by decide)⟩
      rw [if_neg q1]
      refine ⟨by omega, ?_⟩
      have d1 := decide_eq_false q1
      have pb := b2i_r (pkn L a)
      by_cases q2 : pk = 1
      · rw [if_pos q2]
        refine ⟨by omega, ?_⟩
        cases hp : pkn L a
        · rw [hp] at next
          rw [if_pos (by decide), if_neg (by omega)]
          exact next (by unfold badA; rw [d1, hp, decide_eq_true q2, decide_eq_false (show ¬ pk = 2 by omega)]; rfl) q1
        · rw [if_neg (by decide)]
          exact ⟨sh2, fault 3 N g hN (b3 (by unfold badA; rw [d1, hp, decide_eq_true q2]; rfl)) (by decide)⟩
      rw [if_neg q2]
      by_cases q3 : pk = 2
      · rw [if_pos q3]
        refine ⟨by omega, ?_⟩
        cases hp : pkn L a
        · rw [if_pos (by decide)]
          exact ⟨sh2, fault 3 N g hN (b3 (by unfold badA; rw [d1, hp, decide_eq_false q2, decide_eq_true q3]; rfl)) (by decide)⟩
        · rw [hp] at next
          rw [if_neg (by decide)]
          exact next (by unfold badA; rw [d1, hp, decide_eq_false q2, decide_eq_true q3]; rfl) q1
      · rw [if_neg q3]
        exact next (by unfold badA; rw [d1, decide_eq_false q2, decide_eq_false q3]; rfl) q1
  refine ⟨sh5, s79 (L := L) r5 (by rw [h5]; rfl) (fun M1 g1 g2 hR1 => ?_)⟩
  refine key t.2.2 0 none none (Nat.zero_add _) M1 (FrR.row (fun k a _ => g1 k a) g2) ⟨h.1.fr (g1 2 (by decide)) (g1 3 (by decide)), ?_, h.2.2⟩ hR1 rfl
  unfold TokC
  rw [g1 2 (by decide)]
  exact h.2.1
end RW
