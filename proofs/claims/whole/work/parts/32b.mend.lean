/-! MEND, part two: the class. -/
theorem leadKey_app (L : Lw) (l : List Int) (a : Int) : leadKey L (l ++ [a]) = if hasPk L l = true then leadKey L l else if pkn L a = true then keyOf l else 0 := by
  have e1 : hasPk L (l ++ [a]) = (hasPk L l || pkn L a) := by
    unfold hasPk
    rw [List.any_append]
    simp
  unfold leadKey
  rw [e1]
  cases h1 : hasPk L l
  · rw [Bool.false_or, if_neg (show ¬ false = true by decide)]
    cases h2 : pkn L a
    · rfl
    · rw [if_pos rfl, if_pos rfl]
      have all : ∀ x ∈ l, (!pkn L x) = true := fun x hx => by
        unfold hasPk at h1
        have := List.any_eq_false.mp h1 x hx
        simpa using this
      congr 1
      unfold leadL
      rw [List.takeWhile_append_of_pos all]
      simp [h2]
  · rw [Bool.true_or, if_pos rfl, if_pos rfl]
    congr 1
    unfold leadL
    have : ∀ l : List Int, hasPk L l = true → (l ++ [a]).takeWhile (fun s => !pkn L s) = l.takeWhile (fun s => !pkn L s) := by
      intro l
      induction l with
      | nil => intro h; cases h
      | cons b r ih =>
        intro h
        have e : hasPk L (b :: r) = (pkn L b || hasPk L r) := List.any_cons
        rw [List.cons_append, List.takeWhile_cons, List.takeWhile_cons]
        cases hb : pkn L b
        · rw [e, hb, Bool.false_or] at h
          rw [if_pos (by decide), if_pos (by decide), ih h]
        · rfl
    exact this l h1
/-- a row with its lead -/
def RowK (M : Mem) (L : Lw) (r : Int) (l : List Int) : Prop := RowIs M r l ∧ M r 2 = leadKey L l
section MN
variable {M : Mem} {p q r w i : Int} {L : Lw} {W S : List (List Int)} {l : List Int} {c : Int → Int}
theorem s79 {Q : Mem → Prop} (hc : RowC r) (h0 : M r 0 = r + 1) (hQ : ∀ M' : Mem, (∀ k : Int, k ≠ r → M' k = M k) → M' r 0 = M r 0 → RowK M' L r [] → Q M') : WV 79 [vR r] M Q := by
  refine t_79 ⟨hc.1, by rw [hc.2.1]⟩ ?_
  refine hQ _ (fun k a => by rw [upM_o a, upM_o a]) (by rw [upM_f (by decide), upM_f (by decide)]) ⟨⟨hc, by rw [upM_f (by decide), upM_f (by decide)]; exact h0, by rw [upM_f (by decide), upM_s]; rfl, by decide, fun s hs => (by cases hs), fun j hj => absurd hj (Nat.not_lt_zero _)⟩, ?_⟩
  rw [upM_s]
  rfl
theorem s80 {Q : Mem → Prop} {a : Int} (h : RowK M L r l) (hl : l.length < 12) (ha : 0 ≤ a ∧ a < 16) (hQ : ∀ M' : Mem, (∀ k : Int, k ≠ r → k ≠ r + 1 → M' k = M k) → M' r 0 = M r 0 → RowK M' L r (l ++ [a]) → Q M') : WV 80 [vR r, vI a, vI (b2i (pkn L a))] M Q := by
  obtain ⟨⟨hc, h0, h1, h2, h3, h4⟩, h5⟩ := h
  have ho : gO 5 r := ⟨hc.1, by rw [hc.2.1]⟩
  have zr := hc.2.2
  have hp := hc.1
  have hlr := leadKey_r (L := L) h3 (by omega)
  have gA' : gA 20 (r + 1) (l.length : Int) := ⟨by rw [zr], by omega, by rw [zr]; show _ < ((12 : Nat) : Int); omega⟩
  have n1 : r ≠ r + 1 := by omega
  have dga : dg (l ++ [a]) := fun s hs => by
    rcases List.mem_append.mp hs with z | z
    · exact h3 s z
    · rw [List.mem_singleton.mp z]; exact ha
  have la := leadKey_app L l a
  have row : ∀ (N : Mem), N r 0 = r + 1 → N r 1 = (l.length : Int) + 1 → N r 2 = leadKey L (l ++ [a]) → (∀ j : Int, N (r + 1) j = if j = l.length then a else M (r + 1) j) → RowK N L r (l ++ [a]) := fun N a0 a1 a2 a3 => ⟨⟨hc, a0, by rw [a1, List.length_append]; rfl, by rw [List.length_append, List.length_singleton]; omega, dga, fun j hj => by
    rw [a3, ← gi_nat, gi_app (by omega)]
    by_cases e : (j : Int) = l.length
    · rw [if_pos e, if_neg (by omega), e, Int.sub_self]; rfl
    · rw [List.length_append, List.length_singleton] at hj
      rw [if_neg e, if_pos (by omega), gi_nat]
      exact h4 j (by omega)⟩, a2⟩
  refine t_80 ho ?_
  rw [h0, h1, zr, h5]
  refine ⟨⟨by omega, by decide, by decide, by decide⟩, by omega, by decide, ?_⟩
  rw [if_pos (show (l.length : Int) < ((12 : Nat) : Int) by omega)]
  refine ⟨by have := b2i_r (pkn L a); omega, ?_⟩
  have plain : leadKey L (l ++ [a]) = leadKey L l → (gA 20 (r + 1) (l.length : Int)) ∧ Q (upM (upM M (r + 1) l.length a) r 1 ((upM M (r + 1) l.length a) r 1 + 1)) := fun e => by
    have e1 : upM M (r + 1) (l.length : Int) a r = M r := upM_o n1
    refine ⟨gA', hQ _ (fun k x y => by rw [upM_o x, upM_o y]) (by rw [upM_f (by decide), e1]) (row _ (by rw [upM_f (by decide), e1]; exact h0) (by rw [upM_s, e1, h1]) (by rw [upM_f (by decide), e1, h5, e]) (fun j => ?_))⟩
    rw [upM_o (by omega)]
    by_cases z : j = l.length
    · rw [if_pos z, z, upM_s]
    · rw [if_neg z, upM_f z]
  cases hpk : pkn L a
  · rw [if_pos (by decide)]
    refine plain ?_
    rw [la]
    by_cases z : hasPk L l = true
    · rw [if_pos z]
    · rw [if_neg z, hpk, if_neg (by decide)]
      unfold leadKey
      rw [if_neg z]
  · rw [if_neg (by decide)]
    refine ⟨⟨by omega, by decide⟩, cmp3_r _ _, ?_⟩
    by_cases z : hasPk L l = true
    · have kp : 1 ≤ leadKey L l := by
        unfold leadKey
        rw [if_pos z]
        exact key_pos (lead_dg h3).1
      rw [if_neg (fun y => by have := (cmp3 _ _).mp y; omega)]
      refine plain ?_
      rw [la, if_pos z]
    · have k0 : leadKey L l = 0 := by unfold leadKey; rw [if_neg z]
      rw [if_pos ((cmp3 _ _).mpr k0)]
      have ek : ∀ P2 : Int → Mem → Prop, WL 83 [vR r, vI 0, vI l.length] M P2 = P2 (keyOf l) M := fun P2 => by
        rw [s83 ⟨hc, h0, h1, h2, h3, h4⟩ (by decide) (by omega) (by omega), sub_all]
      rw [ek]
      have f0 : upM M r 2 (keyOf l) r 0 = r + 1 := by rw [upM_f (by decide)]; exact h0
      have f1 : upM M r 2 (keyOf l) r 1 = l.length := by rw [upM_f (by decide)]; exact h1
      rw [f0, f1]
      have e1 : upM (upM M r 2 (keyOf l)) (r + 1) (l.length : Int) a r = upM M r 2 (keyOf l) r := upM_o n1
      refine ⟨gA', hQ _ (fun k x y => by rw [upM_o x, upM_o y, upM_o x]) (by rw [upM_f (by decide), e1, upM_f (by decide)]) (row _ (by rw [upM_f (by decide), e1]; exact f0) (by rw [upM_s, e1, f1]) (by rw [upM_f (by decide), e1, upM_s, la, if_neg z, hpk, if_pos rfl]) (fun j => ?_))⟩
      rw [upM_o (by omega)]
      by_cases y : j = l.length
      · rw [if_pos y, y, upM_s]
      · rw [if_neg y, upM_f y, upM_o (by omega)]
def PtrD (M : Mem) : Prop := M 63 0 = 9 ∧ M 63 1 = 64 ∧ M 63 2 = 66 ∧ M 64 0 = 65
theorem PtrD.fr {M' : Mem} (h : PtrD M) (g : Fr M M') : PtrD M' := by
  unfold PtrD at h ⊢
  rw [g.1 63 (by unfold Scr; omega), g.2.2.1]
  exact h
theorem sh63 : gO 3 63 ∧ RowC 64 ∧ shA SH 66 = (20, 13) := ⟨⟨by decide, by decide +kernel⟩, ⟨by decide, by decide +kernel, by decide +kernel⟩, by decide +kernel⟩
/-- the places lie there -/
def PlI (M : Mem) (P : List Int) : Prop := ∀ j : Int, 0 ≤ j → j < P.length → M 66 j = gi P j
theorem fr64 {N : Mem} (g : ∀ k : Int, k ≠ 64 → k ≠ 65 → k ≠ 66 → N k = M k) (g0 : N 64 0 = M 64 0) : Fr M N := ⟨fun k hk => g k (by unfold Scr at hk; omega) (by unfold Scr at hk; omega) (by unfold Scr at hk; omega), fun j _ _ => ⟨by rw [g 4 (by decide) (by decide) (by decide)], by rw [g 9 (by decide) (by decide) (by decide)], by rw [g 53 (by decide) (by decide) (by decide)]⟩, g0, by rw [g 5 (by decide) (by decide) (by decide)]⟩
theorem gi_drop' {P : List Int} {u : Nat} {j : Int} (hj : 0 ≤ j) : gi (P.drop u) j = gi P (u + j) := by
  obtain ⟨n, rfl⟩ := Int.eq_ofNat_of_zero_le hj
  rw [gi_nat, show (u : Int) + (n : Int) = ((u + n : Nat) : Int) by omega, gi_nat, List.getD_eq_getElem?_getD, List.getD_eq_getElem?_getD, List.getElem?_drop]
theorem s60 {Q : Int → Mem → Prop} {P : List Int} (h : CutB M p L W) (hD : PtrD M) (hr : RowIs M r l) (hrs : RowS r) (hon : onl L l) (hP : PlI M P) (hV : VP (l.length + 1) 0 P) (hlen : l.length + P.length ≤ 12) (hhelp : 0 ≤ Lz L 9) (hQ : ∀ M' : Mem, Fr M M' → M' 66 = M 66 → Q (b2i (fitP L W l P)) M') : WI 60 [vR 63, vR p, vR r, vI P.length] M Q := by
  have hL := h.1
  have hw := hL.2.2.2.2.2
  have h12 := hr.2.2.2.1
  have n16 := hL.n.2
  have hz9 : Lz L 9 < Ln L ∧ pkn L (Lz L 9) = true := by
    have hz := hw.2.2
    unfold WfZ at hz
    rcases hz.2.2.2.2.2.2.2.2.2.1 with z | z
    · omega
    · exact ⟨z.2.1, by rw [pkn_eq z.1 z.2.1]; exact z.2.2⟩
  have full := mndP_len (hp := Lz L 9) l 0 P (by rw [Int.zero_add]; exact hV)
  have dgP : ∀ s ∈ mndP (Lz L 9) l 0 P, 0 ≤ s ∧ s < Ln L := fun s hs => by
    rcases mndP_mem l 0 P s hs with z | z
    · rw [z]; exact ⟨hhelp, hz9.1⟩
    · exact hon s z
  have e64 : (shA SH 64).1 = 5 := by rw [sh63.2.1.2.1]
  have hV13 := VP_len P 0 hV (by omega)
  have g66 : ∀ {j : Int}, 0 ≤ j → j < 13 → gA 20 66 j := fun {j} a b => gC sh63.2.2 a b
  -- from a place on
  have key : ∀ (n t u : Nat) (acc : List Int) (l6 : Option AV) (N : Mem), t + n = l.length + 1 → u ≤ P.length → VP (l.length + 1) t (P.drop u) → (∀ k : Int, k ≠ 64 → k ≠ 65 → N k = M k) → N 64 0 = M 64 0 → RowK N L 64 acc → (if t ≤ l.length then acc ++ mndP (Lz L 9) (l.drop t) t (P.drop u) = mndP (Lz L 9) l 0 P else acc = mndP (Lz L 9) l 0 P) → WR 60 13 [some (vR 63), some (vR p), some (vR r), some (vI P.length), some (vI u), some (vI t), l6] [] N (fun r M' => ∃ x, r = vI x ∧ Q x M') := by
    intro n
    induction n with
    | zero =>
      intro t u acc l6 N ht hu hVu g g0 hrow he
      have ff := fr64 (M := M) (N := N) (fun k a b _ => g k a b) g0
      have hB := h.fr ff
      have hDN := hD.fr ff
      have rN := hr.fr' hrs ff
      rw [if_neg (by omega)] at he
      rw [he] at hrow
      refine t_60_13 sh63.1 ?_
      rw [rN.2.2.1, hDN.1, hDN.2.1]
      refine ⟨⟨rN.1.1, by rw [rN.1.2.1]⟩, by omega, by omega, ?_⟩
      rw [if_pos (by omega)]
      refine ⟨sh9, s11 hB hrow.1 (fun M1 g1 hX _ => ?_)⟩
      have e63 : M1 63 = N 63 := g1.1 63 (by omega)
      rw [e63, hDN.1]
      refine ⟨sh9, s17 hX (fun M2 g2 hPX => ?_)⟩
      have g12 := g1.tr (FrC.o12 g2)
      have e632 : M2 63 = N 63 := g12.1 63 (by omega)
      have h9 : M2 9 9 = cnt (X0 L (mndP (Lz L 9) l 0 P)) := hPX.1.2.2.2.1.2.2.2.2.2.1
      have hc12 := hPX.1.2.2.2.2.1.1
      have hc0 : 0 ≤ cnt (X0 L (mndP (Lz L 9) l 0 P)) := Int.natCast_nonneg _
      have hcx : cnt (XP L W (X0 L (mndP (Lz L 9) l 0 P))) = cnt (X0 L (mndP (Lz L 9) l 0 P)) := rfl
      have fin := hQ M2 (ff.tr g12.fr) (by rw [g12.1 66 (by omega), g 66 (by decide) (by decide)])
      unfold fitP at fin
      rw [e632, hDN.1, h9]
      refine ⟨sh_cut.1, by omega, ?_⟩
      by_cases q0 : cnt (X0 L (mndP (Lz L 9) l 0 P)) ≤ 0
      · rw [if_pos q0]
        rw [decide_eq_false (by omega), Bool.false_and] at fin
        exact ⟨_, rfl, fin⟩
      · rw [if_neg q0, s37 hPX]
        rw [decide_eq_true (by omega), Bool.true_and] at fin
        have hfr : -1 ≤ fstBad L W (XP L W (X0 L (mndP (Lz L 9) l 0 P))) ∧ fstBad L W (XP L W (X0 L (mndP (Lz L 9) l 0 P))) ≤ 12 := by
          have : ∀ (f : Int → Bool) (n : Nat) (j : Int), 0 ≤ j → -1 ≤ fnd f j n ∧ fnd f j n ≤ j + n := by
            intro f n
            induction n with
            | zero => intro j hj; exact ⟨Int.le_refl _, by show (-1 : Int) ≤ j + 0; omega⟩
            | succ n ih =>
              intro j hj
              have := ih (j + 1) (by omega)
              unfold fnd
              split <;> omega
          have := this (bad L W (XP L W (X0 L (mndP (Lz L 9) l 0 P)))) (XP L W (X0 L (mndP (Lz L 9) l 0 P))).2.1.length 0 (by decide)
          unfold fstBad
          have hcl : cnt (XP L W (X0 L (mndP (Lz L 9) l 0 P))) = (XP L W (X0 L (mndP (Lz L 9) l 0 P))).2.1.length := rfl
          omega
        refine ⟨sh9, by omega, ?_⟩
        by_cases q1 : fstBad L W (XP L W (X0 L (mndP (Lz L 9) l 0 P))) = -1
        · rw [if_pos q1]
          rw [decide_eq_true q1] at fin
          exact ⟨_, rfl, fin⟩
        · rw [if_neg q1]
          rw [decide_eq_false q1] at fin
          exact ⟨_, rfl, fin⟩
    | succ n ih =>
      intro t u acc l6 N ht hu hVu g g0 hrow he
      have ff := fr64 (M := M) (N := N) (fun k a b _ => g k a b) g0
      have hB := h.fr ff
      have hDN := hD.fr ff
      have rN := hr.fr' hrs ff
      have hro : gO 5 r := ⟨rN.1.1, by rw [rN.1.2.1]⟩
      rw [if_pos (by omega)] at he
      have e66 : N 66 = M 66 := g 66 (by decide) (by decide)
      have totlen : acc.length + (mndP (Lz L 9) (l.drop t) t (P.drop u)).length ≤ 12 := by
        have := congrArg List.length he
        rw [List.length_append, full] at this
        omega
      have p0 : N p 0 = p + 1 := hB.1.2.1.1
      have p16 : N p 16 = Lz L 9 := hB.1.2.2.2.2.1.2.2.2.2.2.2.2.2.2.1
      -- behind the helper: the sound, if there is one
      have tail : ∀ (u' : Nat) (acc' : List Int) (l6 : Option AV) (N' : Mem), u' ≤ P.length → VP (l.length + 1) ((t : Int) + 1) (P.drop u') → (∀ k : Int, k ≠ 64 → k ≠ 65 → N' k = M k) → N' 64 0 = M 64 0 → RowK N' L 64 acc' → (if t < l.length then acc' ++ gi l t :: mndP (Lz L 9) (l.drop (t + 1)) ((t : Int) + 1) (P.drop u') = mndP (Lz L 9) l 0 P else acc' = mndP (Lz L 9) l 0 P) → (if (N' r 1) ≤ (t : Int) then (WR 60 13 [some (vR 63), some (vR p), some (vR r), some (vI P.length), some (vI u'), some (vI ((t : Int) + 1)), l6] [] N' (fun r M' => ∃ x, r = vI x ∧ Q x M')) else (((shA SH r).1 = 5) ∧ WI 82 [vR r, vI t] N' (fun y34 M33 => (gO 2 p) ∧ ((shA SH (M33 p 0)).1 = 6) ∧ WI 94 [vR (M33 p 0), vI y34] M33 (fun y36 M35 => ((shA SH (M33 63 1)).1 = 5) ∧ WV 80 [vR (M33 63 1), vI y34, vI y36] M35 (fun M37 => WR 60 13 [some (vR 63), some (vR p), some (vR r), some (vI P.length), some (vI u'), some (vI ((t : Int) + 1)), some (vI y34)] [] M37 (fun r M' => ∃ x, r = vI x ∧ Q x M')))))) := by
        intro u' acc' l6 N' hu' hVu' g' g0' hrow' he'
        have ff' := fr64 (M := M) (N := N') (fun k a b _ => g' k a b) g0'
        have hB' := h.fr ff'
        have rN' := hr.fr' hrs ff'
        have hD' := hD.fr ff'
        rw [rN'.2.2.1]
        by_cases q : l.length ≤ t
        · rw [if_pos (by omega)]
          rw [if_neg (by omega)] at he'
          refine ih (t + 1) u' acc' l6 N' (by omega) hu' ?_ g' g0' hrow' ?_
          · exact hVu'
          · rw [if_neg (by omega)]; exact he'
        · rw [if_pos (by omega)] at he'
          have qg := hon _ (gi_mem (l := l) (i := (t : Int)) (by omega) (by omega))
          have lt12 : acc'.length < 12 := by
            have := congrArg List.length he'
            rw [List.length_append, List.length_cons, full] at this
            omega
          rw [if_neg (by omega), s82 rN' (by omega), hB'.1.2.1.1, s94 hB'.1 (by omega), hD'.2.1]
          refine ⟨by rw [rN'.1.2.1], hB'.1.o.1, hB'.1.o.2.2, e64, s80 hrow' lt12 (by omega) (fun N2 g2 g20 hrow2 => ?_)⟩
          refine ih (t + 1) u' (acc' ++ [gi l t]) _ N2 (by omega) hu' ?_ (fun k a b => by rw [g2 k a b]; exact g' k a b) (g20.trans g0') hrow2 ?_
          · exact hVu'
          · rw [if_pos (by omega), List.append_assoc]
            exact he'
      refine t_60_13 sh63.1 ?_
      rw [rN.2.2.1, hDN.2.2.1, e66, hDN.2.1, p16]
      refine ⟨hro, by omega, by omega, ?_⟩
      rw [if_neg (by omega)]
      refine ⟨by omega, by omega, ?_⟩
      have dcl : t < l.length → l.drop t = gi l t :: l.drop (t + 1) := fun z => drop_cons z
      by_cases q : P.length ≤ u
      · -- no helper is left
        have ed : P.drop u = [] := List.drop_eq_nil_of_le q
        rw [if_pos (by omega)]
        rw [ed] at he
        have tl := tail u acc l6 N hu (by rw [ed]; trivial) g g0 hrow (by
          by_cases z : t < l.length
          · rw [if_pos z, ed]
            rw [dcl z, mndP] at he
            exact he
          · rw [if_neg z]
            rw [List.drop_eq_nil_of_le (by omega), mndP, List.append_nil] at he
            exact he)
        rw [rN.2.2.1] at tl
        exact ⟨hro, tl⟩
      · have ed : P.drop u = gi P u :: P.drop (u + 1) := drop_cons (by omega)
        rw [ed] at hVu he
        rw [if_neg (by omega), hP u (by omega) (by omega)]
        refine ⟨g66 (by omega) (by omega), by have := hVu.1; have := hVu.2.1; omega, ?_⟩
        by_cases q2 : gi P u = t
        · rw [if_pos q2]
          have lt12 : acc.length < 12 := by
            by_cases z : t < l.length
            · rw [dcl z, mndP, if_pos q2] at he
              have := congrArg List.length he
              rw [List.length_append, List.length_cons, full] at this
              omega
            · rw [List.drop_eq_nil_of_le (by omega), mndP, if_pos q2] at he
              have := congrArg List.length he
              rw [List.length_append, List.length_singleton, full] at this
              omega
          have hb1 : vI (1 : Int) = vI (b2i (pkn L (Lz L 9))) := by rw [hz9.2]; rfl
          rw [hb1]
          refine ⟨hB.1.o.1, e64, s80 hrow lt12 (by omega) (fun N2 g2 g20 hrow2 => ?_)⟩
          have g2M : ∀ k : Int, k ≠ 64 → k ≠ 65 → N2 k = M k := fun k a b => by rw [g2 k a b]; exact g k a b
          have ff2 := fr64 (M := M) (N := N2) (fun k a b _ => g2M k a b) (g20.trans g0)
          have rN2 := hr.fr' hrs ff2
          have tl := tail (u + 1) (acc ++ [Lz L 9]) l6 N2 (by omega) (by have := hVu.2.2; rw [q2] at this; exact this) g2M (g20.trans g0) hrow2 (by
            by_cases z : t < l.length
            · rw [if_pos z, List.append_assoc]
              rw [dcl z, mndP, if_pos q2] at he
              exact he
            · rw [if_neg z]
              rw [List.drop_eq_nil_of_le (by omega), mndP, if_pos q2] at he
              exact he)
          refine ⟨⟨rN2.1.1, by rw [rN2.1.2.1]⟩, by rw [rN2.2.2.1]; omega, ?_⟩
          exact tl
        · rw [if_neg q2]
          have tl := tail u acc l6 N hu (by rw [ed]; exact ⟨by have := hVu.1; omega, hVu.2.1, hVu.2.2⟩) g g0 hrow (by
            by_cases z : t < l.length
            · rw [if_pos z, ed]
              rw [dcl z, mndP, if_neg q2] at he
              exact he
            · rw [if_neg z]
              rw [List.drop_eq_nil_of_le (by omega), mndP, if_neg q2, List.append_nil] at he
              exact he)
          rw [rN.2.2.1] at tl
          exact ⟨hro, tl⟩
  refine t_60 sh63.1 ?_
  rw [hD.2.1]
  refine ⟨e64, s79 (L := L) sh63.2.1 hD.2.2.2 (fun N g g0 hrow => ?_)⟩
  exact key (l.length + 1) 0 0 [] _ N (by omega) (by omega) (by rw [List.drop_zero]; exact hV) (fun k a _ => g k a) g0 hrow (by rw [if_pos (by omega), List.drop_zero, List.drop_zero]; rfl)
theorem s59 {Q : Int → Mem → Prop} {P : List Int} {m : Int} (hD : PtrD M) (hP : PlI M P) (hV : VP (m + 1) 0 P) (hm : 0 ≤ m ∧ m ≤ 12) (hQ : ∀ M' : Mem, (∀ k : Int, k ≠ 66 → M' k = M k) → match nextP (m + 1) P with
    | some P' => PlI M' P' → Q 1 M'
    | none => Q 0 M') : WI 59 [vR 63, vI P.length, vI m] M Q := by
  have g66 : ∀ {j : Int}, 0 ≤ j → j < 13 → gA 20 66 j := fun {j} a b => gC sh63.2.2 a b
  have hl := VP_len P 0 hV (by omega)
  have pr : ∀ j : Int, 0 ≤ j → j < P.length → 0 ≤ gi P j ∧ gi P j ≤ 12 := by
    have : ∀ (P : List Int) (lo : Int), 0 ≤ lo → VP (m + 1) lo P → ∀ s ∈ P, 0 ≤ s ∧ s ≤ 12 := by
      intro P
      induction P with
      | nil => intro lo _ _ s hs; cases hs
      | cons a r ih =>
        intro lo h0 hv s hs
        rcases List.mem_cons.mp hs with z | z
        · rw [z]; have := hv.1; have := hv.2.1; omega
        · exact ih (a + 1) (by have := hv.1; omega) hv.2.2 s z
    exact fun j a b => this P 0 (by decide) hV _ (gi_mem a b)
  have key : ∀ (n : Nat), n ≤ P.length → nextP (m + 1) (P.drop n) = none → WR 59 4 [some (vR 63), some (vI P.length), some (vI m), some (vI ((n : Int) - 1)), none] [] M (fun r M' => ∃ x, r = vI x ∧ Q x M') := by
    intro n
    induction n with
    | zero =>
      intro hn hx
      refine t_59_4 sh63.1 ⟨by omega, ?_⟩
      rw [if_pos (by omega)]
      rw [List.drop_zero] at hx
      have := hQ M (fun _ _ => rfl)
      rw [hx] at this
      exact ⟨_, rfl, this⟩
    | succ n ih =>
      intro hn hx
      have ep := hP n (by omega) (by omega)
      have hpn := pr n (by omega) (by omega)
      have ed : P.drop n = gi P n :: P.drop (n + 1) := drop_cons (by omega)
      have el : (P.drop (n + 1)).length = P.length - (n + 1) := List.length_drop
      refine t_59_4 sh63.1 ⟨by omega, ?_⟩
      rw [if_neg (by omega), hD.2.2.1, show ((n + 1 : Nat) : Int) - 1 = n by omega, ep]
      refine ⟨g66 (by omega) (by omega), by omega, by omega, ?_⟩
      by_cases q : m - ((P.length : Int) - 1 - n) ≤ gi P n
      · rw [if_pos q, show (n : Int) + (-1) = (n : Int) - 1 by omega]
        refine ih (by omega) ?_
        rw [ed]
        exact nextP_no hx (by omega)
      · rw [if_neg q]
        have hy := nextP_yes (m := m + 1) (p := gi P n) hx (by omega) (P.take n)
        rw [← ed, List.take_append_drop, el] at hy
        have eP' : P.length - (n + 1) + 1 = P.length - n := by omega
        rw [eP'] at hy
        have htl : (P.take n).length = n := by rw [List.length_take]; omega
        refine ⟨g66 (by omega) (by omega), g66 (by omega) (by omega), ?_⟩
        have lay : ∀ (t j : Nat) (N : Mem), j + t = P.length → n < j → (∀ k : Int, k ≠ 66 → N k = M k) → (∀ i : Int, 0 ≤ i → i < j → N 66 i = gi (P.take n ++ upP (gi P n + 1) (P.length - n)) i) → WR 59 39 [some (vR 63), some (vI P.length), some (vI m), some (vI n), some (vI j)] [] N (fun r M' => ∃ x, r = vI x ∧ Q x M') := by
          intro t
          induction t with
          | zero =>
            intro j N hj hnj g hk
            refine t_59_39 sh63.1 ⟨by omega, by omega, ?_⟩
            rw [if_pos (by omega)]
            have := hQ N g
            rw [hy] at this
            refine ⟨_, rfl, this (fun i a b => hk i a ?_)⟩
            rw [List.length_append, htl, upP_len] at b
            omega
          | succ t iht =>
            intro j N hj hnj g hk
            have e63 : N 63 2 = 66 := by rw [g 63 (by decide)]; exact hD.2.2.1
            have ev : gi (P.take n ++ upP (gi P n + 1) (P.length - n)) ((j : Int) - 1) = gi P n + 1 + ((j : Int) - 1 - n) := by
              rw [gi_app (by omega), htl, if_neg (by omega), upP_gi _ _ _ (by omega) (by omega)]
            refine t_59_39 sh63.1 ⟨by omega, by omega, ?_⟩
            rw [if_neg (by omega), e63, hk ((j : Int) - 1) (by omega) (by omega), ev]
            refine ⟨g66 (by omega) (by omega), g66 (by omega) (by omega), iht (j + 1) _ (by omega) (by omega) (fun k a => by rw [upM_o a]; exact g k a) (fun i a b => ?_)⟩
            by_cases e : i = j
            · rw [e, upM_s, gi_app (by omega), htl, if_neg (by omega), upP_gi _ _ _ (by omega) (by omega)]
              omega
            · rw [upM_f e]
              exact hk i a (by omega)
        have := lay (P.length - (n + 1)) (n + 1) (upM M 66 n (gi P n + 1)) (by omega) (by omega) (fun k a => upM_o a) (fun i a b => by
          rw [gi_app a, htl]
          by_cases e : i = n
          · rw [e, upM_s, if_neg (by omega), upP_gi _ _ _ (by omega) (by omega)]
            omega
          · rw [upM_f e, if_pos (by omega), gi_take a (by omega)]
            exact hP i a (by omega))
        exact this
  refine t_59 sh63.1 ?_
  exact key P.length (Nat.le_refl _) (by rw [List.drop_length]; rfl)
theorem s58 {Q : Int → Mem → Prop} (h : CutB M p L W) (hD : PtrD M) (hr : RowIs M r l) (hrs : RowS r) (hon : onl L l) (hQ : ∀ M' : Mem, Fr M M' → (if Lz L 9 = -1 then Q (-2) M' else match mendL L W l with
    | some P => PlI M' P → Q P.length M'
    | none => Q (-2) M')) : WI 58 [vR 63, vR p, vR r] M Q := by
  have hL := h.1
  have h12 := hr.2.2.2.1
  have hz := hL.2.2.2.2.2.2.2
  unfold WfZ at hz
  have p16 : M p 16 = Lz L 9 := hL.2.2.2.2.1.2.2.2.2.2.2.2.2.2.1
  have n16 := hL.n.2
  have hz9 := hz.2.2.2.2.2.2.2.2.2.1
  have g66 : ∀ {j : Int}, 0 ≤ j → j < 13 → gA 20 66 j := fun {j} a b => gC sh63.2.2 a b
  refine t_58 sh63.1 ?_
  rw [p16]
  refine ⟨hL.o.1, by omega, ?_⟩
  by_cases q0 : Lz L 9 = -1
  · rw [if_pos q0]
    have := hQ M Fr.rf
    rw [if_pos q0] at this
    exact ⟨_, rfl, this⟩
  rw [if_neg q0, hr.2.2.1]
  have hhelp : 0 ≤ Lz L 9 := by omega
  have emost : min ((l.length : Int) + 1) (12 - l.length) = mostP l := by unfold mostP; omega
  rw [emost]
  have hmost : mostP l ≤ l.length + 1 ∧ mostP l + l.length ≤ 12 := by unfold mostP; omega
  refine ⟨⟨hr.1.1, by rw [hr.1.2.1]⟩, ⟨hr.1.1, by rw [hr.1.2.1]⟩, ⟨by omega, by omega⟩, ?_⟩
  have fr66 : ∀ {N N' : Mem}, (∀ k : Int, k ≠ 66 → N' k = N k) → Fr N N' := fun {N N'} g => fr64 (fun k _ _ a => g k a) (by rw [g 64 (by decide)])
  have lp : ∀ (n k : Nat) (l5 l6 : Option AV) (N : Mem), k + n = mostP l + 1 → Fr M N → (∀ M' : Mem, Fr M M' → match seekP (fitP L W l) (l.length + 1) n k with
    | some P => PlI M' P → Q P.length M'
    | none => Q (-2) M') → WR 58 31 [some (vR 63), some (vR p), some (vR r), some (vI (mostP l)), some (vI k), l5, l6] [] N (fun r M' => ∃ x, r = vI x ∧ Q x M') := by
    intro n
    induction n with
    | zero =>
      intro k l5 l6 N hk g hQ
      refine t_58_31 sh63.1 ⟨by omega, by omega, ?_⟩
      rw [if_pos (by omega)]
      exact ⟨_, rfl, hQ N g⟩
    | succ n ih =>
      intro k l5 l6 N hk g hQ
      refine t_58_31 sh63.1 ⟨by omega, by omega, ?_⟩
      rw [if_neg (by omega)]
      rw [seekP_s] at hQ
      have tries : ∀ (f : Nat) (P : List Int) (t : Nat) (N : Mem), t + f = 100000 → Fr M N → PlI N P → VP (l.length + 1) 0 P → P.length = k → (∀ M' : Mem, Fr M M' → match (match srch (fitP L W l) (l.length + 1) f P with | some P => some P | none => seekP (fitP L W l) (l.length + 1) n (k + 1)) with
        | some P => PlI M' P → Q P.length M'
        | none => Q (-2) M') → WR 58 68 [some (vR 63), some (vR p), some (vR r), some (vI (mostP l)), some (vI k), some (vI 1), some (vI t)] [] N (fun r M' => ∃ x, r = vI x ∧ Q x M') := by
        intro f
        induction f with
        | zero =>
          intro P t N ht g hP hV hl hQ
          refine t_58_68 sh63.1 ⟨by decide, ?_⟩
          rw [if_neg (by decide)]
          refine ⟨by omega, ?_⟩
          rw [if_pos (by omega)]
          exact ih (k + 1) _ _ N (by omega) g hQ
        | succ f ihf =>
          intro P t N ht g hP hV hl hQ
          rw [srch_s] at hQ
          refine t_58_68 sh63.1 ⟨by decide, ?_⟩
          rw [if_neg (by decide)]
          refine ⟨by omega, ?_⟩
          rw [if_neg (by omega)]
          have hh := s60 (Q := fun y4 M3 => inR y4 ∧ (if y4 = 0 then ((gO 5 r) ∧ WI 59 [vR 63, vI k, vI (M3 r 1)] M3 (fun y7 M6 => WR 58 68 [some (vR 63), some (vR p), some (vR r), some (vI (mostP l)), some (vI k), some (vI y7), some (vI ((t : Int) + 1))] [] M6 (fun r M' => ∃ x, r = vI x ∧ Q x M'))) else (∃ x, vI (k : Int) = vI x ∧ Q x M3))) (h.fr g) (hD.fr g) (hr.fr' hrs g) hrs hon hP hV (by omega) hhelp (fun M1 g1 e66 => ?_)
          · rw [hl] at hh
            exact hh
          · have gg := g.tr g1
            have r1 := hr.fr' hrs gg
            have hP1 : PlI M1 P := fun j a b => by rw [e66]; exact hP j a b
            refine ⟨by have := b2i_r (fitP L W l P); omega, ?_⟩
            cases hf : fitP L W l P
            · rw [if_pos (by decide), r1.2.2.1]
              rw [hf, if_neg (by decide)] at hQ
              refine ⟨⟨r1.1.1, by rw [r1.1.2.1]⟩, ?_⟩
              have h59 := s59 (Q := fun y7 M6 => WR 58 68 [some (vR 63), some (vR p), some (vR r), some (vI (mostP l)), some (vI k), some (vI y7), some (vI ((t : Int) + 1))] [] M6 (fun r M' => ∃ x, r = vI x ∧ Q x M')) (m := l.length) (hD.fr gg) hP1 hV (by omega) (fun M2 g2 => ?_)
              · rw [hl] at h59
                exact h59
              · have gM := gg.tr (fr66 g2)
                cases hn : nextP ((l.length : Int) + 1) P with
                | some P' =>
                  dsimp only
                  intro hP'
                  obtain ⟨v', l', -⟩ := next_some P P' 0 hV hn
                  rw [hn] at hQ
                  exact ihf P' (t + 1) M2 (by omega) gM hP' v' (by omega) hQ
                | none =>
                  dsimp only
                  rw [hn] at hQ
                  refine t_58_68 sh63.1 ⟨by decide, ?_⟩
                  rw [if_pos rfl]
                  exact ih (k + 1) _ _ M2 (by omega) gM hQ
            · rw [if_neg (by decide)]
              rw [hf, if_pos rfl] at hQ
              have := hQ M1 gg hP1
              rw [hl] at this
              exact ⟨_, rfl, this⟩
      have lay : ∀ (t j : Nat) (l6 : Option AV) (N : Mem), j + t = k → Fr M N → (∀ i : Int, 0 ≤ i → i < j → N 66 i = i) → WR 58 40 [some (vR 63), some (vR p), some (vR r), some (vI (mostP l)), some (vI k), some (vI j), l6] [] N (fun r M' => ∃ x, r = vI x ∧ Q x M') := by
        intro t
        induction t with
        | zero =>
          intro j l6 N hj g hk2
          refine t_58_40 sh63.1 ⟨by omega, by omega, ?_⟩
          rw [if_pos (by omega)]
          exact tries 100000 (upP 0 k) 0 N (by omega) g (fun i a b => by rw [upP_len] at b; rw [upP_gi _ _ _ a (by omega), hk2 i a (by omega)]; omega) (upP_ok k 0 (by omega)) (upP_len k 0) hQ
        | succ t iht =>
          intro j l6 N hj g hk2
          have hDN := hD.fr g
          refine t_58_40 sh63.1 ⟨by omega, by omega, ?_⟩
          rw [if_neg (by omega), hDN.2.2.1]
          refine ⟨g66 (by omega) (by omega), iht (j + 1) l6 _ (by omega) (g.tr (fr66 (fun k a => upM_o a))) (fun i a b => ?_)⟩
          by_cases e : i = j
          · rw [e, upM_s]
          · rw [upM_f e]
            exact hk2 i a (by omega)
      exact lay k 0 _ N (by omega) g (fun i a b => by omega)
  refine lp (mostP l + 1) 0 _ _ M (by omega) Fr.rf (fun M' g => ?_)
  have := hQ M' g
  rw [if_neg q0] at this
  exact this
theorem seek_ok {fit : List Int → Bool} {m : Int} (hm : 0 ≤ m ∧ m ≤ 13) : ∀ (n k : Nat) (R : List Int), seekP fit m n k = some R → (k + n : Int) ≤ m + 1 → VP m 0 R
  | 0, _, _, h, _ => by cases h
  | n + 1, k, R, h, hk => by
    rw [seekP_s] at h
    cases hs : srch fit m 100000 (upP 0 k) with
    | some P =>
      rw [hs] at h
      cases h
      have v := upP_ok (m := m) k 0 (by omega)
      have h1 := vl_lt (upP 0 k) 0 v
      have h2 := p2_le (show (m - 0).toNat ≤ 13 by omega)
      rw [show (2 : Int) ^ 13 = 8192 from rfl] at h2
      exact ((srch_ok (fit := fit) 100000 (upP 0 k) v (by omega)).1 _ hs).1
    | none =>
      rw [hs] at h
      exact seek_ok hm n (k + 1) R h (by omega)
theorem cMend {Q : Int → Mem → Prop} (h : ClsQ M p q L W S c) (hD : PtrD M) (hW : OnW L W) (hS : OnW L S) (hw : inR w) (hi : inR i) (hQ : ∀ M' : Mem, Fr M M' → Q (aMend L W S w i) M') : WI 158 [vR 1, vI w, vI i] M Q := by
  have hr := wP_r (w := w) h
  have p5 := h.2.2.2.2.2.2.2.2.2.1
  have p7 := h.2.2.2.2.2.2.2.2.2.2.2.1
  have e63 : (shA SH 63).1 = 3 := sh63.1.2
  unfold aMend at hQ
  refine t_158 o1.1 ?_
  rw [s175 h hw]
  refine ⟨by omega, ?_⟩
  cases e : wd W S w with
  | none =>
    rw [e] at hQ
    rw [wP_none e, if_pos rfl]
    exact ⟨_, rfl, hQ M Fr.rf⟩
  | some l =>
    rw [e] at hQ
    dsimp only at hQ
    obtain ⟨xl, yl⟩ := wP_some h e
    have h12 := xl.2.2.2.1
    rw [if_neg (by have := xl.1.1; omega), p5, p7]
    refine ⟨e63, s58 h.1 hD xl yl (wd_on hW hS e).2.2 (fun M1 g1 => ?_)⟩
    have fin := hQ M1 g1
    have p51 := (h.fr g1).2.2.2.2.2.2.2.2.2.1
    have two : ∀ (v : Int), Q (-2) M1 → inR (-2 : Int) ∧ (if (-2 : Int) = (-2) then (∃ x, vI (-2) = vI x ∧ Q x M1) else v = v) := fun v z => ⟨by decide, by rw [if_pos rfl]; exact ⟨_, rfl, z⟩⟩
    by_cases q0 : Lz L 9 = -1
    · rw [if_pos q0] at fin ⊢
      refine ⟨by decide, ?_⟩
      rw [if_pos rfl]
      exact ⟨_, rfl, fin⟩
    rw [if_neg q0] at fin ⊢
    cases hm : mendL L W l with
    | none =>
      rw [hm] at fin
      dsimp only
      refine ⟨by decide, ?_⟩
      rw [if_pos rfl]
      exact ⟨_, rfl, fin⟩
    | some P =>
      rw [hm] at fin
      dsimp only at fin ⊢
      intro hP
      have hV := seek_ok (fit := fitP L W l) (m := l.length + 1) (by omega) (mostP l + 1) 0 P hm (by unfold mostP; omega)
      have hl := VP_len P 0 hV (by omega)
      refine ⟨by omega, ?_⟩
      rw [if_neg (by omega)]
      refine ⟨hi, ?_⟩
      by_cases q1 : i = -1
      · rw [if_pos q1] at fin ⊢
        exact ⟨_, rfl, fin⟩
      rw [if_neg q1] at fin ⊢
      by_cases q2 : i < 0
      · rw [if_pos q2] at fin ⊢
        exact ⟨_, rfl, fin⟩
      rw [if_neg q2] at fin ⊢
      by_cases q3 : (P.length : Int) ≤ i
      · rw [if_pos q3]
        rw [gi_out (Or.inr q3)] at fin
        exact ⟨_, rfl, fin⟩
      rw [if_neg q3, p51]
      refine ⟨e63, t_61 sh63.1 ⟨hi, ?_⟩⟩
      rw [if_neg q2, (hD.fr g1).2.2.1, sh63.2.2]
      refine ⟨⟨by decide, by decide, by decide, by decide⟩, by decide, ?_⟩
      rw [if_neg (by show ¬ (((13 : Nat) : Int) ≤ i); omega), hP i (by omega) (by omega)]
      exact ⟨gC sh63.2.2 (by omega) (by show _ < ((13 : Nat) : Int); omega), _, rfl, _, rfl, fin⟩
end MN
