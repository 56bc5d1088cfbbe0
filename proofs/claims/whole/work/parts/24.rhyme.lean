/-! RHYME, by the class. -/
theorem lst_r (P : Int → Bool) (lo : Int) : ∀ m : Nat, lst P lo m = -1 ∨ (lo ≤ lst P lo m ∧ lst P lo m < lo + m)
  | 0 => Or.inl rfl
  | m + 1 => by
    have := lst_r P lo m
    unfold lst
    split <;> omega
theorem strs_r {L : Lw} (hw : Wf L) (X : Ct) (hc : 0 < cnt X) : 0 ≤ strs L X ∧ strs L X < cnt X := by
  have hz := hw.2.2
  unfold WfZ at hz
  have h1 := lst_r (hvy L X) (strLo L X) (cnt X - 1 - strLo L X).toNat
  have hlo : 0 ≤ strLo L X ∧ strLo L X ≤ cnt X := by unfold strLo; omega
  unfold strs
  rw [if_neg (show ¬ cnt X = 0 by omega)]
  split <;> omega
/-- a word from the heart of its stressed syllable on, as a key; 0 without hearts -/
def endL (L : Lw) (W : List (List Int)) (l : List Int) : List Int := sub l (hst (X0 L l) (strs L (XP L W (X0 L l)))) (Xn (X0 L l) - hst (X0 L l) (strs L (XP L W (X0 L l))))
def aRhyme (L : Lw) (W S : List (List Int)) (a b : Int) : Int := if (0 ≤ a ∧ a < S.length) ∧ (0 ≤ b ∧ b < S.length) then (if cnt (X0 L (S.getD a.toNat [])) = 0 ∨ cnt (X0 L (S.getD b.toNat [])) = 0 then 0 else if endL L W (S.getD a.toNat []) = endL L W (S.getD b.toNat []) then 1 else 0) else -1
section RH
variable {M : Mem} {p q r a b : Int} {L : Lw} {W S : List (List Int)} {l : List Int} {c : Int → Int}
theorem s112 {Q : Int → Mem → Prop} (h : ClsQ M p q L W S c) (hr : RowIs M r l) (hQ : ∀ M' : Mem, FrC M M' → Q (if cnt (X0 L l) = 0 then 0 else keyOf (endL L W l)) M') : WL 112 [vR 14, vR p, vR r] M Q := by
  obtain ⟨oq, e1, e0, e2, l8⟩ := spk h
  refine t_112 o1.2 ?_
  rw [e0]
  refine ⟨sh9, s11 h.1 hr (fun M1 g1 hX _ => ?_)⟩
  rw [show M1 14 = M 14 from g1.1 14 (by omega), e0]
  refine ⟨sh9, s17 hX (fun M2 g2 hP => ?_)⟩
  have g12 := g1.tr (FrC.o12 g2)
  have h9 : M2 9 9 = cnt (X0 L l) := hP.1.2.2.2.1.2.2.2.2.2.1
  have hc := hP.1.2.2.2.2.1.1
  have hc0 : 0 ≤ cnt (X0 L l) := Int.natCast_nonneg _
  have hcx : cnt (XP L W (X0 L l)) = cnt (X0 L l) := rfl
  rw [show M2 14 = M 14 from g12.1 14 (by omega), e0, h9]
  refine ⟨sh_cut.1, by omega, ?_⟩
  have := hQ M2 g12
  by_cases z : cnt (X0 L l) = 0
  · rw [if_pos z] at this ⊢
    exact ⟨_, rfl, this⟩
  · rw [if_neg z] at this
    have hs := strs_r (L := L) h.1.1.2.2.2.2.2 (XP L W (X0 L l)) (by omega)
    rw [if_neg z, s38 hP]
    refine ⟨sh9, sh9, ?_⟩
    rw [s31 hP.1 hs.1 hs.2]
    exact ⟨_, rfl, this⟩
theorem endK_r (hw : Wf L) (hd : dg l) (hl : l.length ≤ 12) : in64 (if cnt (X0 L l) = 0 then 0 else keyOf (endL L W l)) ∧ dg (endL L W l) ∧ ((if cnt (X0 L l) = 0 then 0 else keyOf (endL L W l)) = 0 ↔ cnt (X0 L l) = 0) := by
  have h1 : dg (endL L W l) := sub_dg hd _ _
  have h2 : (endL L W l).length ≤ 13 := by
    unfold endL sub
    rw [List.length_take, List.length_drop]
    omega
  have h3 := key_pos h1
  have h4 := key_lt h1 h2
  by_cases z : cnt (X0 L l) = 0
  · rw [if_pos z]
    exact ⟨by decide, h1, by omega⟩
  · rw [if_neg z]
    exact ⟨by omega, h1, by omega⟩
theorem cRhyme {Q : Int → Mem → Prop} (h : ClsQ M p q L W S c) (ha : inR a) (hb : inR b) (hQ : ∀ M' : Mem, Fr M M' → Q (aRhyme L W S a b) M') : WI 157 [vR 1, vI a, vI b] M Q := by
  obtain ⟨-, -, -, p3, -, -, -, p7, -, p14⟩ := h.2.2.2.2
  have eq : (shA SH q).1 = 10 := by rw [h.2.2.1.1.2.1]
  have hw := h.1.1.2.2.2.2.2
  have hq : WrC q 8 := Or.inr ⟨h.2.1, rfl⟩
  refine t_157 o1.1 ?_
  rw [p3, p14, s136 h.2.2.1 ha, p3, p14, s136 h.2.2.1 hb]
  refine ⟨o1.2, eq, o1.2, eq, ?_⟩
  unfold aRhyme at hQ
  by_cases za : 0 ≤ a ∧ a < (S.length : Int)
  · obtain ⟨ra, rsa, -⟩ := wrd_at hq h.2.2.1 za.1 za.2
    have ra0 := ra.1.1
    rw [if_pos za]
    refine ⟨by omega, ?_⟩
    rw [if_neg (by omega)]
    by_cases zb : 0 ≤ b ∧ b < (S.length : Int)
    · obtain ⟨rb, rsb, -⟩ := wrd_at hq h.2.2.1 zb.1 zb.2
      have rb0 := rb.1.1
      rw [if_pos ⟨za, zb⟩] at hQ
      rw [if_pos zb]
      refine ⟨by omega, ?_⟩
      rw [if_neg (by omega), p3, p7]
      generalize S.getD a.toNat [] = A at ra hQ
      generalize S.getD b.toNat [] = B at rb hQ
      have kA := endK_r (L := L) (W := W) hw ra.2.2.2.2.1 ra.2.2.2.1
      have kB := endK_r (L := L) (W := W) hw rb.2.2.2.2.1 rb.2.2.2.1
      refine ⟨o1.2.2, s112 h ra (fun M1 g1 => ⟨⟨kA.1, by decide⟩, cmp3_r _ _, ?_⟩)⟩
      by_cases z : cnt (X0 L A) = 0
      · rw [if_pos (Or.inl z)] at hQ
        rw [if_pos ((cmp3 _ _).mpr (kA.2.2.mpr z))]
        exact ⟨_, rfl, hQ M1 g1.fr⟩
      · rw [if_neg (fun y => z (kA.2.2.mp ((cmp3 _ _).mp y)))]
        have h1 := h.fr g1.fr
        have e3 : M1 1 3 = 14 := h1.2.2.2.2.2.2.2.1
        have e7 : M1 1 7 = p := h1.2.2.2.2.2.2.2.2.2.2.2.1
        rw [e3, e7]
        refine ⟨o1.2.2, s112 h1 (rb.fr' rsb g1.fr) (fun M2 g2 => ⟨⟨kA.1, kB.1⟩, cmp3_r _ _, ?_⟩)⟩
        have := hQ M2 (g1.tr g2).fr
        by_cases y : cnt (X0 L B) = 0
        · rw [if_pos (Or.inr y)] at this
          have e0 := kB.2.2.mpr y
          rw [if_neg (fun x => z (kA.2.2.mp (((cmp3 _ _).mp x).trans e0)))]
          exact ⟨_, rfl, this⟩
        · rw [if_neg (by omega)] at this
          by_cases x : endL L W A = endL L W B
          · rw [if_pos x] at this
            rw [if_pos ((cmp3 _ _).mpr (by rw [if_neg z, if_neg y, x]))]
            exact ⟨_, rfl, this⟩
          · rw [if_neg x] at this
            rw [if_neg (fun v => x ((key_eq kA.2.1 kB.2.1).mp (by have := (cmp3 _ _).mp v; rw [if_neg z, if_neg y] at this; exact this)))]
            exact ⟨_, rfl, this⟩
    · rw [if_neg (fun z => zb z.2)] at hQ
      rw [if_neg zb]
      refine ⟨by decide, ?_⟩
      rw [if_pos rfl]
      exact ⟨_, rfl, hQ M Fr.rf⟩
  · rw [if_neg (fun z => za z.1)] at hQ
    rw [if_neg za]
    refine ⟨by decide, ?_⟩
    rw [if_pos rfl]
    exact ⟨_, rfl, hQ M Fr.rf⟩
end RH
