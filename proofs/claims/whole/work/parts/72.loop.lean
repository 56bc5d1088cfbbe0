/-! THE LAW'S LOOP: it ends with true. -/
section LOOP
variable {M : Mem} {len : Nat} {xs : Nat → Int32} {x3 : Int}
theorem and32_in {x y : Int} : inR (and32 x y) := ⟨Int32.le_toInt _, Int32.toInt_lt _⟩
theorem or64_in {x y : Int} : in64 (or64 x y) := ⟨Int64.le_toInt _, Int64.toInt_lt _⟩
/-- what a call's comparison comes to -/
theorem go_on {zc zm : Nat} {as : List AV} {Q : AV → Mem → Prop} {K : Mem → Prop} (h : Go zc zm as M K) (hK : ∀ M2, K M2 → WR 298 18 [some (vR (-2000)), some (vR 1), some (vR 204), some (vI (x3 + 6))] [] M2 Q) : WI zc (vR 1 :: as) M (fun y4 M3 => M3 (-2000) = M (-2000) ∧ WI zm (vR 204 :: as) M3 (fun y6 M5 => if wr32 y4 = wr32 y6 then (WR 298 18 [some (vR (-2000)), some (vR 1), some (vR 204), some (vI (x3 + 6))] [] M5 Q) else (Q (vI 0) M5))) :=
  h.mono fun x M1 ⟨e, h1⟩ => ⟨e, h1.mono fun y M2 ⟨e2, h2⟩ => by rw [e2, if_pos rfl]; exact hK M2 h2⟩
theorem loop_ok (hl : len ≤ 3072) : ∀ (n : Nat) (x3 : Int) (M : Mem), 0 ≤ x3 → x3 ≤ 3078 → (len : Int) - 6 < x3 + 6 * n → Inv len xs M → WR 298 18 [some (vR (-2000)), some (vR 1), some (vR 204), some (vI x3)] [] M (fun r _ => r = vI 1) := by
  intro n
  induction n with
  | zero =>
    intro x3 M h0 h1 h2 ⟨p, p', q, q', ft, fp, T, L, W, S, c, E, A, hC, hM, hch, hR, hn⟩
    have eL : M (-2000) (-1) = len := by rw [hn (-2000) (by decide)]; rfl
    refine tl_298_18 ?_
    rw [eL, wr_id (by omega), wr_id (by omega), if_pos (by omega)]
  | succ n ih =>
    intro x3 M h0 h1 h2 ⟨p, p', q, q', ft, fp, T, L, W, S, c, E, A, hC, hM, hch, hR, hn⟩
    have eL : M (-2000) (-1) = len := by rw [hn (-2000) (by decide)]; rfl
    refine tl_298_18 ?_
    rw [eL, wr_id (by omega), wr_id (by omega)]
    by_cases qz : (len : Int) - 6 < x3
    · rw [if_pos qz]
    rw [if_neg qz]
    have nx : ∀ M2, Inv len xs M2 → WR 298 18 [some (vR (-2000)), some (vR 1), some (vR 204), some (vI (x3 + 6))] [] M2 (fun r _ => r = vI 1) := fun M2 h => ih (x3 + 6) M2 (by omega) (by omega) (by omega) h
    have r : ∀ j : Int, 0 ≤ j → inR (M (-2000) j) := fun j hj => by
      rw [hn (-2000) (by decide)]
      unfold M0
      rw [if_pos rfl, if_neg (by omega)]
      exact ⟨Int32.le_toInt _, Int32.toInt_lt _⟩
    have i1 := r (x3 + 1) (by omega)
    have i2 := r (x3 + 2) (by omega)
    have i3 := r (x3 + 3) (by omega)
    have i4 := r (x3 + 4) (by omega)
    have i5 := r (x3 + 5) (by omega)
    have g1 : 0 ≤ x3 + 1 ∧ x3 + 1 < (len : Int) := by omega
    have g2 : 0 ≤ x3 + 2 ∧ x3 + 2 < (len : Int) := by omega
    have g3 : 0 ≤ x3 + 3 ∧ x3 + 3 < (len : Int) := by omega
    have g4 : 0 ≤ x3 + 4 ∧ x3 + 4 < (len : Int) := by omega
    have g5 : 0 ≤ x3 + 5 ∧ x3 + 5 < (len : Int) := by omega
    refine ⟨by omega, and32_in, ?_⟩
    by_cases q0 : and32 (M (-2000) x3) 31 = 0
    · rw [if_pos q0]
      refine ⟨g1, g2, g3, g4, g5, (go_on (oFeed hC hM hch hR hn i1 i2 i3 i4 i5) nx).mono (fun y M1 ⟨e, h⟩ => ?_)⟩
      rw [e, eL]
      exact ⟨g1, g2, g3, g4, g5, h⟩
    rw [if_neg q0]
    by_cases q1 : and32 (M (-2000) x3) 31 = 1
    · rw [if_pos q1]
      refine ⟨g1, (go_on (oEnd hC hM hch hR hn i1) nx).mono (fun y M1 ⟨e, h⟩ => ?_)⟩
      rw [e, eL]
      exact ⟨g1, h⟩
    rw [if_neg q1]
    by_cases q2 : and32 (M (-2000) x3) 31 = 2
    · rw [if_pos q2]
      refine (go_on (oLaw hC hM hch hR hn ) nx).mono (fun y M1 ⟨e, h⟩ => ?_)
      exact h
    rw [if_neg q2]
    by_cases q3 : and32 (M (-2000) x3) 31 = 3
    · rw [if_pos q3]
      refine (go_on (oSay hC hM hch hR hn ) nx).mono (fun y M1 ⟨e, h⟩ => ?_)
      exact h
    rw [if_neg q3]
    by_cases q4 : and32 (M (-2000) x3) 31 = 4
    · rw [if_pos q4]
      refine ⟨g1, (go_on (oFault hC hM hch hR hn i1) nx).mono (fun y M1 ⟨e, h⟩ => ?_)⟩
      rw [e, eL]
      exact ⟨g1, h⟩
    rw [if_neg q4]
    by_cases q5 : and32 (M (-2000) x3) 31 = 5
    · rw [if_pos q5]
      refine ⟨g1, g2, (go_on (oSound hC hM hch hR hn i1 i2) nx).mono (fun y M1 ⟨e, h⟩ => ?_)⟩
      rw [e, eL]
      exact ⟨g1, g2, h⟩
    rw [if_neg q5]
    by_cases q6 : and32 (M (-2000) x3) 31 = 6
    · rw [if_pos q6]
      refine ⟨g1, g2, g3, g4, (go_on (oOpn hC hM hch hR hn i1 i2 i3 i4) nx).mono (fun y M1 ⟨e, h⟩ => ?_)⟩
      rw [e, eL]
      exact ⟨g1, g2, g3, g4, h⟩
    rw [if_neg q6]
    by_cases q7 : and32 (M (-2000) x3) 31 = 7
    · rw [if_pos q7]
      refine ⟨g1, g2, (go_on (oWord hC hM hch hR hn i1 i2) nx).mono (fun y M1 ⟨e, h⟩ => ?_)⟩
      rw [e, eL]
      exact ⟨g1, g2, h⟩
    rw [if_neg q7]
    by_cases q8 : and32 (M (-2000) x3) 31 = 8
    · rw [if_pos q8]
      refine ⟨g1, g2, (go_on (oAt hC hM hch hR hn i1 i2) nx).mono (fun y M1 ⟨e, h⟩ => ?_)⟩
      rw [e, eL]
      exact ⟨g1, g2, h⟩
    rw [if_neg q8]
    by_cases q9 : and32 (M (-2000) x3) 31 = 9
    · rw [if_pos q9]
      refine ⟨g1, g2, g3, g4, (go_on (oSyl hC hM hch hR hn i1 i2 i3 i4) nx).mono (fun y M1 ⟨e, h⟩ => ?_)⟩
      rw [e, eL]
      exact ⟨g1, g2, g3, g4, h⟩
    rw [if_neg q9]
    by_cases q10 : and32 (M (-2000) x3) 31 = 10
    · rw [if_pos q10]
      refine ⟨g1, g2, g3, g4, (go_on (oJudge hC hM hch hR hn i1 or64_in i4) nx).mono (fun y M1 ⟨e, h⟩ => ?_)⟩
      rw [e, eL]
      exact ⟨g1, g2, g3, g4, h⟩
    rw [if_neg q10]
    by_cases q11 : and32 (M (-2000) x3) 31 = 11
    · rw [if_pos q11]
      refine ⟨g1, g2, (go_on (oWithin hC hM hch hR hn i1 i2) nx).mono (fun y M1 ⟨e, h⟩ => ?_)⟩
      rw [e, eL]
      exact ⟨g1, g2, h⟩
    rw [if_neg q11]
    by_cases q12 : and32 (M (-2000) x3) 31 = 12
    · rw [if_pos q12]
      refine ⟨g1, g2, (go_on (oRhyme hC hM hch hR hn i1 i2) nx).mono (fun y M1 ⟨e, h⟩ => ?_)⟩
      rw [e, eL]
      exact ⟨g1, g2, h⟩
    rw [if_neg q12]
    by_cases q13 : and32 (M (-2000) x3) 31 = 13
    · rw [if_pos q13]
      refine ⟨g1, g2, (go_on (oMend hC hM hch hR hn i1 i2) nx).mono (fun y M1 ⟨e, h⟩ => ?_)⟩
      rw [e, eL]
      exact ⟨g1, g2, h⟩
    rw [if_neg q13]
    by_cases q14 : and32 (M (-2000) x3) 31 = 14
    · rw [if_pos q14]
      refine ⟨g1, g2, (go_on (oFar hC hM hch hR hn i1 i2) nx).mono (fun y M1 ⟨e, h⟩ => ?_)⟩
      rw [e, eL]
      exact ⟨g1, g2, h⟩
    rw [if_neg q14]
    by_cases q15 : and32 (M (-2000) x3) 31 = 15
    · rw [if_pos q15]
      refine ⟨g1, (go_on (oNear hC hM hch hR hn i1) nx).mono (fun y M1 ⟨e, h⟩ => ?_)⟩
      rw [e, eL]
      exact ⟨g1, h⟩
    rw [if_neg q15]
    by_cases q16 : and32 (M (-2000) x3) 31 = 16
    · rw [if_pos q16]
      refine ⟨g1, (go_on (oParts hC hM hch hR hn i1) nx).mono (fun y M1 ⟨e, h⟩ => ?_)⟩
      rw [e, eL]
      exact ⟨g1, h⟩
    rw [if_neg q16]
    by_cases q17 : and32 (M (-2000) x3) 31 = 17
    · rw [if_pos q17]
      refine ⟨g1, (go_on (oHills hC hM hch hR hn i1) nx).mono (fun y M1 ⟨e, h⟩ => ?_)⟩
      rw [e, eL]
      exact ⟨g1, h⟩
    rw [if_neg q17]
    by_cases q18 : and32 (M (-2000) x3) 31 = 18
    · rw [if_pos q18]
      refine ⟨g1, (go_on (oJoins hC hM hch hR hn i1) nx).mono (fun y M1 ⟨e, h⟩ => ?_)⟩
      rw [e, eL]
      exact ⟨g1, h⟩
    rw [if_neg q18]
    by_cases q19 : and32 (M (-2000) x3) 31 = 19
    · rw [if_pos q19]
      refine ⟨g1, (go_on (oSpeech hC hM hch hR hn i1) nx).mono (fun y M1 ⟨e, h⟩ => ?_)⟩
      rw [e, eL]
      exact ⟨g1, h⟩
    rw [if_neg q19]
    by_cases q20 : and32 (M (-2000) x3) 31 = 20
    · rw [if_pos q20]
      refine ⟨g1, g2, (go_on (oMis hC hM hch hR hn i1 i2) nx).mono (fun y M1 ⟨e, h⟩ => ?_)⟩
      rw [e, eL]
      exact ⟨g1, g2, h⟩
    rw [if_neg q20]
    by_cases q21 : and32 (M (-2000) x3) 31 = 21
    · rw [if_pos q21]
      refine ⟨g1, (go_on (oBeat hC hM hch hR hn i1) nx).mono (fun y M1 ⟨e, h⟩ => ?_)⟩
      rw [e, eL]
      exact ⟨g1, h⟩
    rw [if_neg q21]
    by_cases q22 : and32 (M (-2000) x3) 31 = 22
    · rw [if_pos q22]
      refine ⟨g1, (go_on (oPoss hC hM hch hR hn i1) nx).mono (fun y M1 ⟨e, h⟩ => ?_)⟩
      rw [e, eL]
      exact ⟨g1, h⟩
    rw [if_neg q22]
    by_cases q23 : and32 (M (-2000) x3) 31 = 23
    · rw [if_pos q23]
      refine ⟨g1, g2, g3, (go_on (oTally hC hM hch hR hn i1 i2 i3) nx).mono (fun y M1 ⟨e, h⟩ => ?_)⟩
      rw [e, eL]
      exact ⟨g1, g2, g3, h⟩
    rw [if_neg q23]
    by_cases q24 : and32 (M (-2000) x3) 31 = 24
    · rw [if_pos q24]
      refine ⟨g1, g2, g3, (go_on (oMade hC hM hch hR hn i1 i2 i3) nx).mono (fun y M1 ⟨e, h⟩ => ?_)⟩
      rw [e, eL]
      exact ⟨g1, g2, g3, h⟩
    rw [if_neg q24]
    by_cases q25 : and32 (M (-2000) x3) 31 = 25
    · rw [if_pos q25]
      refine ⟨g1, (go_on (oLearn hC hM hch hR hn i1) nx).mono (fun y M1 ⟨e, h⟩ => ?_)⟩
      rw [e, eL]
      exact ⟨g1, h⟩
    rw [if_neg q25]
    by_cases q26 : and32 (M (-2000) x3) 31 = 26
    · rw [if_pos q26]
      refine ⟨g1, (go_on (oForget hC hM hch hR hn i1) nx).mono (fun y M1 ⟨e, h⟩ => ?_)⟩
      rw [e, eL]
      exact ⟨g1, h⟩
    rw [if_neg q26]
    by_cases q27 : and32 (M (-2000) x3) 31 = 27
    · rw [if_pos q27]
      refine ⟨g1, g2, (go_on (oCost hC hM hch hR hn i1 i2) nx).mono (fun y M1 ⟨e, h⟩ => ?_)⟩
      rw [e, eL]
      exact ⟨g1, g2, h⟩
    rw [if_neg q27]
    by_cases q28 : and32 (M (-2000) x3) 31 = 28
    · rw [if_pos q28]
      refine (go_on (oUndo hC hM hch hR hn ) nx).mono (fun y M1 ⟨e, h⟩ => ?_)
      exact h
    rw [if_neg q28]
    by_cases q29 : and32 (M (-2000) x3) 31 = 29
    · rw [if_pos q29]
      refine ⟨g1, (go_on (oAbout hC hM hch hR hn i1) nx).mono (fun y M1 ⟨e, h⟩ => ?_)⟩
      rw [e, eL]
      exact ⟨g1, h⟩
    rw [if_neg q29]
    exact nx M ⟨p, p', q, q', ft, fp, T, L, W, S, c, E, A, hC, hM, hch, hR, hn⟩
theorem law_ok (L : Nat) (xs : Nat → Int32) (hL : L ≤ 3072) : ∃ (n : Nat) (M' : Mem) (sh' : Sh), run n LAWN 0 (entL LAWN [vR (-2000)]) [] (M0 L xs) [] = some (vI 1, M', sh') ∧ sh'.length ≤ 600000 ∧ slotsOf sh' ≤ 7302250 := by
  obtain ⟨n, r, M', h1, h2⟩ := law_begin (L := L) (xs := xs) (Q := fun r _ => r = vI 1) (fun N hF hneg => both_i hF (fun M' e hC hM hR => tl_298_15 (loop_ok hL 600 0 M' (by decide) (by decide) (by omega) ⟨_, _, _, _, _, _, _, _, _, _, _, _, _, hC, hM, chn_nil, hR, fun k hk => (e k (by omega)).trans (hneg k hk)⟩)))
  subst h2
  exact ⟨n, M', SH, h1, by decide +kernel, by decide +kernel⟩
end LOOP
