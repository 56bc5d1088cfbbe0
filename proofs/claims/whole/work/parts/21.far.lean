/-! HOW UNLIKE two sounds are, on both sides. -/
def chg (L : Lw) (a b : Int) : Int := if a = b then 0 else max 1 ((if opn L a - opn L b < 0 then -(opn L a - opn L b) else opn L a - opn L b) + (if pkn L a = pkn L b then 0 else 3))
theorem chg_r {L : Lw} (h : Wf L) (a b : Int) : 0 ≤ chg L a b ∧ chg L a b ≤ 13 := by
  have h1 := opn_r h a
  have h2 := opn_r h b
  unfold chg
  repeat' split
  all_goals omega
section FA
variable {M : Mem} {p : Int} {L : Lw} {a b : Int}
theorem s97 {Q : Int → Mem → Prop} (h : LawIs M p L) (ha : inR a) (hb : inR b) : WI 97 [vR (p + 1), vI a, vI b] M Q = Q (chg L a b) M := by
  have hw := h.2.2.2.2.2
  have h1 := opn_r hw a
  have h2 := opn_r hw b
  have e1 := b2i_r (pkn L a)
  have e2 := b2i_r (pkn L b)
  refine FN.wi (WC.fn (t_97 h.o.2 ⟨ha, hb, ?_⟩))
  unfold chg
  by_cases q : a = b
  · rw [if_pos q, if_pos q]
    exact ⟨rfl, rfl⟩
  rw [if_neg q, if_neg q, s93 h ha, s93 h hb, s94 h ha, s94 h hb]
  have e3 : (if opn L a - opn L b < 0 then -(opn L a - opn L b) else opn L a - opn L b) ≤ 10 ∧ 0 ≤ (if opn L a - opn L b < 0 then -(opn L a - opn L b) else opn L a - opn L b) := by split <;> omega
  refine ⟨by omega, by omega, by omega, ?_⟩
  by_cases q2 : pkn L a = pkn L b
  · rw [if_pos (by rw [q2]), if_pos q2]
    exact ⟨by omega, rfl, rfl⟩
  · have q3 : ¬ b2i (pkn L a) = b2i (pkn L b) := by
      cases hp : pkn L a <;> cases hq : pkn L b <;> simp_all [b2i]
    rw [if_neg q3, if_neg q2]
    exact ⟨by omega, rfl, rfl⟩
theorem m267 {Q : Int → Mem → Prop} (h : MLaw M L) (a0 : 0 ≤ a) (a1 : a < Ln L) (b0 : 0 ≤ b) (b1 : b < Ln L) : WI 267 [vR 204, vI a, vI b] M Q = Q (chg L a b) M := by
  have hw := h.2.2.2.2
  have hn := hw.1.1
  have h1 := opn_r hw a
  have h2 := opn_r hw b
  obtain ⟨-, x1, x2⟩ := h.2.1.2.1 a a0 a1
  obtain ⟨-, y1, y2⟩ := h.2.1.2.1 b b0 b1
  have e1 := b2i_r (Lpk L a)
  have e2 := b2i_r (Lpk L b)
  have g1 : ∀ {i : Int}, 0 ≤ i → i < Ln L → gA 20 221 i := fun {i} p q => gC sz_220.2 p (by show _ < ((16 : Nat) : Int); omega)
  refine FN.wi (WC.fn (t_267 o204 ⟨by omega, by omega, ?_⟩))
  unfold chg
  by_cases q : a = b
  · rw [if_pos q, if_pos q]
    exact ⟨rfl, rfl⟩
  rw [if_neg q, if_neg q, h.1.at (show ((50 : Int), (220 : Int)) ∈ mpT by decide), h.1.at (show ((51 : Int), (221 : Int)) ∈ mpT by decide), x1, x2, y1, y2, pkn_eq a0 a1, pkn_eq b0 b1]
  rw [opn_on a0 a1] at h1 ⊢
  rw [opn_on b0 b1] at h2 ⊢
  refine ⟨g220 h a0 a1, g220 h b0 b1, by omega, ?_⟩
  have q4 : (b2i (Lpk L a) = b2i (Lpk L b)) ↔ Lpk L a = Lpk L b := by
    cases Lpk L a <;> cases Lpk L b <;> decide
  by_cases q1 : 0 ≤ Lop L a - Lop L b
  · rw [if_pos q1, if_neg (show ¬ Lop L a - Lop L b < 0 by omega)]
    refine ⟨g1 a0 a1, g1 b0 b1, by omega, by omega, ?_⟩
    by_cases q2 : Lpk L a = Lpk L b
    · rw [if_pos (q4.mpr q2), if_pos q2, m180 (by decide) (by omega)]
      exact ⟨rfl, rfl⟩
    · rw [if_neg (fun z => q2 (q4.mp z)), if_neg q2, m180 (by decide) (by omega)]
      exact ⟨rfl, rfl⟩
  · rw [if_neg q1, if_pos (show Lop L a - Lop L b < 0 by omega)]
    refine ⟨g1 a0 a1, g1 b0 b1, by omega, by omega, ?_⟩
    by_cases q2 : Lpk L a = Lpk L b
    · rw [if_pos (q4.mpr q2), if_pos q2, m180 (by decide) (by omega)]
      exact ⟨rfl, rfl⟩
    · rw [if_neg (fun z => q2 (q4.mp z)), if_neg q2, m180 (by decide) (by omega)]
      exact ⟨rfl, rfl⟩
end FA
