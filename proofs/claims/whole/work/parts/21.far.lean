/-! HOW UNLIKE two sounds are, on both sides. -/
def chg (L : Lw) (a b : Int) : Int := if a = b then 0 else max 1 ((if opn L a - opn L b < 0 then -(opn L a - opn L b) else opn L a - opn L b) + (if pkn L a = pkn L b then 0 else 3))
theorem chg_r {L : Lw} (h : Wf L) (a b : Int) : 0 ≤ chg L a b ∧ chg L a b ≤ 13 := by
  have h1 := opn_r h a
  have h2 := opn_r h b
  unfold chg
  repeat' split
  all_goals omega
section FA
variable {M : Mem} {p : Int} {L : Lw} {a b : Int}
theorem s97 {Q : Int → Mem → Prop} (h : LawIs M p L) (ha : inR a) (hb : inR b) : WI 97 [vR (p + 1), vI a, vI b] M Q = Q (chg L a b) M := by
  have hw := h.2.2.2.2.2
  have h1 := opn_r hw a
  have h2 := opn_r hw b
  have e1 := b2i_r (pkn L a)
  have e2 := b2i_r (pkn L b)
  refine FN.wi (WC.fn (t_97 h.o.2 ⟨ha, hb, ?_⟩))
  unfold chg
  by_cases q : a = b
  · rw [if_pos q, if_pos q]
    exact ⟨rfl, rfl⟩
  rw [if_neg q, if_neg q, s93 h ha, s93 h hb, s94 h ha, s94 h hb]
  have e3 : (if opn L a - opn L b < 0 then -(opn L a - opn L b) else opn L a - opn L b) ≤ 10 ∧ 0 ≤ (if opn L a - opn L b < 0 then -(opn L a - opn L b) else opn L a - opn L b) := by split <;> omega
  refine ⟨by omega, by omega, by omega, ?_⟩
  by_cases q2 : pkn L a = pkn L b
  · rw [if_pos (by rw [q2]), if_pos q2]
    exact ⟨by omega, rfl, rfl⟩
  · have q3 : ¬ b2i (pkn L a) = b2i (pkn L b) := by
      cases hp : pkn L a <;> cases hq : pkn L b <;> simp_all [b2i]
    rw [if_neg q3, if_neg q2]
    exact ⟨by omega, rfl, rfl⟩
end FA
