/-! one directive by the class -/
section CD
variable {M M' : Mem} {fp p : Int} {T : List Int} {t : Tk} {L : Lw} {g g1 g2 : Gs}
/-- how the tables have grown -/
def Grw (a b c d : Nat) (g g2 : Gs) : Prop := Ln g2.1 = Ln g.1 + a ∧ (Ltd g2.1).length = (Ltd g.1).length + b ∧ (Lgl g2.1).length = (Lgl g.1).length + c ∧ g2.2.1.length = g.2.1.length + d ∧ g2.2.2.2.1 = g.2.2.2.1
theorem Grw.tr (h : Grw 0 0 0 0 g g1) (k : Grw 0 0 0 0 g1 g2) : Grw 0 0 0 0 g g2 := ⟨k.1.trans h.1, k.2.1.trans h.2.1, k.2.2.1.trans h.2.2.1, k.2.2.2.1.trans h.2.2.2.1, k.2.2.2.2.trans h.2.2.2.2⟩
theorem thn_ok {r : Rs (Tk × Gs)} {f : Tk → Gs → Rs (Tk × Gs)} {y : Tk × Gs} (h : thn r f = .ok y) : ∃ x, r = .ok x ∧ f x.1 x.2 = .ok y := by
  cases r with
  | error e => cases h
  | ok x => exact ⟨x, rfl, h⟩
theorem if_ok {P : Prop} [Decidable P] {e : Int × Int} {b : Rs (Tk × Gs)} {y : Tk × Gs} (h : (if P then .error e else b) = .ok y) : b = .ok y := by
  by_cases q : P
  · rw [if_pos q] at h; cases h
  · rw [if_neg q] at h; exact h
theorem bNum_g {i : Nat} {lo hi : Int} {y : Tk × Gs} (h : bNum T i lo hi t g = .ok y) : Grw 0 0 0 0 g y.2 := by
  have := if_ok h
  cases this
  exact ⟨rfl, rfl, rfl, rfl, rfl⟩
theorem body_g {d : Int} {y : Tk × Gs} (hd : 0 ≤ d ∧ d ≤ 10) (h : body T d t g = .ok y) : Grw (if d = 0 then 1 else 0) (if d = 1 then 1 else 0) (if d = 2 then 1 else 0) (if d = 3 then 1 else 0) g y.2 := by
  unfold body at h
  by_cases q0 : d = 0
  · rw [if_pos q0] at h
    have := if_ok (if_ok (if_ok (if_ok h)))
    cases this
    subst q0
    exact ⟨rfl, rfl, rfl, rfl, rfl⟩
  rw [if_neg q0] at h
  by_cases q1 : d = 1
  · rw [if_pos q1] at h
    have := if_ok (if_ok h)
    cases this
    subst q1
    exact ⟨rfl, by show (Ltd g.1 ++ [_]).length = _; rw [List.length_append]; rfl, rfl, rfl, rfl⟩
  rw [if_neg q1] at h
  by_cases q2 : d = 2
  · rw [if_pos q2] at h
    have := if_ok (if_ok h)
    cases this
    subst q2
    exact ⟨rfl, rfl, by show (Lgl g.1 ++ [_]).length = _; rw [List.length_append]; rfl, rfl, rfl⟩
  rw [if_neg q2] at h
  by_cases q3 : d = 3
  · rw [if_pos q3] at h
    have := if_ok h
    cases this
    subst q3
    exact ⟨rfl, rfl, rfl, by show (g.2.1 ++ [_]).length = _; rw [List.length_append]; rfl, rfl⟩
  rw [if_neg q3] at h
  rw [if_neg q0, if_neg q1, if_neg q2, if_neg q3]
  by_cases q4 : d = 4
  · rw [if_pos q4] at h
    have := if_ok (if_ok (if_ok h))
    cases this
    exact ⟨rfl, rfl, rfl, rfl, rfl⟩
  rw [if_neg q4] at h
  by_cases q5 : d = 5
  · rw [if_pos q5] at h
    exact bNum_g h
  rw [if_neg q5] at h
  by_cases q6 : d = 6
  · rw [if_pos q6] at h
    obtain ⟨x, h1, h2⟩ := thn_ok h
    exact (bNum_g h1).tr (bNum_g h2)
  rw [if_neg q6] at h
  by_cases q7 : d = 7
  · rw [if_pos q7] at h
    obtain ⟨x3, h3, h4⟩ := thn_ok h
    obtain ⟨x2, h2, h3⟩ := thn_ok h3
    obtain ⟨x1, h1, h2⟩ := thn_ok h2
    exact (((bNum_g h1).tr (bNum_g h2)).tr (bNum_g h3)).tr (bNum_g h4)
  rw [if_neg q7] at h
  by_cases q8 : d = 8
  · rw [if_pos q8] at h
    obtain ⟨x, h1, h2⟩ := thn_ok h
    refine (bNum_g h1).tr ?_
    by_cases q : x.1.1 = 2
    · rw [if_pos q] at h2
      exact bNum_g h2
    · rw [if_neg q] at h2
      cases h2
      exact ⟨rfl, rfl, rfl, rfl, rfl⟩
  rw [if_neg q8] at h
  by_cases q9 : d = 9
  · rw [if_pos q9] at h
    have := if_ok h
    cases this
    exact ⟨rfl, rfl, rfl, rfl, rfl⟩
  rw [if_neg q9] at h
  exact bNum_g h
/-- the class's counts of the directives -/
def CtC (M : Mem) (g : Gs) (x : Int) : Prop := M 7 0 = Ln g.1 ∧ M 7 1 = (Ltd g.1).length ∧ M 7 2 = (Lgl g.1).length ∧ M 7 3 = g.2.1.length ∧ (0 ≤ M 7 4 ∧ M 7 4 ≤ x) ∧ ∀ d : Int, 5 ≤ d → d ≤ 10 → M 7 d = b2i (g.2.2.2.1 (d - 5))
theorem ct_full {x d : Int} (h : CtC M g x) (hg : Ln g.1 ≤ 16 ∧ (Ltd g.1).length ≤ 12 ∧ (Lgl g.1).length ≤ 6 ∧ g.2.1.length ≤ 20) (hx : x < 900) (hd : 0 ≤ d ∧ d ≤ 10) : (M 7 d < lim d ↔ full g d = false) ∧ 0 ≤ M 7 d ∧ M 7 d ≤ 900 := by
  obtain ⟨c0, c1, c2, c3, c4, c5⟩ := h
  unfold lim full
  by_cases q0 : d = 0
  · rw [if_pos q0, if_pos q0, q0, c0, decide_eq_false_iff_not]; omega
  rw [if_neg q0, if_neg q0]
  by_cases q1 : d = 1
  · rw [if_pos q1, if_pos q1, q1, c1, decide_eq_false_iff_not]; omega
  rw [if_neg q1, if_neg q1]
  by_cases q2 : d = 2
  · rw [if_pos q2, if_pos q2, q2, c2, decide_eq_false_iff_not]; omega
  rw [if_neg q2, if_neg q2]
  by_cases q3 : d = 3
  · rw [if_pos q3, if_pos q3, q3, c3, decide_eq_false_iff_not]; omega
  rw [if_neg q3, if_neg q3]
  by_cases q4 : d = 4
  · rw [if_pos q4, if_pos q4, q4]
    exact ⟨⟨fun _ => rfl, fun _ => by omega⟩, by omega, by omega⟩
  rw [if_neg q4, if_neg q4, c5 d (by omega) (by omega)]
  cases g.2.2.2.1 (d - 5)
  · exact ⟨⟨fun _ => rfl, fun _ => by decide⟩, by decide, by decide⟩
  · exact ⟨⟨fun z => absurd z (by decide), fun z => by cases z⟩, by decide, by decide⟩
theorem StC.mk {d : Int} (h : StC M p T fp (.ok (t, g))) : StC M p T fp (.ok (t, mark g d)) := by
  obtain ⟨h1, h2, h3, g1, g2, g3, g4, g5⟩ := h
  by_cases q : d < 5
  · have e : mark g d = g := if_pos q
    rw [e]
    exact ⟨h1, h2, h3, g1, g2, g3, g4, g5⟩
  · have e : mark g d = (g.1, g.2.1, g.2.2.1, setB g.2.2.2.1 (d - 5), g.2.2.2.2) := if_neg q
    rw [e]
    refine ⟨h1, h2, h3, g1, g2, g3, g4, fun z => g5 ?_⟩
    replace z : setB g.2.2.2.1 (d - 5) 3 = false := z
    unfold setB at z
    split at z
    · cases z
    · exact z
end CD
