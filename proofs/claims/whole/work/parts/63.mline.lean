/-! one directive by the model; how a directive goes on -/
section MLI
variable {M M' : Mem} {fp ft : Int} {T : List Int} {t : Tk} {g : Gs} {r : Rs (Tk × Gs)} {L : Lw} {d : Int}
theorem dir_roo (hd : dirOf T t = d) (h : 0 ≤ d ∧ d ≤ 3) : fin T (thn (roo T d t g) (body T d)) = dirR T t g := by
  unfold dirR roo
  rw [hd, if_neg (show ¬ d < 0 by omega), if_neg (show ¬ 3 < d by omega), show mark g d = g from if_pos (by omega)]
  by_cases q : full g d = true
  · rw [if_pos q, if_pos q]
    rfl
  · rw [if_neg q, if_neg q]
    rfl
theorem dir_onc (hd : dirOf T t = d) (h : 5 ≤ d ∧ d ≤ 10) : fin T (thn (onc T d t g) (body T d)) = dirR T t g := by
  unfold dirR onc
  rw [hd, if_neg (show ¬ d < 0 by omega), if_pos (show 3 < d by omega)]
  by_cases q : full g d = true
  · rw [if_pos q, if_pos q]
    rfl
  · rw [if_neg q, if_neg q]
    rfl
theorem dir_cost (hd : dirOf T t = 4) : fin T (bCost T (nx T t) g) = dirR T t g := by
  unfold dirR
  rw [hd, if_neg (by decide)]
  have : full g 4 = false := by
    unfold full
    rw [if_neg (by decide), if_neg (by decide), if_neg (by decide), if_neg (by decide), if_pos rfl]
  rw [this, if_neg (by decide)]
  rfl
theorem dir_no (hd : dirOf T t < 0) : fin T (.error (wrg t, (t.2.1 : Int))) = dirR T t g := by
  unfold dirR
  rw [if_pos hd]
  rfl
theorem m207 {Q : Mem → Prop} (hP : PtrM M) (hS : StM M T fp (.ok (t, g))) (hQ : ∀ M' : Mem, FrN M M' → StM M' T fp (dirR T t g) → Q M') : WV 207 [vR 204] M Q := by
  have ht : TmR M T t 0 fp := hS.1
  have m := fun {P : Int → Mem → Prop} {i : Nat} {x : Int} (hi : i < 18) (hx : x = ky (kw i) 0 (kw i).length) => (m190k (Q := P) ht hi hx)
  have kr := fun i => b2i_r (isK T t i)
  have off : ∀ i : Nat, ¬ isK T t i = true → b2i (isK T t i) = 0 := fun i z => by
    cases hh : isK T t i
    · rfl
    · exact absurd hh z
  have on : ∀ i : Nat, isK T t i = true → ¬ b2i (isK T t i) = 0 := fun i z => by rw [z]; decide
  have k1 : ∀ i, isK T t i = true → t.1 = 1 := fun i z => (of_decide_eq_true z).1
  -- what a line ends with
  have stop : ∀ (r : Rs (Tk × Gs)), fin T r = dirR T t g → ∀ M1 : Mem, FrN M M1 → StM M1 T fp r → WV 191 [vR 204, vI 3] M1 Q := fun r er M1 f1 s1 => m191s s1 (fun M2 f2 s2 => hQ M2 (f1.tr f2.n) (by rw [← er]; exact s2))
  refine t_207 o204 ?_
  rw [m (i := 0) (by decide) (by decide)]
  refine ⟨by have := kr 0; omega, ?_⟩
  by_cases q0 : isK T t 0 = true
  · rw [if_neg (on 0 q0)]
    exact m195 hS (k1 0 q0) (stop _ (dir_roo (d := 0) (by unfold dirOf; rw [if_pos q0]) (by decide)))
  rw [if_pos (off 0 q0), m (i := 1) (by decide) (by decide)]
  refine ⟨by have := kr 1; omega, ?_⟩
  by_cases q1 : isK T t 1 = true
  · rw [if_neg (on 1 q1)]
    exact m196 hS (k1 1 q1) (stop _ (dir_roo (d := 1) (by unfold dirOf; rw [if_neg q0, if_pos q1]) (by decide)))
  rw [if_pos (off 1 q1), m (i := 2) (by decide) (by decide)]
  refine ⟨by have := kr 2; omega, ?_⟩
  by_cases q2 : isK T t 2 = true
  · rw [if_neg (on 2 q2)]
    exact m197 hS (k1 2 q2) (stop _ (dir_roo (d := 2) (by unfold dirOf; rw [if_neg q0, if_neg q1, if_pos q2]) (by decide)))
  rw [if_pos (off 2 q2), m (i := 5) (by decide) (by decide)]
  refine ⟨by have := kr 5; omega, ?_⟩
  by_cases q5 : isK T t 5 = true
  · rw [if_neg (on 5 q5)]
    have q3 : ¬ isK T t 3 = true := by rw [isK_one q5 (by decide) (by decide) (by decide)]; decide
    have q4 : ¬ isK T t 4 = true := by rw [isK_one q5 (by decide) (by decide) (by decide)]; decide
    exact m205 hS (k1 5 q5) (stop _ (dir_onc (d := 5) (by unfold dirOf; rw [if_neg q0, if_neg q1, if_neg q2, if_neg q3, if_neg q4, if_pos q5]) (by decide)))
  rw [if_pos (off 5 q5), m (i := 6) (by decide) (by decide)]
  refine ⟨by have := kr 6; omega, ?_⟩
  by_cases q6 : isK T t 6 = true
  · rw [if_neg (on 6 q6)]
    have q3 : ¬ isK T t 3 = true := by rw [isK_one q6 (by decide) (by decide) (by decide)]; decide
    have q4 : ¬ isK T t 4 = true := by rw [isK_one q6 (by decide) (by decide) (by decide)]; decide
    exact m200 hS (k1 6 q6) (stop _ (dir_onc (d := 6) (by unfold dirOf; rw [if_neg q0, if_neg q1, if_neg q2, if_neg q3, if_neg q4, if_neg q5, if_pos q6]) (by decide)))
  rw [if_pos (off 6 q6), m (i := 4) (by decide) (by decide)]
  refine ⟨by have := kr 4; omega, ?_⟩
  by_cases q4 : isK T t 4 = true
  · rw [if_neg (on 4 q4)]
    have q3 : ¬ isK T t 3 = true := by rw [isK_one q4 (by decide) (by decide) (by decide)]; decide
    exact m199 hS (stop _ (dir_cost (by unfold dirOf; rw [if_neg q0, if_neg q1, if_neg q2, if_neg q3, if_pos q4])))
  rw [if_pos (off 4 q4), m (i := 7) (by decide) (by decide)]
  refine ⟨by have := kr 7; omega, ?_⟩
  by_cases q7 : isK T t 7 = true
  · rw [if_neg (on 7 q7)]
    have q3 : ¬ isK T t 3 = true := by rw [isK_one q7 (by decide) (by decide) (by decide)]; decide
    exact m201 hP hS (k1 7 q7) (stop _ (dir_onc (d := 7) (by unfold dirOf; rw [if_neg q0, if_neg q1, if_neg q2, if_neg q3, if_neg q4, if_neg q5, if_neg q6, if_pos q7]) (by decide)))
  rw [if_pos (off 7 q7), m (i := 8) (by decide) (by decide)]
  refine ⟨by have := kr 8; omega, ?_⟩
  by_cases q8 : isK T t 8 = true
  · rw [if_neg (on 8 q8)]
    have q3 : ¬ isK T t 3 = true := by rw [isK_one q8 (by decide) (by decide) (by decide)]; decide
    exact m202 hS (k1 8 q8) (stop _ (dir_onc (d := 8) (by unfold dirOf; rw [if_neg q0, if_neg q1, if_neg q2, if_neg q3, if_neg q4, if_neg q5, if_neg q6, if_neg q7, if_pos q8]) (by decide)))
  rw [if_pos (off 8 q8), m (i := 9) (by decide) (by decide)]
  refine ⟨by have := kr 9; omega, ?_⟩
  by_cases q9 : isK T t 9 = true
  · rw [if_neg (on 9 q9)]
    have q3 : ¬ isK T t 3 = true := by rw [isK_one q9 (by decide) (by decide) (by decide)]; decide
    exact m203 hS (k1 9 q9) (stop _ (dir_onc (d := 9) (by unfold dirOf; rw [if_neg q0, if_neg q1, if_neg q2, if_neg q3, if_neg q4, if_neg q5, if_neg q6, if_neg q7, if_neg q8, if_pos q9]) (by decide)))
  rw [if_pos (off 9 q9), m (i := 10) (by decide) (by decide)]
  refine ⟨by have := kr 10; omega, ?_⟩
  by_cases q10 : isK T t 10 = true
  · rw [if_neg (on 10 q10)]
    have q3 : ¬ isK T t 3 = true := by rw [isK_one q10 (by decide) (by decide) (by decide)]; decide
    exact m206 hS (k1 10 q10) (stop _ (dir_onc (d := 10) (by unfold dirOf; rw [if_neg q0, if_neg q1, if_neg q2, if_neg q3, if_neg q4, if_neg q5, if_neg q6, if_neg q7, if_neg q8, if_neg q9, if_pos q10]) (by decide)))
  rw [if_pos (off 10 q10), m (i := 3) (by decide) (by decide)]
  refine ⟨by have := kr 3; omega, ?_⟩
  by_cases q3 : isK T t 3 = true
  · rw [if_neg (on 3 q3)]
    exact m204 hS (k1 3 q3) (stop _ (dir_roo (d := 3) (by unfold dirOf; rw [if_neg q0, if_neg q1, if_neg q2, if_pos q3]) (by decide)))
  rw [if_pos (off 3 q3)]
  have wr := @wrg_r t
  refine m188 ht (by decide) (fun M1 f1 h1 => ?_)
  have ew : (if (0 : Int) = 0 then (if t.1 = 4 then (1 : Int) else 2) else 0) = wrg t := by rw [if_pos rfl]; rfl
  rw [ew, if_pos rfl] at h1
  exact stop _ (dir_no (by unfold dirOf; rw [if_neg q0, if_neg q1, if_neg q2, if_neg q3, if_neg q4, if_neg q5, if_neg q6, if_neg q7, if_neg q8, if_neg q9, if_neg q10]; decide)) M1 f1.n ⟨⟨(show 1 ≤ wrg t by omega), (show wrg t ≤ 5 by omega)⟩, t, h1⟩
/-! a directive goes on -/
theorem tk_s {s : Nat} : (tkAt T s).2.1 = s := by
  unfold tkAt
  split
  · rfl
  · split
    · split <;> rfl
    · split
      · split
        · rfl
        · split <;> rfl
      · split <;> rfl
theorem nx_ge : t.2.1 + t.2.2 ≤ (nx T t).2.1 := by
  unfold nx nxt
  rw [tk_s]
  omega
theorem bNum_ge {i : Nat} {lo hi : Int} {y : Tk × Gs} (h : bNum T i lo hi t g = .ok y) : t.2.1 ≤ y.1.2.1 := by
  have := if_ok h
  cases this
  have := @nx_ge T t
  show t.2.1 ≤ (nx T t).2.1
  omega
theorem body_ge {y : Tk × Gs} (hd : 0 ≤ d ∧ d ≤ 10) (h : body T d t g = .ok y) : t.2.1 ≤ y.1.2.1 := by
  have n1 := @nx_ge T t
  have n2 := @nx_ge T (nx T t)
  have n3 := @nx_ge T (nx T (nx T t))
  unfold body at h
  by_cases q0 : d = 0
  · rw [if_pos q0] at h
    have := if_ok (if_ok (if_ok (if_ok h)))
    cases this
    show t.2.1 ≤ (if isK T (nx T (nx T t)) 11 = true then nx T (nx T (nx T t)) else nx T (nx T t)).2.1
    split <;> omega
  rw [if_neg q0] at h
  by_cases q1 : d = 1
  · rw [if_pos q1] at h
    have := if_ok (if_ok h)
    cases this
    show t.2.1 ≤ (nx T t).2.1
    omega
  rw [if_neg q1] at h
  by_cases q2 : d = 2
  · rw [if_pos q2] at h
    have := if_ok (if_ok h)
    cases this
    show t.2.1 ≤ (nx T t).2.1
    omega
  rw [if_neg q2] at h
  by_cases q3 : d = 3
  · rw [if_pos q3] at h
    have := if_ok h
    cases this
    show t.2.1 ≤ (nx T t).2.1
    omega
  rw [if_neg q3] at h
  by_cases q4 : d = 4
  · rw [if_pos q4] at h
    have := if_ok (if_ok (if_ok h))
    cases this
    show t.2.1 ≤ (nx T (nx T t)).2.1
    omega
  rw [if_neg q4] at h
  by_cases q5 : d = 5
  · rw [if_pos q5] at h
    exact bNum_ge h
  rw [if_neg q5] at h
  by_cases q6 : d = 6
  · rw [if_pos q6] at h
    obtain ⟨x, h1, h2⟩ := thn_ok h
    exact Nat.le_trans (bNum_ge h1) (bNum_ge h2)
  rw [if_neg q6] at h
  by_cases q7 : d = 7
  · rw [if_pos q7] at h
    obtain ⟨x3, h3, h4⟩ := thn_ok h
    obtain ⟨x2, h2, h3⟩ := thn_ok h3
    obtain ⟨x1, h1, h2⟩ := thn_ok h2
    exact Nat.le_trans (bNum_ge h1) (Nat.le_trans (bNum_ge h2) (Nat.le_trans (bNum_ge h3) (bNum_ge h4)))
  rw [if_neg q7] at h
  by_cases q8 : d = 8
  · rw [if_pos q8] at h
    obtain ⟨x, h1, h2⟩ := thn_ok h
    refine Nat.le_trans (bNum_ge h1) ?_
    by_cases q : x.1.1 = 2
    · rw [if_pos q] at h2
      exact bNum_ge h2
    · rw [if_neg q] at h2
      cases h2
      exact Nat.le_refl _
  rw [if_neg q8] at h
  by_cases q9 : d = 9
  · rw [if_pos q9] at h
    have := if_ok h
    cases this
    show t.2.1 ≤ (nx T t).2.1
    omega
  rw [if_neg q9] at h
  exact bNum_ge h
theorem dir_ge {y : Tk × Gs} (ok : TkOk T t) (h0 : t.1 ≠ 0) (h : dirR T t g = .ok y) : t.2.1 + 1 ≤ y.1.2.1 := by
  have n1 := @nx_ge T t
  have l1 := ok.2.2.2.1 h0
  have dr := @dir_r T t
  unfold dirR at h
  by_cases q : dirOf T t < 0
  · rw [if_pos q] at h
    cases h
  rw [if_neg q] at h
  have h := if_ok h
  obtain ⟨x, h1, h2⟩ := thn_ok h
  have := if_ok h2
  cases this
  have b := body_ge (by omega) h1
  have n2 := @nx_ge T x.1
  show t.2.1 + 1 ≤ (nx T x.1).2.1
  omega
end MLI
