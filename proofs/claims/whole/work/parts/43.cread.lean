/-! the class's reader: faults, names, numbers; the law's rules -/
section CR
variable {M M' : Mem} {ft fp : Int} {T : List Int} {t : Tk}
/-- the first fault stays -/
def Aft (ft fp er pl ft' fp' : Int) : Prop := (ft ≠ 0 → ft' = ft ∧ fp' = fp) ∧ (ft = 0 → ft' = er ∧ fp' = if er = 0 then fp else pl)
theorem Aft.r {ft fp er pl ft' fp' : Int} (h : Aft ft fp er pl ft' fp') (hf : 0 ≤ ft ∧ ft ≤ 5) (he : 0 ≤ er ∧ er ≤ 5) : 0 ≤ ft' ∧ ft' ≤ 5 := by
  by_cases q : ft = 0
  · rw [(h.2 q).1]; exact he
  · rw [(h.1 q).1]; exact hf
theorem aft_if {ft fp er pl : Int} (he : er ≠ 0) : Aft ft fp er pl (if ft = 0 then er else ft) (if ft = 0 then pl else fp) := ⟨fun z => by rw [if_neg z, if_neg z]; exact ⟨rfl, rfl⟩, fun z => by rw [if_pos z, if_pos z, if_neg he]; exact ⟨rfl, rfl⟩⟩
theorem aft_0 {ft fp pl : Int} : Aft ft fp 0 pl ft fp := ⟨fun _ => ⟨rfl, rfl⟩, fun z => ⟨z, (if_pos rfl).symm⟩⟩
theorem nEr_r {lo hi : Int} : 0 ≤ nEr T t lo hi ∧ nEr T t lo hi ≤ 5 := by
  have := @wrg_r t
  unfold nEr
  split
  · omega
  · split <;> omega
theorem eEr_r : 0 ≤ eEr t ∧ eEr t ≤ 5 := by
  have := @wrg_r t
  unfold eEr
  split <;> omega
theorem o4 : gO 4 4 := ⟨by decide, by decide +kernel⟩
theorem s76 {Q : Int → Mem → Prop} {lo hi : Int} (h : TpR M T t ft fp) (h4 : M 4 0 = 2) (hf : 0 ≤ ft ∧ ft ≤ 5) (hlo : 0 ≤ lo ∧ lo ≤ hi) (hhi : hi ≤ 999) (hQ : ∀ (M' : Mem) (v : Int) (t' : Tk) (ft' fp' : Int), FrK M M' → TpR M' T t' ft' fp' → (lo ≤ v ∧ v ≤ hi) → Aft ft fp (nEr T t lo hi) t.2.1 ft' fp' → (nEr T t lo hi = 0 → v = nmv T t.2.1 t.2.2 ∧ t' = nx T t) → Q v M') : WI 76 [vR 4, vI lo, vI hi] M Q := by
  have k4 := h.2.2.2.2.2.2.1
  have sh2 : (shA SH 2).1 = 9 := o2.1.2
  have wr := @wrg_r t
  refine t_76 o4 ?_
  rw [h4, h.2.1.1]
  refine ⟨o2.1, by omega, ?_⟩
  by_cases q : t.1 = 2
  rotate_left
  · have en : nEr T t lo hi = wrg t := by unfold nEr; rw [if_pos q]
    rw [if_neg q]
    refine ⟨sh2, s126 h hf (fun M1 g1 h1 => ⟨_, rfl, hQ M1 lo t _ _ g1 h1 ⟨Int.le_refl _, hlo.2⟩ ?_ (fun z => absurd (en.symm.trans z) (by omega))⟩)⟩
    rw [en]
    exact aft_if (by omega)
  have nr := nmv_k h.2.2 q
  rw [if_pos q]
  refine ⟨sh2, ?_⟩
  rw [s131 h q, h4]
  refine ⟨by omega, by omega, ?_⟩
  by_cases q1 : lo ≤ nmv T t.2.1 t.2.2 ∧ nmv T t.2.1 t.2.2 ≤ hi
  · have en : nEr T t lo hi = 0 := by unfold nEr; rw [if_neg (by omega), if_neg (by omega)]
    rw [if_neg (by omega)]
    refine ⟨by omega, ?_⟩
    rw [if_pos q1.2]
    refine ⟨sh2, s128n h (fun M1 g1 h1 => ⟨_, rfl, hQ M1 _ _ ft fp g1 h1 q1 ?_ (fun _ => ⟨rfl, rfl⟩)⟩)⟩
    rw [en]
    exact aft_0
  have en : nEr T t lo hi = 4 := by unfold nEr; rw [if_neg (by omega), if_pos (by omega)]
  have fin : ∀ M1 : Mem, FrK M M1 → TpR M1 T t (if ft = 0 then 4 else ft) (if ft = 0 then (t.2.1 : Int) else fp) → ∃ x, vI lo = vI x ∧ Q x M1 := fun M1 g1 h1 => ⟨_, rfl, hQ M1 lo t _ _ g1 h1 ⟨Int.le_refl _, hlo.2⟩ (by rw [en]; exact aft_if (by decide)) (fun z => absurd (en.symm.trans z) (by decide))⟩
  by_cases q2 : nmv T t.2.1 t.2.2 < lo
  · rw [if_pos q2]
    exact ⟨sh2, s125 h hf fin⟩
  · rw [if_neg q2]
    refine ⟨by omega, ?_⟩
    rw [if_neg (by omega)]
    exact ⟨sh2, s125 h hf fin⟩
theorem s77 {Q : Mem → Prop} (h : TpR M T t ft fp) (h4 : M 4 0 = 2) (hf : 0 ≤ ft ∧ ft ≤ 5) (hQ : ∀ (M' : Mem) (t' : Tk) (ft' fp' : Int), FrK M M' → TpR M' T t' ft' fp' → Aft ft fp (eEr t) t.2.1 ft' fp' → (eEr t = 0 → t' = nx T t) → Q M') : WV 77 [vR 4] M Q := by
  have k4 := h.2.2.2.2.2.2.1
  have sh2 : (shA SH 2).1 = 9 := o2.1.2
  have wr := @wrg_r t
  refine t_77 o4 ?_
  rw [h4, h.2.1.1]
  refine ⟨o2.1, by omega, ?_⟩
  by_cases q : t.1 = 3
  · have en : eEr t = 0 := by unfold eEr; rw [if_pos q]
    rw [if_pos q]
    refine ⟨sh2, s128n h (fun M1 g1 h1 => hQ M1 _ ft fp g1 h1 ?_ (fun _ => rfl))⟩
    rw [en]
    exact aft_0
  · have en : eEr t = wrg t := by unfold eEr; rw [if_neg q]
    rw [if_neg q]
    refine ⟨sh2, s126 h hf (fun M1 g1 h1 => hQ M1 t _ _ g1 h1 ?_ (fun z => absurd (en.symm.trans z) (by omega)))⟩
    rw [en]
    exact aft_if (by omega)
/-- the name that a token is -/
def isK (T : List Int) (t : Tk) (i : Nat) : Bool := decide (t.1 = 1 ∧ tx T t = kw i)
theorem s133k {Q : Int → Mem → Prop} {i : Nat} {x : Int} (h : TpR M T t ft fp) (hi : i < 18) (hx : x = -1 - (i : Int)) : WI 133 [vR 2, vR x] M Q = Q (b2i (isK T t i)) M := s133 h hi hx
theorem kw_inj : ∀ i : Nat, i < 18 → ∀ j : Nat, j < 18 → kw i = kw j → i = j := by decide
theorem isK_one {i j : Nat} (h : isK T t i = true) (hi : i < 18) (hj : j < 18) (e : i ≠ j) : isK T t j = false := decide_eq_false fun z => e (kw_inj i hi j hj ((of_decide_eq_true h).2.symm.trans z.2))
def dirOf (T : List Int) (t : Tk) : Int := if isK T t 0 = true then 0 else if isK T t 1 = true then 1 else if isK T t 2 = true then 2 else if isK T t 3 = true then 3 else if isK T t 4 = true then 4 else if isK T t 5 = true then 5 else if isK T t 6 = true then 6 else if isK T t 7 = true then 7 else if isK T t 8 = true then 8 else if isK T t 9 = true then 9 else if isK T t 10 = true then 10 else -1
def namOf (T : List Int) (t : Tk) : Int := if isK T t 12 = true then 0 else if isK T t 13 = true then 1 else if isK T t 14 = true then 2 else if isK T t 15 = true then 3 else if isK T t 16 = true then 4 else if isK T t 17 = true then 5 else -1
theorem s66 {Q : Int → Mem → Prop} (h : TpR M T t ft fp) (h4 : M 4 0 = 2) : WI 66 [vR 4] M Q = Q (dirOf T t) M := by
  have sh2 : (shA SH 2).1 = 9 := o2.1.2
  refine FN.wi (WC.fn (t_66 o4 ?_))
  unfold dirOf
  rw [h4]
  refine ⟨sh2, ?_⟩
  rw [s133k (i := 0) h (by decide) (by decide)]
  by_cases q0 : isK T t 0 = true
  · rw [if_pos q0, q0]
    refine ⟨by decide, ?_⟩
    rw [if_neg (by decide)]
    exact ⟨rfl, rfl⟩
  rw [if_neg q0, Bool.eq_false_iff.mpr q0]
  refine ⟨by decide, ?_⟩
  rw [if_pos (by decide)]
  rw [h4]
  refine ⟨sh2, ?_⟩
  rw [s133k (i := 1) h (by decide) (by decide)]
  by_cases q1 : isK T t 1 = true
  · rw [if_pos q1, q1]
    refine ⟨by decide, ?_⟩
    rw [if_neg (by decide)]
    exact ⟨rfl, rfl⟩
  rw [if_neg q1, Bool.eq_false_iff.mpr q1]
  refine ⟨by decide, ?_⟩
  rw [if_pos (by decide)]
  rw [h4]
  refine ⟨sh2, ?_⟩
  rw [s133k (i := 2) h (by decide) (by decide)]
  by_cases q2 : isK T t 2 = true
  · rw [if_pos q2, q2]
    refine ⟨by decide, ?_⟩
    rw [if_neg (by decide)]
    exact ⟨rfl, rfl⟩
  rw [if_neg q2, Bool.eq_false_iff.mpr q2]
  refine ⟨by decide, ?_⟩
  rw [if_pos (by decide)]
  rw [h4]
  refine ⟨sh2, ?_⟩
  rw [s133k (i := 3) h (by decide) (by decide)]
  by_cases q3 : isK T t 3 = true
  · rw [if_pos q3, q3]
    refine ⟨by decide, ?_⟩
    rw [if_neg (by decide)]
    exact ⟨rfl, rfl⟩
  rw [if_neg q3, Bool.eq_false_iff.mpr q3]
  refine ⟨by decide, ?_⟩
  rw [if_pos (by decide)]
  rw [h4]
  refine ⟨sh2, ?_⟩
  rw [s133k (i := 4) h (by decide) (by decide)]
  by_cases q4 : isK T t 4 = true
  · rw [if_pos q4, q4]
    refine ⟨by decide, ?_⟩
    rw [if_neg (by decide)]
    exact ⟨rfl, rfl⟩
  rw [if_neg q4, Bool.eq_false_iff.mpr q4]
  refine ⟨by decide, ?_⟩
  rw [if_pos (by decide)]
  rw [h4]
  refine ⟨sh2, ?_⟩
  rw [s133k (i := 5) h (by decide) (by decide)]
  by_cases q5 : isK T t 5 = true
  · rw [if_pos q5, q5]
    refine ⟨by decide, ?_⟩
    rw [if_neg (by decide)]
    exact ⟨rfl, rfl⟩
  rw [if_neg q5, Bool.eq_false_iff.mpr q5]
  refine ⟨by decide, ?_⟩
  rw [if_pos (by decide)]
  rw [h4]
  refine ⟨sh2, ?_⟩
  rw [s133k (i := 6) h (by decide) (by decide)]
  by_cases q6 : isK T t 6 = true
  · rw [if_pos q6, q6]
    refine ⟨by decide, ?_⟩
    rw [if_neg (by decide)]
    exact ⟨rfl, rfl⟩
  rw [if_neg q6, Bool.eq_false_iff.mpr q6]
  refine ⟨by decide, ?_⟩
  rw [if_pos (by decide)]
  rw [h4]
  refine ⟨sh2, ?_⟩
  rw [s133k (i := 7) h (by decide) (by decide)]
  by_cases q7 : isK T t 7 = true
  · rw [if_pos q7, q7]
    refine ⟨by decide, ?_⟩
    rw [if_neg (by decide)]
    exact ⟨rfl, rfl⟩
  rw [if_neg q7, Bool.eq_false_iff.mpr q7]
  refine ⟨by decide, ?_⟩
  rw [if_pos (by decide)]
  rw [h4]
  refine ⟨sh2, ?_⟩
  rw [s133k (i := 8) h (by decide) (by decide)]
  by_cases q8 : isK T t 8 = true
  · rw [if_pos q8, q8]
    refine ⟨by decide, ?_⟩
    rw [if_neg (by decide)]
    exact ⟨rfl, rfl⟩
  rw [if_neg q8, Bool.eq_false_iff.mpr q8]
  refine ⟨by decide, ?_⟩
  rw [if_pos (by decide)]
  rw [h4]
  refine ⟨sh2, ?_⟩
  rw [s133k (i := 9) h (by decide) (by decide)]
  by_cases q9 : isK T t 9 = true
  · rw [if_pos q9, q9]
    refine ⟨by decide, ?_⟩
    rw [if_neg (by decide)]
    exact ⟨rfl, rfl⟩
  rw [if_neg q9, Bool.eq_false_iff.mpr q9]
  refine ⟨by decide, ?_⟩
  rw [if_pos (by decide)]
  rw [h4]
  refine ⟨sh2, ?_⟩
  rw [s133k (i := 10) h (by decide) (by decide)]
  by_cases q10 : isK T t 10 = true
  · rw [if_pos q10, q10]
    refine ⟨by decide, ?_⟩
    rw [if_neg (by decide)]
    exact ⟨rfl, rfl⟩
  rw [if_neg q10, Bool.eq_false_iff.mpr q10]
  refine ⟨by decide, ?_⟩
  rw [if_pos (by decide)]
  exact ⟨rfl, rfl⟩
theorem s74 {Q : Int → Mem → Prop} (h : TpR M T t ft fp) (h4 : M 4 0 = 2) : WI 74 [vR 4] M Q = Q (namOf T t) M := by
  have sh2 : (shA SH 2).1 = 9 := o2.1.2
  refine FN.wi (WC.fn (t_74 o4 ?_))
  unfold namOf
  rw [h4]
  refine ⟨sh2, ?_⟩
  rw [s133k (i := 12) h (by decide) (by decide)]
  by_cases q12 : isK T t 12 = true
  · rw [if_pos q12, q12]
    refine ⟨by decide, ?_⟩
    rw [if_neg (by decide)]
    exact ⟨rfl, rfl⟩
  rw [if_neg q12, Bool.eq_false_iff.mpr q12]
  refine ⟨by decide, ?_⟩
  rw [if_pos (by decide)]
  rw [h4]
  refine ⟨sh2, ?_⟩
  rw [s133k (i := 13) h (by decide) (by decide)]
  by_cases q13 : isK T t 13 = true
  · rw [if_pos q13, q13]
    refine ⟨by decide, ?_⟩
    rw [if_neg (by decide)]
    exact ⟨rfl, rfl⟩
  rw [if_neg q13, Bool.eq_false_iff.mpr q13]
  refine ⟨by decide, ?_⟩
  rw [if_pos (by decide)]
  rw [h4]
  refine ⟨sh2, ?_⟩
  rw [s133k (i := 14) h (by decide) (by decide)]
  by_cases q14 : isK T t 14 = true
  · rw [if_pos q14, q14]
    refine ⟨by decide, ?_⟩
    rw [if_neg (by decide)]
    exact ⟨rfl, rfl⟩
  rw [if_neg q14, Bool.eq_false_iff.mpr q14]
  refine ⟨by decide, ?_⟩
  rw [if_pos (by decide)]
  rw [h4]
  refine ⟨sh2, ?_⟩
  rw [s133k (i := 15) h (by decide) (by decide)]
  by_cases q15 : isK T t 15 = true
  · rw [if_pos q15, q15]
    refine ⟨by decide, ?_⟩
    rw [if_neg (by decide)]
    exact ⟨rfl, rfl⟩
  rw [if_neg q15, Bool.eq_false_iff.mpr q15]
  refine ⟨by decide, ?_⟩
  rw [if_pos (by decide)]
  rw [h4]
  refine ⟨sh2, ?_⟩
  rw [s133k (i := 16) h (by decide) (by decide)]
  by_cases q16 : isK T t 16 = true
  · rw [if_pos q16, q16]
    refine ⟨by decide, ?_⟩
    rw [if_neg (by decide)]
    exact ⟨rfl, rfl⟩
  rw [if_neg q16, Bool.eq_false_iff.mpr q16]
  refine ⟨by decide, ?_⟩
  rw [if_pos (by decide)]
  rw [h4]
  refine ⟨sh2, ?_⟩
  rw [s133k (i := 17) h (by decide) (by decide)]
  by_cases q17 : isK T t 17 = true
  · rw [if_pos q17, q17]
    refine ⟨by decide, ?_⟩
    rw [if_neg (by decide)]
    exact ⟨rfl, rfl⟩
  rw [if_neg q17, Bool.eq_false_iff.mpr q17]
  refine ⟨by decide, ?_⟩
  rw [if_pos (by decide)]
  exact ⟨rfl, rfl⟩
theorem dir_r : -1 ≤ dirOf T t ∧ dirOf T t ≤ 10 := by
  unfold dirOf
  repeat (first | split | omega)
theorem nam_r : -1 ≤ namOf T t ∧ namOf T t ≤ 5 := by
  unfold namOf
  repeat (first | split | omega)
/-- how often a directive may stand -/
def lim (d : Int) : Int := if d = 0 then 16 else if d = 1 then 12 else if d = 2 then 6 else if d = 3 then 20 else if d = 4 then 900 else 1
theorem s67 {Q : Int → Mem → Prop} {d : Int} (hd : 0 ≤ d ∧ d ≤ 10) : WI 67 [vR 4, vI d] M Q = Q (lim d) M := by
  refine FN.wi (WC.fn (t_67 o4 ⟨by omega, ?_⟩))
  unfold lim
  by_cases q0 : d = 0
  · rw [if_pos q0, if_pos q0]; exact ⟨rfl, rfl⟩
  rw [if_neg q0, if_neg q0]
  by_cases q1 : d = 1
  · rw [if_pos q1, if_pos q1]; exact ⟨rfl, rfl⟩
  rw [if_neg q1, if_neg q1]
  by_cases q2 : d = 2
  · rw [if_pos q2, if_pos q2]; exact ⟨rfl, rfl⟩
  rw [if_neg q2, if_neg q2]
  by_cases q3 : d = 3
  · rw [if_pos q3, if_pos q3]; exact ⟨rfl, rfl⟩
  rw [if_neg q3, if_neg q3]
  by_cases q4 : d = 4
  · rw [if_pos q4, if_pos q4]; exact ⟨rfl, rfl⟩
  · rw [if_neg q4, if_neg q4]; exact ⟨rfl, rfl⟩
end CR
