/-! the model's directives: a cost -/
section MCO
variable {M M' : Mem} {fp ft : Int} {T : List Int} {t : Tk} {g : Gs} {r : Rs (Tk × Gs)} {L : Lw}
theorem bits_a (s : Int → Bool) : and32 (bits s / 1) 1 = b2i (s 0) ∧ and32 (bits s / 2) 1 = b2i (s 1) ∧ and32 (bits s / 4) 1 = b2i (s 2) ∧ and32 (bits s / 8) 1 = b2i (s 3) ∧ and32 (bits s / 16) 1 = b2i (s 4) ∧ and32 (bits s / 32) 1 = b2i (s 5) :=
  ⟨bits_and (i := 0) (by decide), bits_and (i := 1) (by decide), bits_and (i := 2) (by decide), bits_and (i := 3) (by decide), bits_and (i := 4) (by decide), bits_and (i := 5) (by decide)⟩
theorem t139e {Q : Mem → Prop} {x : Int} (ht : TmR M T t ft fp) (hf : 1 ≤ ft ∧ ft ≤ 5) (hQ : Q M) : WR 199 139 [some (vR 204), some (vI x), none] [] M (fun _ M' => Q M') := by
  refine t_199_139 o204 ?_
  rw [ht.2.2.2.1]
  refine ⟨by omega, ?_⟩
  rw [if_neg (by omega)]
  exact hQ
/-- behind a fault -/
theorem t24e {Q : Mem → Prop} (ht : TmR M T t ft fp) (hf : 1 ≤ ft ∧ ft ≤ 5) (hQ : Q M) : WR 199 24 [some (vR 204), none, none] [] M (fun _ M' => Q M') := by
  have m := fun {P : Int → Mem → Prop} {i : Nat} {x : Int} (hi : i < 18) (hx : x = ky (kw i) 0 (kw i).length) => (m190f (Q := P) ht hf hi hx)
  refine t_199_24 o204 ?_
  rw [m (i := 12) (by decide) (by decide)]
  refine ⟨by decide, ?_⟩
  rw [if_pos rfl, m (i := 13) (by decide) (by decide)]
  refine ⟨by decide, ?_⟩
  rw [if_pos rfl, m (i := 14) (by decide) (by decide)]
  refine ⟨by decide, ?_⟩
  rw [if_pos rfl, m (i := 15) (by decide) (by decide)]
  refine ⟨by decide, ?_⟩
  rw [if_pos rfl, m (i := 16) (by decide) (by decide)]
  refine ⟨by decide, ?_⟩
  rw [if_pos rfl, m (i := 17) (by decide) (by decide)]
  refine ⟨by decide, ?_⟩
  rw [if_pos rfl, m189 ht.2.2.2.1 (by omega), decide_eq_false (by omega)]
  refine ⟨by decide, ?_⟩
  rw [if_pos (by decide)]
  exact t139e ht hf hQ
/-- the cost's name is looked at: which, told before, or none -/
theorem t24k {Q : AV → Mem → Prop} (ht : TmR M T t 0 fp) (hs : Stg M g) (hA : namOf T t < 0 → WR 199 134 [some (vR 204), some (vI (-1)), none] [] M Q) (hB : 0 ≤ namOf T t → g.2.2.2.2 (namOf T t) = true → WR 199 134 [some (vR 204), some (vI (namOf T t)), none] [] M Q) (hC : 0 ≤ namOf T t → g.2.2.2.2 (namOf T t) = false → WR 199 139 [some (vR 204), some (vI (namOf T t)), none] [] M Q) : WR 199 24 [some (vR 204), none, none] [] M Q := by
  have m := fun {P : Int → Mem → Prop} {i : Nat} {x : Int} (hi : i < 18) (hx : x = ky (kw i) 0 (kw i).length) => (m190k (Q := P) ht hi hx)
  have mm := fun {P : Int → Mem → Prop} => (m189 (Q := P) ht.2.2.2.1 (by decide))
  have e26 : M 204 26 = bits g.2.2.2.2 := hs.2.2.2.2.2.2.1
  have br := bits_r g.2.2.2.2
  obtain ⟨a0, a1, a2, a3, a4, a5⟩ := bits_a g.2.2.2.2
  have kr := fun i => b2i_r (isK T t i)
  have sr := fun i => b2i_r (g.2.2.2.2 i)
  have off : ∀ i : Nat, ¬ isK T t i = true → b2i (isK T t i) = 0 := fun i z => by
    cases hh : isK T t i
    · rfl
    · exact absurd hh z
  have on : ∀ i : Nat, isK T t i = true → ¬ b2i (isK T t i) = 0 := fun i z => by rw [z]; decide
  -- the name is found
  have hit : ∀ (d x : Int), namOf T t = d → 0 ≤ d → and32 (bits g.2.2.2.2 / x) 1 = b2i (g.2.2.2.2 d) → WI 189 [vR 204] M (fun y M1 => inR y ∧ (if y = 0 then (WR 199 139 [some (vR 204), some (vI d), none] [] M1 Q) else ((-2147483648 ≤ (M1 204 26) ∧ (M1 204 26) < 2147483648) ∧ inR (and32 ((M1 204 26) / x) 1) ∧ (if (and32 ((M1 204 26) / x) 1) = 1 then (WR 199 134 [some (vR 204), some (vI d), none] [] M1 Q) else (WR 199 139 [some (vR 204), some (vI d), none] [] M1 Q))))) := fun d x hd h0 ha => by
    have := sr d
    rw [mm]
    refine ⟨by decide, ?_⟩
    rw [if_neg (by decide), e26, ha]
    refine ⟨by omega, by omega, ?_⟩
    cases hh : g.2.2.2.2 d
    · rw [if_neg (by decide)]
      have := hC (by omega) (by rw [hd]; exact hh)
      rw [hd] at this
      exact this
    · rw [if_pos (by decide)]
      have := hB (by omega) (by rw [hd]; exact hh)
      rw [hd] at this
      exact this
  refine t_199_24 o204 ?_
  rw [m (i := 12) (by decide) (by decide)]
  refine ⟨by have := kr 12; omega, ?_⟩
  by_cases q12 : isK T t 12 = true
  · rw [if_neg (on 12 q12)]
    exact hit 0 1 (by unfold namOf; rw [if_pos q12]) (by decide) a0
  rw [if_pos (off 12 q12), m (i := 13) (by decide) (by decide)]
  refine ⟨by have := kr 13; omega, ?_⟩
  by_cases q13 : isK T t 13 = true
  · rw [if_neg (on 13 q13)]
    exact hit 1 2 (by unfold namOf; rw [if_neg q12, if_pos q13]) (by decide) a1
  rw [if_pos (off 13 q13), m (i := 14) (by decide) (by decide)]
  refine ⟨by have := kr 14; omega, ?_⟩
  by_cases q14 : isK T t 14 = true
  · rw [if_neg (on 14 q14)]
    exact hit 2 4 (by unfold namOf; rw [if_neg q12, if_neg q13, if_pos q14]) (by decide) a2
  rw [if_pos (off 14 q14), m (i := 15) (by decide) (by decide)]
  refine ⟨by have := kr 15; omega, ?_⟩
  by_cases q15 : isK T t 15 = true
  · rw [if_neg (on 15 q15)]
    exact hit 3 8 (by unfold namOf; rw [if_neg q12, if_neg q13, if_neg q14, if_pos q15]) (by decide) a3
  rw [if_pos (off 15 q15), m (i := 16) (by decide) (by decide)]
  refine ⟨by have := kr 16; omega, ?_⟩
  by_cases q16 : isK T t 16 = true
  · rw [if_neg (on 16 q16)]
    exact hit 4 16 (by unfold namOf; rw [if_neg q12, if_neg q13, if_neg q14, if_neg q15, if_pos q16]) (by decide) a4
  rw [if_pos (off 16 q16), m (i := 17) (by decide) (by decide)]
  refine ⟨by have := kr 17; omega, ?_⟩
  by_cases q17 : isK T t 17 = true
  · rw [if_neg (on 17 q17)]
    exact hit 5 32 (by unfold namOf; rw [if_neg q12, if_neg q13, if_neg q14, if_neg q15, if_neg q16, if_pos q17]) (by decide) a5
  rw [if_pos (off 17 q17), mm]
  refine ⟨by decide, ?_⟩
  rw [if_neg (by decide)]
  exact hA (by unfold namOf; rw [if_neg q12, if_neg q13, if_neg q14, if_neg q15, if_neg q16, if_neg q17]; decide)
theorem m199 {Q : Mem → Prop} (hS : StM M T fp (.ok (t, g))) (hQ : ∀ M' : Mem, FrN M M' → StM M' T fp (bCost T (nx T t) g) → Q M') : WV 199 [vR 204] M Q := by
  obtain ⟨ht, hs, hp⟩ : TmR M T t 0 fp ∧ Stg M g ∧ PtrM M := hS
  refine t_199 o204 (m187n' ht (fun M1 f1 h2 => ?_))
  have hs1 := hs.j f1
  have hp1 := hp.fn f1.n
  have F1 := f1.n
  generalize nx T t = t1 at *
  clear ht hs hp
  obtain ⟨k4, e5, -, -, -⟩ := h2.sp
  have wr := @wrg_r t1
  have nr := @nam_r T t1
  unfold bCost at hQ
  rw [m189 h2.2.2.2.1 (by decide), e5]
  refine ⟨by decide, ?_⟩
  rw [if_neg (by decide)]
  refine ⟨by omega, ?_⟩
  have bad : (∀ M' : Mem, FrN M M' → StM M' T fp (.error (wrg t1, (t1.2.1 : Int))) → Q M') → ∀ N : Mem, FrJ M1 N → TmR N T t1 (wrg t1) t1.2.1 → Q N := fun hq N f h => hq N (F1.tr f.n) ⟨⟨(show 1 ≤ wrg t1 by omega), (show wrg t1 ≤ 5 by omega)⟩, t1, h⟩
  have ew : (if (0 : Int) = 0 then (if t1.1 = 4 then (1 : Int) else 2) else 0) = wrg t1 := by rw [if_pos rfl]; rfl
  by_cases q1 : t1.1 = 1
  rotate_left
  · rw [if_neg q1]
    have nn : namOf T t1 = -1 := by
      have : ∀ i, ¬ isK T t1 i = true := fun i z => q1 (of_decide_eq_true z).1
      unfold namOf
      rw [if_neg (this 12), if_neg (this 13), if_neg (this 14), if_neg (this 15), if_neg (this 16), if_neg (this 17)]
    rw [nn, if_pos (by decide)] at hQ
    refine m188 h2 (by decide) (fun M2 f2 h3 => ?_)
    rw [ew, if_pos rfl] at h3
    exact t24e h3 (by omega) (bad hQ M2 f2 h3)
  rw [if_pos q1]
  have two : ∀ d : Int, (∀ M' : Mem, FrN M M' → StM M' T fp (.error (wrg t1, (t1.2.1 : Int))) → Q M') → WR 199 134 [some (vR 204), some (vI d), none] [] M1 (fun _ M' => Q M') := fun d hq => by
    refine t_199_134 o204 (m188 h2 (by decide) (fun M2 f2 h3 => ?_))
    rw [ew, if_pos rfl] at h3
    exact t139e h3 (by omega) (bad hq M2 f2 h3)
  refine t24k h2 hs1 (fun z => ?_) (fun z z2 => ?_) (fun z z2 => ?_)
  · rw [if_pos z] at hQ
    exact two _ hQ
  · rw [if_neg (by omega), if_pos z2] at hQ
    exact two _ hQ
  rw [if_neg (by omega), if_neg (by rw [z2]; decide)] at hQ
  clear two bad ew
  generalize namOf T t1 = d at *
  have e26 : M1 204 26 = bits g.2.2.2.2 := hs1.2.2.2.2.2.2.1
  refine t_199_139 o204 ?_
  rw [h2.2.2.2.1, e26, bits_or (show 0 ≤ d ∧ d < 6 by omega)]
  refine ⟨by decide, ?_⟩
  rw [if_pos (by decide)]
  refine ⟨⟨z, by omega⟩, ?_⟩
  have u : ∀ j : Int, j ≠ 26 → upM M1 204 26 (bits (setB g.2.2.2.2 d)) 204 j = M1 204 j := fun j a => upM_f a
  have h3 : TmR (upM M1 204 26 (bits (setB g.2.2.2.2 d))) T t1 0 fp := h2.o (fun j a => u j (by omega)) (upM_o (by decide)) (upM_o (by decide))
  have F3 : FrN M (upM M1 204 26 (bits (setB g.2.2.2.2 d))) := F1.tr (FrN.u (by omega))
  have hs3 : Stg (upM M1 204 26 (bits (setB g.2.2.2.2 d))) (g.1, g.2.1, g.2.2.1, g.2.2.2.1, setB g.2.2.2.2 d) := hs1.k (fun k a b => upM_o (by omega)) (fun j a b => u j (by omega)) (by rw [u 25 (by decide)]; exact hs1.2.2.2.2.2.1) upM_s hs1.2.2.2.2.2.2.2.2.2.2.2
  have hp3 : PtrM (upM M1 204 26 (bits (setB g.2.2.2.2 d))) := hp1.fn (FrN.u (by omega))
  generalize upM M1 204 26 (bits (setB g.2.2.2.2 d)) = N at *
  refine m187n' h3 (fun M4 f4 h4 => ?_)
  have hs4 := hs3.j f4
  have hp4 := hp3.fn f4.n
  have F4 := F3.tr f4.n
  clear h2 hs1 hp1 h3 hs3 hp3 u e26 f1 F1
  refine m192 h4 (by decide) (by decide) (fun M5 v f5 h5 => ?_)
  have nE := @nEr_r T (nx T t1) 0 999
  have F5 := F4.tr f5.n
  by_cases q4 : nEr T (nx T t1) 0 999 = 0
  rotate_left
  · rw [if_neg q4] at h5
    rw [if_pos q4] at hQ
    rw [m189 h5.2.2.2.1 (by omega), decide_eq_false q4]
    refine ⟨by decide, ?_⟩
    rw [if_pos (by decide)]
    exact t_199_186 o204 (hQ M5 F5 ⟨⟨(show 1 ≤ nEr T (nx T t1) 0 999 by omega), nE.2⟩, _, h5⟩)
  rw [if_pos q4] at h5
  rw [if_neg (fun z => z q4)] at hQ
  obtain ⟨rfl, h5⟩ := h5
  obtain ⟨w1, w2⟩ := nEr_in q4
  have hs5 := hs4.j f5
  have hp5 := hp4.fn f5.n
  have p36 : M5 204 36 = 216 := hp5.at (by decide)
  rw [m189 h5.2.2.2.1 (by decide), p36]
  refine ⟨by decide, ?_⟩
  rw [if_neg (by decide)]
  refine ⟨gC z208.2.2.2 z (by show _ < ((6 : Nat) : Int); omega), t_199_186 o204 ?_⟩
  generalize nmv T (nx T t1).2.1 (nx T t1).2.2 = v at *
  have fu : FrN M5 (upM M5 216 d v) := FrN.u (by omega)
  have o : ∀ k : Int, k ≠ 216 → upM M5 216 d v k = M5 k := fun k a => upM_o a
  refine hQ _ (F5.tr fu) ⟨h5.o (fun j a => by rw [o 204 (by decide)]) (o 205 (by decide)) (o 206 (by decide)), ?_, hp5.fn fu⟩
  obtain ⟨i1, i2, i3, i4, i5, i6, i7, i8, j2, j3, j4, j5⟩ := hs5
  refine ⟨?_, ?_, ?_, ?_, fun i a b => ?_, by rw [o 204 (by decide)]; exact i6, by rw [o 204 (by decide)]; exact i7, i8, j2, j3, fun i a b => ?_, j5⟩
  · unfold StgS at i1 ⊢
    rw [o 204 (by decide), o 207 (by decide), o 208 (by decide), o 209 (by decide), o 210 (by decide)]
    exact i1
  · unfold StgT SegIs at i2 ⊢
    rw [o 204 (by decide), o 211 (by decide), o 212 (by decide), o 213 (by decide)]
    exact i2
  · unfold StgZ at i3 ⊢
    rw [o 204 (by decide), o 217 (by decide)]
    exact i3
  · unfold StgW SegIs at i4 ⊢
    rw [o 204 (by decide), o 214 (by decide), o 215 (by decide)]
    exact i4
  · show upM M5 216 d v 216 i = updC g.2.2.1 d v i
    unfold updC
    by_cases q : i = d
    · rw [if_pos q, q, upM_s]
    · rw [if_neg q, upM_f q]
      exact i5 i a b
  · show 0 ≤ updC g.2.2.1 d v i ∧ updC g.2.2.1 d v i ≤ 999
    unfold updC
    by_cases q : i = d
    · rw [if_pos q]; omega
    · rw [if_neg q]
      exact j4 i a b
end MCO
