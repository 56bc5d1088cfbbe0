/-! the model's directives: a sound, a cost -/
section MSO
variable {M M' : Mem} {fp ft : Int} {T : List Int} {t : Tk} {g : Gs} {r : Rs (Tk × Gs)} {L : Lw}
theorem fnd_snoc (P : Int → Bool) : ∀ (k : Nat) (i : Int), 0 ≤ i → fnd P i (k + 1) = if fnd P i k = -1 then (if P (i + k) = true then i + k else -1) else fnd P i k := by
  intro k
  induction k with
  | zero =>
    intro i _
    show (if P i = true then i else -1) = if (-1 : Int) = -1 then (if P (i + (0 : Nat)) = true then i + (0 : Nat) else -1) else -1
    rw [if_pos rfl, show i + ((0 : Nat) : Int) = i by omega]
  | succ k ih =>
    intro i hi
    have e1 : fnd P i (k + 1 + 1) = if P i = true then i else fnd P (i + 1) (k + 1) := rfl
    have e2 : fnd P i (k + 1) = if P i = true then i else fnd P (i + 1) k := rfl
    rw [e1, e2]
    by_cases q : P i = true
    · rw [if_pos q, if_pos q, if_neg (by omega)]
    · rw [if_neg q, if_neg q, ih (i + 1) (by omega), show i + 1 + (k : Int) = i + ((k + 1 : Nat) : Int) by omega]
theorem fnd_cong {P P' : Int → Bool} : ∀ (k : Nat) (i : Int), (∀ s : Int, i ≤ s → s < i + k → P s = P' s) → fnd P i k = fnd P' i k := by
  intro k
  induction k with
  | zero => intro i _; rfl
  | succ k ih =>
    intro i h
    have e1 : ∀ R : Int → Bool, fnd R i (k + 1) = if R i = true then i else fnd R (i + 1) k := fun _ => rfl
    rw [e1, e1, h i (Int.le_refl _) (by omega), ih (i + 1) (fun s a b => h s (by omega) (by omega))]
theorem num_addS {ch op x : Int} {pk : Bool} (hm : numOf L (ch + 97) = -1) : numOf (addS L ch op pk) x = if x = ch + 97 then (Ln L : Int) else numOf L x := by
  unfold numOf
  show fnd (fun s => decide ((if s = Ln L then ch else Llt L s) + 97 = x)) 0 (Ln L + 1) = _
  have ec : fnd (fun s => decide ((if s = Ln L then ch else Llt L s) + 97 = x)) 0 (Ln L) = fnd (fun s => decide (Llt L s + 97 = x)) 0 (Ln L) := fnd_cong _ _ (fun s a b => by
    show decide ((if s = Ln L then ch else Llt L s) + 97 = x) = decide (Llt L s + 97 = x)
    rw [if_neg (by omega)])
  rw [fnd_snoc _ _ _ (Int.le_refl 0), ec]
  show (if _ = -1 then (if decide ((if (0 : Int) + (Ln L : Nat) = Ln L then ch else Llt L _) + 97 = x) = true then (0 : Int) + (Ln L : Nat) else -1) else _) = _
  rw [if_pos (show (0 : Int) + (Ln L : Nat) = Ln L by omega)]
  by_cases q : x = ch + 97
  · rw [if_pos q, q]
    have hm' : fnd (fun s => decide (Llt L s + 97 = ch + 97)) 0 (Ln L) = -1 := hm
    rw [if_pos hm', if_pos (by rw [decide_eq_true rfl])]
    omega
  · rw [if_neg q]
    by_cases q1 : fnd (fun s => decide (Llt L s + 97 = x)) 0 (Ln L) = -1
    · rw [if_pos q1, if_neg (by rw [decide_eq_false (by omega)]; decide)]
      exact q1.symm
    · rw [if_neg q1]
/-- a sound is added -/
def asM (M : Mem) (n ch op pk : Int) : Mem := upM (upM (upM (upM (upM M 207 ch n) 208 n ch) 209 n op) 210 n pk) 204 14 (n + 1)
theorem asM_o {n ch op pk k : Int} (h : k ≠ 204 ∧ ¬ (207 ≤ k ∧ k ≤ 210)) : asM M n ch op pk k = M k := by
  unfold asM
  rw [upM_o h.1, upM_o (by omega), upM_o (by omega), upM_o (by omega), upM_o (by omega)]
theorem asM_4 {n ch op pk j : Int} (h : j ≠ 14) : asM M n ch op pk 204 j = M 204 j := by
  unfold asM
  rw [upM_f h, upM_o (by omega), upM_o (by omega), upM_o (by omega), upM_o (by omega)]
theorem asM_n {n ch op pk : Int} : FrN M (asM M n ch op pk) := ⟨fun k a b => asM_o ⟨a, by omega⟩, fun j a b => asM_4 (by omega)⟩
theorem Stg.aS {ch op : Int} {pk : Bool} (h : Stg M g) (hn : Ln g.1 < 16) (hc : 0 ≤ ch ∧ ch < 26) (ho : 0 ≤ op ∧ op ≤ 9) (hm : numOf g.1 (ch + 97) = -1) : Stg (asM M (Ln g.1) ch op (b2i pk)) (addS g.1 ch op pk, g.2) := by
  obtain ⟨i1, i2, i3, i4, i5, i6, i7, i8, j2, j3, j4, j5⟩ := h
  have o : ∀ k : Int, k ≠ 204 ∧ ¬ (207 ≤ k ∧ k ≤ 210) → asM M (Ln g.1) ch op (b2i pk) k = M k := fun k a => asM_o a
  have u : ∀ j : Int, j ≠ 14 → asM M (Ln g.1) ch op (b2i pk) 204 j = M 204 j := fun j a => asM_4 a
  refine ⟨⟨?_, fun s s0 s1 => ?_, fun c c0 c1 => ?_⟩, ?_, ?_, ?_, fun i a b => by rw [o 216 (by decide)]; exact i5 i a b, by rw [u 25 (by decide)]; exact i6, by rw [u 26 (by decide)]; exact i7, wf_addS i8 hn hc ho hm, on_addS j2, j3, j4, j5⟩
  · unfold asM
    rw [upM_s]
    rfl
  · rw [show Ln (addS g.1 ch op pk, g.2).1 = Ln g.1 + 1 from rfl] at s1
    show _ = Llt (addS g.1 ch op pk) s ∧ _ = Lop (addS g.1 ch op pk) s ∧ _ = b2i (Lpk (addS g.1 ch op pk) s)
    rw [as_lt, as_op, as_pk]
    have e8 : asM M (Ln g.1) ch op (b2i pk) 208 s = if s = Ln g.1 then ch else M 208 s := by
      unfold asM
      rw [upM_o (by omega), upM_o (by omega), upM_o (by omega)]
      by_cases q : s = Ln g.1
      · rw [if_pos q, q, upM_s]
      · rw [if_neg q, upM_f q, upM_o (by omega)]
    have e9 : asM M (Ln g.1) ch op (b2i pk) 209 s = if s = Ln g.1 then op else M 209 s := by
      unfold asM
      rw [upM_o (by omega), upM_o (by omega)]
      by_cases q : s = Ln g.1
      · rw [if_pos q, q, upM_s]
      · rw [if_neg q, upM_f q, upM_o (by omega), upM_o (by omega)]
    have e10 : asM M (Ln g.1) ch op (b2i pk) 210 s = if s = Ln g.1 then b2i pk else M 210 s := by
      unfold asM
      rw [upM_o (by omega)]
      by_cases q : s = Ln g.1
      · rw [if_pos q, q, upM_s]
      · rw [if_neg q, upM_f q, upM_o (by omega), upM_o (by omega), upM_o (by omega)]
    rw [e8, e9, e10]
    by_cases q : s = Ln g.1
    · rw [if_pos q, if_pos q, if_pos q, if_pos q, if_pos q, if_pos q]
      exact ⟨rfl, rfl, rfl⟩
    · rw [if_neg q, if_neg q, if_neg q, if_neg q, if_neg q, if_neg q]
      exact i1.2.1 s s0 (by omega)
  · show _ = numOf (addS g.1 ch op pk) (c + 97)
    rw [num_addS hm]
    unfold asM
    rw [upM_o (by omega), upM_o (by omega), upM_o (by omega), upM_o (by omega)]
    by_cases q : c = ch
    · rw [if_pos (by omega), q, upM_s]
    · rw [if_neg (by omega), upM_f q]
      exact i1.2.2 c c0 c1
  · unfold StgT SegIs at i2 ⊢
    rw [u 15 (by decide), u 16 (by decide), o 211 (by decide), o 212 (by decide), o 213 (by decide)]
    exact i2
  · unfold StgZ at i3 ⊢
    rw [u 18 (by decide), u 19 (by decide), u 20 (by decide), u 21 (by decide), u 22 (by decide), u 23 (by decide), u 24 (by decide), o 217 (by decide)]
    exact i3
  · unfold StgW SegIs at i4 ⊢
    rw [u 17 (by decide), o 214 (by decide), o 215 (by decide)]
    exact i4
theorem m190k {Q : Int → Mem → Prop} {i : Nat} {x : Int} (h : TmR M T t 0 fp) (hi : i < 18) (hx : x = ky (kw i) 0 (kw i).length) : WI 190 [vR 204, vL x] M Q = Q (b2i (isK T t i)) M := by
  rw [m190 h (by decide) hi hx]
  unfold isK
  rw [show (decide ((0 : Int) = 0 ∧ t.1 = 1 ∧ tx T t = kw i)) = decide (t.1 = 1 ∧ tx T t = kw i) by
    by_cases q : t.1 = 1 ∧ tx T t = kw i
    · rw [decide_eq_true q, decide_eq_true ⟨rfl, q⟩]
    · rw [decide_eq_false q, decide_eq_false (fun z => q z.2)]]
theorem m190f {Q : Int → Mem → Prop} {i : Nat} {x : Int} (h : TmR M T t ft fp) (hf : 1 ≤ ft ∧ ft ≤ 5) (hi : i < 18) (hx : x = ky (kw i) 0 (kw i).length) : WI 190 [vR 204, vL x] M Q = Q 0 M := by
  rw [m190 h (by omega) hi hx, decide_eq_false (fun z => by have := z.1; omega)]
  rfl
theorem z208 : shA SH 208 = (20, 16) ∧ shA SH 209 = (20, 16) ∧ shA SH 210 = (20, 16) ∧ shA SH 216 = (20, 6) := by decide +kernel
/-- behind a fault -/
theorem t80e {Q : Mem → Prop} (ht : TmR M T t ft fp) (hf : 1 ≤ ft ∧ ft ≤ 5) (hQ : Q M) : WR 195 80 [some (vR 204), none, none, none] [] M (fun _ M' => Q M') := by
  have f8 := ht.2.2.2.1
  refine t_195_80 o204 ?_
  rw [m189 f8 (by omega), decide_eq_false (by omega)]
  refine ⟨by decide, ?_⟩
  rw [if_pos (by decide), f8]
  refine ⟨by omega, ?_⟩
  rw [if_neg (by omega)]
  exact hQ
/-- what a sound's line ends with -/
theorem t195z {Q : Mem → Prop} {op : Int} {pk : Bool} (hs : Stg M g) (hp : PtrM M) {l : Int} (hn : Ln g.1 < 16) (hl : 0 ≤ l ∧ l < 26) (hQ : Q (asM M (Ln g.1) l op (b2i pk))) : gA 20 (M 204 27) l ∧ gA 20 (upM M (M 204 27) l (M 204 14) 204 28) (upM M (M 204 27) l (M 204 14) 204 14) ∧ gA 20 (upM (upM M (M 204 27) l (M 204 14)) (upM M (M 204 27) l (M 204 14) 204 28) (upM M (M 204 27) l (M 204 14) 204 14) l 204 29) (upM (upM M (M 204 27) l (M 204 14)) (upM M (M 204 27) l (M 204 14) 204 28) (upM M (M 204 27) l (M 204 14) 204 14) l 204 14) ∧ WI 178 [vI (b2i pk)] (upM (upM (upM M (M 204 27) l (M 204 14)) (upM M (M 204 27) l (M 204 14) 204 28) (upM M (M 204 27) l (M 204 14) 204 14) l) (upM (upM M (M 204 27) l (M 204 14)) (upM M (M 204 27) l (M 204 14) 204 28) (upM M (M 204 27) l (M 204 14) 204 14) l 204 29) (upM (upM M (M 204 27) l (M 204 14)) (upM M (M 204 27) l (M 204 14) 204 28) (upM M (M 204 27) l (M 204 14) 204 14) l 204 14) op) (fun y M3 => gA 20 (upM (upM (upM M (M 204 27) l (M 204 14)) (upM M (M 204 27) l (M 204 14) 204 28) (upM M (M 204 27) l (M 204 14) 204 14) l) (upM (upM M (M 204 27) l (M 204 14)) (upM M (M 204 27) l (M 204 14) 204 28) (upM M (M 204 27) l (M 204 14) 204 14) l 204 29) (upM (upM M (M 204 27) l (M 204 14)) (upM M (M 204 27) l (M 204 14) 204 28) (upM M (M 204 27) l (M 204 14) 204 14) l 204 14) op 204 30) (upM (upM (upM M (M 204 27) l (M 204 14)) (upM M (M 204 27) l (M 204 14) 204 28) (upM M (M 204 27) l (M 204 14) 204 14) l) (upM (upM M (M 204 27) l (M 204 14)) (upM M (M 204 27) l (M 204 14) 204 28) (upM M (M 204 27) l (M 204 14) 204 14) l 204 29) (upM (upM M (M 204 27) l (M 204 14)) (upM M (M 204 27) l (M 204 14) 204 28) (upM M (M 204 27) l (M 204 14) 204 14) l 204 14) op 204 14) ∧ Q (upM (upM M3 (upM (upM (upM M (M 204 27) l (M 204 14)) (upM M (M 204 27) l (M 204 14) 204 28) (upM M (M 204 27) l (M 204 14) 204 14) l) (upM (upM M (M 204 27) l (M 204 14)) (upM M (M 204 27) l (M 204 14) 204 28) (upM M (M 204 27) l (M 204 14) 204 14) l 204 29) (upM (upM M (M 204 27) l (M 204 14)) (upM M (M 204 27) l (M 204 14) 204 28) (upM M (M 204 27) l (M 204 14) 204 14) l 204 14) op 204 30) (upM (upM (upM M (M 204 27) l (M 204 14)) (upM M (M 204 27) l (M 204 14) 204 28) (upM M (M 204 27) l (M 204 14) 204 14) l) (upM (upM M (M 204 27) l (M 204 14)) (upM M (M 204 27) l (M 204 14) 204 28) (upM M (M 204 27) l (M 204 14) 204 14) l 204 29) (upM (upM M (M 204 27) l (M 204 14)) (upM M (M 204 27) l (M 204 14) 204 28) (upM M (M 204 27) l (M 204 14) 204 14) l 204 14) op 204 14) y) 204 14 (upM M3 (upM (upM (upM M (M 204 27) l (M 204 14)) (upM M (M 204 27) l (M 204 14) 204 28) (upM M (M 204 27) l (M 204 14) 204 14) l) (upM (upM M (M 204 27) l (M 204 14)) (upM M (M 204 27) l (M 204 14) 204 28) (upM M (M 204 27) l (M 204 14) 204 14) l 204 29) (upM (upM M (M 204 27) l (M 204 14)) (upM M (M 204 27) l (M 204 14) 204 28) (upM M (M 204 27) l (M 204 14) 204 14) l 204 14) op 204 30) (upM (upM (upM M (M 204 27) l (M 204 14)) (upM M (M 204 27) l (M 204 14) 204 28) (upM M (M 204 27) l (M 204 14) 204 14) l) (upM (upM M (M 204 27) l (M 204 14)) (upM M (M 204 27) l (M 204 14) 204 28) (upM M (M 204 27) l (M 204 14) 204 14) l 204 29) (upM (upM M (M 204 27) l (M 204 14)) (upM M (M 204 27) l (M 204 14) 204 28) (upM M (M 204 27) l (M 204 14) 204 14) l 204 14) op 204 14) y 204 14 + 1))) := by
  have p27 : M 204 27 = 207 := hp.at (by decide)
  have p28 : M 204 28 = 208 := hp.at (by decide)
  have p29 : M 204 29 = 209 := hp.at (by decide)
  have p30 : M 204 30 = 210 := hp.at (by decide)
  have e14 : M 204 14 = Ln g.1 := hs.1.1
  have pb := b2i_r pk
  have n0 : (0 : Int) ≤ Ln g.1 := by omega
  have n1 : (Ln g.1 : Int) < ((16 : Nat) : Int) := by omega
  have o7 : ∀ x v j, upM M 207 x v 204 j = M 204 j := fun x v j => by rw [upM_o (by decide)]
  have o8 : ∀ x v y w j, upM (upM M 207 x v) 208 y w 204 j = M 204 j := fun x v y w j => by rw [upM_o (by decide), o7]
  have o9 : ∀ x v y w z u j, upM (upM (upM M 207 x v) 208 y w) 209 z u 204 j = M 204 j := fun x v y w z u j => by rw [upM_o (by decide), o8]
  have o10 : ∀ x v y w z u a b j, upM (upM (upM (upM M 207 x v) 208 y w) 209 z u) 210 a b 204 j = M 204 j := fun x v y w z u a b j => by rw [upM_o (by decide), o9]
  rw [p27, e14, o7, o7, p28, e14, o8, o8, p29, e14, m178 (by omega), o9, o9, p30, e14, o10, e14]
  rw [show (if b2i pk = 0 then (0 : Int) else 1) = b2i pk by cases pk <;> rfl]
  exact ⟨g207 hl.1 hl.2, gC z208.1 n0 n1, gC z208.2.1 n0 n1, gC z208.2.2.1 n0 n1, hQ⟩
theorem m195 {Q : Mem → Prop} (hS : StM M T fp (.ok (t, g))) (h1 : t.1 = 1) (hQ : ∀ M' : Mem, FrN M M' → StM M' T fp (thn (roo T 0 t g) (body T 0)) → Q M') : WV 195 [vR 204] M Q := by
  obtain ⟨ht, hs, hp⟩ : TmR M T t 0 fp ∧ Stg M g ∧ PtrM M := hS
  have hW16 := hs.2.2.2.2.2.2.2.1.1.1
  have e14 := hs.1.1
  refine t_195 o204 ?_
  rw [e14]
  refine ⟨by omega, ?_⟩
  unfold roo at hQ
  rw [show full g 0 = decide (16 ≤ Ln g.1) from rfl] at hQ
  by_cases q : Ln g.1 = 16
  · rw [if_pos (by omega)]
    rw [decide_eq_true (by omega), if_pos rfl] at hQ
    refine m188 ht (by decide) (fun M1 f1 h2 => ?_)
    rw [if_pos rfl, if_pos rfl, if_neg (by omega)] at h2
    have m := fun {P : Int → Mem → Prop} => (m189 (M := M1) (Q := P) h2.2.2.2.1 (by decide))
    rw [m]
    refine ⟨by decide, ?_⟩
    rw [if_pos (by decide), m]
    refine ⟨by decide, ?_⟩
    rw [if_pos (by decide), m]
    refine ⟨by decide, ?_⟩
    rw [if_pos (by decide)]
    exact t80e h2 (by decide) (hQ M1 f1.n ⟨⟨(show (1 : Int) ≤ 5 by decide), (show (5 : Int) ≤ 5 by decide)⟩, t, h2⟩)
  rw [if_neg (by omega), m189 ht.2.2.2.1 (by decide)]
  rw [decide_eq_false (by omega), if_neg (by decide)] at hQ
  refine ⟨by decide, ?_⟩
  rw [if_neg (by decide)]
  refine m187n' ht (fun M1 f1 h2 => ?_)
  have hs1 := hs.j f1
  have hp1 := hp.fn f1.n
  replace hQ : ∀ M' : Mem, FrN M M' → StM M' T fp (bSound T (nx T t) g) → Q M' := hQ
  have F1 := f1.n
  generalize nx T t = t1 at *
  clear ht hs hp e14
  have m := fun {P : Int → Mem → Prop} => (m189 (M := M1) (Q := P) h2.2.2.2.1 (by decide))
  obtain ⟨k4, e5, -, -, -⟩ := h2.sp
  have p27 : M1 204 27 = 207 := hp1.at (by decide)
  unfold bSound at hQ
  -- a fault of so and so
  have flt : ∀ (e : Int) (N : Mem), 1 ≤ e ∧ e ≤ 5 → FrJ M1 N → TmR N T t1 e t1.2.1 → (∀ M' : Mem, FrN M M' → StM M' T fp (.error (e, (t1.2.1 : Int))) → Q M') → WR 195 80 [some (vR 204), none, none, none] [] N (fun _ M' => Q M') := fun e N he f h hq => t80e h he (hq N (F1.tr f.n) ⟨he, t1, h⟩)
  rw [m]
  refine ⟨by decide, ?_⟩
  rw [if_neg (by decide), e5]
  refine ⟨by omega, ?_⟩
  have wr := @wrg_r t1
  by_cases q1 : t1.1 = 1
  rotate_left
  · rw [if_neg q1]
    rw [if_pos q1] at hQ
    refine m188 h2 (by decide) (fun M2 f2 h3 => ?_)
    have ew : (if (0 : Int) = 0 then (if t1.1 = 4 then (1 : Int) else 2) else 0) = wrg t1 := by rw [if_pos rfl]; rfl
    rw [ew, if_pos rfl] at h3
    rw [m189 h3.2.2.2.1 (by omega), decide_eq_false (by omega)]
    refine ⟨by decide, ?_⟩
    rw [if_pos (by decide)]
    exact flt _ M2 (by omega) f2 h3 hQ
  rw [if_pos q1, m]
  rw [if_neg (by omega)] at hQ
  obtain ⟨n7, n12, n1, n2⟩ := rw_n h2 q1
  refine ⟨by decide, ?_⟩
  rw [if_neg (by decide), n7]
  refine ⟨by omega, ?_⟩
  by_cases q2 : t1.2.2 = 1
  rotate_left
  · rw [if_neg (by omega)]
    rw [if_pos q2] at hQ
    refine t_195_80 o204 ?_
    rw [m]
    refine ⟨by decide, ?_⟩
    rw [if_neg (by decide), n7]
    refine ⟨by omega, ?_⟩
    rw [if_neg (by omega)]
    refine m188 h2 (by decide) (fun M2 f2 h3 => ?_)
    rw [if_pos rfl, if_pos rfl, if_neg (by omega)] at h3
    rw [h3.2.2.2.1]
    refine ⟨by decide, ?_⟩
    rw [if_neg (by decide)]
    exact hQ M2 (F1.tr f2.n) ⟨⟨(show (1 : Int) ≤ 4 by decide), (show (4 : Int) ≤ 5 by decide)⟩, t1, h3⟩
  rw [if_pos (by omega), n12, p27]
  rw [if_neg (by omega)] at hQ
  obtain ⟨v1, v2⟩ := rw_at (j := 0) h2 hs1.1 q1 (by omega)
  replace v1 : 0 ≤ M1 206 0 ∧ M1 206 0 < 26 := v1
  replace v2 : M1 207 (M1 206 0) = gi (cds g.1 T t1) (0 : Nat) := v2
  rw [cds_gi h2.2.2.1 (by omega), Nat.add_zero] at v2
  have f6 : M1 206 0 = bt T t1.2.1 - 97 := (h2.2.1.2.2.2.2.1 q1).2.2 0 (by omega)
  have nr := num_r g.1 (bt T t1.2.1)
  rw [v2]
  refine ⟨g206 (by decide) (by decide), g207 v1.1 v1.2, by omega, ?_⟩
  by_cases q3 : numOf g.1 (bt T t1.2.1) = -1
  rotate_left
  · rw [if_neg q3]
    rw [if_pos q3] at hQ
    refine m188 h2 (by decide) (fun M2 f2 h3 => ?_)
    rw [if_pos rfl, if_pos rfl, if_neg (by omega)] at h3
    exact flt 3 M2 (by decide) f2 h3 hQ
  rw [if_pos q3]
  rw [if_neg (fun z => z q3)] at hQ
  refine t_195_80 o204 ?_
  rw [m]
  refine ⟨by decide, ?_⟩
  rw [if_neg (by decide), n7]
  refine ⟨by omega, ?_⟩
  rw [if_pos (by omega), h2.2.2.2.1, n12]
  refine ⟨by decide, ?_⟩
  rw [if_pos (by decide)]
  refine ⟨g206 (by decide) (by decide), m187n' h2 (fun M2 f2 h3 => ?_)⟩
  rw [f6] at v1 ⊢
  clear flt m n7 n12 k4 e5 p27 v2 f6
  have hs2 := hs1.j f2
  have hp2 := hp1.fn f2.n
  have F2 := F1.tr f2.n
  clear h2 hs1 hp1 f1 f2 F1
  refine m192 h3 (by decide) (by decide) (fun M3 v f3 h4 => ?_)
  have nE := @nEr_r T (nx T t1) 0 9
  have F3 := F2.tr f3.n
  by_cases q4 : nEr T (nx T t1) 0 9 = 0
  rotate_left
  · rw [if_neg q4] at h4
    rw [if_pos q4] at hQ
    rw [m190f (i := 11) h4 (by omega) (by decide) (by decide)]
    refine ⟨by decide, ?_⟩
    rw [if_pos rfl, h4.2.2.2.1]
    refine ⟨by omega, ?_⟩
    rw [if_neg (by omega)]
    exact hQ M3 F3 ⟨⟨(show 1 ≤ nEr T (nx T t1) 0 9 by omega), nE.2⟩, _, h4⟩
  rw [if_pos q4] at h4
  rw [if_neg (fun z => z q4)] at hQ
  obtain ⟨rfl, h4⟩ := h4
  obtain ⟨w1, w2⟩ := nEr_in q4
  have hs3 := hs2.j f3
  have hp3 := hp2.fn f3.n
  rw [m190k (i := 11) h4 (by decide) (by decide)]
  have pb := b2i_r (isK T (nx T (nx T t1)) 11)
  refine ⟨by omega, ?_⟩
  have fin : ∀ (N : Mem) (t' : Tk) (pk : Bool), FrN M N → TmR N T t' 0 fp → Stg N g → PtrM N → (∀ M' : Mem, FrN M M' → StM M' T fp (.ok (t', addS g.1 (bt T t1.2.1 - 97) (nmv T (nx T t1).2.1 (nx T t1).2.2) pk, g.2)) → Q M') → Q (asM N (Ln g.1) (bt T t1.2.1 - 97) (nmv T (nx T t1).2.1 (nx T t1).2.2) (b2i pk)) := fun N t' pk F hN hsN hpN hq => hq _ (F.tr asM_n) ⟨hN.o (fun j a => asM_4 (by omega)) (asM_o (by decide)) (asM_o (by decide)), hsN.aS (by omega) v1 ⟨w1, w2⟩ (by rw [show bt T t1.2.1 - 97 + 97 = bt T t1.2.1 by omega]; exact q3), hpN.fn asM_n⟩
  by_cases q5 : isK T (nx T (nx T t1)) 11 = true
  · rw [q5] at hQ ⊢
    rw [if_pos rfl] at hQ
    rw [if_neg (by decide)]
    refine m187n' h4 (fun M4 f4 h5 => ?_)
    rw [h5.2.2.2.1]
    refine ⟨by decide, ?_⟩
    rw [if_pos (by decide)]
    exact t195z (pk := true) (hs3.j f4) (hp3.fn f4.n) (by omega) v1 (fin M4 _ true (F3.tr f4.n) h5 (hs3.j f4) (hp3.fn f4.n) hQ)
  · have q5' : isK T (nx T (nx T t1)) 11 = false := by cases hh : isK T (nx T (nx T t1)) 11; rfl; exact absurd hh q5
    rw [q5'] at hQ ⊢
    rw [if_neg (by decide)] at hQ
    rw [if_pos (by decide), h4.2.2.2.1]
    refine ⟨by decide, ?_⟩
    rw [if_pos (by decide)]
    exact t195z (pk := false) hs3 hp3 (by omega) v1 (fin M3 _ false F3 h4 hs3 hp3 hQ)
end MSO
