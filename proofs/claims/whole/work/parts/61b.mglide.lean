/-! the model's directives: a glide -/
section MGL
variable {M M' : Mem} {fp ft : Int} {T : List Int} {t : Tk} {g : Gs} {r : Rs (Tk × Gs)} {L : Lw}
theorem num_s {x : Int} (h : numOf L x ≠ -1) : Llt L (numOf L x) + 97 = x := by
  unfold numOf at h ⊢
  rcases fnd_r (fun s => decide (Llt L s + 97 = x)) (Ln L) 0 with z | ⟨-, -, z3⟩
  · exact absurd z h
  · exact of_decide_eq_true z3
/-- behind a fault -/
theorem t67e {Q : Mem → Prop} {n k : Int} (ht : TmR M T t ft fp) (hf : 1 ≤ ft ∧ ft ≤ 5) (hn : M 204 16 = n) (hk : 0 ≤ n ∧ n ≤ 12 ∧ 0 ≤ k ∧ k ≤ 100) (hQ : Q M) : WR 197 67 [some (vR 204), some (vI k)] [] M (fun _ M' => Q M') := by
  have f8 := ht.2.2.2.1
  refine t_197_67 o204 ⟨by omega, ?_⟩
  rw [hn, f8]
  refine ⟨by omega, ?_⟩
  by_cases q : n ≤ k
  · rw [if_pos q]
    refine ⟨by omega, ?_⟩
    rw [if_neg (by omega)]
    exact hQ
  · rw [if_neg q, m189 f8 (by omega), decide_eq_false (by omega)]
    refine ⟨by decide, ?_⟩
    rw [if_pos (by decide), f8]
    refine ⟨by omega, ?_⟩
    rw [if_neg (by omega)]
    exact hQ
theorem t67 {Q : Mem → Prop} {a b : Int} (ht : TmR M T t 0 fp) (hs : Stg M g) (hp : PtrM M) (h1 : t.1 = 1) (h2 : t.2.2 = 2) (ea : gi (cds g.1 T t) 0 = a) (eb : gi (cds g.1 T t) 1 = b) (hA : (a, b) ∈ Lgl g.1 → ∀ M' : Mem, FrJ M M' → TmR M' T t 4 t.2.1 → Q M') (hB : (a, b) ∉ Lgl g.1 → gA 20 213 (2 * ((Lgl g.1).length : Int)) ∧ gA 20 213 (2 * ((Lgl g.1).length : Int) + 1) ∧ WV 187 [vR 204] (upM (upM (upM M 213 (2 * ((Lgl g.1).length : Int)) a) 213 (2 * ((Lgl g.1).length : Int) + 1) b) 204 16 (((Lgl g.1).length : Int) + 1)) Q) : ∀ (n k : Nat), k + n = (Lgl g.1).length → (∀ i : Nat, i < k → (Lgl g.1).getD i (0, 0) ≠ (a, b)) → WR 197 67 [some (vR 204), some (vI k)] [] M (fun _ M' => Q M') := by
  have hw : Wf g.1 := hs.2.2.2.2.2.2.2.1
  have f8 := ht.2.2.2.1
  have e16 := hs.2.1.2.2.1
  have n6 := hw.2.1.2.2.1
  obtain ⟨n7, n12, -, -⟩ := rw_n ht h1
  have p27 : M 204 27 = 207 := hp.at (by decide)
  have p33 : M 204 33 = 213 := hp.at (by decide)
  obtain ⟨v1, v2⟩ := rw_at (j := 0) ht hs.1 h1 (by omega)
  obtain ⟨u1, u2⟩ := rw_at (j := 1) ht hs.1 h1 (by omega)
  replace v1 : 0 ≤ M 206 0 ∧ M 206 0 < 26 := v1
  replace v2 : M 207 (M 206 0) = gi (cds g.1 T t) 0 := v2
  replace u1 : 0 ≤ M 206 1 ∧ M 206 1 < 26 := u1
  replace u2 : M 207 (M 206 1) = gi (cds g.1 T t) 1 := u2
  rw [ea] at v2
  rw [eb] at u2
  have ca := @gi_cds_r T t g.1 0 ht.2.2.1 (by decide) (by omega)
  have cb := @gi_cds_r T t g.1 1 ht.2.2.1 (by decide) (by omega)
  rw [ea] at ca
  rw [eb] at cb
  have n16 := hw.1.1
  have g0 : gA 20 206 0 := g206 (by decide) (by decide)
  have g1' : gA 20 206 1 := g206 (by decide) (by decide)
  have ga : gA 20 207 (M 206 0) := g207 v1.1 v1.2
  have gb : gA 20 207 (M 206 1) := g207 u1.1 u1.2
  intro n
  induction n with
  | zero =>
    intro k hk hb
    refine t_197_67 o204 ⟨by omega, ?_⟩
    rw [e16, f8]
    refine ⟨by omega, ?_⟩
    rw [if_pos (by omega)]
    refine ⟨by decide, ?_⟩
    obtain ⟨w1, w2, w3⟩ := hB (fun z => by
      obtain ⟨i, hi, e⟩ := List.mem_iff_getElem.mp z
      refine hb i (by omega) ?_
      rw [List.getD_eq_getElem?_getD, List.getElem?_eq_getElem hi]
      exact e)
    rw [if_pos (by decide), n12, p27, p33, v2]
    have o4 : ∀ x y v : Int, upM M 213 x y 204 v = M 204 v := fun x y v => by rw [upM_o (by decide)]
    have o6 : ∀ x y : Int, upM M 213 x y 206 = M 206 := fun x y => upM_o (by decide)
    have o7 : ∀ x y : Int, upM M 213 x y 207 = M 207 := fun x y => upM_o (by decide)
    have o4' : ∀ x y x' y' v : Int, upM (upM M 213 x y) 213 x' y' 204 v = M 204 v := fun x y x' y' v => by rw [upM_o (by decide), o4]
    rw [o4, o4, o4, o4, n12, p27, p33, e16, o6, o7, u2, o4', e16]
    exact ⟨g0, ga, w1, g1', gb, w2, w3⟩
  | succ n ih =>
    intro k hk hb
    have hm : (Lgl g.1).getD k (0, 0) ∈ Lgl g.1 := by
      rw [List.getD_eq_getElem?_getD, List.getElem?_eq_getElem (by omega)]
      exact List.getElem_mem _
    have hgr := hw.2.1.2.2.2 _ hm
    obtain ⟨x1, x2⟩ := hs.2.1.2.2.2 k (by omega)
    have next : (Lgl g.1).getD k (0, 0) ≠ (a, b) → WR 197 67 [some (vR 204), some (vI ((k : Int) + 1))] [] M (fun _ M' => Q M') := fun e => ih (k + 1) (by omega) (fun i hi => by
      by_cases q : i = k
      · rw [q]; exact e
      · exact hb i (by omega))
    have hit : (Lgl g.1).getD k (0, 0) = (a, b) → (a, b) ∈ Lgl g.1 := fun e => by rw [← e]; exact hm
    clear hm
    generalize (Lgl g.1).getD k (0, 0) = w at *
    obtain ⟨w1, w2⟩ := w
    dsimp only at hgr x1 x2
    refine t_197_67 o204 ⟨by omega, ?_⟩
    rw [e16]
    refine ⟨by omega, ?_⟩
    rw [if_neg (by omega), m189 f8 (by decide)]
    refine ⟨by decide, ?_⟩
    rw [if_neg (by decide), n12, p27, p33, x1, x2, v2, u2]
    refine ⟨gC z211.2.2 (by omega) (by show _ < ((12 : Nat) : Int); omega), g0, ga, by omega, by omega, ?_⟩
    by_cases q : w1 = a
    · rw [if_pos q]
      refine ⟨gC z211.2.2 (by omega) (by show _ < ((12 : Nat) : Int); omega), g1', gb, by omega, by omega, ?_⟩
      by_cases q1 : w2 = b
      · rw [if_pos q1]
        refine m188 ht (by decide) (fun M4 f4 h5 => ?_)
        rw [if_pos rfl, if_pos rfl, if_neg (by omega)] at h5
        exact t67e (n := ((Lgl g.1).length : Int)) h5 (by decide) (by rw [f4.2 16 (by decide) (by decide)]; exact e16) (by omega) (hA (hit (by rw [q, q1])) M4 f4 h5)
      · rw [if_neg q1]
        exact next (fun z => q1 (congrArg Prod.snd z))
    · rw [if_neg q]
      exact next (fun z => q (congrArg Prod.fst z))
theorem m197 {Q : Mem → Prop} (hS : StM M T fp (.ok (t, g))) (h1 : t.1 = 1) (hQ : ∀ M' : Mem, FrN M M' → StM M' T fp (thn (roo T 2 t g) (body T 2)) → Q M') : WV 197 [vR 204] M Q := by
  obtain ⟨ht, hs, hp⟩ : TmR M T t 0 fp ∧ Stg M g ∧ PtrM M := hS
  have hW6 := hs.2.2.2.2.2.2.2.1.2.1.2.2.1
  have e16 := hs.2.1.2.2.1
  refine t_197 o204 ?_
  rw [e16]
  refine ⟨by omega, ?_⟩
  unfold roo at hQ
  rw [show full g 2 = decide (6 ≤ (Lgl g.1).length) from rfl] at hQ
  by_cases q : (Lgl g.1).length = 6
  · rw [if_pos (by omega)]
    rw [decide_eq_true (by omega), if_pos rfl] at hQ
    refine m188 ht (by decide) (fun M1 f1 h2 => ?_)
    rw [if_pos rfl, if_pos rfl, if_neg (by omega)] at h2
    rw [m189 h2.2.2.2.1 (by decide)]
    refine ⟨by decide, ?_⟩
    rw [if_pos (by decide)]
    refine st194f h2 (by decide) ?_
    rw [m189 h2.2.2.2.1 (by decide)]
    refine ⟨by decide, ?_⟩
    rw [if_pos (by decide)]
    exact t67e (n := ((Lgl g.1).length : Int)) h2 (by decide) (by rw [f1.2 16 (by decide) (by decide)]; exact e16) (by omega) (hQ M1 f1.n ⟨⟨(show (1 : Int) ≤ 5 by decide), (show (5 : Int) ≤ 5 by decide)⟩, t, h2⟩)
  rw [if_neg (by omega), m189 ht.2.2.2.1 (by decide)]
  rw [decide_eq_false (by omega), if_neg (by decide)] at hQ
  refine ⟨by decide, ?_⟩
  rw [if_neg (by decide)]
  refine m187n' ht (fun M1 f1 h2 => ?_)
  have s1 : StM M1 T fp (.ok (nx T t, g)) := ⟨h2, hs.j f1, hp.fn f1.n⟩
  have e16' : M1 204 16 = (Lgl g.1).length := by rw [f1.2 16 (by decide) (by decide)]; exact e16
  generalize nx T t = t1 at *
  refine m194s s1 (pk := 2) (by decide) rfl (fun M2 f2 s2 => ?_)
  have F2 : FrN M M2 := f1.n.tr f2.n
  have e16 : M2 204 16 = (Lgl g.1).length := by rw [f2.2 16 (by decide) (by decide)]; exact e16'
  replace s2 : StM M2 T fp (bRow T 2 t1 g) := s2
  replace hQ : ∀ M' : Mem, FrN M M' → StM M' T fp (bGlide T t1 g) → Q M' := hQ
  have er := @rE0_r T t1 g.1 2
  unfold bRow at s2
  unfold bGlide at hQ
  clear ht hs hp
  by_cases q0 : rE0 g.1 T t1 2 = 0
  rotate_left
  · rw [if_pos q0] at s2
    rw [rEr_bad q0, if_pos q0] at hQ
    rw [m189e s2]
    refine ⟨by decide, ?_⟩
    rw [if_pos rfl]
    have s2' := s2
    obtain ⟨he, t', ht'⟩ := s2'
    exact t67e (n := ((Lgl g.1).length : Int)) ht' he e16 (by omega) (hQ M2 F2 s2)
  rw [if_neg (fun z => z q0)] at s2
  rw [m189o s2]
  refine ⟨by decide, ?_⟩
  rw [if_neg (by decide)]
  obtain ⟨ht, hs, hp⟩ : TmR M2 T t1 0 fp ∧ Stg M2 g ∧ PtrM M2 := s2
  obtain ⟨k1, k2, k3, k4, k5⟩ := rE0_ok ht.2.2.1 q0
  obtain ⟨n7, n12, -, -⟩ := rw_n ht k1
  have four : ∀ M3 : Mem, FrJ M2 M3 → TmR M3 T t1 4 t1.2.1 → (∀ M' : Mem, FrN M M' → StM M' T fp (.error (4, (t1.2.1 : Int))) → Q M') → WR 197 67 [some (vR 204), some (vI 0)] [] M3 (fun _ M' => Q M') := fun M3 f3 h3 hq => t67e (n := ((Lgl g.1).length : Int)) h3 (by decide) (by rw [f3.2 16 (by decide) (by decide)]; exact e16) (by omega) (hq M3 (F2.tr f3.n) ⟨⟨(show (1 : Int) ≤ 4 by decide), (show (4 : Int) ≤ 5 by decide)⟩, t1, h3⟩)
  rw [n7]
  refine ⟨by omega, ?_⟩
  by_cases q1 : (t1.2.2 : Int) = 2
  rotate_left
  · rw [if_neg q1]
    rw [rEr_len q0 (by omega), if_pos (by decide)] at hQ
    refine m188 ht (by decide) (fun M3 f3 h3 => ?_)
    rw [if_pos rfl, if_pos rfl, if_neg (by omega)] at h3
    exact four M3 f3 h3 hQ
  have q2 : t1.2.2 = 2 := by omega
  rw [if_pos q1, n12]
  rw [rEr_fit q0 (by omega), if_neg (fun z => z rfl)] at hQ
  obtain ⟨-, -, l3⟩ := ht.2.2.1.2.1 k1
  obtain ⟨-, -, f6⟩ := ht.2.1.2.2.2.2.1 k1
  have b0 := l3 0 (by omega)
  have b1 := l3 1 (by omega)
  have r0 : M2 206 0 = bt T (t1.2.1 + 0) - 97 := f6 0 (by omega)
  have r1 : M2 206 1 = bt T (t1.2.1 + 1) - 97 := f6 1 (by omega)
  have c0 : gi (cds g.1 T t1) 0 = numOf g.1 (bt T (t1.2.1 + 0)) := cds_gi (j := 0) ht.2.2.1 (by omega)
  have c1 : gi (cds g.1 T t1) 1 = numOf g.1 (bt T (t1.2.1 + 1)) := cds_gi (j := 1) ht.2.2.1 (by omega)
  obtain ⟨⟨x1, x2⟩, -, x3⟩ := k5 _ (gi_mem (l := cds g.1 T t1) (i := 0) (by decide) (by omega))
  obtain ⟨⟨y1, y2⟩, -, y3⟩ := k5 _ (gi_mem (l := cds g.1 T t1) (i := 1) (by decide) (by omega))
  have same : M2 206 0 = M2 206 1 ↔ gi (cds g.1 T t1) 0 = gi (cds g.1 T t1) 1 := by
    rw [r0, r1, c0, c1]
    rw [c0] at x1
    rw [c1] at y1
    have s0 := num_s (L := g.1) (x := bt T (t1.2.1 + 0)) (by omega)
    have s1 := num_s (L := g.1) (x := bt T (t1.2.1 + 1)) (by omega)
    constructor
    · intro e
      rw [show bt T (t1.2.1 + 0) = bt T (t1.2.1 + 1) by omega]
    · intro e
      rw [e] at s0
      omega
  refine ⟨g206 (by decide) (by decide), g206 (by decide) (by decide), by omega, by omega, ?_⟩
  by_cases q3 : M2 206 0 = M2 206 1
  · rw [if_pos q3]
    rw [if_pos (Or.inl (same.mp q3))] at hQ
    refine m188 ht (by decide) (fun M3 f3 h3 => ?_)
    rw [if_pos rfl, if_pos rfl, if_neg (by omega)] at h3
    exact four M3 f3 h3 hQ
  rw [if_neg q3]
  have q3' := fun z => q3 (same.mpr z)
  clear same q3 r0 r1 c0 c1 b0 b1 l3 f6
  refine t67 ht hs hp k1 q2 rfl rfl (fun hm M3 f3 h3 => ?_) (fun hm => ?_) (Lgl g.1).length 0 (Nat.zero_add _) (fun i hi => absurd hi (Nat.not_lt_zero _))
  · rw [if_pos (Or.inr hm)] at hQ
    exact hQ M3 (F2.tr f3.n) ⟨⟨(show (1 : Int) ≤ 4 by decide), (show (4 : Int) ≤ 5 by decide)⟩, t1, h3⟩
  rw [if_neg (fun z => z.elim q3' hm)] at hQ
  have hnew : Wf (addG g.1 (gi (cds g.1 T t1) 0) (gi (cds g.1 T t1) 1)) := wf_addG hs.2.2.2.2.2.2.2.1 (by omega) ⟨x1, x2, y1, y2, x3 rfl, y3 rfl⟩
  generalize gi (cds g.1 T t1) 0 = a at *
  generalize gi (cds g.1 T t1) 1 = b at *
  refine ⟨gC z211.2.2 (by omega) (by show _ < ((12 : Nat) : Int); omega), gC z211.2.2 (by omega) (by show _ < ((12 : Nat) : Int); omega), ?_⟩
  have f5 : FrN M2 (upM (upM (upM M2 213 (2 * ((Lgl g.1).length : Int)) a) 213 (2 * ((Lgl g.1).length : Int) + 1) b) 204 16 (((Lgl g.1).length : Int) + 1)) := ((FrN.u (by omega)).tr (FrN.u (by omega))).tr (FrN.u (by omega))
  have u4 : ∀ j : Int, j ≠ 16 → upM (upM (upM M2 213 (2 * ((Lgl g.1).length : Int)) a) 213 (2 * ((Lgl g.1).length : Int) + 1) b) 204 16 (((Lgl g.1).length : Int) + 1) 204 j = M2 204 j := fun j a => by rw [upM_f a, upM_o (by decide), upM_o (by decide)]
  have uo : ∀ k : Int, k ≠ 204 → k ≠ 213 → upM (upM (upM M2 213 (2 * ((Lgl g.1).length : Int)) a) 213 (2 * ((Lgl g.1).length : Int) + 1) b) 204 16 (((Lgl g.1).length : Int) + 1) k = M2 k := fun k a b => by rw [upM_o a, upM_o b, upM_o b]
  have u13 : ∀ x : Int, upM (upM (upM M2 213 (2 * ((Lgl g.1).length : Int)) a) 213 (2 * ((Lgl g.1).length : Int) + 1) b) 204 16 (((Lgl g.1).length : Int) + 1) 213 x = if x = 2 * ((Lgl g.1).length : Int) + 1 then b else if x = 2 * ((Lgl g.1).length : Int) then a else M2 213 x := fun x => by
    rw [upM_o (by decide)]
    by_cases q4 : x = 2 * ((Lgl g.1).length : Int) + 1
    · rw [if_pos q4, q4, upM_s]
    · rw [if_neg q4, upM_f q4]
      by_cases q5 : x = 2 * ((Lgl g.1).length : Int)
      · rw [if_pos q5, q5, upM_s]
      · rw [if_neg q5, upM_f q5]
  have u17 : upM (upM (upM M2 213 (2 * ((Lgl g.1).length : Int)) a) 213 (2 * ((Lgl g.1).length : Int) + 1) b) 204 16 (((Lgl g.1).length : Int) + 1) 204 16 = ((Lgl g.1).length : Int) + 1 := upM_s
  generalize upM (upM (upM M2 213 (2 * ((Lgl g.1).length : Int)) a) 213 (2 * ((Lgl g.1).length : Int) + 1) b) 204 16 (((Lgl g.1).length : Int) + 1) = N2 at *
  have ht2 : TmR N2 T t1 0 fp := ht.o (fun j a => u4 j (by omega)) (uo 205 (by decide) (by decide)) (uo 206 (by decide) (by decide))
  refine m187n' ht2 (fun M5 f5' h5 => hQ M5 (F2.tr (f5.tr f5'.n)) ⟨h5, Stg.j ?_ f5', (hp.fn f5).fn f5'.n⟩)
  obtain ⟨i1, i2, i3, i4, i5, i6, i7, i8⟩ := hs
  refine ⟨?_, ⟨?_, ?_, ?_, fun i hi => ?_⟩, ?_, ?_, fun i x y => by rw [uo 216 (by decide) (by decide)]; exact i5 i x y, by rw [u4 25 (by decide)]; exact i6, by rw [u4 26 (by decide)]; exact i7, hnew, i8.2⟩
  · unfold StgS at i1 ⊢
    rw [u4 14 (by decide), uo 207 (by decide) (by decide), uo 208 (by decide) (by decide), uo 209 (by decide) (by decide), uo 210 (by decide) (by decide)]
    exact i1
  · rw [u4 15 (by decide)]
    exact i2.1
  · unfold SegIs
    rw [uo 211 (by decide) (by decide), uo 212 (by decide) (by decide)]
    exact i2.2.1
  · show N2 204 16 = (((Lgl g.1 ++ [(a, b)]).length : Nat) : Int)
    rw [u17, List.length_append, List.length_singleton]
    rfl
  · replace hi : i < (Lgl g.1 ++ [(a, b)]).length := hi
    rw [List.length_append, List.length_singleton] at hi
    show N2 213 (2 * i) = ((Lgl g.1 ++ [(a, b)]).getD i (0, 0)).1 ∧ N2 213 (2 * i + 1) = ((Lgl g.1 ++ [(a, b)]).getD i (0, 0)).2
    rw [u13, u13, List.getD_eq_getElem?_getD, List.getElem?_append]
    by_cases q4 : i < (Lgl g.1).length
    · rw [if_pos q4, if_neg (by omega), if_neg (by omega), if_neg (by omega), if_neg (by omega), ← List.getD_eq_getElem?_getD]
      exact i2.2.2.2 i q4
    · rw [if_neg q4, if_neg (by omega), if_pos (by omega), if_pos (by omega), show i = (Lgl g.1).length by omega, Nat.sub_self]
      exact ⟨rfl, rfl⟩
  · unfold StgZ at i3 ⊢
    rw [u4 18 (by decide), u4 19 (by decide), u4 20 (by decide), u4 21 (by decide), u4 22 (by decide), u4 23 (by decide), u4 24 (by decide), uo 217 (by decide) (by decide)]
    exact i3
  · unfold StgW SegIs at i4 ⊢
    rw [u4 17 (by decide), uo 214 (by decide) (by decide), uo 215 (by decide) (by decide)]
    exact i4
end MGL
