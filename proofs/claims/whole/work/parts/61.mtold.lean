/-! the model's directives: an opening told -/
section MTO
variable {M M' : Mem} {fp ft : Int} {T : List Int} {t : Tk} {g : Gs} {r : Rs (Tk × Gs)} {L : Lw}
theorem z211 : shA SH 211 = (20, 48) ∧ shA SH 212 = (20, 12) ∧ shA SH 213 = (20, 12) := by decide +kernel
theorem gi_cds_r {j : Int} (h : TkOk T t) (h0 : 0 ≤ j) (h1 : j < t.2.2) : -1 ≤ gi (cds L T t) j ∧ gi (cds L T t) j < Ln L := by
  obtain ⟨n, rfl⟩ := Int.eq_ofNat_of_zero_le h0
  rw [cds_gi h (by omega)]
  have := num_r L (bt T (t.2.1 + n))
  omega
/-- behind a fault -/
theorem t61e {Q : Mem → Prop} {n k : Int} {l2 l3 : Option AV} (ht : TmR M T t ft fp) (hf : 1 ≤ ft ∧ ft ≤ 5) (hn : M 204 15 = n) (hk : 0 ≤ n ∧ n ≤ 12 ∧ 0 ≤ k ∧ k ≤ 100) (hQ : Q M) : WR 196 61 [some (vR 204), some (vI k), l2, l3] [] M (fun _ M' => Q M') := by
  have f8 := ht.2.2.2.1
  refine t_196_61 o204 ⟨by omega, ?_⟩
  rw [hn, f8]
  refine ⟨by omega, ?_⟩
  by_cases q : n ≤ k
  · rw [if_pos q]
    refine ⟨by omega, ?_⟩
    rw [if_neg (by omega)]
    exact hQ
  · rw [if_neg q, m189 f8 (by omega), decide_eq_false (by omega)]
    refine ⟨by decide, ?_⟩
    rw [if_pos (by decide), f8]
    refine ⟨by omega, ?_⟩
    rw [if_neg (by omega)]
    exact hQ
theorem t97 {Q : Mem → Prop} {k : Nat} {l : List Int} (ht : TmR M T t 0 fp) (hs : StgS M L) (hp : PtrM M) (hn : Ln L ≤ 16) (h1 : t.1 = 1) (hk : k < 12) (h4 : t.2.2 ≤ 4) (hl : SegIs M 211 (4 * k) l) (hr : ∀ s ∈ l, 0 ≤ s ∧ s < Ln L) (hA : l = cds L T t → ∀ l2 l3 : Option AV, WV 188 [vR 204, vI 4] M (fun M4 => WR 196 61 [some (vR 204), some (vI ((k : Int) + 1)), l2, l3] [] M4 (fun _ M' => Q M'))) (hB : l ≠ cds L T t → ∀ l2 l3 : Option AV, WR 196 61 [some (vR 204), some (vI ((k : Int) + 1)), l2, l3] [] M (fun _ M' => Q M')) : ∀ (n j : Nat) (b : Bool), j + n = t.2.2 → (b = true → l.length = t.2.2 ∧ ∀ i : Int, 0 ≤ i → i < j → gi l i = gi (cds L T t) i) → (b = false → l ≠ cds L T t) → WR 196 97 [some (vR 204), some (vI k), some (vI (b2i b)), some (vI j)] [] M (fun _ M' => Q M') := by
  obtain ⟨n7, n12, n1, -⟩ := rw_n ht h1
  have p27 : M 204 27 = 207 := hp.at (by decide)
  have p31 : M 204 31 = 211 := hp.at (by decide)
  have cl := @cds_len T t L ht.2.2.1
  intro n
  induction n with
  | zero =>
    intro j b hj hb hb'
    refine t_196_97 o204 ⟨by omega, ?_⟩
    rw [n7]
    refine ⟨by omega, ?_⟩
    rw [if_pos (by omega)]
    cases b
    · refine ⟨by decide, ?_⟩
      rw [if_pos (by decide)]
      exact hB (hb' rfl) _ _
    · refine ⟨by decide, ?_⟩
      rw [if_neg (by decide)]
      obtain ⟨y1, y2⟩ := hb rfl
      exact hA (gi_ext (by omega) (fun i a c => y2 i a (by omega))) _ _
  | succ n ih =>
    intro j b hj hb hb'
    refine t_196_97 o204 ⟨by omega, ?_⟩
    rw [n7]
    refine ⟨by omega, ?_⟩
    rw [if_neg (by omega)]
    cases b
    · refine ⟨by decide, ?_⟩
      rw [if_pos (by decide), if_pos (by decide)]
      exact hB (hb' rfl) _ _
    · obtain ⟨y1, y2⟩ := hb rfl
      obtain ⟨v1, v2⟩ := rw_at (j := j) ht hs h1 (by omega)
      have v3 : M 211 (4 * k + j) = gi l j := hl j (by omega) (by omega)
      have c1 := @gi_cds_r T t L (j : Int) ht.2.2.1 (by omega) (by omega)
      have c2 := hr _ (gi_mem (l := l) (i := (j : Int)) (by omega) (by omega))
      refine ⟨by decide, ?_⟩
      rw [if_neg (by decide), p31, n12, p27, v3, v2]
      refine ⟨gC z211.1 (by omega) (by show _ < ((48 : Nat) : Int); omega), g206 (by omega) (by omega), g207 v1.1 v1.2, by omega, by omega, ?_⟩
      by_cases q : gi l j = gi (cds L T t) j
      · rw [if_pos q]
        refine ih (j + 1) true (by omega) (fun _ => ⟨y1, fun i a b => ?_⟩) (fun z => by cases z)
        by_cases q1 : i = j
        · rw [q1]; exact q
        · exact y2 i a (by omega)
      · rw [if_neg q]
        exact ih (j + 1) false (by omega) (fun z => by cases z) (fun _ z => q (by rw [z]))
theorem t61 {Q : Mem → Prop} (ht : TmR M T t 0 fp) (hs : Stg M g) (hp : PtrM M) (h1 : t.1 = 1) (h4 : t.2.2 ≤ 4) (hA : cds g.1 T t ∈ Ltd g.1 → ∀ M' : Mem, FrJ M M' → TmR M' T t 4 t.2.1 → Q M') (hB : cds g.1 T t ∉ Ltd g.1 → ∀ l2 l3 : Option AV, WR 196 170 [some (vR 204), some (vI 0), l2, l3] [] M (fun _ M' => Q M')) : ∀ (n k : Nat), k + n = (Ltd g.1).length → (∀ i : Nat, i < k → (Ltd g.1).getD i [] ≠ cds g.1 T t) → ∀ l2 l3 : Option AV, WR 196 61 [some (vR 204), some (vI k), l2, l3] [] M (fun _ M' => Q M') := by
  have hw : Wf g.1 := hs.2.2.2.2.2.2.2.1
  have f8 := ht.2.2.2.1
  have e15 := hs.2.1.1
  obtain ⟨n7, n12, n1, -⟩ := rw_n ht h1
  have n12' := hw.2.1.1
  have p32 : M 204 32 = 212 := hp.at (by decide)
  intro n
  induction n with
  | zero =>
    intro k hk hb l2 l3
    refine t_196_61 o204 ⟨by omega, ?_⟩
    rw [e15, f8]
    refine ⟨by omega, ?_⟩
    rw [if_pos (by omega)]
    refine ⟨by decide, ?_⟩
    rw [if_pos (by decide)]
    refine hB (fun z => ?_) l2 l3
    obtain ⟨i, hi, e⟩ := List.mem_iff_getElem.mp z
    refine hb i (by omega) ?_
    rw [List.getD_eq_getElem?_getD, List.getElem?_eq_getElem hi]
    exact e
  | succ n ih =>
    intro k hk hb l2 l3
    have hm : (Ltd g.1).getD k [] ∈ Ltd g.1 := by
      rw [List.getD_eq_getElem?_getD, List.getElem?_eq_getElem (by omega)]
      exact List.getElem_mem _
    have hlr := hw.2.1.2.1 _ hm
    obtain ⟨z1, z2⟩ := hs.2.1.2.1 k (by omega)
    have cl := @cds_len T t g.1 ht.2.2.1
    refine t_196_61 o204 ⟨by omega, ?_⟩
    rw [e15]
    refine ⟨by omega, ?_⟩
    rw [if_neg (by omega), m189 f8 (by decide)]
    refine ⟨by decide, ?_⟩
    rw [if_neg (by decide), p32, z1, n7]
    have next := t97 (Q := Q) (l := (Ltd g.1).getD k []) ht hs.1 hp hw.1.1 h1 (by omega) h4 z2 (fun s h => ⟨(hlr.2.2 s h).1, (hlr.2.2 s h).2.1⟩) (fun e l2 l3 => m188 ht (by decide) (fun M4 f4 h5 => by
      rw [if_pos rfl, if_pos rfl, if_neg (by omega)] at h5
      refine t61e (n := ((Ltd g.1).length : Int)) h5 (by decide) (by rw [f4.2 15 (by decide) (by decide)]; exact e15) (by omega) (hA (by rw [← e]; exact hm) M4 f4 h5))) (fun e l2 l3 => ih (k + 1) (by omega) (fun i hi => by
        by_cases q : i = k
        · rw [q]; exact e
        · exact hb i (by omega)) l2 l3)
    refine ⟨gC z211.2.1 (by omega) (by show _ < ((12 : Nat) : Int); omega), by omega, by omega, ?_⟩
    by_cases q : (((Ltd g.1).getD k []).length : Int) = t.2.2
    · rw [if_pos q]
      exact next t.2.2 0 true (Nat.zero_add _) (fun _ => ⟨by omega, fun i a b => absurd b (by omega)⟩) (fun z => by cases z)
    · rw [if_neg q]
      exact next t.2.2 0 false (Nat.zero_add _) (fun z => by cases z) (fun _ z => q (by rw [z, cl]))
theorem m196 {Q : Mem → Prop} (hS : StM M T fp (.ok (t, g))) (h1 : t.1 = 1) (hQ : ∀ M' : Mem, FrN M M' → StM M' T fp (thn (roo T 1 t g) (body T 1)) → Q M') : WV 196 [vR 204] M Q := by
  obtain ⟨ht, hs, hp⟩ : TmR M T t 0 fp ∧ Stg M g ∧ PtrM M := hS
  have hW12 := hs.2.2.2.2.2.2.2.1.2.1.1
  have e15 := hs.2.1.1
  refine t_196 o204 ?_
  rw [e15]
  refine ⟨by omega, ?_⟩
  unfold roo at hQ
  rw [show full g 1 = decide (12 ≤ (Ltd g.1).length) from rfl] at hQ
  by_cases q : (Ltd g.1).length = 12
  · rw [if_pos (by omega)]
    rw [decide_eq_true (by omega), if_pos rfl] at hQ
    refine m188 ht (by decide) (fun M1 f1 h2 => ?_)
    rw [if_pos rfl, if_pos rfl, if_neg (by omega)] at h2
    rw [m189 h2.2.2.2.1 (by decide)]
    refine ⟨by decide, ?_⟩
    rw [if_pos (by decide)]
    refine st194f h2 (by decide) ?_
    rw [m189 h2.2.2.2.1 (by decide)]
    refine ⟨by decide, ?_⟩
    rw [if_pos (by decide)]
    exact t61e (n := ((Ltd g.1).length : Int)) h2 (by decide) (by rw [f1.2 15 (by decide) (by decide)]; exact e15) (by omega) (hQ M1 f1.n ⟨⟨(show (1 : Int) ≤ 5 by decide), (show (5 : Int) ≤ 5 by decide)⟩, t, h2⟩)
  rw [if_neg (by omega), m189 ht.2.2.2.1 (by decide)]
  rw [decide_eq_false (by omega), if_neg (by decide)] at hQ
  refine ⟨by decide, ?_⟩
  rw [if_neg (by decide)]
  refine m187n' ht (fun M1 f1 h2 => ?_)
  have s1 : StM M1 T fp (.ok (nx T t, g)) := ⟨h2, hs.j f1, hp.fn f1.n⟩
  have e15' : M1 204 15 = (Ltd g.1).length := by rw [f1.2 15 (by decide) (by decide)]; exact e15
  generalize nx T t = t1 at *
  refine m194s s1 (pk := 1) (by decide) rfl (fun M2 f2 s2 => ?_)
  have F2 : FrN M M2 := f1.n.tr f2.n
  have e15 : M2 204 15 = (Ltd g.1).length := by rw [f2.2 15 (by decide) (by decide)]; exact e15'
  replace s2 : StM M2 T fp (bRow T 1 t1 g) := s2
  replace hQ : ∀ M' : Mem, FrN M M' → StM M' T fp (bTold T t1 g) → Q M' := hQ
  have er := @rE0_r T t1 g.1 1
  unfold bRow at s2
  unfold bTold at hQ
  clear ht hs hp
  by_cases q0 : rE0 g.1 T t1 1 = 0
  rotate_left
  · rw [if_pos q0] at s2
    rw [rEr_bad q0, if_pos q0] at hQ
    rw [m189e s2]
    refine ⟨by decide, ?_⟩
    rw [if_pos rfl]
    have s2' := s2
    obtain ⟨he, t', ht'⟩ := s2'
    exact t61e (n := ((Ltd g.1).length : Int)) ht' he e15 (by omega) (hQ M2 F2 s2)
  rw [if_neg (fun z => z q0)] at s2
  rw [m189o s2]
  refine ⟨by decide, ?_⟩
  rw [if_neg (by decide)]
  obtain ⟨ht, hs, hp⟩ : TmR M2 T t1 0 fp ∧ Stg M2 g ∧ PtrM M2 := s2
  obtain ⟨k1, k2, k3, k4, k5⟩ := rE0_ok ht.2.2.1 q0
  obtain ⟨n7, n12, -, -⟩ := rw_n ht k1
  rw [n7, wr_id (by omega), m177 (by omega) (by decide) (by decide)]
  refine ⟨by have := b2i_r (decide ((2 : Int) ≤ t1.2.2 ∧ (t1.2.2 : Int) ≤ 4)); omega, ?_⟩
  by_cases q1 : (2 : Int) ≤ t1.2.2 ∧ (t1.2.2 : Int) ≤ 4
  rotate_left
  · rw [decide_eq_false q1, if_pos (by decide)]
    rw [rEr_len q0 (by omega), if_pos (by decide)] at hQ
    refine m188 ht (by decide) (fun M3 f3 h3 => ?_)
    rw [if_pos rfl, if_pos rfl, if_neg (by omega)] at h3
    exact t61e (n := ((Ltd g.1).length : Int)) h3 (by decide) (by rw [f3.2 15 (by decide) (by decide)]; exact e15) (by omega) (hQ M3 (F2.tr f3.n) ⟨⟨(show (1 : Int) ≤ 4 by decide), (show (4 : Int) ≤ 5 by decide)⟩, t1, h3⟩)
  rw [decide_eq_true q1, if_neg (by decide)]
  rw [rEr_fit q0 (by omega), if_neg (fun z => z rfl)] at hQ
  refine t61 ht hs hp k1 (by omega) (fun hm M3 f3 h3 => ?_) (fun hm l2 l3 => ?_) (Ltd g.1).length 0 (Nat.zero_add _) (fun i hi => absurd hi (Nat.not_lt_zero _)) none none
  · rw [if_pos hm] at hQ
    exact hQ M3 (F2.tr f3.n) ⟨⟨(show (1 : Int) ≤ 4 by decide), (show (4 : Int) ≤ 5 by decide)⟩, t1, h3⟩
  rw [if_neg hm] at hQ
  have hnew : Wf (addT g.1 (cds g.1 T t1)) := wf_addT hs.2.2.2.2.2.2.2.1 (by omega) ⟨by omega, by omega, fun s hs => ⟨(k5 s hs).1.1, (k5 s hs).1.2, (k5 s hs).2.1 rfl⟩⟩
  have key : ∀ (n j : Nat), j + n = t1.2.2 → ∀ N : Mem, (∀ k : Int, k ≠ 211 → N k = M2 k) → (∀ x : Int, x < 4 * (Ltd g.1).length → N 211 x = M2 211 x) → (∀ i : Int, 0 ≤ i → i < j → N 211 (4 * (Ltd g.1).length + i) = gi (cds g.1 T t1) i) → WR 196 170 [some (vR 204), some (vI j), l2, l3] [] N (fun _ M' => Q M') := by
    intro n
    induction n with
    | zero =>
      intro j hj N e a b
      have FN0 : FrN M2 N := ⟨fun k x y => e k (by omega), fun j x y => by rw [e 204 (by decide)]⟩
      have htN : TmR N T t1 0 fp := ht.o (fun j _ => by rw [e 204 (by decide)]) (e 205 (by decide)) (e 206 (by decide))
      obtain ⟨n7, n12, -, -⟩ := rw_n htN k1
      have p32 : N 204 32 = 212 := (hp.fn FN0).at (by decide)
      have eN : N 204 15 = (Ltd g.1).length := by rw [e 204 (by decide)]; exact e15
      refine t_196_170 o204 ⟨by omega, ?_⟩
      rw [n7]
      refine ⟨by omega, ?_⟩
      rw [if_pos (by omega), p32, eN]
      refine ⟨gC z211.2.1 (by omega) (by show _ < ((12 : Nat) : Int); omega), ?_⟩
      rw [upM_o (show (204 : Int) ≠ 212 by decide), eN]
      have f5 : FrN N (upM (upM N 212 (Ltd g.1).length t1.2.2) 204 15 (((Ltd g.1).length : Int) + 1)) := (FrN.u (by omega)).tr (FrN.u (by omega))
      have u4 : ∀ j : Int, j ≠ 15 → upM (upM N 212 (Ltd g.1).length t1.2.2) 204 15 (((Ltd g.1).length : Int) + 1) 204 j = M2 204 j := fun j a => by rw [upM_f a, upM_o (by decide), e 204 (by decide)]
      have uo : ∀ k : Int, k ≠ 204 → k ≠ 212 → k ≠ 211 → upM (upM N 212 (Ltd g.1).length t1.2.2) 204 15 (((Ltd g.1).length : Int) + 1) k = M2 k := fun k a b c => by rw [upM_o a, upM_o b, e k c]
      have u14 : upM (upM N 212 (Ltd g.1).length t1.2.2) 204 15 (((Ltd g.1).length : Int) + 1) 211 = N 211 := by rw [upM_o (by decide), upM_o (by decide)]
      have u15 : ∀ x : Int, x ≠ (Ltd g.1).length → upM (upM N 212 (Ltd g.1).length t1.2.2) 204 15 (((Ltd g.1).length : Int) + 1) 212 x = M2 212 x := fun x a => by rw [upM_o (by decide), upM_f a, e 212 (by decide)]
      have u15' : upM (upM N 212 (Ltd g.1).length t1.2.2) 204 15 (((Ltd g.1).length : Int) + 1) 212 (Ltd g.1).length = t1.2.2 := by rw [upM_o (by decide), upM_s]
      have u17 : upM (upM N 212 (Ltd g.1).length t1.2.2) 204 15 (((Ltd g.1).length : Int) + 1) 204 15 = ((Ltd g.1).length : Int) + 1 := upM_s
      generalize upM (upM N 212 (Ltd g.1).length t1.2.2) 204 15 (((Ltd g.1).length : Int) + 1) = N2 at *
      have ht2 : TmR N2 T t1 0 fp := ht.o (fun j a => u4 j (by omega)) (uo 205 (by decide) (by decide) (by decide)) (uo 206 (by decide) (by decide) (by decide))
      refine m187n' ht2 (fun M5 f5' h5 => hQ M5 (F2.tr (FN0.tr (f5.tr f5'.n))) ⟨h5, Stg.j ?_ f5', ((hp.fn FN0).fn f5).fn f5'.n⟩)
      obtain ⟨i1, i2, i3, i4, i5, i6, i7, i8⟩ := hs
      refine ⟨?_, ⟨?_, tab_app (aL := 212) (aS := 211) (w := 4) (W := Ltd g.1) (Or.inr rfl) i2.2.1 (fun i hi => ?_) u15 (by rw [u15', k4]) (fun x a' => by rw [u14]; exact a x a') (fun i x y => by rw [u14]; exact b i x (by omega)), ?_⟩, ?_, ?_, fun i x y => by rw [uo 216 (by decide) (by decide) (by decide)]; exact i5 i x y, by rw [u4 25 (by decide)]; exact i6, by rw [u4 26 (by decide)]; exact i7, hnew, i8.2⟩
      · unfold StgS at i1 ⊢
        rw [u4 14 (by decide), uo 207 (by decide) (by decide) (by decide), uo 208 (by decide) (by decide) (by decide), uo 209 (by decide) (by decide) (by decide), uo 210 (by decide) (by decide) (by decide)]
        exact i1
      · show N2 204 15 = (((Ltd g.1 ++ [cds g.1 T t1]).length : Nat) : Int)
        rw [u17, List.length_append, List.length_singleton]
        rfl
      · have hm' : (Ltd g.1).getD i [] ∈ Ltd g.1 := by
          rw [List.getD_eq_getElem?_getD, List.getElem?_eq_getElem hi]
          exact List.getElem_mem _
        have := (i8.1.2.1.2.1 _ hm').2.1
        omega
      · rw [u4 16 (by decide), uo 213 (by decide) (by decide) (by decide)]
        exact i2.2.2
      · unfold StgZ at i3 ⊢
        rw [u4 18 (by decide), u4 19 (by decide), u4 20 (by decide), u4 21 (by decide), u4 22 (by decide), u4 23 (by decide), u4 24 (by decide), uo 217 (by decide) (by decide) (by decide)]
        exact i3
      · unfold StgW SegIs at i4 ⊢
        rw [u4 17 (by decide), uo 214 (by decide) (by decide) (by decide), uo 215 (by decide) (by decide) (by decide)]
        exact i4
    | succ n ih =>
      intro j hj N e a b
      have FN0 : FrN M2 N := ⟨fun k x y => e k (by omega), fun j x y => by rw [e 204 (by decide)]⟩
      have htN : TmR N T t1 0 fp := ht.o (fun j _ => by rw [e 204 (by decide)]) (e 205 (by decide)) (e 206 (by decide))
      have hsN : StgS N g.1 := by
        have := hs.1
        unfold StgS at this ⊢
        rw [e 204 (by decide), e 207 (by decide), e 208 (by decide), e 209 (by decide), e 210 (by decide)]
        exact this
      obtain ⟨n7, n12, -, -⟩ := rw_n htN k1
      have p27 : N 204 27 = 207 := (hp.fn FN0).at (by decide)
      have p31 : N 204 31 = 211 := (hp.fn FN0).at (by decide)
      have eN : N 204 15 = (Ltd g.1).length := by rw [e 204 (by decide)]; exact e15
      obtain ⟨v1, v2⟩ := rw_at (j := j) htN hsN k1 (by omega)
      refine t_196_170 o204 ⟨by omega, ?_⟩
      rw [n7]
      refine ⟨by omega, ?_⟩
      rw [if_neg (by omega), n12, p27, p31, eN, v2]
      refine ⟨g206 (by omega) (by omega), g207 v1.1 v1.2, gC z211.1 (by omega) (by show _ < ((48 : Nat) : Int); omega), ih (j + 1) (by omega) _ (fun k h => by rw [upM_o h]; exact e k h) (fun x h => by rw [upM_f (by omega)]; exact a x h) (fun i x y => ?_)⟩
      by_cases q3 : i = j
      · rw [q3, upM_s]
      · rw [upM_f (by omega)]
        exact b i x (by omega)
  exact key t1.2.2 0 (Nat.zero_add _) M2 (fun _ _ => rfl) (fun _ _ => rfl) (fun i x y => absurd x (by omega))
end MTO
