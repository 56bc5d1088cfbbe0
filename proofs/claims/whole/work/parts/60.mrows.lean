/-! the model's directives that read a row: help, word -/
section MRW
variable {M M' : Mem} {fp ft : Int} {T : List Int} {t : Tk} {g : Gs} {r : Rs (Tk × Gs)} {L : Lw}
/-- a row's sounds are looked at -/
def bRow (T : List Int) (pk : Int) (t : Tk) (g : Gs) : Rs (Tk × Gs) := if rE0 g.1 T t pk ≠ 0 then .error (rE0 g.1 T t pk, t.2.1) else .ok (t, g)
theorem st194f {Q : Mem → Prop} {x : Int} (h : TmR M T t ft fp) (hf : 1 ≤ ft ∧ ft ≤ 5) (hQ : Q M) : WV 194 [vR 204, vI x] M Q := by
  refine t_194 o204 ?_
  rw [m189 h.2.2.2.1 (by omega), decide_eq_false (by omega)]
  refine ⟨by decide, ?_⟩
  rw [if_pos (by decide)]
  exact st194 (x2 := 0) h hf (by decide) hQ
theorem m194s {Q : Mem → Prop} {pk x : Int} (hS : StM M T fp r) (hpk : 0 ≤ pk ∧ pk ≤ 2) (hx : x = if pk = 0 then 2 else pk - 1) (hQ : ∀ M' : Mem, FrJ M M' → StM M' T fp (thn r (bRow T pk)) → Q M') : WV 194 [vR 204, vI x] M Q := by
  subst hx
  cases r with
  | error e =>
    obtain ⟨he, t, ht⟩ := hS
    exact st194f ht he (hQ M FrJ.rf ⟨he, t, ht⟩)
  | ok x =>
    obtain ⟨t, g⟩ := x
    obtain ⟨ht, hs, hp⟩ : TmR M T t 0 fp ∧ Stg M g ∧ PtrM M := hS
    have er := @rE0_r T t g.1 pk
    refine m194 ht hp hs.1.2.2 (fun s a b => (hs.1.2.1 s a b).2.2) hs.2.2.2.2.2.2.2.1.1.1 hpk (fun M1 f1 h1 => hQ M1 f1 ?_)
    show StM M1 T fp (bRow T pk t g)
    unfold bRow
    by_cases q : rE0 g.1 T t pk = 0
    · rw [if_neg (fun z => z q)]
      rw [if_pos q] at h1
      rw [h1]
      exact ⟨ht, hs, hp⟩
    · rw [if_pos q]
      rw [if_neg q] at h1
      exact ⟨⟨(show 1 ≤ rE0 g.1 T t pk by omega), er.2⟩, t, h1⟩
theorem rEr_bad {pk : Int} {lo hi : Nat} (h : rE0 L T t pk ≠ 0) : rEr L T t pk lo hi = rE0 L T t pk := by rw [rEr_0, if_pos h]
theorem rEr_len {pk : Int} {lo hi : Nat} (h : rE0 L T t pk = 0) (hl : t.2.2 < lo ∨ hi < t.2.2) : rEr L T t pk lo hi = 4 := by rw [rEr_0, if_neg (fun z => z h), if_pos hl]
theorem rEr_fit {pk : Int} {lo hi : Nat} (h : rE0 L T t pk = 0) (hl : ¬ (t.2.2 < lo ∨ hi < t.2.2)) : rEr L T t pk lo hi = 0 := by rw [rEr_0, if_neg (fun z => z h), if_neg hl]
theorem rE0_ok {pk : Int} (ok : TkOk T t) (h : rE0 L T t pk = 0) : t.1 = 1 ∧ 1 ≤ t.2.2 ∧ t.2.2 ≤ 12 ∧ (cds L T t).length = t.2.2 ∧ ∀ a ∈ cds L T t, (0 ≤ a ∧ a < Ln L) ∧ (pk = 1 → Lpk L a = false) ∧ (pk = 2 → Lpk L a = true) := by
  have h1 : t.1 = 1 := by
    have wr := @wrg_r t
    unfold rE0 at h
    split at h
    · omega
    · omega
  have l := ok.2.1 h1
  exact rEr_ok (lo := 1) (hi := 12) ok (rEr_fit h (by omega))
theorem cds_gi {j : Nat} (h : TkOk T t) (hj : j < t.2.2) : gi (cds L T t) j = numOf L (bt T (t.2.1 + j)) := by
  rw [gi_nat, List.getD_eq_getElem?_getD, cds_at h hj]
  rfl
/-- what a row that is read tells -/
theorem rw_at {j : Nat} (ht : TmR M T t 0 fp) (hI : StgS M L) (h1 : t.1 = 1) (hj : j < t.2.2) : (0 ≤ M 206 j ∧ M 206 j < 26) ∧ M 207 (M 206 j) = gi (cds L T t) j := by
  obtain ⟨l1, l2, l3⟩ := ht.2.2.1.2.1 h1
  obtain ⟨f7, -, f6⟩ := ht.2.1.2.2.2.2.1 h1
  have br := l3 j hj
  rw [f6 j hj, cds_gi ht.2.2.1 hj, hI.2.2 _ (by omega) (by omega), show bt T (t.2.1 + j) - 97 + 97 = bt T (t.2.1 + j) by omega]
  exact ⟨by omega, rfl⟩
theorem rw_n (ht : TmR M T t 0 fp) (h1 : t.1 = 1) : M 204 7 = t.2.2 ∧ M 204 12 = 206 ∧ 1 ≤ t.2.2 ∧ t.2.2 ≤ 12 := ⟨(ht.2.1.2.2.2.2.1 h1).1, ht.1.1.2, (ht.2.2.1.2.1 h1).1, (ht.2.2.1.2.1 h1).2.1⟩
theorem g206 {j : Int} (h0 : 0 ≤ j) (h1 : j < 12) : gA 20 206 j := gC z206 h0 (by show _ < ((12 : Nat) : Int); omega)
theorem g207 {j : Int} (h0 : 0 ≤ j) (h1 : j < 26) : gA 20 207 j := gC z207.1 h0 (by show _ < ((26 : Nat) : Int); omega)
theorem FrN.u {a b v : Int} (h : (a = 204 ∧ 14 ≤ b ∧ b ≤ 26) ∨ (207 ≤ a ∧ a ≤ 217)) : FrN M (upM M a b v) := ⟨fun k x y => upM_o (by omega), fun j x y => up_n (by omega)⟩
theorem m203 {Q : Mem → Prop} (hS : StM M T fp (.ok (t, g))) (h1 : t.1 = 1) (hQ : ∀ M' : Mem, FrN M M' → StM M' T fp (thn (onc T 9 t g) (body T 9)) → Q M') : WV 203 [vR 204] M Q := by
  refine t_203 o204 (m198s (d := 9) hS h1 (by decide) rfl (fun M1 f1 s1 => ?_))
  generalize onc T 9 t g = r1 at *
  refine m194s s1 (pk := 2) (by decide) rfl (fun M2 f2 s2 => ?_)
  have F2 : FrN M M2 := f1.tr f2.n
  have bad : ∀ (e : Int × Int) (N : Mem), FrN M N → thn r1 (body T 9) = .error e → StM N T fp (.error e) → N 204 8 = e.1 ∧ (1 ≤ e.1 ∧ e.1 ≤ 5) ∧ Q N := fun e N F ee s => by
    have := hQ N F
    rw [ee] at this
    have s' := s
    obtain ⟨he, t', ht'⟩ := s'
    exact ⟨ht'.2.2.2.1, he, this s⟩
  cases r1 with
  | error e =>
    obtain ⟨e8, he, hq⟩ := bad e M2 F2 rfl s2
    rw [m189e s2]
    refine ⟨by decide, ?_⟩
    rw [if_pos rfl, e8]
    refine ⟨by omega, ?_⟩
    rw [if_neg (by omega)]
    exact hq
  | ok x =>
    obtain ⟨t1, g1⟩ := x
    have hB : thn (.ok (t1, g1)) (body T 9) = bHelp T t1 g1 := rfl
    rw [hB] at bad hQ
    replace s2 : StM M2 T fp (bRow T 2 t1 g1) := s2
    have er := @rE0_r T t1 g1.1 2
    unfold bRow at s2
    unfold bHelp at bad hQ
    by_cases q : rE0 g1.1 T t1 2 = 0
    rotate_left
    · rw [if_pos q] at s2
      rw [rEr_bad q, if_pos q] at bad
      obtain ⟨e8, he, hq⟩ := bad _ M2 F2 rfl s2
      rw [m189e s2]
      refine ⟨by decide, ?_⟩
      rw [if_pos rfl, e8]
      refine ⟨by omega, ?_⟩
      rw [if_neg (by omega)]
      exact hq
    rw [if_neg (fun z => z q)] at s2
    rw [m189o s2]
    obtain ⟨ht, hs, hp⟩ : TmR M2 T t1 0 fp ∧ Stg M2 g1 ∧ PtrM M2 := s2
    obtain ⟨k1, k2, k3, k4, k5⟩ := rE0_ok ht.2.2.1 q
    obtain ⟨n7, n12, n1, n2⟩ := rw_n ht k1
    have p27 : M2 204 27 = 207 := hp.at (by decide)
    obtain ⟨v1, v2⟩ := rw_at (j := 0) ht hs.1 k1 (by omega)
    refine ⟨by decide, ?_⟩
    rw [if_neg (by decide), n7]
    refine ⟨by omega, ?_⟩
    by_cases q1 : t1.2.2 = 1
    · rw [if_pos (by omega), ht.2.2.2.1, n12, p27]
      rw [rEr_fit q (by omega), if_neg (fun z => z rfl)] at hQ
      refine ⟨by decide, ?_⟩
      rw [if_pos (by decide)]
      replace v1 : 0 ≤ M2 206 0 ∧ M2 206 0 < 26 := v1
      replace v2 : M2 207 (M2 206 0) = gi (cds g1.1 T t1) 0 := v2
      refine ⟨g206 (by decide) (by decide), g207 v1.1 v1.2, ?_⟩
      rw [v2]
      obtain ⟨⟨w1, w2⟩, -, w3⟩ := k5 _ (gi_mem (i := 0) (by decide) (by omega))
      have fz : FrN M2 (upM M2 204 21 (gi (cds g1.1 T t1) 0)) := FrN.u (by omega)
      have hz : Stg (upM M2 204 21 (gi (cds g1.1 T t1) 0)) (setz g1.1 9 (gi (cds g1.1 T t1) 0), g1.2) := hs.z (i := 9) (by decide) (wz9 hs.2.2.2.2.2.2.2.1.2.2 w1 w2 (w3 rfl)) (fun _ z => by cases z)
      have htz : TmR (upM M2 204 21 (gi (cds g1.1 T t1) 0)) T t1 0 fp := ht.o (fun j a => upM_f (by omega)) (upM_o (by decide)) (upM_o (by decide))
      refine m187n' htz (fun M3 f3 h3 => hQ M3 (F2.tr (fz.tr f3.n)) ⟨h3, hz.j f3, (hp.fn fz).fn f3.n⟩)
    · rw [if_neg (by omega)]
      rw [rEr_len q (by omega), if_pos (by decide)] at bad
      refine m188 ht (by decide) (fun M3 f3 h3 => ?_)
      rw [if_pos rfl, if_pos rfl, if_neg (by omega)] at h3
      obtain ⟨e8, he, hq⟩ := bad _ M3 (F2.tr f3.n) rfl ⟨⟨(show (1 : Int) ≤ 4 by decide), (show (4 : Int) ≤ 5 by decide)⟩, t1, h3⟩
      rw [e8]
      refine ⟨(by decide : inR 4), ?_⟩
      rw [if_neg (by decide : ¬ (4 : Int) ≤ 0)]
      exact hq
/-- rows of numbers behind one another -/
def TabIs (M : Mem) (aL aS w : Int) (W : List (List Int)) : Prop := ∀ i : Nat, i < W.length → M aL i = (W.getD i []).length ∧ SegIs M aS (w * i) (W.getD i [])
theorem tab_app {aL aS w : Int} {W : List (List Int)} {l : List Int} (hw : w = 12 ∨ w = 4) (h : TabIs M aL aS w W) (hl : ∀ i : Nat, i < W.length → ((W.getD i []).length : Int) ≤ w) (e1 : ∀ x : Int, x ≠ W.length → M' aL x = M aL x) (e2 : M' aL W.length = l.length) (e3 : ∀ x : Int, x < w * W.length → M' aS x = M aS x) (e4 : SegIs M' aS (w * W.length) l) : TabIs M' aL aS w (W ++ [l]) := by
  intro i hi
  rw [List.length_append, List.length_singleton] at hi
  rw [getD_app]
  by_cases q : i < W.length
  · rw [if_pos q, e1 i (by omega)]
    refine ⟨(h i q).1, fun j a b => ?_⟩
    have := hl i q
    rw [e3 _ (by rcases hw with rfl | rfl <;> omega)]
    exact (h i q).2 j a b
  · rw [if_neg q, show i = W.length by omega, Nat.sub_self]
    exact ⟨e2, e4⟩
/-- no room, or on -/
def roo (T : List Int) (d : Int) (t : Tk) (g : Gs) : Rs (Tk × Gs) := if full g d = true then .error (5, t.2.1) else .ok (nx T t, g)
theorem z214 : shA SH 214 = (20, 240) ∧ shA SH 215 = (20, 20) := by decide +kernel
theorem m204 {Q : Mem → Prop} (hS : StM M T fp (.ok (t, g))) (h1 : t.1 = 1) (hQ : ∀ M' : Mem, FrN M M' → StM M' T fp (thn (roo T 3 t g) (body T 3)) → Q M') : WV 204 [vR 204] M Q := by
  obtain ⟨ht, hs, hp⟩ : TmR M T t 0 fp ∧ Stg M g ∧ PtrM M := hS
  have hW20 := hs.2.2.2.2.2.2.2.2.2.1
  have e17 := hs.2.2.2.1.1
  refine t_204 o204 ?_
  rw [e17]
  refine ⟨by omega, ?_⟩
  unfold roo at hQ
  rw [show full g 3 = decide (20 ≤ g.2.1.length) from rfl] at hQ
  by_cases q : g.2.1.length = 20
  · rw [if_pos (by omega)]
    rw [decide_eq_true (by omega), if_pos rfl] at hQ
    refine m188 ht (by decide) (fun M1 f1 h2 => ?_)
    rw [if_pos rfl, if_pos rfl, if_neg (by omega)] at h2
    rw [m189 h2.2.2.2.1 (by decide)]
    refine ⟨by decide, ?_⟩
    rw [if_pos (by decide)]
    refine st194f h2 (by decide) ?_
    rw [h2.2.2.2.1]
    refine ⟨by decide, ?_⟩
    rw [if_neg (by decide)]
    exact hQ M1 f1.n ⟨⟨(show (1 : Int) ≤ 5 by decide), (show (5 : Int) ≤ 5 by decide)⟩, t, h2⟩
  rw [if_neg (by omega), m189 ht.2.2.2.1 (by decide)]
  rw [decide_eq_false (by omega), if_neg (by decide)] at hQ
  refine ⟨by decide, ?_⟩
  rw [if_neg (by decide)]
  refine m187n' ht (fun M1 f1 h2 => ?_)
  have s1 : StM M1 T fp (.ok (nx T t, g)) := ⟨h2, hs.j f1, hp.fn f1.n⟩
  generalize nx T t = t1 at *
  refine m194s s1 (pk := 0) (by decide) rfl (fun M2 f2 s2 => ?_)
  have F2 : FrN M M2 := f1.n.tr f2.n
  replace s2 : StM M2 T fp (bRow T 0 t1 g) := s2
  replace hQ : ∀ M' : Mem, FrN M M' → StM M' T fp (bWord T t1 g) → Q M' := hQ
  have er := @rE0_r T t1 g.1 0
  unfold bRow at s2
  unfold bWord at hQ
  clear ht hs hp e17
  by_cases q0 : rE0 g.1 T t1 0 = 0
  rotate_left
  · rw [if_pos q0] at s2
    rw [rEr_bad q0, if_pos q0] at hQ
    have s2' := s2
    obtain ⟨he, t', ht'⟩ := s2'
    rw [ht'.2.2.2.1]
    refine ⟨by show inR (rE0 g.1 T t1 0); omega, ?_⟩
    rw [if_neg (by show ¬ rE0 g.1 T t1 0 ≤ 0; omega)]
    exact hQ M2 F2 s2
  rw [if_neg (fun z => z q0)] at s2
  obtain ⟨ht, hs, hp⟩ : TmR M2 T t1 0 fp ∧ Stg M2 g ∧ PtrM M2 := s2
  obtain ⟨k1, k2, k3, k4, k5⟩ := rE0_ok ht.2.2.1 q0
  rw [rEr_fit q0 (by omega), if_neg (fun z => z rfl)] at hQ
  rw [ht.2.2.2.1]
  refine ⟨by decide, ?_⟩
  rw [if_pos (by decide)]
  have hnew : WordOk g.1 (cds g.1 T t1) := ⟨by omega, by omega, fun s hs => (k5 s hs).1⟩
  have key : ∀ (n j : Nat), j + n = t1.2.2 → ∀ N : Mem, (∀ k : Int, k ≠ 214 → N k = M2 k) → (∀ x : Int, x < 12 * g.2.1.length → N 214 x = M2 214 x) → (∀ i : Int, 0 ≤ i → i < j → N 214 (12 * g.2.1.length + i) = gi (cds g.1 T t1) i) → WR 204 40 [some (vR 204), some (vI j)] [] N (fun _ M' => Q M') := by
    intro n
    induction n with
    | zero =>
      intro j hj N e a b
      have FN0 : FrN M2 N := ⟨fun k x y => e k (by omega), fun j x y => by rw [e 204 (by decide)]⟩
      have htN : TmR N T t1 0 fp := ht.o (fun j _ => by rw [e 204 (by decide)]) (e 205 (by decide)) (e 206 (by decide))
      obtain ⟨n7, n12, -, -⟩ := rw_n htN k1
      have p35 : N 204 35 = 215 := (hp.fn FN0).at (by decide)
      have eN : N 204 17 = g.2.1.length := by rw [e 204 (by decide)]; exact hs.2.2.2.1.1
      refine t_204_40 o204 ⟨by omega, ?_⟩
      rw [n7]
      refine ⟨by omega, ?_⟩
      rw [if_pos (by omega), p35, eN]
      refine ⟨gC z214.2 (by omega) (by show _ < ((20 : Nat) : Int); omega), ?_⟩
      rw [upM_o (show (204 : Int) ≠ 215 by decide), eN]
      have f5 : FrN N (upM (upM N 215 g.2.1.length t1.2.2) 204 17 ((g.2.1.length : Int) + 1)) := (FrN.u (by omega)).tr (FrN.u (by omega))
      have u4 : ∀ j : Int, j ≠ 17 → upM (upM N 215 g.2.1.length t1.2.2) 204 17 ((g.2.1.length : Int) + 1) 204 j = M2 204 j := fun j a => by rw [upM_f a, upM_o (by decide), e 204 (by decide)]
      have uo : ∀ k : Int, k ≠ 204 → k ≠ 215 → k ≠ 214 → upM (upM N 215 g.2.1.length t1.2.2) 204 17 ((g.2.1.length : Int) + 1) k = M2 k := fun k a b c => by rw [upM_o a, upM_o b, e k c]
      have u14 : upM (upM N 215 g.2.1.length t1.2.2) 204 17 ((g.2.1.length : Int) + 1) 214 = N 214 := by rw [upM_o (by decide), upM_o (by decide)]
      have u15 : ∀ x : Int, x ≠ g.2.1.length → upM (upM N 215 g.2.1.length t1.2.2) 204 17 ((g.2.1.length : Int) + 1) 215 x = M2 215 x := fun x a => by rw [upM_o (by decide), upM_f a, e 215 (by decide)]
      have u15' : upM (upM N 215 g.2.1.length t1.2.2) 204 17 ((g.2.1.length : Int) + 1) 215 g.2.1.length = t1.2.2 := by rw [upM_o (by decide), upM_s]
      have u17 : upM (upM N 215 g.2.1.length t1.2.2) 204 17 ((g.2.1.length : Int) + 1) 204 17 = (g.2.1.length : Int) + 1 := upM_s
      generalize upM (upM N 215 g.2.1.length t1.2.2) 204 17 ((g.2.1.length : Int) + 1) = N2 at *
      have ht2 : TmR N2 T t1 0 fp := ht.o (fun j a => u4 j (by omega)) (uo 205 (by decide) (by decide) (by decide)) (uo 206 (by decide) (by decide) (by decide))
      refine m187n' ht2 (fun M5 f5' h5 => hQ M5 (F2.tr (FN0.tr (f5.tr f5'.n))) ⟨h5, Stg.j ?_ f5', ((hp.fn FN0).fn f5).fn f5'.n⟩)
      obtain ⟨i1, i2, i3, i4, i5, i6, i7, i8⟩ := hs
      refine ⟨?_, ?_, ?_, ⟨?_, tab_app (aL := 215) (aS := 214) (w := 12) (Or.inl rfl) i4.2 (fun i hi => by have := (i8.2.1 i hi).2.1; omega) u15 (by rw [u15', k4]) (fun x a' => by rw [u14]; exact a x a') (fun i x y => by rw [u14]; exact b i x (by omega))⟩, fun i x y => by rw [uo 216 (by decide) (by decide) (by decide)]; exact i5 i x y, by rw [u4 25 (by decide)]; exact i6, by rw [u4 26 (by decide)]; exact i7, i8.word hnew (by omega)⟩
      · unfold StgS at i1 ⊢
        rw [u4 14 (by decide), uo 207 (by decide) (by decide) (by decide), uo 208 (by decide) (by decide) (by decide), uo 209 (by decide) (by decide) (by decide), uo 210 (by decide) (by decide) (by decide)]
        exact i1
      · unfold StgT SegIs at i2 ⊢
        rw [u4 15 (by decide), u4 16 (by decide), uo 211 (by decide) (by decide) (by decide), uo 212 (by decide) (by decide) (by decide), uo 213 (by decide) (by decide) (by decide)]
        exact i2
      · unfold StgZ at i3 ⊢
        rw [u4 18 (by decide), u4 19 (by decide), u4 20 (by decide), u4 21 (by decide), u4 22 (by decide), u4 23 (by decide), u4 24 (by decide), uo 217 (by decide) (by decide) (by decide)]
        exact i3
      · show N2 204 17 = (((g.2.1 ++ [cds g.1 T t1]).length : Nat) : Int)
        rw [u17, List.length_append, List.length_singleton]
        rfl
    | succ n ih =>
      intro j hj N e a b
      have FN0 : FrN M2 N := ⟨fun k x y => e k (by omega), fun j x y => by rw [e 204 (by decide)]⟩
      have htN : TmR N T t1 0 fp := ht.o (fun j _ => by rw [e 204 (by decide)]) (e 205 (by decide)) (e 206 (by decide))
      have hsN : StgS N g.1 := by
        have := hs.1
        unfold StgS at this ⊢
        rw [e 204 (by decide), e 207 (by decide), e 208 (by decide), e 209 (by decide), e 210 (by decide)]
        exact this
      obtain ⟨n7, n12, -, -⟩ := rw_n htN k1
      have p27 : N 204 27 = 207 := (hp.fn FN0).at (by decide)
      have p34 : N 204 34 = 214 := (hp.fn FN0).at (by decide)
      have eN : N 204 17 = g.2.1.length := by rw [e 204 (by decide)]; exact hs.2.2.2.1.1
      obtain ⟨v1, v2⟩ := rw_at (j := j) htN hsN k1 (by omega)
      refine t_204_40 o204 ⟨by omega, ?_⟩
      rw [n7]
      refine ⟨by omega, ?_⟩
      rw [if_neg (by omega), n12, p27, p34, eN, v2]
      refine ⟨g206 (by omega) (by omega), g207 v1.1 v1.2, gC z214.1 (by omega) (by show _ < ((240 : Nat) : Int); omega), ih (j + 1) (by omega) _ (fun k h => by rw [upM_o h]; exact e k h) (fun x h => by rw [upM_f (by omega)]; exact a x h) (fun i x y => ?_)⟩
      by_cases q3 : i = j
      · rw [q3, upM_s]
      · rw [upM_f (by omega)]
        exact b i x (by omega)
  exact key t1.2.2 0 (Nat.zero_add _) M2 (fun _ _ => rfl) (fun _ _ => rfl) (fun i x y => absurd x (by omega))
end MRW
