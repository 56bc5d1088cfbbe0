/-! the class's tape: numbers, names, faults -/
section TP
variable {M M' : Mem} {ft fp : Int} {T : List Int} {t : Tk}
def kw (i : Nat) : List Int := strT.getD i []
def tx (T : List Int) (t : Tk) : List Int := (T.drop t.2.1).take t.2.2
def nmv (T : List Int) (s : Nat) : Nat → Int
  | 0 => 0
  | n + 1 => nmv T s n * 10 + bt T (s + n) - 48
theorem tx_len (h : t.2.1 + t.2.2 ≤ T.length) : (tx T t).length = t.2.2 := by
  unfold tx
  rw [List.length_take, List.length_drop]
  omega
theorem tx_at (h : t.2.1 + t.2.2 ≤ T.length) {k : Nat} (hk : k < t.2.2) : (tx T t).getD k 0 = bt T (t.2.1 + k) := by
  unfold tx bt
  rw [List.getD_eq_getElem?_getD, List.getD_eq_getElem?_getD, List.getElem?_take_of_lt hk, List.getElem?_drop]
theorem tx_eq (h : t.2.1 + t.2.2 ≤ T.length) {l : List Int} : tx T t = l ↔ t.2.2 = l.length ∧ ∀ k : Nat, k < l.length → bt T (t.2.1 + k) = l.getD k 0 := by
  constructor
  · intro e
    have hl := tx_len h
    rw [e] at hl
    refine ⟨hl.symm, fun k hk => ?_⟩
    rw [← tx_at h (by omega), e]
  · intro ⟨e1, e2⟩
    have hl := tx_len h
    refine List.ext_getElem (by omega) (fun k h1 h2 => ?_)
    have := e2 k h2
    rw [← tx_at h (by omega), List.getD_eq_getElem?_getD, List.getD_eq_getElem?_getD, List.getElem?_eq_getElem h1, List.getElem?_eq_getElem h2] at this
    exact this
theorem strT_l : ∀ l ∈ strT, 1 ≤ l.length ∧ l.length ≤ 12 ∧ ∀ b ∈ l, 97 ≤ b ∧ b ≤ 122 := by decide
theorem kw_r {i : Nat} (hi : i < 18) : 1 ≤ (kw i).length ∧ (kw i).length ≤ 12 ∧ ∀ b ∈ kw i, 97 ≤ b ∧ b ≤ 122 := by
  have h : i < strT.length := hi
  have e : kw i = strT[i] := by
    unfold kw
    rw [List.getD_eq_getElem?_getD, List.getElem?_eq_getElem h]
    rfl
  rw [e]
  exact strT_l _ (List.getElem_mem h)
theorem kw_at {i j : Nat} (hi : i < 18) (hj : j < (kw i).length) : 97 ≤ (kw i).getD j 0 ∧ (kw i).getD j 0 ≤ 122 := by
  rw [List.getD_eq_getElem?_getD, List.getElem?_eq_getElem hj]
  exact (kw_r hi).2.2 _ (List.getElem_mem hj)
theorem sh40 {i : Nat} (hi : i < 18) : shA SH (-1 - (i : Int)) = (40, 0) ∧ shA SH (-1 - (i : Int) - 100) = (41, (kw i).length) := by
  unfold shA kw
  refine ⟨by rw [if_neg (by omega), if_pos (by omega)], ?_⟩
  rw [if_neg (by omega), if_neg (by omega), if_pos (by omega), show (-101 - (-1 - (i : Int) - 100)).toNat = i by omega]
theorem s291 {Q : Int → Mem → Prop} {i : Nat} (hi : i < 18) : WI 291 [vR (-1 - (i : Int))] M Q = Q ((kw i).length : Int) M := by
  obtain ⟨h1, h2⟩ := sh40 hi
  have hr := kw_r hi
  refine FN.wi (WC.fn (t_291 ?_))
  rw [h1, h2]
  refine ⟨rfl, ⟨by omega, (show 20 ≤ 41 by decide), (show 41 ≤ 41 by decide), (show 41 ≠ 40 by decide)⟩, rfl, t_293 ⟨by rw [h1], _, rfl, ⟨by decide, by decide, by omega, by omega⟩, ?_⟩⟩
  rw [show (2 : Int) ^ (0 : Int).toNat = 1 from rfl, Int.ediv_one]
  exact ⟨rfl, rfl⟩
theorem s292 {Q : Int → Mem → Prop} {i j : Nat} (hi : i < 18) (hj : j < (kw i).length) : WI 292 [vR (-1 - (i : Int)), vI j] M Q = Q ((kw i).getD j 0) M := by
  obtain ⟨h1, h2⟩ := sh40 hi
  have hr := kw_r hi
  have hb := kw_at hi hj
  have es : strB (-101 - (-1 - (i : Int) - 100)) j = (kw i).getD j 0 := by
    unfold strB kw
    rw [show (-101 - (-1 - (i : Int) - 100)).toNat = i by omega, Int.toNat_natCast]
  refine FN.wi (WC.fn (t_292 ?_))
  rw [h1]
  refine ⟨rfl, t_294 ⟨by rw [h1], _, rfl, by decide, ?_⟩⟩
  rw [if_neg (by decide)]
  refine ⟨rfl, t_296 ?_⟩
  rw [h2, es, and32_255]
  refine ⟨⟨by omega, (show 20 ≤ 41 by decide), (show 41 ≤ 41 by decide), (show 41 ≠ 40 by decide)⟩, t_295 (t_297 ⟨by omega, ?_⟩)⟩
  rw [if_neg (by omega)]
  refine ⟨by show inR ((kw i).length : Int); omega, ?_⟩
  rw [if_pos (by show (j : Int) < ((kw i).length : Int); omega)]
  refine ⟨_, rfl, ⟨by rw [h2], by omega, by rw [h2]; show (j : Int) < ((kw i).length : Int); omega⟩, ⟨by omega, by omega⟩, _, rfl, ⟨by omega, by omega⟩, ?_⟩
  exact ⟨congrArg vI (by omega), rfl⟩
theorem s133 {Q : Int → Mem → Prop} {i : Nat} {x : Int} (h : TpR M T t ft fp) (hi : i < 18) (hx : x = -1 - (i : Int)) : WI 133 [vR 2, vR x] M Q = Q (b2i (decide (t.1 = 1 ∧ tx T t = kw i))) M := by
  obtain ⟨hT, hk, ok⟩ := h
  obtain ⟨h1, h2⟩ := sh40 hi
  have hr := kw_r hi
  have k4 := ok.2.2.2.2.1
  have hl := hT.2.2.1
  have hsn := ok.1
  subst hx
  refine FN.wi (WC.fn (t_133 o2.1 ?_))
  rw [hk.1, h1]
  refine ⟨by omega, ?_⟩
  by_cases q1 : t.1 = 1
  rotate_left
  · rw [if_neg q1, decide_eq_false (fun z => q1 z.1)]
    exact ⟨rfl, rfl⟩
  rw [if_pos q1, s291 hi, hk.2.2]
  refine ⟨rfl, by omega, by omega, ?_⟩
  have te := @tx_eq T t hsn (kw i)
  by_cases q2 : t.2.2 = (kw i).length
  rotate_left
  · rw [if_neg (by omega), decide_eq_false (fun z => q2 (te.mp z.2).1)]
    exact ⟨rfl, rfl⟩
  rw [if_pos (by omega)]
  have key : ∀ (n j : Nat), j + n = (kw i).length → (∀ k : Nat, k < j → bt T (t.2.1 + k) = (kw i).getD k 0) → WR 133 23 [some (vR 2), some (vR (-1 - (i : Int))), some (vI j)] [] M (fun r N => r = vI (b2i (decide (t.1 = 1 ∧ tx T t = kw i))) ∧ N = M) := by
    intro n
    induction n with
    | zero =>
      intro j hj he
      refine t_133_23 o2.1 ?_
      rw [h1, s291 hi]
      refine ⟨rfl, by omega, by omega, ?_⟩
      rw [if_pos (by omega), decide_eq_true ⟨q1, te.mpr ⟨q2, fun k hk => he k (by omega)⟩⟩]
      exact ⟨rfl, rfl⟩
    | succ n ih =>
      intro j hj he
      refine t_133_23 o2.1 ?_
      have br := bt_r hT.2.2.2.1 (t.2.1 + j)
      have kb := kw_at (j := j) hi (by omega)
      rw [h1, s291 hi]
      refine ⟨rfl, by omega, by omega, ?_⟩
      rw [if_neg (by omega), s132 hT hk.2 hsn (by omega), s292 hi (by omega)]
      refine ⟨rfl, by unfold sgn; split <;> omega, by omega, ?_⟩
      by_cases q : bt T (t.2.1 + j) = (kw i).getD j 0
      · rw [if_pos (by rw [← q]; unfold sgn; rw [if_pos (by omega)])]
        refine ih (j + 1) (by omega) (fun k hk => ?_)
        by_cases q3 : k = j
        · rw [q3]; exact q
        · exact he k (by omega)
      · rw [if_neg (by unfold sgn; split <;> omega), decide_eq_false (fun z => q ((te.mp z.2).2 j (by omega)))]
        exact ⟨rfl, rfl⟩
  exact key (kw i).length 0 (by omega) (fun k hk => absurd hk (Nat.not_lt_zero _))
theorem nmv_r {s : Nat} : ∀ n : Nat, n ≤ 3 → (∀ j : Nat, j < n → 48 ≤ bt T (s + j) ∧ bt T (s + j) ≤ 57) → 0 ≤ nmv T s n ∧ nmv T s n < 10 ^ n := by
  intro n
  induction n with
  | zero => exact fun _ _ => ⟨Int.le_refl 0, (show (0 : Int) < 1 by decide)⟩
  | succ n ih =>
    intro hn hb
    obtain ⟨h1, h2⟩ := ih (by omega) (fun j hj => hb j (by omega))
    have := hb n (by omega)
    have e : nmv T s (n + 1) = nmv T s n * 10 + bt T (s + n) - 48 := rfl
    rw [e, Int.pow_succ]
    omega
theorem nmv_k (ok : TkOk T t) (h2 : t.1 = 2) : 0 ≤ nmv T t.2.1 t.2.2 ∧ nmv T t.2.1 t.2.2 ≤ 999 := by
  obtain ⟨a, b, c⟩ := ok.2.2.1 h2
  have := nmv_r t.2.2 b c
  have e : (10 : Int) ^ t.2.2 ≤ 1000 := by
    have : t.2.2 = 1 ∨ t.2.2 = 2 ∨ t.2.2 = 3 := by omega
    rcases this with z | z | z <;> rw [z] <;> decide
  omega
theorem s131 {Q : Int → Mem → Prop} (h : TpR M T t ft fp) (h2 : t.1 = 2) : WI 131 [vR 2] M Q = Q (nmv T t.2.1 t.2.2) M := by
  obtain ⟨hT, hk, ok⟩ := h
  have hsn := ok.1
  have hl := hT.2.2.1
  obtain ⟨a, b, d⟩ := ok.2.2.1 h2
  refine FN.wi (WC.fn (t_131 o2.1 ?_))
  have key : ∀ (n j : Nat), j + n = t.2.2 → WR 131 4 [some (vR 2), some (vI (nmv T t.2.1 j)), some (vI j)] [] M (fun r N => r = vI (nmv T t.2.1 t.2.2) ∧ N = M) := by
    intro n
    induction n with
    | zero =>
      intro j hj
      refine t_131_4 o2.1 ?_
      rw [hk.2.2]
      refine ⟨by omega, by omega, ?_⟩
      rw [if_pos (by omega), show j = t.2.2 by omega]
      exact ⟨rfl, rfl⟩
    | succ n ih =>
      intro j hj
      refine t_131_4 o2.1 ?_
      rw [hk.2.2]
      refine ⟨by omega, by omega, ?_⟩
      have := d j (by omega)
      rw [if_neg (by omega), s132 hT hk.2 hsn (by omega), show sgn (bt T (t.2.1 + j)) = bt T (t.2.1 + j) by unfold sgn; rw [if_pos (by omega)]]
      exact ih (j + 1) (by omega)
  exact key t.2.2 0 (by omega)
theorem TapC.fl (h : TapC M T ft fp) {x y : Int} : TapC (upM (upM M 2 5 x) 2 6 y) T x y := by
  obtain ⟨t0, t1, t2, t3, t4, t5, t6⟩ := h
  exact ⟨by rw [upM_f (by decide), upM_f (by decide)]; exact t0, by rw [upM_f (by decide), upM_f (by decide)]; exact t1, t2, t3, fun j hj => by rw [upM_o (by decide), upM_o (by decide)]; exact t4 j hj, by rw [upM_f (by decide), upM_s], upM_s⟩
theorem s125 {Q : Mem → Prop} {x : Int} (h : TpR M T t ft fp) (hf : 0 ≤ ft ∧ ft ≤ 5) (hQ : ∀ M' : Mem, FrK M M' → TpR M' T t (if ft = 0 then x else ft) (if ft = 0 then (t.2.1 : Int) else fp) → Q M') : WV 125 [vR 2, vI x] M Q := by
  obtain ⟨hT, hk, ok⟩ := h
  refine t_125 o2.1 ?_
  rw [hT.2.2.2.2.2.1]
  refine ⟨by omega, ?_⟩
  by_cases q : ft = 0
  · rw [if_pos q, upM_f (by decide), hk.2.1]
    rw [if_pos q, if_pos q] at hQ
    exact hQ _ ((FrK.up (by decide)).tr (FrK.up (by decide))) ⟨hT.fl, ⟨by rw [upM_f (by decide), upM_f (by decide)]; exact hk.1, by rw [upM_f (by decide), upM_f (by decide)]; exact hk.2.1, by rw [upM_f (by decide), upM_f (by decide)]; exact hk.2.2⟩, ok⟩
  · rw [if_neg q]
    rw [if_neg q, if_neg q] at hQ
    exact hQ _ FrK.rf ⟨hT, hk, ok⟩
def wrg (t : Tk) : Int := if t.1 = 4 then 1 else 2
theorem s126 {Q : Mem → Prop} (h : TpR M T t ft fp) (hf : 0 ≤ ft ∧ ft ≤ 5) (hQ : ∀ M' : Mem, FrK M M' → TpR M' T t (if ft = 0 then wrg t else ft) (if ft = 0 then (t.2.1 : Int) else fp) → Q M') : WV 126 [vR 2] M Q := by
  have k4 := h.2.2.2.2.2.2.1
  refine t_126 o2.1 ?_
  rw [h.2.1.1]
  refine ⟨by omega, ?_⟩
  unfold wrg at hQ
  by_cases q : t.1 = 4
  · rw [if_pos q]
    rw [if_pos q] at hQ
    exact s125 h hf hQ
  · rw [if_neg q]
    rw [if_neg q] at hQ
    exact s125 h hf hQ
theorem s127 {Q : Int → Mem → Prop} (h : TpR M T t ft fp) (hf : 0 ≤ ft ∧ ft ≤ 5) : WI 127 [vR 2] M Q = Q (b2i (decide (ft = 0 ∧ t.1 ≠ 0))) M := by
  have k4 := h.2.2.2.2.2.2.1
  refine FN.wi (WC.fn (t_127 o2.1 ?_))
  rw [h.1.2.2.2.2.2.1, h.2.1.1]
  refine ⟨by omega, ?_⟩
  by_cases q : ft = 0
  · rw [if_pos q]
    refine ⟨by omega, ?_⟩
    by_cases q1 : t.1 = 0
    · rw [if_pos q1, decide_eq_false (fun z => z.2 q1)]
      exact ⟨rfl, rfl⟩
    · rw [if_neg q1, decide_eq_true ⟨q, q1⟩]
      exact ⟨rfl, rfl⟩
  · rw [if_neg q, decide_eq_false (fun z => q z.1)]
    exact ⟨rfl, rfl⟩
theorem s128n {Q : Mem → Prop} (h : TpR M T t ft fp) (hQ : ∀ M' : Mem, FrK M M' → TpR M' T (nxt T (t.2.1 + t.2.2)) ft fp → Q M') : WV 128 [vR 2] M Q := s128 h.1 (by rw [h.2.1.2.1, h.2.1.2.2]; rfl) h.2.2.1 hQ
theorem s124 {Q : Mem → Prop} (h : TapC M T ft fp) (hQ : ∀ M' : Mem, FrK M M' → TpR M' T (nxt T 0) 0 (-1) → Q M') : WV 124 [vR 2] M Q := by
  refine t_124 o2.1 ?_
  have h1 := ((h.fl (x := 0) (y := -1)).up (i := 3) (v := 0) (by decide)).up (i := 4) (v := 0) (by decide)
  have f1 : FrK M (upM (upM (upM (upM M 2 5 0) 2 6 (-1)) 2 3 0) 2 4 0) := (((FrK.up (by decide)).tr (FrK.up (by decide))).tr (FrK.up (by decide))).tr (FrK.up (by decide))
  refine s128 (i := 0) h1 (by rw [upM_f (by decide), upM_s, upM_s]; rfl) (Nat.zero_le _) (fun M' g hR => hQ M' (f1.tr g) hR)
end TP
