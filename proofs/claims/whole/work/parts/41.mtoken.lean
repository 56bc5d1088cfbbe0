/-! the model's tokens -/
section MT
variable {M M' : Mem} {T : List Int} {t : Tk}
def ky (T : List Int) (s : Nat) : Nat → Int
  | 0 => 0
  | n + 1 => ky T s n * 27 + bt T (s + n) - 96
def TmB (M : Mem) (T : List Int) : Prop := (M 204 0 = 205 ∧ M 204 12 = 206) ∧ M 204 2 = T.length ∧ T.length ≤ 900 ∧ byt T ∧ ∀ j : Nat, j < T.length → M 205 j = bt T j
def TokM (M : Mem) (T : List Int) (t : Tk) : Prop := M 204 3 = (t.2.1 + t.2.2 : Nat) ∧ M 204 4 = t.2.1 ∧ M 204 5 = t.1 ∧ (t.1 = 2 → M 204 6 = nmv T t.2.1 t.2.2) ∧ (t.1 = 1 → M 204 7 = t.2.2 ∧ M 204 13 = ky T t.2.1 t.2.2 ∧ ∀ j : Nat, j < t.2.2 → M 206 j = bt T (t.2.1 + j) - 97) ∧ (0 ≤ M 204 7 ∧ M 204 7 ≤ 900)
def FrV (M M' : Mem) : Prop := (∀ k : Int, k ≠ 204 → k ≠ 206 → M' k = M k) ∧ ∀ j : Int, (j < 3 ∨ 7 < j) → j ≠ 13 → M' 204 j = M 204 j
theorem FrV.rf : FrV M M := ⟨fun _ _ _ => rfl, fun _ _ _ => rfl⟩
theorem FrV.tr {M1 M2 : Mem} (h : FrV M M1) (g : FrV M1 M2) : FrV M M2 := ⟨fun k a b => (g.1 k a b).trans (h.1 k a b), fun j a b => (g.2 j a b).trans (h.2 j a b)⟩
theorem FrV.up {i v : Int} (hi : (3 ≤ i ∧ i ≤ 7) ∨ i = 13) : FrV M (upM M 204 i v) := ⟨fun k a _ => upM_o a, fun j a b => upM_f (by omega)⟩
theorem FrV.ar {i v : Int} : FrV M (upM M 206 i v) := ⟨fun k _ b => upM_o b, fun j a b => by rw [upM_o (by decide)]⟩
theorem TmB.fr (h : TmB M T) (g : FrV M M') : TmB M' T := ⟨⟨by rw [g.2 0 (by decide) (by decide)]; exact h.1.1, by rw [g.2 12 (by decide) (by decide)]; exact h.1.2⟩, by rw [g.2 2 (by decide) (by decide)]; exact h.2.1, h.2.2.1, h.2.2.2.1, fun j hj => by rw [g.1 205 (by decide) (by decide)]; exact h.2.2.2.2 j hj⟩
theorem z206 : shA SH 206 = (20, 12) := by decide +kernel
def chr (T : List Int) (i : Nat) : Int := if i < T.length then bt T i else -1
theorem m184 {Q : Int → Mem → Prop} {i x : Nat} (h : TmB M T) (e : M 204 3 = i) (hi : i ≤ T.length) (hx : x ≤ 1000) : WI 184 [vR 204, vI x] M Q = Q (chr T (i + x)) M := by
  obtain ⟨⟨p0, p12⟩, t1, t2, t3, t4⟩ := h
  refine FN.wi (WC.fn (t_184 o204 ?_))
  rw [e, t1, p0]
  refine ⟨by omega, by omega, ?_⟩
  unfold chr
  by_cases q : i + x < T.length
  · rw [if_neg (by omega), if_pos q]
    have := t4 (i + x) q
    rw [show ((i + x : Nat) : Int) = (i : Int) + x by omega] at this
    exact ⟨gC z205 (by omega) (by show _ < ((900 : Nat) : Int); omega), by rw [this], rfl⟩
  · rw [if_pos (by omega), if_neg q]
    exact ⟨rfl, rfl⟩
theorem chr_r (h : byt T) (i : Nat) : -1 ≤ chr T i ∧ chr T i < 256 := by
  have := bt_r h i
  unfold chr
  split <;> omega
theorem m185 {Q : Int → Mem → Prop} {x : Int} (hx : inR x) : WI 185 [vI x] M Q = Q (b2i (rg 97 122 x)) M := by
  refine FN.wi (WC.fn (t_185 ⟨hx, ?_⟩))
  unfold rg
  by_cases q : x < 97
  · rw [if_pos q, decide_eq_false (by omega)]; exact ⟨rfl, rfl⟩
  rw [if_neg q]
  by_cases q1 : 122 < x
  · rw [if_pos q1, decide_eq_false (by omega)]; exact ⟨rfl, rfl⟩
  · rw [if_neg q1, decide_eq_true (by omega)]; exact ⟨rfl, rfl⟩
theorem m186 {Q : Int → Mem → Prop} {x : Int} (hx : inR x) : WI 186 [vI x] M Q = Q (b2i (rg 48 57 x)) M := by
  refine FN.wi (WC.fn (t_186 ⟨hx, ?_⟩))
  unfold rg
  by_cases q : x < 48
  · rw [if_pos q, decide_eq_false (by omega)]; exact ⟨rfl, rfl⟩
  rw [if_neg q]
  by_cases q1 : 57 < x
  · rw [if_pos q1, decide_eq_false (by omega)]; exact ⟨rfl, rfl⟩
  · rw [if_neg q1, decide_eq_true (by omega)]; exact ⟨rfl, rfl⟩
theorem lng_c {lo hi : Int} {i : Nat} (h0 : 0 ≤ lo) : rg lo hi (chr T i) = decide (0 < lng (rg lo hi) T i) := by
  have e := @lng_eq (rg lo hi) T i
  unfold chr
  by_cases q : i < T.length
  · rw [if_pos q]
    cases hr : rg lo hi (bt T i)
    · rw [if_neg (fun z => by rw [hr] at z; exact absurd z.2 (by decide))] at e
      rw [e]; rfl
    · rw [if_pos ⟨q, hr⟩] at e
      rw [e, decide_eq_true (by omega)]
  · rw [if_neg q]
    rw [if_neg (fun z => q z.1)] at e
    rw [e]
    exact decide_eq_false (by omega)
theorem lng_s {P : Int → Bool} {i j : Nat} (h : j ≤ lng P T i) : lng P T (i + j) = lng P T i - j := by
  induction j with
  | zero => rfl
  | succ j ih =>
    have := ih (by omega)
    rw [lng_eq] at this
    by_cases q : i + j < T.length ∧ P (bt T (i + j)) = true
    · rw [if_pos q] at this
      rw [show i + (j + 1) = i + j + 1 by omega]
      omega
    · rw [if_neg q] at this
      omega
/-- a row -/
theorem m187r {Q : Mem → Prop} {s : Nat} {y : Int} (h : TmB M T) (e3 : M 204 3 = s) (e4 : M 204 4 = s) (e7 : M 204 7 = 0) (e13 : M 204 13 = 0) (hs : s < T.length) (hl : 0 < lng (rg 97 122) T s) (hQ : ∀ M' : Mem, FrV M M' → TokM M' T (tkAt T s) → Q M') : WR 187 81 [some (vR 204), some (vI y), some (vI 0)] [] M (fun _ M' => Q M') := by
  obtain ⟨a1, a2⟩ := lng_sp (P := rg 97 122) (T := T) (T.length - s) s (by omega)
  have t2 := h.2.2.1
  have hk : tkAt T s = if 12 < lng (rg 97 122) T s then (4, s, lng (rg 97 122) T s) else (1, s, lng (rg 97 122) T s) := by
    unfold tkAt
    rw [if_neg (by omega), if_pos hl]
  have key : ∀ (n x : Nat), x + n = lng (rg 97 122) T s → ∀ N : Mem, FrV M N → N 204 3 = s → N 204 4 = s → N 204 7 = 0 → N 204 13 = ky T s (min x 12) → (∀ j : Nat, j < x → j < 12 → N 206 j = bt T (s + j) - 97) → WR 187 81 [some (vR 204), some (vI y), some (vI x)] [] N (fun _ M' => Q M') := by
    intro n
    induction n with
    | zero =>
      intro x hx N g f3 f4 f7 f13 fl
      have hN := h.fr g
      have cr := chr_r hN.2.2.2.1 (s + x)
      refine t_187_81 o204 ?_
      have lx : lng (rg 97 122) T (s + x) = 0 := by rw [lng_s (by omega)]; omega
      rw [m184 hN f3 (by omega) (by omega), m185 (by omega), lng_c (by decide), lx]
      refine ⟨by decide, ?_⟩
      rw [if_pos (by decide)]
      refine ⟨by omega, ?_⟩
      have e7 : ∀ v, upM (upM N 204 7 x) 204 5 v 204 3 = s := fun v => by rw [upM_f (by decide), upM_f (by decide)]; exact f3
      rw [e7, e7]
      have fin : ∀ kd : Int, tkAt T s = (kd, s, x) → (kd = 1 → x ≤ 12) → kd ≠ 2 → Q (upM (upM (upM N 204 7 x) 204 5 kd) 204 3 ((s : Int) + x)) := fun kd ek k1 k2 => by
        rw [ek] at hQ
        refine hQ _ (g.tr (((FrV.up (by decide)).tr (FrV.up (by decide))).tr (FrV.up (by decide)))) ⟨by rw [upM_s]; show _ = ((s + x : Nat) : Int); omega, by rw [upM_f (by decide), upM_f (by decide), upM_f (by decide)]; exact f4, by rw [upM_f (by decide), upM_s], fun z => absurd z k2, fun z => ?_, by rw [upM_f (by decide), upM_f (by decide), upM_s]; omega⟩
        have z := k1 z
        refine ⟨by rw [upM_f (by decide), upM_f (by decide), upM_s], ?_, fun j hj => ?_⟩
        · rw [upM_f (by decide), upM_f (by decide), upM_f (by decide), f13]
          show ky T s (min x 12) = ky T s x
          rw [show min x 12 = x by omega]
        · replace hj : j < x := hj
          rw [upM_o (by decide), upM_o (by decide), upM_o (by decide)]
          exact fl j hj (by omega)
      rw [show lng (rg 97 122) T s = x by omega] at hk
      by_cases q : x ≤ 12
      · rw [if_pos (by omega)]
        rw [if_neg (by omega)] at hk
        exact fin 1 hk (fun _ => q) (by decide)
      · rw [if_neg (by omega)]
        rw [if_pos (by omega)] at hk
        exact fin 4 hk (fun z => absurd z (by decide)) (by decide)
    | succ n ih =>
      intro x hx N g f3 f4 f7 f13 fl
      have hN := h.fr g
      have cr := chr_r hN.2.2.2.1 (s + x)
      refine t_187_81 o204 ?_
      have lx : 0 < lng (rg 97 122) T (s + x) := by rw [lng_s (by omega)]; omega
      have ec : chr T (s + x) = bt T (s + x) := by unfold chr; rw [if_pos (by omega)]
      rw [m184 hN f3 (by omega) (by omega), m185 (by omega), lng_c (by decide), decide_eq_true lx]
      refine ⟨by decide, ?_⟩
      rw [if_neg (by decide)]
      refine ⟨by omega, ?_⟩
      by_cases q : 12 ≤ x
      · rw [if_pos (by omega), if_pos (by omega)]
        refine ih (x + 1) (by omega) N g f3 f4 f7 ?_ (fun j hj h12 => fl j (by omega) h12)
        rw [f13, show min x 12 = min (x + 1) 12 by omega]
      · rw [if_neg (by omega), m184 hN f3 (by omega) (by omega), hN.1.2, ec]
        refine ⟨gC z206 (by omega) (by show _ < ((12 : Nat) : Int); omega), ?_⟩
        rw [if_neg (by omega)]
        have g2 : FrV M (upM N 206 x (bt T (s + x) - 97)) := g.tr FrV.ar
        have o : ∀ j : Int, upM N 206 x (bt T (s + x) - 97) 204 j = N 204 j := fun j => by rw [upM_o (by decide)]
        rw [m184 (h.fr g2) (by rw [o]; exact f3) (by omega) (by omega), ec, o, f13, wr_id (by omega)]
        refine ih (x + 1) (by omega) _ (g2.tr (FrV.up (by decide))) (by rw [upM_f (by decide), o]; exact f3) (by rw [upM_f (by decide), o]; exact f4) (by rw [upM_f (by decide), o]; exact f7) ?_ (fun j hj h12 => ?_)
        · rw [upM_s, show min x 12 = x by omega, show min (x + 1) 12 = x + 1 by omega]
          rfl
        · rw [upM_o (by decide)]
          by_cases q1 : j = x
          · rw [q1, upM_s]
          · rw [upM_f (by omega)]
            exact fl j (by omega) h12
  exact key _ 0 (Nat.zero_add _) M FrV.rf e3 e4 e7 e13 (fun j hj => absurd hj (Nat.not_lt_zero _))
/-- a number -/
theorem m187n {Q : Mem → Prop} {s : Nat} {y : Int} (h : TmB M T) (e3 : M 204 3 = s) (e4 : M 204 4 = s) (e7 : M 204 7 = 0) (e6 : M 204 6 = 0) (hs : s < T.length) (h0 : ¬ 0 < lng (rg 97 122) T s) (hl : 0 < lng (rg 48 57) T s) (hQ : ∀ M' : Mem, FrV M M' → TokM M' T (tkAt T s) → Q M') : WR 187 177 [some (vR 204), some (vI y), some (vI 0)] [] M (fun _ M' => Q M') := by
  obtain ⟨a1, a2⟩ := lng_sp (P := rg 48 57) (T := T) (T.length - s) s (by omega)
  have t2 := h.2.2.1
  have hk : tkAt T s = if 3 < lng (rg 48 57) T s then (4, s, lng (rg 48 57) T s) else if lng (rg 97 122) T (s + lng (rg 48 57) T s) = 0 then (2, s, lng (rg 48 57) T s) else (4, s, lng (rg 48 57) T s) := by
    unfold tkAt
    rw [if_neg (by omega), if_neg h0, if_pos hl]
  have key : ∀ (n x : Nat), x + n = lng (rg 48 57) T s → ∀ N : Mem, FrV M N → N 204 3 = s → N 204 4 = s → N 204 7 = 0 → N 204 6 = nmv T s (min x 3) → WR 187 177 [some (vR 204), some (vI y), some (vI x)] [] N (fun _ M' => Q M') := by
    intro n
    induction n with
    | zero =>
      intro x hx N g f3 f4 f7 f6
      have hN := h.fr g
      have cr := chr_r hN.2.2.2.1 (s + x)
      refine t_187_177 o204 ?_
      have lx : lng (rg 48 57) T (s + x) = 0 := by rw [lng_s (by omega)]; omega
      rw [m184 hN f3 (by omega) (by omega), m186 (by omega), lng_c (by decide), lx]
      refine ⟨by decide, ?_⟩
      rw [if_pos (by decide)]
      refine ⟨by omega, ?_⟩
      have e5 : ∀ v, upM N 204 5 v 204 3 = s := fun v => by rw [upM_f (by decide)]; exact f3
      rw [e5]
      have fin : ∀ kd : Int, tkAt T s = (kd, s, x) → (kd = 2 → x ≤ 3) → kd ≠ 1 → Q (upM (upM N 204 5 kd) 204 3 ((s : Int) + x)) := fun kd ek k1 k2 => by
        rw [ek] at hQ
        refine hQ _ (g.tr ((FrV.up (by decide)).tr (FrV.up (by decide)))) ⟨by rw [upM_s]; show _ = ((s + x : Nat) : Int); omega, by rw [upM_f (by decide), upM_f (by decide)]; exact f4, by rw [upM_f (by decide), upM_s], fun z => ?_, fun z => absurd z k2, by rw [upM_f (by decide), upM_f (by decide), f7]; decide⟩
        have z := k1 z
        rw [upM_f (by decide), upM_f (by decide), f6]
        show nmv T s (min x 3) = nmv T s x
        rw [show min x 3 = x by omega]
      rw [show lng (rg 48 57) T s = x by omega] at hk
      by_cases q : 3 < x
      · rw [if_pos (by omega)]
        rw [if_pos q] at hk
        exact fin 4 hk (fun z => absurd z (by decide)) (by decide)
      · rw [if_neg (by omega), m184 hN f3 (by omega) (by omega), m185 (by omega), lng_c (by decide)]
        rw [if_neg q] at hk
        refine ⟨by have := b2i_r (decide (0 < lng (rg 97 122) T (s + x))); omega, ?_⟩
        by_cases q1 : lng (rg 97 122) T (s + x) = 0
        · rw [decide_eq_false (by omega), if_pos (by decide), e5]
          rw [if_pos q1] at hk
          exact fin 2 hk (fun _ => by omega) (by decide)
        · rw [decide_eq_true (by omega), if_neg (by decide), e5]
          rw [if_neg q1] at hk
          exact fin 4 hk (fun z => absurd z (by decide)) (by decide)
    | succ n ih =>
      intro x hx N g f3 f4 f7 f6
      have hN := h.fr g
      have cr := chr_r hN.2.2.2.1 (s + x)
      refine t_187_177 o204 ?_
      have lx : 0 < lng (rg 48 57) T (s + x) := by rw [lng_s (by omega)]; omega
      have ec : chr T (s + x) = bt T (s + x) := by unfold chr; rw [if_pos (by omega)]
      rw [m184 hN f3 (by omega) (by omega), m186 (by omega), lng_c (by decide), decide_eq_true lx]
      refine ⟨by decide, ?_⟩
      rw [if_neg (by decide)]
      refine ⟨by omega, ?_⟩
      by_cases q : 3 ≤ x
      · rw [if_pos (by omega)]
        refine ih (x + 1) (by omega) N g f3 f4 f7 ?_
        rw [f6, show min x 3 = min (x + 1) 3 by omega]
      · rw [if_neg (by omega), m184 hN f3 (by omega) (by omega), ec, f6]
        refine ih (x + 1) (by omega) _ (g.tr (FrV.up (by decide))) (by rw [upM_f (by decide)]; exact f3) (by rw [upM_f (by decide)]; exact f4) (by rw [upM_f (by decide)]; exact f7) ?_
        rw [upM_s, show min x 3 = x by omega, show min (x + 1) 3 = x + 1 by omega]
        show _ = nmv T s x * 10 + bt T (s + x) - 48
        rw [Int.mul_comm]
  exact key _ 0 (Nat.zero_add _) M FrV.rf e3 e4 e7 e6
theorem m187 {Q : Mem → Prop} {i : Nat} (h : TmB M T) (e : M 204 3 = i) (hi : i ≤ T.length) (hQ : ∀ M' : Mem, FrV M M' → TokM M' T (nxt T i) → Q M') : WV 187 [vR 204] M Q := by
  have t2 := h.2.2.1
  have key : ∀ (n j : Nat), j + n = T.length → ∀ N : Mem, FrV M N → N 204 3 = j → (∀ M' : Mem, FrV M M' → TokM M' T (nxt T j) → Q M') → WR 187 0 [some (vR 204), none, none] [] N (fun _ M' => Q M') := by
    intro n
    induction n with
    | zero =>
      intro j hj N g f3 hQ
      have hN := h.fr g
      have ec : chr T (j + 0) = -1 := by unfold chr; rw [if_neg (by omega)]
      have m184' : ∀ {N' : Mem} {P : Int → Mem → Prop}, TmB N' T → N' 204 3 = j → WI 184 [vR 204, vI 0] N' P = P (-1) N' := fun {N' P} a b => (m184 (x := 0) a b (by omega) (by omega)).trans (by rw [ec])
      have en : nxt T j = (0, j, 0) := by
        have e0 : lng wht T j = 0 := by rw [lng_eq, if_neg (by omega)]
        unfold nxt tkAt
        rw [e0, if_pos (by omega)]
        rfl
      rw [en] at hQ
      have g2 : FrV M (upM (upM (upM (upM N 204 4 (N 204 3)) 204 6 0) 204 7 0) 204 13 0) := g.tr ((((FrV.up (by decide)).tr (FrV.up (by decide))).tr (FrV.up (by decide))).tr (FrV.up (by decide)))
      have f3' : upM (upM (upM (upM N 204 4 (N 204 3)) 204 6 0) 204 7 0) 204 13 0 204 3 = j := by rw [upM_f (by decide), upM_f (by decide), upM_f (by decide), upM_f (by decide)]; exact f3
      refine t_187_0 o204 ?_
      rw [m184' hN f3]
      refine ⟨by decide, ?_⟩
      rw [if_neg (by decide), m184' hN f3]
      refine ⟨by decide, ?_⟩
      rw [if_neg (by decide), m184' (h.fr g2) f3']
      refine ⟨by decide, ?_⟩
      rw [if_neg (by decide)]
      refine hQ _ (g2.tr (FrV.up (by decide))) ⟨by rw [upM_f (by decide)]; exact f3', by rw [upM_f (by decide), upM_f (by decide), upM_f (by decide), upM_f (by decide), upM_s]; exact f3, upM_s, fun z => absurd z (by dsimp only; decide), fun z => absurd z (by dsimp only; decide), by rw [upM_f (by decide), upM_f (by decide), upM_s]; decide⟩
    | succ n ih =>
      intro j hj N g f3 hQ
      have hN := h.fr g
      have br := bt_r h.2.2.2.1 j
      have ec : chr T (j + 0) = bt T j := by unfold chr; rw [if_pos (by omega)]; rfl
      have m184' : ∀ {N' : Mem} {P : Int → Mem → Prop}, TmB N' T → N' 204 3 = j → WI 184 [vR 204, vI 0] N' P = P (bt T j) N' := fun {N' P} a b => (m184 (x := 0) a b (by omega) (by omega)).trans (by rw [ec])
      have nw : wht (bt T j) = true → nxt T j = nxt T (j + 1) := fun hw => by
        unfold nxt
        rw [lng_eq (i := j), if_pos ⟨by omega, hw⟩]
        congr 1
        omega
      refine t_187_0 o204 ?_
      rw [m184' hN f3]
      refine ⟨by omega, ?_⟩
      by_cases q1 : bt T j = 32
      · rw [if_pos q1, f3]
        rw [nw (decide_eq_true (Or.inl q1))] at hQ
        exact ih (j + 1) (by omega) _ (g.tr (FrV.up (by decide))) (by rw [upM_s]; rfl) hQ
      rw [if_neg q1, m184' hN f3]
      refine ⟨by omega, ?_⟩
      by_cases q2 : bt T j = 10
      · rw [if_pos q2, f3]
        rw [nw (decide_eq_true (Or.inr q2))] at hQ
        exact ih (j + 1) (by omega) _ (g.tr (FrV.up (by decide))) (by rw [upM_s]; rfl) hQ
      have en : nxt T j = tkAt T j := by
        have e0 : lng wht T j = 0 := by rw [lng_eq, if_neg (fun z => by have := of_decide_eq_true z.2; omega)]
        unfold nxt
        rw [e0]
        rfl
      rw [en] at hQ
      have g2 : FrV M (upM (upM (upM (upM N 204 4 (N 204 3)) 204 6 0) 204 7 0) 204 13 0) := g.tr ((((FrV.up (by decide)).tr (FrV.up (by decide))).tr (FrV.up (by decide))).tr (FrV.up (by decide)))
      have f3' : upM (upM (upM (upM N 204 4 (N 204 3)) 204 6 0) 204 7 0) 204 13 0 204 3 = j := by rw [upM_f (by decide), upM_f (by decide), upM_f (by decide), upM_f (by decide)]; exact f3
      have f4' : upM (upM (upM (upM N 204 4 (N 204 3)) 204 6 0) 204 7 0) 204 13 0 204 4 = j := by rw [upM_f (by decide), upM_f (by decide), upM_f (by decide), upM_s]; exact f3
      have f6' : upM (upM (upM (upM N 204 4 (N 204 3)) 204 6 0) 204 7 0) 204 13 0 204 6 = 0 := by rw [upM_f (by decide), upM_f (by decide), upM_s]
      have f7' : upM (upM (upM (upM N 204 4 (N 204 3)) 204 6 0) 204 7 0) 204 13 0 204 7 = 0 := by rw [upM_f (by decide), upM_s]
      have f13' : upM (upM (upM (upM N 204 4 (N 204 3)) 204 6 0) 204 7 0) 204 13 0 204 13 = 0 := upM_s
      rw [if_neg q2]
      generalize upM (upM (upM (upM N 204 4 (N 204 3)) 204 6 0) 204 7 0) 204 13 0 = N1 at *
      rw [m184' (h.fr g2) f3']
      refine ⟨by omega, ?_⟩
      rw [if_pos (by omega), m185 (by omega)]
      have ea := @lng_c T 97 122 j (by decide)
      have ed := @lng_c T 48 57 j (by decide)
      rw [show chr T j = bt T j from ec] at ea ed
      rw [ea]
      refine ⟨by have := b2i_r (decide (0 < lng (rg 97 122) T j)); omega, ?_⟩
      by_cases q3 : 0 < lng (rg 97 122) T j
      · rw [decide_eq_true q3, if_neg (by decide)]
        exact m187r (h.fr g2) f3' f4' f7' f13' (by omega) q3 (fun M' g' => hQ M' (g2.tr g'))
      rw [decide_eq_false q3, if_pos (by decide), m186 (by omega), ed]
      refine ⟨by have := b2i_r (decide (0 < lng (rg 48 57) T j)); omega, ?_⟩
      by_cases q4 : 0 < lng (rg 48 57) T j
      · rw [decide_eq_true q4, if_neg (by decide)]
        exact m187n (h.fr g2) f3' f4' f7' f6' (by omega) q3 q4 (fun M' g' => hQ M' (g2.tr g'))
      rw [decide_eq_false q4, if_pos (by decide)]
      have hk : tkAt T j = if bt T j = 59 then (3, j, 1) else (4, j, 1) := by
        unfold tkAt
        rw [if_neg (by omega), if_neg q3, if_neg q4]
      have fin : ∀ kd : Int, tkAt T j = (kd, j, 1) → kd ≠ 1 → kd ≠ 2 → Q (upM (upM N1 204 5 kd) 204 3 (upM N1 204 5 kd 204 3 + 1)) := fun kd ek k1 k2 => by
        rw [ek] at hQ
        refine hQ _ (g2.tr ((FrV.up (by decide)).tr (FrV.up (by decide)))) ⟨by rw [upM_s, upM_f (by decide), f3']; rfl, by rw [upM_f (by decide), upM_f (by decide)]; exact f4', by rw [upM_f (by decide), upM_s], fun z => absurd z k2, fun z => absurd z k1, by rw [upM_f (by decide), upM_f (by decide), f7']; decide⟩
      by_cases q5 : bt T j = 59
      · rw [if_pos q5]
        rw [if_pos q5] at hk
        exact fin 3 hk (by decide) (by decide)
      · rw [if_neg q5]
        rw [if_neg q5] at hk
        exact fin 4 hk (by decide) (by decide)
  exact key (T.length - i) i (by omega) M FrV.rf e hQ
end MT
