/-! THE READER: its tokens, and the class's tape. -/
def lng (P : Int → Bool) (T : List Int) (i : Nat) : Nat := ((T.drop i).takeWhile P).length
def rg (lo hi b : Int) : Bool := decide (lo ≤ b ∧ b ≤ hi)
def wht (b : Int) : Bool := decide (b = 32 ∨ b = 10)
abbrev Tk : Type := Int × Nat × Nat
def tkAt (T : List Int) (s : Nat) : Tk := if T.length ≤ s then (0, s, 0) else if 0 < lng (rg 97 122) T s then (if 12 < lng (rg 97 122) T s then (4, s, lng (rg 97 122) T s) else (1, s, lng (rg 97 122) T s)) else if 0 < lng (rg 48 57) T s then (if 3 < lng (rg 48 57) T s then (4, s, lng (rg 48 57) T s) else if lng (rg 97 122) T (s + lng (rg 48 57) T s) = 0 then (2, s, lng (rg 48 57) T s) else (4, s, lng (rg 48 57) T s)) else if bt T s = 59 then (3, s, 1) else (4, s, 1)
def nxt (T : List Int) (i : Nat) : Tk := tkAt T (i + lng wht T i)
def TkOk (T : List Int) (t : Tk) : Prop := t.2.1 + t.2.2 ≤ T.length ∧ (t.1 = 1 → 1 ≤ t.2.2 ∧ t.2.2 ≤ 12 ∧ ∀ j : Nat, j < t.2.2 → 97 ≤ bt T (t.2.1 + j) ∧ bt T (t.2.1 + j) ≤ 122) ∧ (t.1 = 2 → 1 ≤ t.2.2 ∧ t.2.2 ≤ 3 ∧ ∀ j : Nat, j < t.2.2 → 48 ≤ bt T (t.2.1 + j) ∧ bt T (t.2.1 + j) ≤ 57) ∧ (t.1 ≠ 0 → 1 ≤ t.2.2) ∧ (0 ≤ t.1 ∧ t.1 ≤ 4) ∧ (t.1 = 0 → t.2.1 = T.length)
theorem lng_eq {P : Int → Bool} {T : List Int} {i : Nat} : lng P T i = if i < T.length ∧ P (bt T i) = true then lng P T (i + 1) + 1 else 0 := by
  unfold lng bt
  by_cases h : i < T.length
  · rw [List.drop_eq_getElem_cons h, List.takeWhile_cons, List.getD_eq_getElem?_getD, List.getElem?_eq_getElem h, Option.getD_some]
    cases hp : P T[i]
    · rw [if_neg (by simp), if_neg (by simp)]
      rfl
    · rw [if_pos rfl, if_pos ⟨h, rfl⟩]
      rfl
  · rw [List.drop_eq_nil_of_le (by omega), if_neg (fun z => h z.1)]
    rfl
theorem lng_sp {P : Int → Bool} {T : List Int} : ∀ (n i : Nat), i + n = T.length → i + lng P T i ≤ T.length ∧ ∀ j : Nat, j < lng P T i → P (bt T (i + j)) = true := by
  intro n
  induction n with
  | zero =>
    intro i hi
    rw [lng_eq, if_neg (by omega)]
    exact ⟨by omega, fun j hj => absurd hj (Nat.not_lt_zero _)⟩
  | succ n ih =>
    intro i hi
    obtain ⟨h1, h2⟩ := ih (i + 1) (by omega)
    rw [lng_eq]
    by_cases q : i < T.length ∧ P (bt T i) = true
    · rw [if_pos q]
      refine ⟨by omega, fun j hj => ?_⟩
      by_cases q0 : j = 0
      · rw [q0]; exact q.2
      · have := h2 (j - 1) (by omega)
        rw [show i + 1 + (j - 1) = i + j by omega] at this
        exact this
    · rw [if_neg q]
      exact ⟨by omega, fun j hj => absurd hj (Nat.not_lt_zero _)⟩
theorem tk_at {T : List Int} {s : Nat} (hs : s ≤ T.length) : TkOk T (tkAt T s) ∧ (tkAt T s).2.1 = s := by
  obtain ⟨a1, a2⟩ := lng_sp (P := rg 97 122) (T := T) (T.length - s) s (by omega)
  obtain ⟨d1, d2⟩ := lng_sp (P := rg 48 57) (T := T) (T.length - s) s (by omega)
  have b2 : ∀ {lo hi b : Int}, rg lo hi b = true → lo ≤ b ∧ b ≤ hi := fun z => of_decide_eq_true z
  unfold tkAt TkOk
  by_cases q0 : T.length ≤ s
  · rw [if_pos q0]
    exact ⟨⟨(by dsimp only; omega), fun z => absurd z (by dsimp only; decide), fun z => absurd z (by dsimp only; decide), fun z => absurd rfl z, (by dsimp only; decide), fun _ => (by dsimp only; omega)⟩, rfl⟩
  rw [if_neg q0]
  by_cases q1 : 0 < lng (rg 97 122) T s
  · rw [if_pos q1]
    by_cases q2 : 12 < lng (rg 97 122) T s
    · rw [if_pos q2]
      exact ⟨⟨a1, fun z => absurd z (by dsimp only; decide), fun z => absurd z (by dsimp only; decide), fun _ => q1, (by dsimp only; decide), fun z => absurd z (by dsimp only; decide)⟩, rfl⟩
    · rw [if_neg q2]
      exact ⟨⟨a1, fun _ => ⟨q1, (by dsimp only; omega), fun j hj => b2 (a2 j hj)⟩, fun z => absurd z (by dsimp only; decide), fun _ => q1, (by dsimp only; decide), fun z => absurd z (by dsimp only; decide)⟩, rfl⟩
  rw [if_neg q1]
  by_cases q3 : 0 < lng (rg 48 57) T s
  · rw [if_pos q3]
    by_cases q4 : 3 < lng (rg 48 57) T s
    · rw [if_pos q4]
      exact ⟨⟨d1, fun z => absurd z (by dsimp only; decide), fun z => absurd z (by dsimp only; decide), fun _ => q3, (by dsimp only; decide), fun z => absurd z (by dsimp only; decide)⟩, rfl⟩
    rw [if_neg q4]
    by_cases q5 : lng (rg 97 122) T (s + lng (rg 48 57) T s) = 0
    · rw [if_pos q5]
      exact ⟨⟨d1, fun z => absurd z (by dsimp only; decide), fun _ => ⟨q3, (by dsimp only; omega), fun j hj => b2 (d2 j hj)⟩, fun _ => q3, (by dsimp only; decide), fun z => absurd z (by dsimp only; decide)⟩, rfl⟩
    · rw [if_neg q5]
      exact ⟨⟨d1, fun z => absurd z (by dsimp only; decide), fun z => absurd z (by dsimp only; decide), fun _ => q3, (by dsimp only; decide), fun z => absurd z (by dsimp only; decide)⟩, rfl⟩
  rw [if_neg q3]
  by_cases q6 : bt T s = 59
  · rw [if_pos q6]
    exact ⟨⟨(by dsimp only; omega), fun z => absurd z (by dsimp only; decide), fun z => absurd z (by dsimp only; decide), fun _ => Nat.le_refl _, (by dsimp only; decide), fun z => absurd z (by dsimp only; decide)⟩, rfl⟩
  · rw [if_neg q6]
    exact ⟨⟨(by dsimp only; omega), fun z => absurd z (by dsimp only; decide), fun z => absurd z (by dsimp only; decide), fun _ => Nat.le_refl _, (by dsimp only; decide), fun z => absurd z (by dsimp only; decide)⟩, rfl⟩
theorem nxt_ok {T : List Int} {i : Nat} (hi : i ≤ T.length) : TkOk T (nxt T i) ∧ i ≤ (nxt T i).2.1 := by
  obtain ⟨a1, a2⟩ := lng_sp (P := wht) (T := T) (T.length - i) i (by omega)
  obtain ⟨h1, h2⟩ := tk_at a1
  unfold nxt
  exact ⟨h1, by rw [h2]; omega⟩
section TK
variable {M M' : Mem} {ft fp : Int} {T : List Int} {t : Tk}
def TokC (M : Mem) (t : Tk) : Prop := M 2 2 = t.1 ∧ M 2 3 = t.2.1 ∧ M 2 4 = t.2.2
/-- the class's tape while it is read -/
def TpR (M : Mem) (T : List Int) (t : Tk) (ft fp : Int) : Prop := TapC M T ft fp ∧ TokC M t ∧ TkOk T t
def FrK (M M' : Mem) : Prop := (∀ k : Int, k ≠ 2 → M' k = M k) ∧ ∀ j : Int, j < 2 → M' 2 j = M 2 j
theorem FrK.rf : FrK M M := ⟨fun _ _ => rfl, fun _ _ => rfl⟩
theorem FrK.tr {M1 M2 : Mem} (h : FrK M M1) (g : FrK M1 M2) : FrK M M2 := ⟨fun k a => (g.1 k a).trans (h.1 k a), fun j a => (g.2 j a).trans (h.2 j a)⟩
theorem FrK.up {i v : Int} (hi : 2 ≤ i) : FrK M (upM M 2 i v) := ⟨fun k a => upM_o a, fun j a => upM_f (by omega)⟩
theorem TapC.up (h : TapC M T ft fp) {i v : Int} (hi : 2 ≤ i ∧ i ≤ 4) : TapC (upM M 2 i v) T ft fp := by
  obtain ⟨t0, t1, t2, t3, t4, t5, t6⟩ := h
  exact ⟨by rw [upM_f (by omega)]; exact t0, by rw [upM_f (by omega)]; exact t1, t2, t3, fun j hj => by rw [upM_o (by decide)]; exact t4 j hj, by rw [upM_f (by omega)]; exact t5, by rw [upM_f (by omega)]; exact t6⟩
theorem bt_r (h : byt T) (i : Nat) : 0 ≤ bt T i ∧ bt T i < 256 := by
  unfold bt
  rw [List.getD_eq_getElem?_getD]
  by_cases q : i < T.length
  · rw [List.getElem?_eq_getElem q]
    exact h _ (List.getElem_mem q)
  · rw [List.getElem?_eq_none (by omega)]
    exact ⟨by decide, by decide⟩
theorem s129 {Q : Int → Mem → Prop} {i : Nat} (h : TapC M T ft fp) (hi : i < T.length) : WI 129 [vR 2, vI i] M Q = Q (b2i (wht (bt T i))) M := by
  obtain ⟨t0, t1, t2, t3, t4, t5, t6⟩ := h
  have br := bt_r t3 i
  refine FN.wi (WC.fn (t_129 o2.1 ⟨by omega, ?_⟩))
  rw [if_neg (by omega), t0, o2.2]
  refine ⟨⟨by decide, by decide, by decide, by decide⟩, by decide, ?_⟩
  rw [if_neg (by show ¬ ((900 : Nat) : Int) ≤ _; omega), t4 i hi]
  have g : gA 21 3 i := ⟨by rw [o2.2], by omega, by rw [o2.2]; show _ < ((900 : Nat) : Int); omega⟩
  refine ⟨Or.inl g, by unfold sgn; split <;> omega, ?_⟩
  unfold wht
  by_cases q1 : bt T i = 32
  · rw [if_pos (by unfold sgn; rw [if_pos (by omega)]; exact q1), decide_eq_true (Or.inl q1)]
    exact ⟨rfl, rfl⟩
  rw [if_neg (by unfold sgn; split <;> omega)]
  refine ⟨Or.inl g, ?_⟩
  by_cases q2 : bt T i = 10
  · rw [if_pos (by unfold sgn; rw [if_pos (by omega)]; exact q2), decide_eq_true (Or.inr q2)]
    exact ⟨rfl, rfl⟩
  · rw [if_neg (by unfold sgn; split <;> omega), decide_eq_false (by omega)]
    exact ⟨rfl, rfl⟩
theorem s130 {Q : Int → Mem → Prop} {i : Nat} {lo hi : Int} (h : TapC M T ft fp) (hT : i ≤ T.length) (h0 : 0 ≤ lo ∧ lo < 128) (h1 : 0 ≤ hi ∧ hi < 128) : WI 130 [vR 2, vI i, vI lo, vI hi] M Q = Q (lng (rg lo hi) T i : Int) M := by
  obtain ⟨t0, t1, t2, t3, t4, t5, t6⟩ := h
  refine FN.wi (WC.fn (t_130 o2.1 ?_))
  rw [t0, t1, o2.2]
  refine ⟨⟨by decide, by decide, by decide, by decide⟩, ⟨by omega, by decide⟩, ⟨by decide, by omega⟩, ?_⟩
  rw [show min (T.length : Int) ((900 : Nat) : Int) = T.length by omega, show max 0 (i : Int) = i by omega]
  have key : ∀ (n j : Nat), j + n = T.length → i ≤ j → WR 130 21 [some (vR 2), some (vI i), some (vI lo), some (vI hi), some (vI T.length), some (vI j)] [] M (fun r N => r = vI ((j : Int) - i + (lng (rg lo hi) T j : Nat)) ∧ N = M) := by
    intro n
    induction n with
    | zero =>
      intro j hj ij
      refine t_130_21 o2.1 ⟨by omega, by omega, ?_⟩
      rw [if_pos (by omega), lng_eq, if_neg (by omega)]
      exact ⟨congrArg vI (by omega), rfl⟩
    | succ n ih =>
      intro j hj ij
      have br := bt_r t3 j
      have g : gA 21 3 j := ⟨by rw [o2.2], by omega, by rw [o2.2]; show _ < ((900 : Nat) : Int); omega⟩
      refine t_130_21 o2.1 ⟨by omega, by omega, ?_⟩
      rw [if_neg (by omega), t0, t4 j (by omega)]
      refine ⟨Or.inl g, by unfold sgn; split <;> omega, by omega, ?_⟩
      by_cases q : lo ≤ bt T j ∧ bt T j ≤ hi
      · have e : sgn (bt T j) = bt T j := by unfold sgn; rw [if_pos (by omega)]
        have er : lng (rg lo hi) T j = lng (rg lo hi) T (j + 1) + 1 := by rw [lng_eq, if_pos ⟨by omega, decide_eq_true q⟩]
        rw [e, if_neg (by omega), er]
        refine ⟨Or.inl g, by omega, ?_⟩
        rw [if_neg (by omega)]
        have := ih (j + 1) (by omega) (by omega)
        rw [show ((j + 1 : Nat) : Int) - i + (lng (rg lo hi) T (j + 1) : Nat) = (j : Int) - i + ((lng (rg lo hi) T (j + 1) + 1 : Nat) : Int) by omega] at this
        exact this
      · have er : lng (rg lo hi) T j = 0 := by rw [lng_eq, if_neg (fun z => q (of_decide_eq_true z.2))]
        rw [er]
        by_cases q2 : sgn (bt T j) < lo
        · rw [if_pos q2]
          exact ⟨congrArg vI (by omega), rfl⟩
        · rw [if_neg q2]
          refine ⟨Or.inl g, by omega, ?_⟩
          rw [if_pos (by unfold sgn at q2 ⊢; split at q2 <;> split <;> omega)]
          exact ⟨congrArg vI (by omega), rfl⟩
  have := key (T.length - i) i (by omega) (Nat.le_refl _)
  rw [show (i : Int) - i + (lng (rg lo hi) T i : Nat) = (lng (rg lo hi) T i : Nat) by omega] at this
  exact this
theorem s132 {Q : Int → Mem → Prop} {j : Nat} (h : TapC M T ft fp) (ht : M 2 3 = t.2.1 ∧ M 2 4 = t.2.2) (hn : t.2.1 + t.2.2 ≤ T.length) (hj : j < t.2.2) : WI 132 [vR 2, vI j] M Q = Q (sgn (bt T (t.2.1 + j))) M := by
  obtain ⟨t0, t1, t2, t3, t4, t5, t6⟩ := h
  refine FN.wi (WC.fn (t_132 o2.1 ⟨by omega, ?_⟩))
  rw [if_neg (by omega), ht.2, ht.1, t1, t0, o2.2]
  refine ⟨by omega, ?_⟩
  rw [if_neg (by omega)]
  refine ⟨by omega, by omega, ?_⟩
  rw [if_neg (by omega)]
  refine ⟨⟨by decide, by decide, by decide, by decide⟩, by decide, ?_⟩
  rw [if_neg (by show ¬ ((900 : Nat) : Int) ≤ _; omega)]
  have g : gA 21 3 ((t.2.1 : Int) + j) := ⟨by rw [o2.2], by omega, by rw [o2.2]; show _ < ((900 : Nat) : Int); omega⟩
  have e := t4 (t.2.1 + j) (by omega)
  rw [show ((t.2.1 + j : Nat) : Int) = (t.2.1 : Int) + j by omega] at e
  exact ⟨Or.inl g, by rw [e], rfl⟩
theorem s128 {Q : Mem → Prop} {i : Nat} (h : TapC M T ft fp) (e : M 2 3 + M 2 4 = i) (hi : i ≤ T.length) (hQ : ∀ M' : Mem, FrK M M' → TpR M' T (nxt T i) ft fp → Q M') : WV 128 [vR 2] M Q := by
  have hl := h.2.2.1
  refine t_128 o2.1 ?_
  rw [e]
  have key : ∀ (n j : Nat), j + n = T.length → (∀ M' : Mem, FrK M M' → TpR M' T (nxt T j) ft fp → Q M') → WR 128 10 [some (vR 2), some (vI j), none, none] [] M (fun _ M' => Q M') := by
    intro n
    induction n with
    | zero =>
      intro j hj hQ
      have e1 : ∀ v, upM (upM (upM M 2 3 j) 2 4 0) 2 2 v 2 1 = T.length := fun v => by rw [upM_f (by decide), upM_f (by decide), upM_f (by decide)]; exact h.2.1
      refine t_128_10 o2.1 ⟨by omega, by rw [h.2.1]; omega, ?_⟩
      rw [h.2.1, if_pos (by omega), e1]
      refine ⟨by omega, ?_⟩
      rw [if_neg (by omega)]
      have en : nxt T j = (0, j, 0) := by
        unfold nxt tkAt
        have e0 : lng wht T j = 0 := by rw [lng_eq, if_neg (by omega)]
        rw [e0, if_pos (by omega)]
        rfl
      have ok := nxt_ok (T := T) (i := j) (by omega)
      rw [en] at hQ ok
      exact hQ _ (((FrK.up (by decide)).tr (FrK.up (by decide))).tr (FrK.up (by decide))) ⟨((h.up (by decide)).up (by decide)).up (by decide), ⟨upM_s, by rw [upM_f (by decide), upM_f (by decide), upM_s], by rw [upM_f (by decide), upM_s]; rfl⟩, ok.1⟩
    | succ n ih =>
      intro j hj hQ
      refine t_128_10 o2.1 ⟨by omega, by rw [h.2.1]; omega, ?_⟩
      rw [h.2.1, if_neg (by omega), s129 h (by omega)]
      refine ⟨by have := b2i_r (wht (bt T j)); omega, ?_⟩
      cases hw : wht (bt T j)
      rotate_left
      · rw [if_neg (by decide)]
        have en : nxt T j = nxt T (j + 1) := by
          unfold nxt
          rw [lng_eq (i := j), if_pos ⟨by omega, hw⟩]
          congr 1
          omega
        rw [en] at hQ
        exact ih (j + 1) (by omega) hQ
      rw [if_pos (by decide)]
      have en : nxt T j = tkAt T j := by
        unfold nxt
        rw [lng_eq (P := wht), if_neg (fun z => by rw [hw] at z; exact absurd z.2 (by decide))]
        rfl
      have hok := tk_at (T := T) (s := j) (by omega)
      rw [en] at hQ
      clear ih
      have e1 : ∀ v, upM (upM (upM M 2 3 j) 2 4 0) 2 2 v 2 1 = T.length := fun v => by rw [upM_f (by decide), upM_f (by decide), upM_f (by decide)]; exact h.2.1
      have fr : ∀ v, FrK M (upM (upM (upM M 2 3 j) 2 4 0) 2 2 v) := fun v => ((FrK.up (by decide)).tr (FrK.up (by decide))).tr (FrK.up (by decide))
      have e3 : ∀ v, upM (upM (upM M 2 3 j) 2 4 0) 2 2 v 2 3 = j := fun v => by rw [upM_f (by decide), upM_f (by decide), upM_s]
      rw [e1]
      refine ⟨by omega, ?_⟩
      rw [if_pos (by omega)]
      have hN := ((h.up (i := 3) (v := j) (by decide)).up (i := 4) (v := 0) (by decide)).up (i := 2) (v := 0) (by decide)
      have fr := fr 0
      have e3 := e3 0
      generalize upM (upM (upM M 2 3 j) 2 4 0) 2 2 0 = N at *
      rw [s130 hN (by omega) (by decide) (by decide), s130 hN (by omega) (by decide) (by decide)]
      obtain ⟨a1, a2⟩ := lng_sp (P := rg 97 122) (T := T) (T.length - j) j (by omega)
      obtain ⟨d1, d2⟩ := lng_sp (P := rg 48 57) (T := T) (T.length - j) j (by omega)
      have ad : 0 < lng (rg 97 122) T j → lng (rg 48 57) T j = 0 := fun z => by
        have := of_decide_eq_true (a2 0 z)
        rw [Nat.add_zero] at this
        rw [lng_eq, if_neg (fun y => by have := of_decide_eq_true y.2; omega)]
      have hk : tkAt T j = if 0 < lng (rg 97 122) T j then (if 12 < lng (rg 97 122) T j then (4, j, lng (rg 97 122) T j) else (1, j, lng (rg 97 122) T j)) else if 0 < lng (rg 48 57) T j then (if 3 < lng (rg 48 57) T j then (4, j, lng (rg 48 57) T j) else if lng (rg 97 122) T (j + lng (rg 48 57) T j) = 0 then (2, j, lng (rg 48 57) T j) else (4, j, lng (rg 48 57) T j)) else if bt T j = 59 then (3, j, 1) else (4, j, 1) := by
        unfold tkAt
        rw [if_neg (by omega)]
      refine ⟨⟨by omega, by omega⟩, ⟨by decide, by omega⟩, by omega, ?_⟩
      -- the two last fields
      have fin : ∀ (n : Int) (m : Nat) (kd : Int), n = m → tkAt T j = (kd, j, m) → Q (upM (upM N 2 4 n) 2 2 kd) := fun n m kd hn hk => by
        rw [hk] at hQ hok
        exact hQ _ (fr.tr ((FrK.up (by decide)).tr (FrK.up (by decide)))) ⟨(hN.up (by decide)).up (by decide), ⟨upM_s, by rw [upM_f (by decide), upM_f (by decide)]; exact e3, by rw [upM_f (by decide), upM_s]; exact hn⟩, hok.1⟩
      generalize lng (rg 97 122) T j = a at *
      generalize lng (rg 48 57) T j = d at *
      by_cases q1 : 0 < a
      · rw [if_neg (by omega)]
        rw [if_pos q1] at hk
        have d0 := ad q1
        by_cases q2 : 12 < a
        · rw [if_pos (by omega)]
          rw [if_pos q2] at hk
          exact fin _ a 4 (by omega) hk
        · rw [if_neg (by omega)]
          rw [if_neg q2] at hk
          exact fin _ a 1 (by omega) hk
      rw [if_pos (by omega)]
      rw [if_neg q1] at hk
      refine ⟨by omega, ?_⟩
      by_cases q3 : 0 < d
      · rw [if_neg (by omega)]
        rw [if_pos q3] at hk
        by_cases q4 : 3 < d
        · rw [if_pos (by omega)]
          rw [if_pos q4] at hk
          exact fin _ d 4 (by omega) hk
        rw [if_neg (by omega)]
        rw [if_neg q4] at hk
        rw [show (j : Int) + d = ((j + d : Nat) : Int) by omega, s130 (hN.up (by decide)) (by omega) (by decide) (by decide)]
        obtain ⟨x1, x2⟩ := lng_sp (P := rg 97 122) (T := T) (T.length - (j + d)) (j + d) (by omega)
        refine ⟨by omega, ?_⟩
        by_cases q5 : lng (rg 97 122) T (j + d) = 0
        · rw [if_pos (by omega)]
          rw [if_pos q5] at hk
          exact fin _ d 2 (by omega) hk
        · rw [if_neg (by omega)]
          rw [if_neg q5] at hk
          exact fin _ d 4 (by omega) hk
      rw [if_pos (by omega)]
      rw [if_neg q3] at hk
      have br := bt_r h.2.2.2.1 j
      have e0 := s132 (M := upM N 2 4 (max 1 (max (a : Int) (d : Int)))) (Q := fun y M' => inR y ∧ (if y = 59 then Q (upM M' 2 2 3) else Q (upM M' 2 2 4))) (t := (4, j, 1)) (j := 0) (hN.up (by decide)) ⟨by rw [upM_f (by decide)]; exact e3, by rw [upM_s]; show _ = ((1 : Nat) : Int); omega⟩ (by dsimp only; omega) (by dsimp only; omega)
      dsimp only at e0
      rw [Nat.add_zero] at e0
      refine e0.mpr ⟨by unfold sgn; split <;> omega, ?_⟩
      by_cases q6 : bt T j = 59
      · rw [if_pos (by unfold sgn; rw [if_pos (by omega)]; exact q6)]
        rw [if_pos q6] at hk
        exact fin _ 1 3 (by omega) hk
      · rw [if_neg (by unfold sgn; split <;> omega)]
        rw [if_neg q6] at hk
        exact fin _ 1 4 (by omega) hk
  exact key (T.length - i) i (by omega) hQ
end TK
