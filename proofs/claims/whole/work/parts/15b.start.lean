/-! THE HEARTS FOUND. -/
def layS (L : Lw) : Bool → Nat → List Int → List (Nat × Nat)
  | _, _, [] => []
  | true, i, _ :: r => layS L false (i + 1) r
  | false, i, a :: r => if pkn L a = true then (if longH L a (gi r 0) = true then (i, 2) :: layS L true (i + 1) r else (i, 1) :: layS L false (i + 1) r) else layS L false (i + 1) r
def lay (L : Lw) (i : Nat) (l : List Int) : List (Nat × Nat) := layS L false i l
theorem lay_nil {L : Lw} {i : Nat} : lay L i [] = [] := rfl
theorem lay_no {L : Lw} {i : Nat} {a : Int} {r : List Int} (h : pkn L a = false) : lay L i (a :: r) = lay L (i + 1) r := by
  show (if pkn L a = true then _ else _) = _
  rw [if_neg (by rw [h]; decide)]
  rfl
theorem lay_1 {L : Lw} {i : Nat} {a : Int} {r : List Int} (h : pkn L a = true) (hl : longH L a (gi r 0) = false) : lay L i (a :: r) = (i, 1) :: lay L (i + 1) r := by
  show (if pkn L a = true then _ else _) = _
  rw [if_pos h, if_neg (by rw [hl]; decide)]
  rfl
theorem lay_2 {L : Lw} {i : Nat} {a b : Int} {r : List Int} (h : pkn L a = true) (hl : longH L a b = true) : lay L i (a :: b :: r) = (i, 2) :: lay L (i + 2) r := by
  show (if pkn L a = true then (if longH L a b = true then _ else _) else _) = _
  rw [if_pos h, if_pos hl]
  rfl
theorem longH_out {L : Lw} {a : Int} : longH L a (-1) = false := by
  unfold longH pkn
  rw [decide_eq_false (p := 0 ≤ (-1 : Int) ∧ _) (by omega), Bool.false_and, Bool.and_false, Bool.false_and]
def hf (H : List (Nat × Nat)) (k : Nat) : Nat := (H.getD k (0, 0)).1
def hs2 (H : List (Nat × Nat)) (k : Nat) : Nat := (H.getD k (0, 0)).2
def LayOk (i n : Nat) (H : List (Nat × Nat)) : Prop := H.length ≤ n ∧ ∀ k : Nat, k < H.length → i ≤ hf H k ∧ (hs2 H k = 1 ∨ hs2 H k = 2) ∧ hf H k + hs2 H k ≤ i + n ∧ (k + 1 < H.length → hf H k + hs2 H k ≤ hf H (k + 1))
theorem LayOk.up {i n : Nat} {H : List (Nat × Nat)} (h : LayOk (i + 1) n H) : LayOk i (n + 1) H := by
  refine ⟨by have := h.1; omega, fun k hk => ?_⟩
  have := h.2 k hk
  omega
theorem LayOk.cons {i z n : Nat} {H : List (Nat × Nat)} (h : LayOk (i + z) n H) (hz : z = 1 ∨ z = 2) : LayOk i (n + z) ((i, z) :: H) := by
  refine ⟨by have := h.1; rw [List.length_cons]; omega, fun k hk => ?_⟩
  cases k with
  | zero =>
    refine ⟨Nat.le_refl _, hz, by show i + z ≤ _; omega, fun h1 => ?_⟩
    rw [List.length_cons] at h1
    have := h.2 0 (by omega)
    show i + z ≤ hf H 0
    omega
  | succ k =>
    rw [List.length_cons] at hk
    have := h.2 k (by omega)
    refine ⟨by show i ≤ hf H k; omega, this.2.1, by show hf H k + hs2 H k ≤ _; omega, fun h1 => ?_⟩
    rw [List.length_cons] at h1
    exact this.2.2.2 (by omega)
theorem layT_ok (L : Lw) : ∀ (n : Nat) (l : List Int) (i : Nat), l.length ≤ n → LayOk i l.length (lay L i l)
  | 0, l, i, h => by
    rw [List.length_eq_zero_iff.mp (Nat.le_zero.mp h)]
    exact ⟨Nat.le_refl _, fun k hk => absurd hk (Nat.not_lt_zero k)⟩
  | n + 1, [], i, _ => ⟨Nat.le_refl _, fun k hk => absurd hk (Nat.not_lt_zero k)⟩
  | n + 1, a :: r, i, h => by
    rw [List.length_cons] at h ⊢
    cases hp : pkn L a
    · rw [lay_no hp]
      exact (layT_ok L n r (i + 1) (by omega)).up
    · cases hl : longH L a (gi r 0)
      · rw [lay_1 hp hl]
        exact (layT_ok L n r (i + 1) (by omega)).cons (Or.inl rfl)
      · cases r with
        | nil => rw [show gi [] 0 = -1 from rfl, longH_out] at hl; cases hl
        | cons b r' =>
          replace hl : longH L a b = true := hl
          rw [lay_2 hp hl, List.length_cons]
          rw [List.length_cons] at h
          exact (layT_ok L n r' (i + 2) (by omega)).cons (Or.inr rfl)
/-- a word with its hearts found, no gap cut yet -/
def X0 (L : Lw) (l : List Int) : Ct := (l, lay L 0 l, List.replicate ((lay L 0 l).length - 1) 0, 0, 0, [])
theorem X0_h (L : Lw) (l : List Int) (hl : l.length ≤ 12) : HOk (X0 L l) := by
  have h := layT_ok L l.length l 0 (Nat.le_refl _)
  refine ⟨by show ((lay L 0 l).length : Int) ≤ 12; have := h.1; omega, by show (l.length : Int) ≤ 12; omega, fun k h0 h1 => ?_⟩
  obtain ⟨n, rfl⟩ := Int.eq_ofNat_of_zero_le h0
  replace h1 : (n : Int) < (lay L 0 l).length := h1
  have g := h.2 n (by omega)
  have e1 : hst (X0 L l) n = hf (lay L 0 l) n := rfl
  have e2 : hsz (X0 L l) n = hs2 (lay L 0 l) n := rfl
  have e3 : hst (X0 L l) (n + 1) = hf (lay L 0 l) (n + 1) := rfl
  have e4 : cnt (X0 L l) = (lay L 0 l).length := rfl
  have e5 : Xn (X0 L l) = l.length := rfl
  unfold hen
  rw [e1, e2, e3, e4, e5]
  omega
theorem gi_rep {n : Nat} {k : Int} (h0 : 0 ≤ k) (h1 : k < n) : gi (List.replicate n 0) k = 0 := by
  unfold gi
  rw [if_pos h0, List.getD_eq_getElem?_getD, List.getElem?_replicate, if_pos (by omega)]
  rfl
theorem X0_g (L : Lw) (l : List Int) (hl : l.length ≤ 12) : GOk (X0 L l) := by
  refine ⟨fun k h0 h1 => ?_, Int.le_refl _, (show (0 : Int) ≤ 4 by decide), Int.le_refl _, fun h0 => ?_, Int.le_refl _, fun h => absurd h (show ¬ (0 : Int) < 0 by decide), fun s hs => (by cases hs), Nat.zero_le _⟩
  · have hb := beh_r (X0_h L l hl) h0 (by omega)
    have e4 : cnt (X0 L l) = (lay L 0 l).length := rfl
    have e : Xg (X0 L l) k = 0 := gi_rep h0 (by omega)
    omega
  · exact (beh_r (X0_h L l hl) (by omega) (by omega)).1
section ST
variable {M : Mem} {p r : Int} {L : Lw} {W : List (List Int)} {l : List Int}
theorem RowIs.no {M M' : Mem} {r : Int} {l : List Int} (h : RowIs M r l) (g : ∀ k : Int, k < 9 ∨ 13 < k → M' k = M k) : RowIs M' r l := by
  have hc := h.1
  have h9 : r < 8 ∨ 13 < r := by
    rcases Decidable.em (r = 8 ∨ r = 9 ∨ r = 10 ∨ r = 11 ∨ r = 12 ∨ r = 13) with q | q
    · rcases q with rfl | rfl | rfl | rfl | rfl | rfl <;> exact absurd hc.2.1 (by decide +kernel)
    · omega
  exact h.fr (g _ (by omega)) (g _ (by omega))
theorem drop_cons {l : List Int} {i : Nat} (h : i < l.length) : l.drop i = gi l i :: l.drop (i + 1) := by
  rw [gi_nat, List.getD_eq_getElem?_getD, List.getElem?_eq_getElem h]
  exact (List.getElem_cons_drop h).symm
theorem gi_drop {l : List Int} {i : Nat} : gi (l.drop i) 0 = gi l i := by
  rw [show (0 : Int) = ((0 : Nat) : Int) from rfl, gi_nat, gi_nat, List.getD_eq_getElem?_getD, List.getD_eq_getElem?_getD, List.getElem?_drop, Nat.add_zero]
theorem hd_cons {H T : List (Nat × Nat)} {c : Nat} {x : Nat × Nat} (h : H.drop c = x :: T) : c < H.length ∧ H.getD c (0, 0) = x ∧ H.drop (c + 1) = T := by
  have hl : c < H.length := by
    rcases Nat.lt_or_ge c H.length with q | q
    · exact q
    · rw [List.drop_eq_nil_of_le q] at h; cases h
  have e := List.getElem_cons_drop hl
  rw [h] at e
  injection e with e1 e2
  refine ⟨hl, ?_, e2⟩
  rw [List.getD_eq_getElem?_getD, List.getElem?_eq_getElem hl]
  exact e1
theorem s11 {Q : Mem → Prop} (h : CutB M p L W) (hr : RowIs M r l) (hQ : ∀ M' : Mem, FrC M M' → CutIs M' p L W (X0 L l) → M' 9 5 = r → Q M') : WV 11 [vR 9, vR p, vR r] M Q := by
  have hp0 : 0 < p := h.1.o.1.1
  have hr0 := hr.1.1
  have hl12 := hr.2.2.2.1
  have hX := X0_h L l hl12
  have hG := X0_g L l hl12
  have hlen := (layT_ok L l.length l 0 (Nat.le_refl _)).1
  have hdg := hr.2.2.2.2.1
  have cH : ∀ (N : Mem), FrC M N → N 9 4 = p → N 9 5 = r → N 9 7 = 0 → N 9 8 = 0 → N 9 9 = cnt (X0 L l) → (∀ k : Int, 0 ≤ k → k < cnt (X0 L l) → N 10 k = hst (X0 L l) k ∧ N 11 k = hsz (X0 L l) k) → CutH N p L W (X0 L l) := by
    intro N hF e4 e5 e7 e8 e9 hk
    refine ⟨h.1.fr hF.fr, h.2.1.fr (lw8 h.1.1) hF.fr, by rw [e5]; exact hr.no hF.1, ⟨by rw [hF.2 0 (by decide) (by decide)]; exact h.2.2.1, by rw [hF.2 1 (by decide) (by decide)]; exact h.2.2.2.1, by rw [hF.2 2 (by decide) (by decide)]; exact h.2.2.2.2.1, by rw [hF.2 3 (by decide) (by decide)]; exact h.2.2.2.2.2, e4, e9, e7, e8⟩, hX, hk, fun q => absurd q (show ¬ (0 : Int) < 0 by decide)⟩
  have fin : ∀ (N : Mem) (P : AV → Mem → Prop), FrC M N → N 9 4 = p → N 9 5 = r → N 9 7 = 0 → N 9 8 = 0 → N 9 9 = cnt (X0 L l) → (∀ k : Int, 0 ≤ k → k < cnt (X0 L l) → N 10 k = hst (X0 L l) k ∧ N 11 k = hsz (X0 L l) k) → (∀ (v : AV) (M' : Mem), FrC M M' → CutIs M' p L W (X0 L l) → M' 9 5 = r → P v M') → WV 12 [vR 9] N (fun M3 => P (vI 0) M3) := by
    intro N P hF e4 e5 e7 e8 e9 hk hP
    have hC := cH N hF e4 e5 e7 e8 e9 hk
    refine s12 hC (fun M' a b => hP _ M' ⟨fun k q => by rw [a k (by omega)]; exact hF.1 k q, fun j q0 q3 => by rw [a 9 (by decide)]; exact hF.2 j q0 q3⟩ ⟨hC.up (fun k q _ => a k q), fun k q0 q1 => ?_, hG⟩ (by rw [a 9 (by decide)]; exact e5))
    rw [b k q0 q1]
    unfold cls
    by_cases q : k + 1 = cnt (X0 L l)
    · rw [if_pos q, if_pos q]
    · rw [if_neg q, if_neg q]
      exact (gi_rep q0 (by have e4 : cnt (X0 L l) = (lay L 0 l).length := rfl; omega)).symm
  have hcnt : cnt (X0 L l) = (lay L 0 l).length := rfl
  have up : ∀ {c : Nat} {N : Mem}, (∀ k : Nat, k < c → N 10 k = hst (X0 L l) k ∧ N 11 k = hsz (X0 L l) k) → ∀ k : Int, 0 ≤ k → k < c → N 10 k = hst (X0 L l) k ∧ N 11 k = hsz (X0 L l) k := by
    intro c N hk k h0 h1
    obtain ⟨m, rfl⟩ := Int.eq_ofNat_of_zero_le h0
    exact hk m (by omega)
  have key : ∀ (n i c : Nat) (N : Mem) (P : AV → Mem → Prop), l.length - i ≤ n → FrC M N → N 9 4 = p → N 9 5 = r → N 9 7 = 0 → N 9 8 = 0 → N 9 9 = c → (lay L 0 l).drop c = lay L i (l.drop i) → c ≤ (lay L 0 l).length → i ≤ l.length → (∀ k : Nat, k < c → N 10 k = hst (X0 L l) k ∧ N 11 k = hsz (X0 L l) k) → (∀ (v : AV) (M' : Mem), FrC M M' → CutIs M' p L W (X0 L l) → M' 9 5 = r → P v M') → WR 11 32 [some (vR 9), some (vR p), some (vR r), some (vI i)] [] N P := by
    intro n
    induction n with
    | zero =>
      intro i c N P hn hF e4 e5 e7 e8 e9 hd hc hi hk hP
      have hrN := hr.no hF.1
      rw [List.drop_eq_nil_of_le (show l.length ≤ i by omega), lay_nil] at hd
      have hcl := List.drop_eq_nil_iff.mp hd
      refine t_11_32 sh_cut.1 ?_
      rw [hrN.2.2.1]
      refine ⟨⟨hr0, by rw [hr.1.2.1]⟩, by omega, by omega, ?_⟩
      rw [if_pos (by omega)]
      exact fin N P hF e4 e5 e7 e8 (by omega) (fun k a b => up hk k a (by omega)) hP
    | succ n ih =>
      intro i c N P hn hF e4 e5 e7 e8 e9 hd hc hi hk hP
      have hrN := hr.no hF.1
      have hLN := h.1.fr hF.fr
      refine t_11_32 sh_cut.1 ?_
      rw [hrN.2.2.1, e9]
      refine ⟨⟨hr0, by rw [hr.1.2.1]⟩, by omega, by omega, ?_⟩
      by_cases hil : (l.length : Int) ≤ i
      · rw [if_pos hil]
        rw [List.drop_eq_nil_of_le (show l.length ≤ i by omega), lay_nil] at hd
        have hcl := List.drop_eq_nil_iff.mp hd
        exact fin N P hF e4 e5 e7 e8 (by omega) (fun k a b => up hk k a (by omega)) hP
      rw [if_neg hil]
      refine ⟨by omega, ?_⟩
      by_cases h12 : (12 : Int) ≤ c
      · rw [if_pos h12]
        exact fin N P hF e4 e5 e7 e8 (by omega) (fun k a b => up hk k a (by omega)) hP
      rw [if_neg h12]
      have hga := gi_dg hdg (i := i) (by omega) (by omega)
      have hgb := gi_dg' hdg (i + 1)
      have h0N : N p 0 = p + 1 := hLN.2.1.1
      refine ⟨hLN.o.1, by rw [hr.1.2.1], ?_⟩
      rw [s82 hrN (by omega), h0N, s94 hLN (by omega)]
      refine ⟨hLN.o.2.2, by have := b2i_r (pkn L (gi l i)); omega, ?_⟩
      rw [drop_cons (by omega)] at hd
      cases hpk : pkn L (gi l i)
      · rw [if_pos (by decide)]
        rw [lay_no hpk] at hd
        exact ih (i + 1) c N P (by omega) hF e4 e5 e7 e8 e9 hd hc (by omega) hk hP
      rw [if_neg (by decide)]
      have e0N : N 9 0 = 10 := by rw [hF.2 0 (by decide) (by decide)]; exact h.2.2.1
      have e1N : N 9 1 = 11 := by rw [hF.2 1 (by decide) (by decide)]; exact h.2.2.2.1
      rw [e0N, e9]
      have hg10 : gA 20 10 c := ⟨by rw [sh_cut.2.1], by omega, by rw [sh_cut.2.1]; show _ < ((12 : Nat) : Int); omega⟩
      have hg11 : gA 20 11 c := ⟨by rw [sh_cut.2.2.1], by omega, by rw [sh_cut.2.2.1]; show _ < ((12 : Nat) : Int); omega⟩
      refine ⟨hg10, by rw [hr.1.2.1], ?_⟩
      have o1 : ∀ k : Int, k ≠ 10 → upM N 10 (c : Int) (i : Int) k = N k := fun k q => upM_o q
      have s1 : upM N 10 (c : Int) (i : Int) 10 c = i := upM_s
      have f1 : ∀ b : Int, b ≠ c → upM N 10 (c : Int) (i : Int) 10 b = N 10 b := fun b q => upM_f q
      generalize upM N 10 (c : Int) (i : Int) = N1 at o1 s1 f1 ⊢
      have hF1 : FrC M N1 := ⟨fun k q => by rw [o1 k (by omega)]; exact hF.1 k q, fun j q0 q3 => by rw [o1 9 (by decide)]; exact hF.2 j q0 q3⟩
      have hrN1 := hr.no hF1.1
      have hLN1 := h.1.fr hF1.fr
      rw [s82 hrN1 (by omega)]
      refine ⟨by rw [hr.1.2.1], ?_⟩
      rw [s82 hrN1 (by omega)]
      refine ⟨hLN1.o.1.2, ?_⟩
      rw [s47 hLN1 (by omega) (by omega), o1 9 (by decide), e1N, e9]
      refine ⟨by have := b2i_r (longH L (gi l i) (gi l (i + 1))); omega, ?_⟩
      have step : ∀ z : Nat, (z = 1 ∨ z = 2) → (lay L 0 l).drop c = (i, z) :: lay L (i + z) (l.drop (i + z)) → i + z ≤ l.length → gA 20 11 (c : Int) ∧ gA 20 (upM N1 11 (c : Int) (z : Int) 9 1) (upM N1 11 (c : Int) (z : Int) 9 9) ∧ WR 11 32 [some (vR 9), some (vR p), some (vR r), some (vI ((i + (upM N1 11 (c : Int) (z : Int) (upM N1 11 (c : Int) (z : Int) 9 1) (upM N1 11 (c : Int) (z : Int) 9 9) - 1)) + 1))] [] (upM (upM N1 11 (c : Int) (z : Int)) 9 9 (upM N1 11 (c : Int) (z : Int) 9 9 + 1)) P := by
        intro z hz hdz hiz
        obtain ⟨d1, d2, d3⟩ := hd_cons hdz
        rw [upM_o (k := 11) (a := 9) (by decide), o1 9 (by decide), e1N, e9, upM_s]
        refine ⟨hg11, hg11, ?_⟩
        rw [show (i : Int) + ((z : Int) - 1) + 1 = ((i + z : Nat) : Int) by omega]
        refine ih (i + z) (c + 1) _ P (by omega) ?_ ?_ ?_ ?_ ?_ ?_ d3 d1 hiz ?_ hP
        · refine ⟨fun k q => ?_, fun j q0 q3 => ?_⟩
          · rw [upM_o (by omega), upM_o (by omega)]
            exact hF1.1 k q
          · rw [upM_f (by omega), upM_o (by decide)]
            exact hF1.2 j q0 q3
        · rw [upM_f (by decide), upM_o (by decide), o1 9 (by decide)]; exact e4
        · rw [upM_f (by decide), upM_o (by decide), o1 9 (by decide)]; exact e5
        · rw [upM_f (by decide), upM_o (by decide), o1 9 (by decide)]; exact e7
        · rw [upM_f (by decide), upM_o (by decide), o1 9 (by decide)]; exact e8
        · rw [upM_s]; rfl
        · intro k hkc
          rw [upM_o (by decide), upM_o (by decide), upM_o (k := 9) (by decide)]
          by_cases hkk : k = c
          · subst hkk
            rw [s1, upM_s]
            unfold hst hsz
            rw [Int.toNat_natCast]
            show _ = (((lay L 0 l).getD k (0, 0)).1 : Int) ∧ _ = (((lay L 0 l).getD k (0, 0)).2 : Int)
            rw [d2]
            exact ⟨rfl, rfl⟩
          · rw [f1 k (by omega), upM_f (by omega), o1 11 (by decide)]
            exact hk k (by omega)
      cases hlg : longH L (gi l i) (gi l (i + 1))
      · rw [if_pos (by decide)]
        rw [lay_1 hpk (by rw [gi_drop]; exact hlg)] at hd
        exact step 1 (Or.inl rfl) hd (by omega)
      · rw [if_neg (by decide)]
        have hi2 : i + 1 < l.length := by
          rcases Nat.lt_or_ge (i + 1) l.length with q | q
          · exact q
          · rw [gi_out (l := l) (i := (i : Int) + 1) (Or.inr (by omega)), longH_out] at hlg
            cases hlg
        have ed := drop_cons hi2
        rw [show ((i + 1 : Nat) : Int) = (i : Int) + 1 from rfl] at ed
        rw [ed, lay_2 hpk hlg] at hd
        exact step 2 (Or.inr rfl) hd (by omega)
  refine t_11 sh_cut.1 ⟨by omega, by omega, ?_⟩
  have ev : ∀ (v : AV) (M' : Mem), FrC M M' → CutIs M' p L W (X0 L l) → M' 9 5 = r → Q M' := fun _ M' a b c => hQ M' a b c
  refine key l.length 0 0 _ _ (by omega) ?_ ?_ ?_ ?_ ?_ ?_ (by simp) (by omega) (by omega) (fun k hk => absurd hk (Nat.not_lt_zero k)) ev
  · refine ⟨fun k hk => ?_, fun j h0 h3 => ?_⟩
    · rw [upM_o (by omega), upM_o (by omega), upM_o (by omega), upM_o (by omega), upM_o (by omega), upM_o (by omega)]
    · rw [upM_f (by omega), upM_f (by omega), upM_f (by omega), upM_f (by omega), upM_f (by omega), upM_f (by omega)]
  · rw [upM_f (by decide), upM_f (by decide), upM_f (by decide), upM_f (by decide), upM_f (by decide), upM_s]
  · rw [upM_f (by decide), upM_f (by decide), upM_f (by decide), upM_f (by decide), upM_s]
  · rw [upM_f (by decide), upM_f (by decide), upM_s]
  · rw [upM_f (by decide), upM_s]
  · rw [upM_s]; rfl
end ST
