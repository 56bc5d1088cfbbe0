/-! HOW MANY GO OVER, by the model; joins on both sides. -/
theorem lay_hd {L : Lw} {b : List Int} (hb : 1 ≤ b.length) : (pkn L (gi b 0) = true → 0 < cnt (X0 L b) ∧ hst (X0 L b) 0 = 0) ∧ (pkn L (gi b 0) = false → cnt (X0 L b) = 0 ∨ (0 < cnt (X0 L b) ∧ 0 < hst (X0 L b) 0)) := by
  cases b with
  | nil => exact absurd hb (by decide)
  | cons a r =>
    have e0 : gi (a :: r) 0 = a := rfl
    rw [e0]
    constructor
    · intro hp
      have hc : cnt (X0 L (a :: r)) = (lay L 0 (a :: r)).length := rfl
      have hh : hst (X0 L (a :: r)) 0 = (((lay L 0 (a :: r)).getD 0 (0, 0)).1 : Int) := rfl
      rw [hc, hh]
      cases hl : longH L a (gi r 0)
      · rw [lay_1 hp hl, List.length_cons]
        exact ⟨by omega, rfl⟩
      · cases r with
        | nil => rw [show gi [] 0 = -1 from rfl, longH_out] at hl; cases hl
        | cons b' r' =>
          replace hl : longH L a b' = true := hl
          rw [lay_2 hp hl, List.length_cons]
          exact ⟨by omega, rfl⟩
    · intro hp
      have hc : cnt (X0 L (a :: r)) = (lay L 0 (a :: r)).length := rfl
      have hh : hst (X0 L (a :: r)) 0 = (((lay L 0 (a :: r)).getD 0 (0, 0)).1 : Int) := rfl
      rw [hc, hh, lay_no hp]
      have hk := (layT_ok L r.length r (0 + 1) (Nat.le_refl _)).2 0
      rcases Nat.eq_zero_or_pos (lay L (0 + 1) r).length with q | q
      · exact Or.inl (by omega)
      · have := (hk q).1
        unfold hf at this
        exact Or.inr ⟨by omega, by omega⟩
section OV
variable {M : Mem} {p q w : Int} {L : Lw} {W S : List (List Int)} {c : Int → Int} {l : List Int}
theorem m257 {Q : Int → Mem → Prop} {k : Int} (h : MdlQ M L W S c) (hk : 0 ≤ k ∧ k < 1000) (hQ : ∀ M' : Mem, FrM M M' → Q (overAt L W S k) M') : WI 257 [vR 204, vI k] M Q := by
  have h8 := h.2.2.1.2.1
  refine t_257 o204 ⟨by omega, ?_⟩
  unfold overAt at hQ
  by_cases k0 : k = 0
  · rw [if_pos k0]
    rw [if_neg (by omega)] at hQ
    exact ⟨_, rfl, hQ M FrM.rf⟩
  rw [if_neg k0, h.2.2.1.1]
  refine ⟨by omega, ?_⟩
  by_cases ks : (S.length : Int) ≤ k
  · rw [if_neg (show ¬ k < (S.length : Int) by omega)]
    rw [if_neg (by omega)] at hQ
    exact ⟨_, rfl, hQ M FrM.rf⟩
  rw [if_pos (show k < (S.length : Int) by omega)]
  rw [if_pos (show 0 < k ∧ k < (S.length : Int) by omega)] at hQ
  have wB : WdIs W S k (S.getD k.toNat []) := Or.inl ⟨by omega, by omega, rfl⟩
  have wA : WdIs W S (k - 1) (S.getD (k - 1).toNat []) := Or.inl ⟨by omega, by omega, rfl⟩
  generalize S.getD k.toNat [] = B at wB hQ
  generalize S.getD (k - 1).toNat [] = A at wA hQ
  have oB := (wB.ok h.2.1 h.2.2.1).1
  have oA := (wA.ok h.2.1 h.2.2.1).1
  have hb := lay_hd (L := L) oB.1
  unfold over at hQ
  refine m227 h.1 h.2.1 h.2.2.1 wB (fun M1 g1 hX => ?_)
  have hcb := hX.2.2.2.2.2.2.1.1
  have hc0 : 0 ≤ cnt (X0 L B) := Int.natCast_nonneg _
  rw [hX.2.2.2.1]
  refine ⟨by omega, ?_⟩
  by_cases cB : cnt (X0 L B) = 0
  · rw [if_pos cB]
    rw [if_neg (fun z => by have := hb.1 z; omega)] at hQ
    exact ⟨_, rfl, hQ M1 g1⟩
  rw [if_neg cB, hX.p.2.1, (hX.2.2.2.2.2.2.2 0 (by decide) (by omega)).1]
  have hs0 := hen_r hX.2.2.2.2.2.2.1 (k := 0) (by decide) (by omega)
  refine ⟨gC zC.2.1 (by decide) (by decide), by omega, ?_⟩
  by_cases sB : 0 < hst (X0 L B) 0
  · rw [if_neg (show ¬ hst (X0 L B) 0 ≤ 0 by omega)]
    rw [if_neg (fun z => by have := hb.1 z; omega)] at hQ
    exact ⟨_, rfl, hQ M1 g1⟩
  rw [if_pos (show hst (X0 L B) 0 ≤ 0 by omega)]
  have hpB : pkn L (gi B 0) = true := by
    cases hp : pkn L (gi B 0)
    · rcases hb.2 hp with z | z <;> omega
    · rfl
  rw [if_pos hpB] at hQ
  have h1 := h.fr g1
  refine m227 h1.1 h1.2.1 h1.2.2.1 wA (fun M2 g2 hY => ?_)
  have g12 := g1.tr g2
  have hH := hY.2.2.2.2.2.2.1
  have hcA := hH.1
  have hcA0 : 0 ≤ cnt (X0 L A) := Int.natCast_nonneg _
  rw [hY.2.2.2.1]
  refine ⟨by omega, ?_⟩
  by_cases cA : cnt (X0 L A) = 0
  · rw [if_pos cA] at hQ ⊢
    exact ⟨_, rfl, hQ M2 g12⟩
  rw [if_neg cA] at hQ ⊢
  have hG := X0_g L A oA.2.1
  have hr1 := csz_r hH hG (k := cnt (X0 L A) - 1) (by omega) (by omega)
  have hr2 := cls_r hH hG (k := cnt (X0 L A) - 1) (by omega) (by omega)
  have hr3 := beh_r hH (k := cnt (X0 L A) - 1) (by omega) (by omega)
  have hh := hen_r hH (k := cnt (X0 L A) - 1) (by omega) (by omega)
  have hXn : Xn (X0 L A) = A.length := rfl
  have ecs : csz (X0 L A) (cnt (X0 L A) - 1) = Xn (X0 L A) - hen (X0 L A) (cnt (X0 L A) - 1) := by
    have hw0 : Xw (X0 L A) = 0 := rfl
    unfold csz cls beh
    have q1 : cnt (X0 L A) - 1 + 1 = cnt (X0 L A) := by omega
    rw [if_pos q1, if_pos q1, if_neg (show ¬ cnt (X0 L A) - 1 + 1 < cnt (X0 L A) by omega), hw0, Int.sub_zero]
  have hz := h.1.2.2.2.2.2.2.2.2.2.2.2.2.2.2.2.2
  have e45 : M2 204 45 = Lz L 10 := hY.1.2.2.2.1.2.2.2.2.1
  have hA12 := oA.2.1
  rw [m229 hY (by omega) (by omega), e45, hY.2.2.1, ← ecs, m179 (by omega) (by omega)]
  have inner : ∀ m : Nat, m ≤ 4 → (m : Int) ≤ csz (X0 L A) (cnt (X0 L A) - 1) → dn (fun s => decide (kind L W (sub A (A.length - s) s) ≠ 0)) m = dn (fun s => decide (kind L W (sub A (A.length - s) s) ≠ 0)) (min (Lz L 10) (csz (X0 L A) (cnt (X0 L A) - 1))).toNat → WR 257 76 [some (vR 204), some (vI k), some (vI m)] [] M2 (fun r M' => ∃ x, r = vI x ∧ Q x M') := by
    intro m
    induction m with
    | zero =>
      intro hm4 hm hd
      refine t_257_76 o204 ⟨by decide, ?_⟩
      rw [if_neg (by decide), hY.p.1, hY.2.2.1]
      rw [show vI ((0 : Nat) : Int) = vI (([] : List Int).length : Int) from rfl, m235 (l := []) hY.1 hY.2.1 ⟨by rw [zC.1], by show 0 ≤ Xn (X0 L A) - 0; omega, by rw [zC.1]; show Xn (X0 L A) - 0 + 0 ≤ ((12 : Nat) : Int); omega⟩ (fun i a b => absurd b (by show ¬ i < 0; omega)) (fun s hs => by cases hs) (by decide) (by show Xn (X0 L A) - 0 ≤ 10000; omega), kind_1 (by decide)]
      refine ⟨by decide, ?_⟩
      rw [if_neg (by decide)]
      refine ⟨_, rfl, ?_⟩
      have := hQ M2 g12
      rw [← hd] at this
      exact this
    | succ m ihm =>
      intro hm4 hm hd
      have hsl := sub_len (l := A) (a := (A.length : Int) - ((m + 1 : Nat) : Int)) (n := ((m + 1 : Nat) : Int)) (by omega) (by omega) (by omega)
      have hkr := kind_r L W (sub A ((A.length : Int) - ((m + 1 : Nat) : Int)) ((m + 1 : Nat) : Int))
      have hseg : SegIs M2 232 ((A.length : Int) - ((m + 1 : Nat) : Int)) (sub A ((A.length : Int) - ((m + 1 : Nat) : Int)) ((m + 1 : Nat) : Int)) := by
        have := hY.2.2.2.2.1.sub (b := (A.length : Int) - ((m + 1 : Nat) : Int)) (n := ((m + 1 : Nat) : Int)) (by omega) (by omega) (by show _ ≤ Xn (X0 L A); omega)
        rw [Int.zero_add] at this
        exact this
      refine t_257_76 o204 ⟨by omega, ?_⟩
      rw [if_neg (by omega), hY.p.1, hY.2.2.1]
      have hcall : ∀ P2 : Int → Mem → Prop, WI 235 [vR 204, vR 232, vI (Xn (X0 L A) - ((m + 1 : Nat) : Int)), vI ((m + 1 : Nat) : Int)] M2 P2 = P2 (kind L W (sub A ((A.length : Int) - ((m + 1 : Nat) : Int)) ((m + 1 : Nat) : Int))) M2 := by
        intro P2
        have := m235 (Q := P2) hY.1 hY.2.1 (a := 232) (o := (A.length : Int) - ((m + 1 : Nat) : Int)) ⟨by rw [zC.1], by omega, by rw [zC.1, hsl]; show _ ≤ ((12 : Nat) : Int); omega⟩ hseg (sub_onl oA.2.2) (by omega) (by omega)
        rw [hsl] at this
        rw [hXn]
        exact this
      rw [hcall]
      refine ⟨by omega, ?_⟩
      have ed : dn (fun s => decide (kind L W (sub A (A.length - s) s) ≠ 0)) (m + 1) = if decide (kind L W (sub A ((A.length : Int) - ((m + 1 : Nat) : Int)) ((m + 1 : Nat) : Int)) ≠ 0) = true then (m : Int) + 1 else dn (fun s => decide (kind L W (sub A (A.length - s) s) ≠ 0)) m := rfl
      rw [ed] at hd
      by_cases e : kind L W (sub A ((A.length : Int) - ((m + 1 : Nat) : Int)) ((m + 1 : Nat) : Int)) = 0
      · rw [if_pos e]
        rw [if_neg (by rw [decide_eq_false (fun q => q e)]; decide)] at hd
        rw [show ((m + 1 : Nat) : Int) + (-1) = m by omega]
        exact ihm (by omega) (by omega) hd
      · rw [if_neg e]
        rw [if_pos (decide_eq_true e)] at hd
        refine ⟨_, rfl, ?_⟩
        have := hQ M2 g12
        rw [← hd] at this
        exact this
  have e4 : min (Lz L 10) (csz (X0 L A) (cnt (X0 L A) - 1)) = ((min (Lz L 10) (csz (X0 L A) (cnt (X0 L A) - 1))).toNat : Int) := by omega
  rw [e4]
  exact inner _ (by omega) (by omega) rfl
def aJoins (L : Lw) (W S : List (List Int)) (k : Int) : Int := if 0 ≤ k ∧ k < S.length then overAt L W S k else -1
theorem mJoins {Q : Int → Mem → Prop} {k : Int} (h : MdlQ M L W S c) (hk : inR k) (hQ : ∀ M' : Mem, FrM M M' → Q (aJoins L W S k) M') : WI 258 [vR 204, vI k] M Q := by
  have h8 := h.2.2.1.2.1
  refine t_258 o204 ?_
  rw [m220 h hk]
  unfold aJoins at hQ
  refine ⟨by have := b2i_r (decide (0 ≤ k ∧ k < (S.length : Int))); omega, ?_⟩
  by_cases a : 0 ≤ k ∧ k < (S.length : Int)
  · rw [if_pos a] at hQ
    rw [decide_eq_true a, if_neg (by decide)]
    exact m257 h (by omega) (fun M' g => ⟨_, rfl, hQ M' g⟩)
  · rw [if_neg a] at hQ
    rw [decide_eq_false a, if_pos (by decide)]
    exact ⟨_, rfl, hQ M FrM.rf⟩
theorem cJoins {Q : Int → Mem → Prop} {k : Int} (h : ClsQ M p q L W S c) (hk : inR k) (hQ : ∀ M' : Mem, Fr M M' → Q (aJoins L W S k) M') : WI 163 [vR 1, vI k] M Q := by
  obtain ⟨-, -, -, p3, -, -, -, p7, -, p14⟩ := h.2.2.2.2
  have eq : (shA SH q).1 = 10 := by rw [h.2.2.1.1.2.1]
  have h8 := h.2.2.1.2.2.2.1
  refine t_163 o1.1 ?_
  rw [p3, p14, s136 h.2.2.1 hk]
  refine ⟨o1.2, eq, ?_⟩
  unfold aJoins at hQ
  by_cases a : 0 ≤ k ∧ k < (S.length : Int)
  · rw [if_pos a] at hQ
    obtain ⟨ra, -, -⟩ := wrd_at (Or.inr ⟨h.2.1, rfl⟩) h.2.2.1 (i := k) a.1 a.2
    have ra0 := ra.1.1
    rw [if_pos a]
    refine ⟨by omega, ?_⟩
    rw [if_neg (by omega), p3, p7]
    exact ⟨o1.2.2, cOver h (by omega) (fun M' g => ⟨_, rfl, hQ M' g.fr⟩)⟩
  · rw [if_neg a] at hQ
    rw [if_neg a]
    refine ⟨by decide, ?_⟩
    rw [if_pos rfl]
    exact ⟨_, rfl, hQ M Fr.rf⟩
end OV
