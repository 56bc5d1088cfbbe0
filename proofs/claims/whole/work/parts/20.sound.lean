/-! SOUND, on both sides; how many go over, by the class. -/
def aSound (L : Lw) (i what : Int) : Int := if 0 ≤ i ∧ i < Ln L then (if what = 0 then Llt L i + 97 else if what = 1 then Lop L i else if what = 2 then b2i (Lpk L i) else -1) else -1
section SO
variable {M : Mem} {p q w : Int} {L : Lw} {W S : List (List Int)} {c : Int → Int} {l : List Int}
theorem cSound {Q : Int → Mem → Prop} {i what : Int} (h : ClsQ M p q L W S c) (hi : inR i) (hw : inR what) : WI 149 [vR 1, vI i, vI what] M Q = Q (aSound L i what) M := by
  have hL := h.1.1
  have p7 := h.2.2.2.2.2.2.2.2.2.2.2.1
  have h0 : M p 0 = p + 1 := hL.2.1.1
  have e6 := hL.o.2.2
  refine FN.wi (WC.fn (t_149 o1.1 ?_))
  rw [p7, h0, s90 hL hi]
  refine ⟨hL.o.1, e6, by have := b2i_r (decide (0 ≤ i ∧ i < (Ln L : Int))); omega, ?_⟩
  unfold aSound
  by_cases a : 0 ≤ i ∧ i < Ln L
  · rw [decide_eq_true a, if_neg (by decide), if_pos a]
    refine ⟨hw, ?_⟩
    by_cases b0 : what = 0
    · rw [if_pos b0, if_pos b0, s92 hL hi, if_pos a]
      exact ⟨e6, rfl, rfl⟩
    rw [if_neg b0, if_neg b0]
    by_cases b1 : what = 1
    · rw [if_pos b1, if_pos b1, s93 hL hi, opn_on a.1 a.2]
      exact ⟨e6, rfl, rfl⟩
    rw [if_neg b1, if_neg b1]
    by_cases b2 : what = 2
    · rw [if_pos b2, if_pos b2, s94 hL hi, pkn_eq a.1 a.2]
      refine ⟨e6, by have := b2i_r (Lpk L i); omega, ?_⟩
      cases Lpk L i <;> exact ⟨rfl, rfl⟩
    · rw [if_neg b2, if_neg b2]
      exact ⟨rfl, rfl⟩
  · rw [decide_eq_false a, if_pos (by decide), if_neg a]
    exact ⟨rfl, rfl⟩
theorem mSound {Q : Int → Mem → Prop} {i what : Int} (h : MdlQ M L W S c) (hi : inR i) (hw : inR what) : WI 224 [vR 204, vI i, vI what] M Q = Q (aSound L i what) M := by
  have hn := h.1.2.2.2.2.1.1
  have z219 : shA SH 219 = (20, 16) := by decide +kernel
  refine FN.wi (WC.fn (t_224 o204 ?_))
  rw [wr_id hi, h.1.2.1.1, wr_id (show inR ((Ln L : Int) - 1) by omega), m177 (by omega) (by decide) (by omega)]
  refine ⟨by have := b2i_r (decide (0 ≤ i ∧ i ≤ (Ln L : Int) - 1)); omega, ?_⟩
  unfold aSound
  by_cases a : 0 ≤ i ∧ i < Ln L
  · obtain ⟨q1, q2, q3⟩ := h.1.2.1.2.1 i a.1 a.2
    rw [decide_eq_true (by omega), if_neg (by decide), if_pos a]
    refine ⟨hw, ?_⟩
    rw [h.1.1.at (show ((49 : Int), (219 : Int)) ∈ mpT by decide), h.1.1.at (show ((50 : Int), (220 : Int)) ∈ mpT by decide), h.1.1.at (show ((51 : Int), (221 : Int)) ∈ mpT by decide), q1, q2, q3]
    by_cases b0 : what = 0
    · rw [if_pos b0, if_pos b0, Int.add_comm]
      exact ⟨gC z219 a.1 (by show _ < ((16 : Nat) : Int); omega), rfl, rfl⟩
    rw [if_neg b0, if_neg b0]
    by_cases b1 : what = 1
    · rw [if_pos b1, if_pos b1]
      exact ⟨g220 h.1 a.1 a.2, rfl, rfl⟩
    rw [if_neg b1, if_neg b1]
    by_cases b2 : what = 2
    · rw [if_pos b2, if_pos b2]
      exact ⟨gC sz_220.2 a.1 (by show _ < ((16 : Nat) : Int); omega), rfl, rfl⟩
    · rw [if_neg b2, if_neg b2]
      exact ⟨rfl, rfl⟩
  · rw [decide_eq_false (by omega), if_pos (by decide), if_neg a]
    exact ⟨rfl, rfl⟩
/-- how many sounds go over from word a to word b -/
def over (L : Lw) (W : List (List Int)) (a b : List Int) : Int := if pkn L (gi b 0) = true then (if cnt (X0 L a) = 0 then 0 else dn (fun s => decide (kind L W (sub a (a.length - s) s) ≠ 0)) (min (Lz L 10) (csz (X0 L a) (cnt (X0 L a) - 1))).toNat) else 0
def overAt (L : Lw) (W S : List (List Int)) (k : Int) : Int := if 0 < k ∧ k < S.length then over L W (S.getD (k - 1).toNat []) (S.getD k.toNat []) else 0
theorem cOver {Q : Int → Mem → Prop} {k : Int} (h : ClsQ M p q L W S c) (hk : -1000 ≤ k ∧ k < 1000) (hQ : ∀ M' : Mem, FrC M M' → Q (overAt L W S k) M') : WI 105 [vR 14, vR p, vI k] M Q := by
  have hL := h.1.1
  obtain ⟨-, -, -, -, -, -, -, -, p140, p141⟩ := h.2.2.2.2
  have eq : (shA SH q).1 = 10 := by rw [h.2.2.1.1.2.1]
  have hq : WrC q 8 := Or.inr ⟨h.2.1, rfl⟩
  refine t_105 o1.2 ?_
  rw [p141, s136 h.2.2.1 (by omega), p141, s136 h.2.2.1 (by omega)]
  refine ⟨eq, eq, ?_⟩
  unfold overAt at hQ
  by_cases a : 0 < k ∧ k < S.length
  · rw [if_pos a] at hQ
    rw [if_pos (show 0 ≤ k - 1 ∧ k - 1 < (S.length : Int) by omega), if_pos (show 0 ≤ k ∧ k < (S.length : Int) by omega)]
    obtain ⟨ra, rsa, -⟩ := wrd_at hq h.2.2.1 (i := k - 1) (by omega) (by omega)
    obtain ⟨rb, rsb, -⟩ := wrd_at hq h.2.2.1 (i := k) (by omega) (by omega)
    generalize S.getD (k - 1).toNat [] = A at ra hQ
    generalize S.getD k.toNat [] = B at rb hQ
    have ra0 := ra.1.1
    have rb0 := rb.1.1
    have hA12 := ra.2.2.2.1
    refine ⟨by omega, ?_⟩
    rw [if_neg (by omega)]
    refine ⟨by omega, ?_⟩
    rw [if_neg (by omega)]
    have hb := gi_dg' rb.2.2.2.2.1 0
    have h0 : M p 0 = p + 1 := hL.2.1.1
    rw [s82 rb (by decide), h0, s94 hL (by omega)]
    refine ⟨hL.o.1, by rw [rb.1.2.1], hL.o.2.2, by have := b2i_r (pkn L (gi B 0)); omega, ?_⟩
    unfold over at hQ
    cases hp : pkn L (gi B 0)
    · rw [hp, if_neg (by decide)] at hQ
      rw [if_pos (by decide)]
      exact ⟨_, rfl, hQ M FrC.rf⟩
    rw [hp, if_pos rfl] at hQ
    rw [if_neg (by decide), p140]
    refine ⟨sh9, s11 h.1 ra (fun M1 g1 hX _ => ?_)⟩
    have e14 : M1 14 0 = 9 := by rw [g1.1 14 (by omega)]; exact p140
    have h9 : M1 9 9 = cnt (X0 L A) := hX.1.2.2.2.1.2.2.2.2.2.1
    have hH := hX.1.2.2.2.2.1
    have hc12 := hH.1
    have hc0 : 0 ≤ cnt (X0 L A) := Int.natCast_nonneg _
    rw [e14, h9]
    refine ⟨sh_cut.1, by omega, ?_⟩
    by_cases b : cnt (X0 L A) = 0
    · rw [if_pos b] at hQ ⊢
      exact ⟨_, rfl, hQ M1 g1⟩
    rw [if_neg b] at hQ ⊢
    have hr1 := csz_r hH hX.2.2 (k := cnt (X0 L A) - 1) (by omega) (by omega)
    have hr2 := cls_r hH hX.2.2 (k := cnt (X0 L A) - 1) (by omega) (by omega)
    have hr3 := beh_r hH (k := cnt (X0 L A) - 1) (by omega) (by omega)
    have hh := hen_r hH (k := cnt (X0 L A) - 1) (by omega) (by omega)
    have hz := hL.2.2.2.2.2.2.2.2.2.2.2.2.2.2.2.2.2
    have e17 : M1 p 17 = Lz L 10 := hX.1.1.2.2.2.2.1.2.2.2.2.2.2.2.2.2.2
    rw [s27 hX (by omega) (by omega), e17]
    refine ⟨hL.o.1, sh_cut.1, sh9, by omega, ?_⟩
    have hra := ra.no g1.1
    have hXn : Xn (X0 L A) = A.length := rfl
    have inner : ∀ m : Nat, (m : Int) ≤ csz (X0 L A) (cnt (X0 L A) - 1) → dn (fun s => decide (kind L W (sub A (A.length - s) s) ≠ 0)) m = dn (fun s => decide (kind L W (sub A (A.length - s) s) ≠ 0)) (min (Lz L 10) (csz (X0 L A) (cnt (X0 L A) - 1))).toNat → WR 105 94 [some (vR 14), some (vR p), some (vI k), some (vR (M (q + 2) (k - 1))), some (vR (M (q + 2) k)), some (vI m)] [] M1 (fun r M' => ∃ x, r = vI x ∧ Q x M') := by
      intro m
      induction m with
      | zero =>
        intro hm hd
        refine t_105_94 o1.2 ⟨by decide, ?_⟩
        rw [if_pos (by decide)]
        refine ⟨_, rfl, ?_⟩
        have := hQ M1 g1
        rw [← hd] at this
        exact this
      | succ m ihm =>
        intro hm hd
        have hsl := sub_len (l := A) (a := (A.length : Int) - ((m + 1 : Nat) : Int)) (n := ((m + 1 : Nat) : Int)) (by omega) (by omega) (by omega)
        have hkr := kind_r L W (sub A ((A.length : Int) - ((m + 1 : Nat) : Int)) ((m + 1 : Nat) : Int))
        refine t_105_94 o1.2 ⟨by omega, ?_⟩
        rw [if_neg (by omega), hra.2.2.1, s83 hra (by omega) (by omega) (by omega), s48 hX.1.1 hX.1.2.1 (sub_dg hra.2.2.2.2.1 _ _) (by omega)]
        refine ⟨⟨ra0, by rw [ra.1.2.1]⟩, by rw [ra.1.2.1], hL.o.1.2, by omega, ?_⟩
        have ed : dn (fun s => decide (kind L W (sub A (A.length - s) s) ≠ 0)) (m + 1) = if decide (kind L W (sub A ((A.length : Int) - ((m + 1 : Nat) : Int)) ((m + 1 : Nat) : Int)) ≠ 0) = true then (m : Int) + 1 else dn (fun s => decide (kind L W (sub A (A.length - s) s) ≠ 0)) m := rfl
        rw [ed] at hd
        by_cases e : kind L W (sub A ((A.length : Int) - ((m + 1 : Nat) : Int)) ((m + 1 : Nat) : Int)) = 0
        · rw [if_pos e]
          rw [if_neg (by rw [decide_eq_false (fun q => q e)]; decide)] at hd
          rw [show ((m + 1 : Nat) : Int) + (-1) = m by omega]
          exact ihm (by omega) hd
        · rw [if_neg e]
          rw [if_pos (decide_eq_true e)] at hd
          refine ⟨_, rfl, ?_⟩
          have := hQ M1 g1
          rw [← hd] at this
          exact this
    have e4 : min (Lz L 10) (csz (X0 L A) (cnt (X0 L A) - 1)) = ((min (Lz L 10) (csz (X0 L A) (cnt (X0 L A) - 1))).toNat : Int) := by omega
    rw [e4]
    exact inner _ (by omega) rfl
  · rw [if_neg a] at hQ
    have fin := hQ M FrC.rf
    by_cases b : 0 ≤ k - 1 ∧ k - 1 < S.length
    · obtain ⟨ra, -, -⟩ := wrd_at hq h.2.2.1 (i := k - 1) b.1 b.2
      have ra0 := ra.1.1
      rw [if_pos b, if_neg (show ¬ (0 ≤ k ∧ k < (S.length : Int)) by omega)]
      refine ⟨by omega, ?_⟩
      rw [if_neg (by omega)]
      refine ⟨by decide, ?_⟩
      rw [if_pos rfl]
      exact ⟨_, rfl, fin⟩
    · rw [if_neg b]
      refine ⟨by decide, ?_⟩
      rw [if_pos rfl]
      exact ⟨_, rfl, fin⟩
end SO
