/-! say by the class: the whole of it -/
section SZ
variable {M M' : Mem} {p p' q q' ft fp ft' fp' : Int} {T T' : List Int} {t : Tk} {L : Lw} {W S : List (List Int)} {c : Int → Int} {E : List En}
def sayA (L : Lw) (T : List Int) : Rs (List (List Int)) := if (nxt T 0).1 = 0 then .error (2, (nxt T 0).2.1) else sayR L T 900 (nxt T 0) []
theorem st64 {Q : Int → Mem → Prop} {x : Nat} {e : Int × Int} (hx : x ≤ 900) (R : RdS M p) (he : 1 ≤ e.1 ∧ e.1 ≤ 5) (ht : TpR M T t e.1 e.2) (hQ : Q 0 M) : WR 64 35 [some (vR 4), some (vR q), some (vR p), some (vI x)] [] M (fun r M' => ∃ i, r = vI i ∧ Q i M') := by
  have sh2 : (shA SH 2).1 = 9 := o2.1.2
  have f5 : M 2 5 = e.1 := ht.1.2.2.2.2.2.1
  refine t_64_35 o4 ⟨by omega, ?_⟩
  rw [R.1, f5]
  by_cases q9 : 900 ≤ (x : Int)
  · rw [if_pos q9]
    refine ⟨o2.1, by omega, ?_⟩
    rw [if_neg (by omega)]
    exact ⟨_, rfl, hQ⟩
  · rw [if_neg q9]
    refine ⟨sh2, ?_⟩
    rw [s127 ht (by omega), decide_eq_false (fun z => by have := z.1; omega)]
    refine ⟨by decide, ?_⟩
    rw [if_pos (by decide), R.1, f5]
    refine ⟨o2.1, by omega, ?_⟩
    rw [if_neg (by omega)]
    exact ⟨_, rfl, hQ⟩
theorem s64 {Q : Int → Mem → Prop} (hp : 96 ≤ p) (hq : q = 15 ∨ q = 34) (hR : RdP M) (hL : LawIs M p L) (hs : M q 0 = q + 2 ∧ RPt M (q + 2) 8 (q + 3) (q + 1 + 2 * 8)) (hz : shA SH q = (10, 3) ∧ shA SH (q + 2) = (24, 8)) (hT : TapC M T ft fp) (hQ : ∀ (M' : Mem) (y : Int), FrS q (upM M 4 4 p) M' → ResS M' q L T (sayA L T) y → Q y M') : WI 64 [vR 4, vR q, vR p] M Q := by
  have hq15 : 15 ≤ q ∧ q + 18 < 96 := by omega
  have sh2 : (shA SH 2).1 = 9 := o2.1.2
  have o0 : ∀ k : Int, k ≠ 4 → upM M 4 4 p k = M k := fun k a => upM_o a
  have R0 : RdS (upM M 4 4 p) p := by
    obtain ⟨a, b, x, d, e⟩ := hR
    exact ⟨by rw [upM_f (by decide)]; exact a, by rw [upM_f (by decide)]; exact b, upM_s, by rw [o0 5 (by decide)]; exact e⟩
  have L0' : LawIs (upM M 4 4 p) p L := hL.eq (fun k a _ => o0 k (by omega))
  have s0 : upM M 4 4 p q 0 = q + 2 ∧ RPt (upM M 4 4 p) (q + 2) 8 (q + 3) (q + 1 + 2 * 8) := ⟨by rw [o0 q (by omega)]; exact hs.1, hs.2.fr' (o0 _ (by omega)) (fun r a b => o0 r (by omega))⟩
  have T0 : TapC (upM M 4 4 p) T ft fp := hT.fr (o0 2 (by decide)) (o0 3 (by decide))
  refine t_64 o4 ⟨by omega, by rw [hz.1], t_135 ⟨by omega, by rw [hz.1]⟩ ?_⟩
  dsimp only
  generalize upM M 4 4 p = M0 at *
  have o1' : ∀ k : Int, k ≠ q → upM M0 q 2 0 k = M0 k := fun k a => upM_o a
  have f1 : FrS q M0 (upM M0 q 2 0) := ⟨fun k _ _ _ a => o1' k (by omega), fun j _ => by rw [o1' 2 (by omega)], by rw [o1' 5 (by omega)], fun j a => upM_f a, fun z => z.fr' (o1' _ (by omega)) (fun r a b => o1' r (by omega))⟩
  have W1 : WrdP (upM M0 q 2 0) q 8 L [] := ⟨⟨⟨by omega, hz⟩, by rw [upM_f (by decide)]; exact s0.1, upM_s, by decide, by decide, fun i hi => absurd hi (Nat.not_lt_zero _)⟩, f1.2.2.2.2 s0.2⟩
  have T1 : TapC (upM M0 q 2 0) T ft fp := T0.fr (o1' 2 (by omega)) (o1' 3 (by omega))
  have L1 : LawIs (upM M0 q 2 0) p L := L0'.eq (fun k a _ => o1' k (by omega))
  generalize upM M0 q 2 0 = M1 at *
  have R1 := R0.fr hq15.1 f1
  rw [R1.1]
  refine ⟨sh2, s124 T1 (fun M2 f2 h2 => ?_)⟩
  have R2 := R1.fr hq15.1 (f2.r.s hq15.1)
  have F2 := f1.tr (f2.r.s hq15.1)
  have k4 := h2.2.2.2.2.2.2.1
  unfold sayA at hQ
  rw [R2.1, h2.2.1.1]
  refine ⟨o2.1, by omega, ?_⟩
  by_cases q0 : (nxt T 0).1 = 0
  · rw [if_pos q0]
    rw [if_pos q0] at hQ
    refine ⟨sh2, s126 h2 (by decide) (fun M3 f3 h3 => ?_)⟩
    have ew : wrg (nxt T 0) = 2 := by unfold wrg; rw [if_neg (by omega)]
    rw [if_pos rfl, if_pos rfl, ew] at h3
    exact st64 (x := 0) (e := (2, ((nxt T 0).2.1 : Int))) (by decide) (R2.fr hq15.1 (f3.r.s hq15.1)) ⟨(show (1 : Int) ≤ 2 by decide), (show (2 : Int) ≤ 5 by decide)⟩ h3 (hQ M3 0 (F2.tr (f3.r.s hq15.1)) ⟨rfl, ⟨(show (1 : Int) ≤ 2 by decide), (show (2 : Int) ≤ 5 by decide)⟩, h3.1⟩)
  · rw [if_neg q0]
    rw [if_neg q0] at hQ
    exact s64l hp hq 900 0 (by decide) (nxt T 0) [] M2 R2 F2 (L1.frR f2.r) h2 (W1.kp (fun k a b => f2.1 k (by omega))) hQ
end SZ
