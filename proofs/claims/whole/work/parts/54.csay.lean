/-! say by the class -/
section SY
variable {M M' : Mem} {ft fp p q : Int} {T : List Int} {t : Tk} {L : Lw} {S : List (List Int)}
/-- the words that are said -/
def sayR (L : Lw) (T : List Int) : Nat → Tk → List (List Int) → Rs (List (List Int))
  | 0, _, S => .ok S
  | n + 1, t, S => if t.1 = 0 then .ok S else if rEr L T t 0 1 12 ≠ 0 then .error (rEr L T t 0 1 12, t.2.1) else if 8 ≤ S.length then .error (5, t.2.1) else sayR L T n (nx T t) (S ++ [cds L T t])
def FrS (q : Int) (M M' : Mem) : Prop := (∀ k : Int, k ≠ 2 → k ≠ 5 → k ≠ 6 → ¬ (q ≤ k ∧ k ≤ q + 18) → M' k = M k) ∧ (∀ j : Int, j < 2 → M' 2 j = M 2 j) ∧ M' 5 0 = M 5 0 ∧ (∀ j : Int, j ≠ 2 → M' q j = M q j) ∧ (RPt M (q + 2) 8 (q + 3) (q + 1 + 2 * 8) → RPt M' (q + 2) 8 (q + 3) (q + 1 + 2 * 8))
theorem FrS.tr {M1 M2 : Mem} (h : FrS q M M1) (f : FrS q M1 M2) : FrS q M M2 := ⟨fun k a b c d => (f.1 k a b c d).trans (h.1 k a b c d), fun j a => (f.2.1 j a).trans (h.2.1 j a), f.2.2.1.trans h.2.2.1, fun j a => (f.2.2.2.1 j a).trans (h.2.2.2.1 j a), fun z => f.2.2.2.2 (h.2.2.2.2 z)⟩
theorem FrR.s (hq : 15 ≤ q) (f : FrR M M') : FrS q M M' := ⟨fun k a b c _ => f.1 k a b c, f.2.1, f.2.2, fun j _ => by rw [f.1 q (by omega) (by omega) (by omega)], fun z => z.fr' (f.1 _ (by omega) (by omega) (by omega)) (fun r a b => f.1 r (by omega) (by omega) (by omega))⟩
def ResS (M : Mem) (q : Int) (L : Lw) (T : List Int) : Rs (List (List Int)) → Int → Prop
  | .error e, y => y = 0 ∧ (1 ≤ e.1 ∧ e.1 ≤ 5) ∧ TapC M T e.1 e.2
  | .ok S, y => y = 1 ∧ TapC M T 0 (-1) ∧ WrdP M q 8 L S
def RdS (M : Mem) (p : Int) : Prop := M 4 0 = 2 ∧ M 4 1 = 5 ∧ M 4 4 = p ∧ M 5 0 = 6
theorem RdS.fr (h : RdS M p) (hq : 15 ≤ q) (f : FrS q M M') : RdS M' p := by
  unfold RdS at h ⊢
  rw [f.1 4 (by decide) (by decide) (by decide) (by omega), f.2.2.1]
  exact h
theorem s64l {Q : Int → Mem → Prop} (hp : 96 ≤ p) (hq : q = 15 ∨ q = 34) : ∀ (n x : Nat), x + n = 900 → ∀ (t : Tk) (S : List (List Int)) (N : Mem), RdS N p → FrS q M N → LawIs N p L → TpR N T t 0 (-1) → WrdP N q 8 L S → (∀ (M' : Mem) (y : Int), FrS q M M' → ResS M' q L T (sayR L T n t S) y → Q y M') → WR 64 35 [some (vR 4), some (vR q), some (vR p), some (vI x)] [] N (fun r M' => ∃ i, r = vI i ∧ Q i M') := by
  have hq15 : 15 ≤ q ∧ q + 18 < 96 := by omega
  have sh2 : (shA SH 2).1 = 9 := o2.1.2
  -- behind a fault
  have stop : ∀ (x : Nat) (e : Int × Int) (t : Tk) (N : Mem), x ≤ 900 → RdS N p → FrS q M N → (1 ≤ e.1 ∧ e.1 ≤ 5) → TpR N T t e.1 e.2 → (∀ (M' : Mem) (y : Int), FrS q M M' → ResS M' q L T (.error e) y → Q y M') → WR 64 35 [some (vR 4), some (vR q), some (vR p), some (vI x)] [] N (fun r M' => ∃ i, r = vI i ∧ Q i M') := fun x e t N hx R f he ht hQ => by
    have done : ∃ i, vI 0 = vI i ∧ Q i N := ⟨_, rfl, hQ N 0 f ⟨rfl, he, ht.1⟩⟩
    have f5 : N 2 5 = e.1 := ht.1.2.2.2.2.2.1
    refine t_64_35 o4 ⟨by omega, ?_⟩
    rw [R.1, f5]
    by_cases q9 : 900 ≤ (x : Int)
    · rw [if_pos q9]
      refine ⟨o2.1, by omega, ?_⟩
      rw [if_neg (by omega)]
      exact done
    · rw [if_neg q9]
      refine ⟨sh2, ?_⟩
      rw [s127 ht (by omega), decide_eq_false (fun z => by have := z.1; omega)]
      refine ⟨by decide, ?_⟩
      rw [if_pos (by decide), R.1, f5]
      refine ⟨o2.1, by omega, ?_⟩
      rw [if_neg (by omega)]
      exact done
  intro n
  induction n with
  | zero =>
    intro x hx t S N R f hL ht hW hQ
    refine t_64_35 o4 ⟨by omega, ?_⟩
    rw [if_pos (by omega), R.1, ht.1.2.2.2.2.2.1]
    refine ⟨o2.1, by decide, ?_⟩
    rw [if_pos rfl]
    exact ⟨_, rfl, hQ N 1 f ⟨rfl, ht.1, hW⟩⟩
  | succ n ih =>
    intro x hx t S N R f hL ht hW hQ
    refine t_64_35 o4 ⟨by omega, ?_⟩
    rw [if_neg (by omega), R.1]
    refine ⟨sh2, ?_⟩
    rw [s127 ht (by decide)]
    refine ⟨by have := b2i_r (decide ((0 : Int) = 0 ∧ t.1 ≠ 0)); omega, ?_⟩
    unfold sayR at hQ
    by_cases q0 : t.1 = 0
    · rw [decide_eq_false (fun z => z.2 q0), if_pos (by decide), R.1, ht.1.2.2.2.2.2.1]
      rw [if_pos q0] at hQ
      refine ⟨o2.1, by decide, ?_⟩
      rw [if_pos rfl]
      exact ⟨_, rfl, hQ N 1 f ⟨rfl, ht.1, hW⟩⟩
    rw [decide_eq_true ⟨rfl, q0⟩, if_neg (by decide)]
    rw [if_neg q0] at hQ
    have rr := @rEr_r T t L 0 1 12
    refine s75 (lo := 1) (hi := 12) ht ⟨R.1, R.2.1, R.2.2.1⟩ R.2.2.2 hL (by decide) (by decide) (fun M1 f1 => ?_)
    have R1 := R.fr hq15.1 (f1.s hq15.1)
    by_cases q1 : rEr L T t 0 1 12 = 0
    rotate_left
    · rw [if_neg q1]
      rw [if_pos q1] at hQ
      intro h1
      refine ⟨by decide, ?_⟩
      rw [if_pos rfl]
      exact stop (x + 1) (rEr L T t 0 1 12, (t.2.1 : Int)) t M1 (by omega) R1 (f.tr (f1.s hq15.1)) ⟨(show 1 ≤ rEr L T t 0 1 12 by omega), rr.2⟩ h1 hQ
    rw [if_pos q1]
    rw [if_neg (fun z => z q1)] at hQ
    intro ⟨h1, k1⟩
    have hW1 : WrdP M1 q 8 L S := hW.kp (fun k a b => f1.1 k (by omega) (by omega) (by omega))
    have hL1 := hL.frR f1
    refine ⟨by decide, ?_⟩
    rw [if_neg (by decide), R1.2.1]
    refine ⟨by rw [hW1.1.1.2.1], s137 hW1 k1 (Or.inl (by omega)) (fun M2 f2 => ?_)⟩
    by_cases q2 : S.length < 8
    · rw [if_pos q2]
      rw [if_neg (by omega)] at hQ
      intro hW2
      have f2' : FrS q M1 M2 := ⟨fun k a b c d => f2.1 k (by omega) (by omega), fun j _ => by rw [f2.1 2 (by omega) (by omega)], by rw [f2.1 5 (by omega) (by omega)], f2.2, fun _ => hW2.2⟩
      have R2 := R1.fr hq15.1 f2'
      refine ⟨by decide, ?_⟩
      rw [if_neg (by decide), R2.1]
      refine ⟨sh2, s128n (h1.fr (f2.1 2 (by omega) (by omega)) (f2.1 3 (by omega) (by omega))) (fun M3 f3 h3 => ?_)⟩
      exact ih (x + 1) (by omega) (nx T t) (S ++ [cds L T t]) M3 (R2.fr hq15.1 (f3.r.s hq15.1)) (f.tr ((f1.s hq15.1).tr (f2'.tr (f3.r.s hq15.1)))) ((hL1.eq (fun k a b => f2.1 k (by omega) (by omega))).frR f3.r) h3 (hW2.kp (fun k a b => f3.1 k (by omega))) hQ
    · rw [if_neg q2]
      rw [if_pos (by omega)] at hQ
      intro e
      subst e
      refine ⟨by decide, ?_⟩
      rw [if_pos rfl, R1.1]
      refine ⟨sh2, s125 h1 (by decide) (fun M3 f3 h3 => ?_)⟩
      rw [if_pos rfl, if_pos rfl] at h3
      have R3 := R1.fr hq15.1 (f3.r.s hq15.1)
      rw [R3.1]
      refine ⟨sh2, s128n h3 (fun M4 f4 h4 => ?_)⟩
      exact stop (x + 1) (5, (t.2.1 : Int)) _ M4 (by omega) (R3.fr hq15.1 (f4.r.s hq15.1)) (f.tr ((f1.s hq15.1).tr ((f3.tr f4).r.s hq15.1))) ⟨(show (1 : Int) ≤ 5 by decide), (show (5 : Int) ≤ 5 by decide)⟩ h4 hQ
end SY
