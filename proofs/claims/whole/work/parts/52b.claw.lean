/-! the class reads a law -/
section CLL
variable {M M' : Mem} {ft fp p : Int} {T : List Int} {t : Tk} {L : Lw} {g : Gs}
def ResC (M : Mem) (p : Int) (T : List Int) : Rs Gs → Int → Prop
  | .error e, y => y = 0 ∧ (1 ≤ e.1 ∧ e.1 ≤ 5) ∧ TapC M T e.1 e.2
  | .ok g, y => y = 1 ∧ TapC M T 0 (-1) ∧ TbC M p g ∧ GsOk g
theorem FrE.up8 {j v : Int} (hp : 96 ≤ p) : FrE p M (upM M 8 j v) := by
  have o : ∀ k : Int, k ≠ 8 → upM M 8 j v k = M k := fun k a => upM_o a
  exact ⟨fun k _ _ _ _ a _ => o k a, fun j _ => by rw [o 2 (by decide)], by rw [o 5 (by decide)], fun j _ => by rw [o p (by omega)], fun j _ => by rw [o (p + 1) (by omega)], fun j _ => by rw [o (p + 8) (by omega)], fun z => z.fr' (o _ (by omega)) (fun r a b => o r (by omega))⟩
theorem s63l {Q : Int → Mem → Prop} (hp : p = 96 ∨ p = 150) : ∀ (n x : Nat), x + n = 900 → ∀ (t : Tk) (g : Gs) (N : Mem), RdC N p → FrE p M N → StC N p T (-1) (.ok (t, g)) → CtC N g x → (∀ (M' : Mem) (y : Int), FrE p M M' → ResC M' p T (lawR T n t g) y → Q y M') → WR 63 69 [some (vR 4), some (vR p), some (vI x)] [] N (fun r M' => ∃ i, r = vI i ∧ Q i M') := by
  have hp' : 96 ≤ p := by rcases hp with rfl | rfl <;> decide
  have sh2 : (shA SH 2).1 = 9 := o2.1.2
  intro n
  induction n with
  | zero =>
    intro x hx t g N hR f hS hc hQ
    obtain ⟨ht, hb, hf, hg⟩ : TpR N T t 0 (-1) ∧ TbC N p g ∧ Fl N g ∧ GsOk g := hS
    refine t_63_69 o4 ⟨by omega, ?_⟩
    rw [if_pos (by omega), hR.1, ht.1.2.2.2.2.2.1]
    refine ⟨o2.1, by decide, ?_⟩
    rw [if_pos rfl]
    exact ⟨_, rfl, hQ N 1 f ⟨rfl, ht.1, hb, hg⟩⟩
  | succ n ih =>
    intro x hx t g N hR f hS hc hQ
    obtain ⟨ht, hb, hf, hg⟩ : TpR N T t 0 (-1) ∧ TbC N p g ∧ Fl N g ∧ GsOk g := hS
    refine t_63_69 o4 ⟨by omega, ?_⟩
    rw [if_neg (by omega), hR.1]
    refine ⟨sh2, ?_⟩
    rw [s127 ht (by decide)]
    refine ⟨by have := b2i_r (decide ((0 : Int) = 0 ∧ t.1 ≠ 0)); omega, ?_⟩
    unfold lawR at hQ
    by_cases q : t.1 = 0
    · rw [decide_eq_false (fun z => z.2 q), if_pos (by decide), hR.1, ht.1.2.2.2.2.2.1]
      rw [if_pos q] at hQ
      refine ⟨o2.1, by decide, ?_⟩
      rw [if_pos rfl]
      exact ⟨_, rfl, hQ N 1 f ⟨rfl, ht.1, hb, hg⟩⟩
    rw [decide_eq_true ⟨rfl, q⟩, if_neg (by decide)]
    rw [if_neg q] at hQ
    refine s65 hp (show StC N p T (-1) (.ok (t, g)) from ⟨ht, hb, hf, hg⟩) hR hc (by omega) (fun M1 f1 h1 c1 => ?_)
    have R1 := hR.fe hp' f1
    generalize dirR T t g = r at *
    cases r with
    | ok y => exact ih (x + 1) (by omega) y.1 y.2 M1 R1 (f.tr f1) h1 (c1 y rfl) hQ
    | error e =>
      obtain ⟨he, t', ht'⟩ : (1 ≤ e.1 ∧ e.1 ≤ 5) ∧ ∃ t, TpR M1 T t e.1 e.2 := h1
      have done : ∃ i, vI 0 = vI i ∧ Q i M1 := ⟨_, rfl, hQ M1 0 (f.tr f1) ⟨rfl, he, ht'.1⟩⟩
      have f5 : M1 2 5 = e.1 := ht'.1.2.2.2.2.2.1
      refine t_63_69 o4 ⟨by omega, ?_⟩
      rw [R1.1, f5]
      by_cases q9 : 900 ≤ (x : Int) + 1
      · rw [if_pos q9]
        refine ⟨o2.1, by omega, ?_⟩
        rw [if_neg (by omega)]
        exact done
      · rw [if_neg q9]
        refine ⟨sh2, ?_⟩
        rw [s127 ht' (by omega), decide_eq_false (fun z => by have := z.1; omega)]
        refine ⟨by decide, ?_⟩
        rw [if_pos (by decide), R1.1, f5]
        refine ⟨o2.1, by omega, ?_⟩
        rw [if_neg (by omega)]
        exact done
theorem s63 {Q : Int → Mem → Prop} (hp : p = 96 ∨ p = 150) (hR : RdP M) (h : SpL M p) (hT : TapC M T ft fp) (hQ : ∀ (M' : Mem) (y : Int), FrE p (upM M 4 4 p) M' → ResC M' p T (lawR T 900 (nxt T 0) G0) y → Q y M') : WI 63 [vR 4, vR p] M Q := by
  have hp' : 96 ≤ p := by rcases hp with rfl | rfl <;> decide
  have sh2 : (shA SH 2).1 = 9 := o2.1.2
  have sh := shL hp
  have z7 : shA SH 7 = (20, 11) := by decide +kernel
  have o0 : ∀ k : Int, k ≠ 4 → upM M 4 4 p k = M k := fun k a => upM_o a
  have R0 : RdC (upM M 4 4 p) p := by
    obtain ⟨a, b, c, d, e⟩ := hR
    exact ⟨by rw [upM_f (by decide)]; exact a, by rw [upM_f (by decide)]; exact b, by rw [upM_f (by decide)]; exact c, by rw [upM_f (by decide)]; exact d, upM_s, by rw [o0 5 (by decide)]; exact e⟩
  have S0 : SpL (upM M 4 4 p) p := ⟨h.1.fr' (o0 _ (by omega)) (o0 _ (by omega)) (o0 _ (by omega)), h.2.fr' (o0 _ (by omega)) (fun r a b => o0 r (by omega))⟩
  have T0 : TapC (upM M 4 4 p) T ft fp := hT.fr (o0 2 (by decide)) (o0 3 (by decide))
  refine t_63 o4 ⟨by omega, ?_⟩
  rw [show upM M 4 4 p 4 4 = p from upM_s]
  generalize upM M 4 4 p = M0 at *
  refine ⟨by rw [sh.2.1], s40 hp S0 (fun M1 f1 g1 b1 => ?_)⟩
  have R1 := R0.fr hp' f1
  have T1 : TapC M1 T ft fp := T0.fr (g1 2 (by omega)) (g1 3 (by omega))
  have l3 : ∀ N : Mem, RdC N p → FrE p M0 N → TapC N T ft fp → TbC N p G0 → (∀ i : Int, 0 ≤ i → i < 11 → N 7 i = 0) → (∀ i : Int, 0 ≤ i → i < 6 → N 8 i = 0) → (shA SH (N 4 0)).1 = 9 ∧ WV 124 [vR (N 4 0)] N (fun M3 => WR 63 69 [some (vR 4), some (vR p), some (vI 0)] [] M3 (fun r M' => ∃ i, r = vI i ∧ Q i M')) := fun N RN f TN bN c7 c8 => by
    rw [RN.1]
    refine ⟨sh2, s124 TN (fun M2 f2 h2 => ?_)⟩
    have e7 : M2 7 = N 7 := f2.1 7 (by decide)
    refine s63l hp 900 0 (by decide) (nxt T 0) G0 M2 (RN.fr hp' (f2.d hp')) (f.tr (f2.d hp').e) ⟨h2, bN.eq (fun k a _ => f2.1 k (by omega)), fun i a b => by rw [f2.1 8 (by decide), c8 i a b]; rfl, gok_0⟩ ?_ hQ
    unfold CtC
    rw [e7]
    exact ⟨c7 0 (by decide) (by decide), c7 1 (by decide) (by decide), c7 2 (by decide) (by decide), c7 3 (by decide) (by decide), by rw [c7 4 (by decide) (by decide)]; exact ⟨Int.le_refl 0, Int.le_refl 0⟩, fun d a b => by rw [c7 d (by omega) (by omega)]; rfl⟩
  have l2 : ∀ (n : Nat) (x : Int), x + n = 6 → 0 ≤ x → ∀ N : Mem, RdC N p → FrE p M0 N → TapC N T ft fp → TbC N p G0 → (∀ i : Int, 0 ≤ i → i < 11 → N 7 i = 0) → (∀ i : Int, 0 ≤ i → i < x → N 8 i = 0) → WR 63 38 [some (vR 4), some (vR p), some (vI x)] [] N (fun r M' => ∃ i, r = vI i ∧ Q i M') := by
    intro n
    induction n with
    | zero =>
      intro x hx x0 N RN f TN bN c7 c8
      refine t_63_38 o4 ?_
      rw [RN.2.2.2.1, a8]
      refine ⟨⟨by decide, by decide, by decide, by decide⟩, by omega, by decide, ?_⟩
      rw [if_pos (by show ((6 : Nat) : Int) ≤ x; omega)]
      exact l3 N RN f TN bN c7 (fun i a b => c8 i a (by omega))
    | succ n ih =>
      intro x hx x0 N RN f TN bN c7 c8
      refine t_63_38 o4 ?_
      rw [RN.2.2.2.1, a8]
      refine ⟨⟨by decide, by decide, by decide, by decide⟩, by omega, by decide, ?_⟩
      have o : ∀ k : Int, k ≠ 8 → upM N 8 x 0 k = N k := fun k a => upM_o a
      have fu : FrE p N (upM N 8 x 0) := FrE.up8 hp'
      rw [if_neg (by show ¬ ((6 : Nat) : Int) ≤ x; omega)]
      refine ⟨Or.inr ⟨by rw [a8], x0, by rw [a8]; show x < ((6 : Nat) : Int); omega⟩, ih (x + 1) (by omega) (by omega) _ (RN.fe hp' fu) (f.tr fu) (TN.fr (o 2 (by decide)) (o 3 (by decide))) (bN.eq (fun k a _ => o k (by omega))) (fun i a b => by rw [o 7 (by decide)]; exact c7 i a b) (fun i a b => ?_)⟩
      by_cases q : i = x
      · rw [q, upM_s]
      · rw [upM_f q]
        exact c8 i a (by omega)
  have l1 : ∀ (n : Nat) (x : Int), x + n = 11 → 0 ≤ x → ∀ N : Mem, RdC N p → FrE p M0 N → TapC N T ft fp → TbC N p G0 → (∀ i : Int, 0 ≤ i → i < x → N 7 i = 0) → WR 63 14 [some (vR 4), some (vR p), some (vI x)] [] N (fun r M' => ∃ i, r = vI i ∧ Q i M') := by
    intro n
    induction n with
    | zero =>
      intro x hx x0 N RN f TN bN c7
      refine t_63_14 o4 ?_
      rw [RN.2.2.1, z7]
      refine ⟨⟨by decide, by decide, by decide, by decide⟩, by omega, by decide, ?_⟩
      rw [if_pos (by show ((11 : Nat) : Int) ≤ x; omega)]
      exact l2 6 0 (by decide) (by decide) N RN f TN bN (fun i a b => c7 i a (by omega)) (fun i a b => absurd a (by omega))
    | succ n ih =>
      intro x hx x0 N RN f TN bN c7
      refine t_63_14 o4 ?_
      rw [RN.2.2.1, z7]
      refine ⟨⟨by decide, by decide, by decide, by decide⟩, by omega, by decide, ?_⟩
      have o : ∀ k : Int, k ≠ 7 → upM N 7 x 0 k = N k := fun k a => upM_o a
      have fu : FrE p N (upM N 7 x 0) := FrE.up hp'
      rw [if_neg (by show ¬ ((11 : Nat) : Int) ≤ x; omega)]
      refine ⟨gC z7 x0 (by show x < ((11 : Nat) : Int); omega), ih (x + 1) (by omega) (by omega) _ (RN.fe hp' fu) (f.tr fu) (TN.fr (o 2 (by decide)) (o 3 (by decide))) (bN.eq (fun k a _ => o k (by omega))) (fun i a b => ?_)⟩
      by_cases q : i = x
      · rw [q, upM_s]
      · rw [upM_f q]
        exact c7 i a (by omega)
  exact l1 11 0 (by decide) (by decide) M1 R1 f1.e T1 b1 (fun i a b => absurd a (by omega))
end CLL
