/-! one directive by the class: the whole of it -/
section CE
variable {M M' : Mem} {fp p : Int} {T : List Int} {t : Tk} {L : Lw} {g : Gs} {r : Rs (Tk × Gs)}
def FrE (p : Int) (M M' : Mem) : Prop := (∀ k : Int, k ≠ 2 → k ≠ 5 → k ≠ 6 → k ≠ 7 → k ≠ 8 → ¬ (p ≤ k ∧ k ≤ p + 53) → M' k = M k) ∧ (∀ j : Int, j < 2 → M' 2 j = M 2 j) ∧ M' 5 0 = M 5 0 ∧ (∀ j : Int, j < 5 → M' p j = M p j) ∧ (∀ j : Int, j < 6 → M' (p + 1) j = M (p + 1) j) ∧ (∀ j : Int, j ≠ 2 → M' (p + 8) j = M (p + 8) j) ∧ (RPt M (p + 8 + 2) 20 (p + 8 + 3) (p + 8 + 1 + 2 * 20) → RPt M' (p + 8 + 2) 20 (p + 8 + 3) (p + 8 + 1 + 2 * 20))
theorem FrE.rf : FrE p M M := ⟨fun _ _ _ _ _ _ _ => rfl, fun _ _ => rfl, rfl, fun _ _ => rfl, fun _ _ => rfl, fun _ _ => rfl, id⟩
theorem FrE.tr {M1 M2 : Mem} (h : FrE p M M1) (f : FrE p M1 M2) : FrE p M M2 := ⟨fun k a b c d e x => (f.1 k a b c d e x).trans (h.1 k a b c d e x), fun j a => (f.2.1 j a).trans (h.2.1 j a), f.2.2.1.trans h.2.2.1, fun j a => (f.2.2.2.1 j a).trans (h.2.2.2.1 j a), fun j a => (f.2.2.2.2.1 j a).trans (h.2.2.2.2.1 j a), fun j a => (f.2.2.2.2.2.1 j a).trans (h.2.2.2.2.2.1 j a), fun z => f.2.2.2.2.2.2 (h.2.2.2.2.2.2 z)⟩
theorem FrD.e (h : FrD p M M') : FrE p M M' := ⟨fun k a b c _ d x => h.1 k a b c d x, h.2⟩
theorem FrE.up {j v : Int} (hp : 96 ≤ p) : FrE p M (upM M 7 j v) := by
  have o : ∀ k : Int, k ≠ 7 → upM M 7 j v k = M k := fun k a => upM_o a
  exact ⟨fun k _ _ _ a _ _ => o k a, fun j _ => by rw [o 2 (by decide)], by rw [o 5 (by decide)], fun j _ => by rw [o p (by omega)], fun j _ => by rw [o (p + 1) (by omega)], fun j _ => by rw [o (p + 8) (by omega)], fun z => z.fr' (o _ (by omega)) (fun r a b => o r (by omega))⟩
theorem RdC.fe (hp : 96 ≤ p) (h : RdC M p) (f : FrE p M M') : RdC M' p := by
  unfold RdC at h ⊢
  rw [f.1 4 (by decide) (by decide) (by decide) (by decide) (by decide) (by omega), f.2.2.1]
  exact h
theorem s77s {Q : Mem → Prop} (hp : 96 ≤ p) (hS : StC M p T fp r) (hR : RdC M p) (hQ : ∀ M' : Mem, FrD p M M' → StC M' p T fp (fin T r) → Q M') : WV 77 [vR 4] M Q := by
  cases r with
  | error e =>
    obtain ⟨he, t, ht⟩ := hS
    refine s77 ht hR.1 (by omega) (fun M1 t1 ft1 fp1 f1 h1 ha _ => hQ M1 (f1.d hp) ⟨he, t1, ?_⟩)
    obtain ⟨x1, x2⟩ := ha.1 (by omega)
    rw [x1, x2] at h1
    exact h1
  | ok x =>
    obtain ⟨t, g⟩ := x
    obtain ⟨ht, hb, hf, hg⟩ : TpR M T t 0 fp ∧ TbC M p g ∧ Fl M g ∧ GsOk g := hS
    have er := @eEr_r t
    refine s77 ht hR.1 (by decide) (fun M1 t1 ft1 fp1 f1 h1 ha hv => hQ M1 (f1.d hp) ?_)
    obtain ⟨x1, x2⟩ := ha.2 rfl
    show StC M1 p T fp (if eEr t ≠ 0 then .error (eEr t, t.2.1) else .ok (nx T t, g))
    by_cases q : eEr t = 0
    · rw [if_neg (fun z => z q)]
      rw [x1, x2, if_pos q, q, hv q] at h1
      exact ⟨h1, hb.eq (fun k a _ => f1.1 k (by omega)), fun i a b => by rw [f1.1 8 (by decide)]; exact hf i a b, hg⟩
    · rw [if_pos q]
      rw [x1, x2, if_neg q] at h1
      exact ⟨⟨(show 1 ≤ eEr t by omega), er.2⟩, t1, h1⟩
theorem s68a {Q : Mem → Prop} {d : Int} (hp : p = 96 ∨ p = 150) (hS : StC M p T fp (.ok (t, g))) (hR : RdC M p) (hd : (0 ≤ d ∧ d ≤ 3) ∨ d = 9) (hf : d ≤ 3 → full g d = false) (hQ : ∀ M' : Mem, FrD p M M' → StC M' p T fp (body T d t g) → Q M') : WV 68 [vR 4, vI d] M Q := by
  by_cases q0 : d = 0
  · subst q0
    have := of_decide_eq_false (hf (by decide))
    refine t_68 o4 ⟨by decide, ?_⟩
    rw [if_pos rfl]
    exact s70 hp hS hR (by omega) hQ
  by_cases q1 : d = 1
  · subst q1
    have := of_decide_eq_false (hf (by decide))
    refine t_68 o4 ⟨by decide, ?_⟩
    rw [if_neg (by decide), if_pos rfl]
    exact s71 hp hS hR (by omega) hQ
  by_cases q2 : d = 2
  · subst q2
    have := of_decide_eq_false (hf (by decide))
    refine t_68 o4 ⟨by decide, ?_⟩
    rw [if_neg (by decide), if_neg (by decide), if_pos rfl]
    exact s72 hp hS hR (by omega) hQ
  refine s68 hp hS hR (by omega) (fun q3 => ?_) hQ
  subst q3
  have := of_decide_eq_false (hf (by decide))
  omega
theorem s69a {Q : Mem → Prop} {d : Int} (hp : p = 96 ∨ p = 150) (hS : StC M p T fp (.ok (t, g))) (hR : RdC M p) (hd : 4 ≤ d ∧ d ≤ 10 ∧ d ≠ 9) (hm : d = 8 → g.2.2.2.1 3 = true) (hQ : ∀ M' : Mem, FrD p M M' → StC M' p T fp (body T d t g) → Q M') : WV 69 [vR 4, vI d] M Q := by
  by_cases q4 : d = 4
  · subst q4
    refine t_69 o4 ⟨by decide, ?_⟩
    rw [if_pos rfl]
    exact s73 hp hS hR hQ
  exact s69 hp hS hR (by omega) hm hQ
theorem s65 {Q : Mem → Prop} {x : Int} (hp : p = 96 ∨ p = 150) (hS : StC M p T fp (.ok (t, g))) (hR : RdC M p) (hc : CtC M g x) (hx : x < 900) (hQ : ∀ M' : Mem, FrE p M M' → StC M' p T fp (dirR T t g) → (∀ y, dirR T t g = .ok y → CtC M' y.2 (x + 1)) → Q M') : WV 65 [vR 4] M Q := by
  have hp' : 96 ≤ p := by rcases hp with rfl | rfl <;> decide
  have sh2 : (shA SH 2).1 = 9 := o2.1.2
  obtain ⟨ht, hb, hf, hg⟩ : TpR M T t 0 fp ∧ TbC M p g ∧ Fl M g ∧ GsOk g := hS
  have wr := @wrg_r t
  have dr := @dir_r T t
  have z7 : shA SH 7 = (20, 11) := by decide +kernel
  refine t_65 o4 ?_
  rw [s66 ht hR.1, hR.1, hR.2.2.1]
  unfold dirR at hQ
  generalize dirOf T t = d at *
  refine ⟨by omega, ?_⟩
  by_cases q0 : d < 0
  · rw [if_pos q0]
    rw [if_pos q0] at hQ
    refine ⟨sh2, s126 ht (by decide) (fun M1 f1 h1 => hQ M1 (f1.d hp').e ⟨⟨wr.1, (show wrg t ≤ 5 by omega)⟩, t, ?_⟩ (fun y z => by cases z))⟩
    rw [if_pos rfl, if_pos rfl] at h1
    exact h1
  rw [if_neg q0, if_pos (by omega)]
  rw [if_neg q0] at hQ
  refine ⟨gC z7 (by omega) (by show _ < ((11 : Nat) : Int); omega), ?_⟩
  obtain ⟨u1, u2, u3⟩ := ct_full (d := d) hc ⟨hg.1.1.1, hg.1.2.1.1, hg.1.2.1.2.2.1, hg.2.2.1⟩ hx (by omega)
  have lr : 0 ≤ lim d ∧ lim d ≤ 900 := by
    unfold lim
    repeat (first | split | omega)
  rw [s67 (by omega), hR.1, hR.2.2.1]
  refine ⟨by omega, by omega, ?_⟩
  by_cases q1 : full g d = true
  · rw [if_neg (fun z => by rw [u1.mp z] at q1; cases q1)]
    rw [if_pos q1] at hQ
    by_cases q3 : 3 < d
    · rw [if_pos q3]
      rw [if_pos q3] at hQ
      refine ⟨sh2, s125 ht (by decide) (fun M1 f1 h1 => hQ M1 (f1.d hp').e ⟨⟨(show (1 : Int) ≤ 2 by decide), (show (2 : Int) ≤ 5 by decide)⟩, t, ?_⟩ (fun y z => by cases z))⟩
      rw [if_pos rfl, if_pos rfl] at h1
      exact h1
    · rw [if_neg q3]
      rw [if_neg q3] at hQ
      refine ⟨sh2, s125 ht (by decide) (fun M1 f1 h1 => hQ M1 (f1.d hp').e ⟨⟨(show (1 : Int) ≤ 5 by decide), (show (5 : Int) ≤ 5 by decide)⟩, t, ?_⟩ (fun y z => by cases z))⟩
      rw [if_pos rfl, if_pos rfl] at h1
      exact h1
  have q1' : full g d = false := by cases hz : full g d; rfl; exact absurd hz q1
  rw [if_pos (u1.mpr q1')]
  rw [if_neg q1] at hQ
  refine ⟨gC z7 (by omega) (by show _ < ((11 : Nat) : Int); omega), gC z7 (by omega) (by show _ < ((11 : Nat) : Int); omega), ?_⟩
  have o : ∀ k : Int, k ≠ 7 → upM M 7 d (M 7 d + 1) k = M k := fun k a => upM_o a
  have c7 : ∀ i : Int, upM M 7 d (M 7 d + 1) 7 i = if i = d then M 7 d + 1 else M 7 i := fun i => by
    by_cases q : i = d
    · rw [if_pos q, q, upM_s]
    · rw [if_neg q, upM_f q]
  have f0 : FrE p M (upM M 7 d (M 7 d + 1)) := FrE.up hp'
  generalize upM M 7 d (M 7 d + 1) = N at *
  have R0 := hR.fe hp' f0
  have h0 : TpR N T t 0 fp := ht.fr (o 2 (by decide)) (o 3 (by decide))
  rw [R0.1]
  refine ⟨sh2, s128n h0 (fun M1 f1 h1 => ?_)⟩
  have R1 := R0.fr hp' (f1.d hp')
  have S1 : StC M1 p T fp (.ok (nx T t, mark g d)) := StC.mk (show StC M1 p T fp (.ok (nx T t, g)) from ⟨h1, hb.eq (fun k a _ => by rw [f1.1 k (by omega), o k (by omega)]), fun i a b => by rw [f1.1 8 (by decide), o 8 (by decide)]; exact hf i a b, hg⟩)
  have e17 : M1 7 = N 7 := f1.1 7 (by decide)
  have fin1 : ∀ M2 : Mem, FrD p M1 M2 → StC M2 p T fp (body T d (nx T t) (mark g d)) → WV 77 [vR 4] M2 Q := fun M2 f2 h2 => by
    refine s77s hp' h2 (R1.fr hp' f2) (fun M3 f3 h3 => hQ M3 (f0.tr ((f1.d hp').e.tr (f2.e.tr f3.e))) h3 (fun y hy => ?_))
    obtain ⟨x1, hx1, hx2⟩ := thn_ok hy
    have := if_ok hx2
    cases this
    have gr := body_g (by omega) hx1
    obtain ⟨r1, r2, r3, r4, r5⟩ := gr
    obtain ⟨c0, c1, c2, c3, c4, c5⟩ := hc
    have m1 : (mark g d).1 = g.1 ∧ (mark g d).2.1 = g.2.1 ∧ (mark g d).2.2.2.1 = if d < 5 then g.2.2.2.1 else setB g.2.2.2.1 (d - 5) := by
      unfold mark
      split <;> exact ⟨rfl, rfl, rfl⟩
    rw [m1.1] at r1 r2 r3
    rw [m1.2.1] at r4
    rw [m1.2.2] at r5
    have e37 : M3 7 = N 7 := by rw [f3.1 7 (by decide) (by decide) (by decide) (by decide) (by omega), f2.1 7 (by decide) (by decide) (by decide) (by decide) (by omega), e17]
    unfold CtC
    rw [e37, c7, c7, c7, c7, c7]
    dsimp only
    rw [r1, r2, r3, r4, r5]
    refine ⟨?_, ?_, ?_, ?_, ?_, fun i i0 i1 => ?_⟩
    · by_cases q : d = 0
      · rw [if_pos q.symm, if_pos q, q, c0]; rfl
      · rw [if_neg (fun z => q z.symm), if_neg q, c0]; rfl
    · by_cases q : d = 1
      · rw [if_pos q.symm, if_pos q, q, c1]; rfl
      · rw [if_neg (fun z => q z.symm), if_neg q, c1]; rfl
    · by_cases q : d = 2
      · rw [if_pos q.symm, if_pos q, q, c2]; rfl
      · rw [if_neg (fun z => q z.symm), if_neg q, c2]; rfl
    · by_cases q : d = 3
      · rw [if_pos q.symm, if_pos q, q, c3]; rfl
      · rw [if_neg (fun z => q z.symm), if_neg q, c3]; rfl
    · by_cases q : d = 4
      · rw [if_pos q.symm, q]; omega
      · rw [if_neg (fun z => q z.symm)]; omega
    · rw [c7]
      by_cases q : i = d
      · have sd : g.2.2.2.1 (d - 5) = false := by
          unfold full at q1'
          rw [if_neg (by omega), if_neg (by omega), if_neg (by omega), if_neg (by omega), if_neg (by omega)] at q1'
          exact q1'
        rw [if_pos q, c5 d (by omega) (by omega), sd, if_neg (show ¬ d < 5 by omega), q]
        unfold setB
        rw [if_pos rfl]
        rfl
      · rw [if_neg q, c5 i i0 i1]
        by_cases q5 : d < 5
        · rw [if_pos q5]
        · rw [if_neg q5]
          unfold setB
          rw [if_neg (by omega)]
  by_cases q3 : d ≤ 3
  · rw [if_pos q3]
    have em : mark g d = g := if_pos (by omega)
    exact s68a hp S1 R1 (Or.inl ⟨by omega, q3⟩) (fun _ => by rw [em]; exact q1') fin1
  rw [if_neg q3]
  by_cases q9 : d = 9
  · rw [if_pos q9]
    exact s68a hp S1 R1 (Or.inr q9) (fun z => absurd z q3) fin1
  · rw [if_neg q9]
    refine s69a hp S1 R1 ⟨by omega, by omega, q9⟩ (fun z => ?_) fin1
    subst z
    rfl
end CE
