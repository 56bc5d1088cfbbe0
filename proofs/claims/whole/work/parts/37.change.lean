/-! THE CHANGES of the class: learn, forget, cost, undo. -/
section CH
variable {M M' : Mem} {p p' q q' ft fp : Int} {T : List Int} {L : Lw} {W S : List (List Int)} {c : Int → Int} {E : List En}
def updC (c : Int → Int) (i v : Int) : Int → Int := fun j => if j = i then v else c j
theorem ClsS.lp (h : ClsS M p p' q q' T ft fp L W S c E) : 96 ≤ p ∧ (q = 15 ∨ q = 34) := ⟨by rcases h.1.1 with z | z <;> omega, h.2.1.2.1⟩
theorem ClsS.ac' (h : ClsS M p p' q q' T ft fp L W S c E) : ActC M L E := h.2.2.2.2.2.2.2.2.2
theorem ClsS.ta (h : ClsS M p p' q q' T ft fp L W S c E) : TapC M T ft fp := h.2.2.2.2.2.2.2.2.1
theorem ClsS.wr {W' : List (List Int)} (h : ClsS M p p' q q' T ft fp L W S c E) (g : FrW (p + 8) 20 M M') (hW : WrdP M' (p + 8) 20 L W') : ClsS M' p p' q q' T ft fp L W' S c E := by
  have hp := h.lp.1
  have g1 := g.1
  refine h.ch (fun k a => g1 k (by unfold Kp at a; omega) (by unfold Kp at a; omega)) g.2 hW ?_ ?_ ?_
  · intro i a b
    rw [g1 (p + 53) (by omega) (by omega)]
    exact h.2.1.2.2.2.1 i a b
  · exact h.ta.fr (g1 2 (by omega) (by omega)) (g1 3 (by omega) (by omega))
  · exact h.ac'.fr (fun k a b => g1 k (by omega) (by omega))
theorem ClsS.pa {E' : List En} (h : ClsS M p p' q q' T ft fp L W S c E) (g : FrA M M') (hA : ActC M' L E') : ClsS M' p p' q q' T ft fp L W S c E' := by
  have hp := h.lp.1
  have g1 := g.1
  refine h.ch (fun k a => g1 k (by unfold Kp at a; omega)) (fun j _ => by rw [g1 (p + 8) (by omega)]) (h.wp.kp (fun k a b => g1 k (by omega))) ?_ ?_ hA
  · intro i a b
    rw [g1 (p + 53) (by omega)]
    exact h.2.1.2.2.2.1 i a b
  · exact h.ta.fr (g1 2 (by omega)) (g1 3 (by omega))
theorem ClsS.co (h : ClsS M p p' q q' T ft fp L W S c E) {i v : Int} (hi : 0 ≤ i ∧ i < 6) (hv : 0 ≤ v ∧ v ≤ 999) : ClsS (upM M (p + 53) i v) p p' q q' T ft fp L W S (updC c i v) E := by
  have hp := h.lp.1
  have g1 : ∀ k : Int, k ≠ p + 53 → upM M (p + 53) i v k = M k := fun k a => upM_o a
  refine h.ch (fun k a => g1 k (by unfold Kp at a; omega)) (fun j _ => by rw [g1 (p + 8) (by omega)]) (h.wp.kp (fun k a b => g1 k (by omega))) ?_ ?_ (h.ac'.fr (fun k a b => g1 k (by omega)))
  · intro j a b
    unfold updC
    by_cases e : j = i
    · rw [if_pos e, e, upM_s]
      exact ⟨rfl, hv⟩
    · rw [if_neg e, upM_f e]
      exact h.2.1.2.2.2.1 j a b
  · exact h.ta.fr (g1 2 (by omega)) (g1 3 (by omega))
/-- what the methods look up -/
theorem ClsS.at (h : ClsS M p p' q q' T ft fp L W S c E) : M 1 7 = p ∧ M p 1 = p + 8 ∧ M 1 6 = 67 ∧ M 1 3 = 14 ∧ M 14 1 = q ∧ gO 2 p ∧ gO 10 (p + 8) ∧ (shA SH p).1 = 2 ∧ (shA SH (p + 8)).1 = 10 ∧ (shA SH q).1 = 10 ∧ (shA SH 67).1 = 0 ∧ M (p + 8) 2 = W.length ∧ W.length ≤ 20 := by
  obtain ⟨pc0, pc1, pc2, pc3, pc4, pc5, pc6, pc7, pc8, pc9⟩ := h.2.1.2.2.2.2
  have hL := h.2.1.1.1
  have w := h.2.1.1.2.1
  exact ⟨pc7, hL.2.1.2.1, pc6, pc3, pc9, hL.o.1, ⟨w.1.1, by rw [w.1.2.1]⟩, hL.o.1.2, by rw [w.1.2.1], by rw [h.2.1.2.2.1.1.2.1], shA67.1.2, w.2.2.1, w.2.2.2.1⟩
theorem cLearn {Q : Int → Mem → Prop} {n : Int} (h : ClsS M p p' q q' T ft fp L W S c E) (hn : inR n) (hQ : ∀ M' : Mem, (if (0 ≤ n ∧ n < S.length) ∧ W.length < 20 then ClsS M' p p' q q' T ft fp L (W ++ [S.getD n.toNat []]) S c (pushE E (0, W.length, 0, [])) → Q (100 + (W.length : Int)) M' else ClsS M' p p' q q' T ft fp L W S c E → Q (-1) M')) : WI 170 [vR 1, vI n] M Q := by
  obtain ⟨a1, a2, a3, a4, a5, a6, a7, a8, a9, a10, a11, a12, a13⟩ := h.at
  have hS := h.2.1.2.2.1
  have hp := h.lp
  refine t_170 o1.1 ?_
  rw [a4, a5]
  refine ⟨o1.2, a10, ?_⟩
  rw [s136 hS hn]
  by_cases q1 : 0 ≤ n ∧ n < S.length
  rotate_left
  · rw [if_neg q1]
    refine ⟨by decide, ?_⟩
    rw [if_pos rfl]
    have := hQ M
    rw [if_neg (fun z => q1 z.1)] at this
    exact ⟨_, rfl, this h⟩
  obtain ⟨hr, -, hr2⟩ := wrd_at (Or.inr ⟨hp.2, rfl⟩) hS q1.1 q1.2
  have hw := hS.2.2.2.2.2 n.toNat (by omega)
  rw [Int.toNat_of_nonneg q1.1] at hw
  have hr0 := hr.1.1
  rw [if_pos q1]
  refine ⟨by omega, ?_⟩
  rw [if_neg (by omega), a1, a2]
  refine ⟨a6, a9, s137 h.wp ⟨hr, hr2⟩ (Or.inl (by have := hw.2.2.2; rcases hp.2 with z | z <;> omega)) (fun M1 g1 => ?_)⟩
  by_cases q2 : W.length < 20
  rotate_left
  · rw [if_neg q2]
    intro e
    refine ⟨by decide, ?_⟩
    rw [if_pos rfl, e]
    have := hQ M
    rw [if_neg (fun z => q2 z.2)] at this
    exact ⟨_, rfl, this h⟩
  rw [if_pos q2]
  intro hW
  have h1 := h.wr g1 hW
  obtain ⟨b1, b2, b3, b4, b5, b6, b7, b8, b9, b10, b11, b12, b13⟩ := h1.at
  refine ⟨by decide, ?_⟩
  have e1 : M1 (p + 8) 2 - 1 = W.length := by rw [b12, List.length_append, List.length_singleton]; omega
  rw [if_neg (by decide), b1, b2, b3, e1]
  refine ⟨a6, a7, a11, s2 (e := (0, (W.length : Int), 0, [])) h1.ac' (Or.inl ⟨rfl, (show (0 : Int) ≠ 1 by decide)⟩) (fun M2 g2 A2 => ?_)⟩
  have := hQ M2
  rw [if_pos ⟨q1, q2⟩] at this
  exact ⟨_, rfl, this (h1.pa g2 A2)⟩
theorem cForget {Q : Int → Mem → Prop} {w : Int} (h : ClsS M p p' q q' T ft fp L W S c E) (hn : inR w) (hQ : ∀ M' : Mem, (if 100 ≤ w ∧ w - 100 < W.length then ClsS M' p p' q q' T ft fp L (delL (w - 100).toNat W) S c (pushE E (1, w - 100, 0, W.getD (w - 100).toNat [])) → Q ((W.length : Int) - 1) M' else ClsS M' p p' q q' T ft fp L W S c E → Q (-1) M')) : WI 171 [vR 1, vI w] M Q := by
  obtain ⟨a1, a2, a3, a4, a5, a6, a7, a8, a9, a10, a11, a12, a13⟩ := h.at
  have hW := h.2.1.1.2.1
  have hp := h.lp
  refine t_171 o1.1 ⟨hn, ?_⟩
  by_cases q0 : 100 ≤ w
  rotate_left
  · rw [if_neg q0]
    have := hQ M
    rw [if_neg (fun z => q0 z.1)] at this
    exact ⟨_, rfl, this h⟩
  rw [if_pos q0, a1, a2]
  refine ⟨a6, a9, ?_⟩
  rw [s136 hW (by omega)]
  by_cases q1 : w - 100 < W.length
  rotate_left
  · rw [if_neg (fun z => q1 z.2)]
    refine ⟨by decide, ?_⟩
    rw [if_pos rfl]
    have := hQ M
    rw [if_neg (fun z => q1 z.2)] at this
    exact ⟨_, rfl, this h⟩
  obtain ⟨d, hd⟩ : ∃ d : Nat, w - 100 = d := ⟨(w - 100).toNat, by omega⟩
  have hw := hW.2.2.2.2.2 d (by omega)
  rw [if_pos ⟨by omega, q1⟩]
  rw [hd] at hQ ⊢
  rw [Int.toNat_natCast] at hQ
  have hr0 := hw.1.1.1
  refine ⟨by omega, ?_⟩
  rw [if_neg (by omega), a3]
  refine ⟨a11, s2 (e := (1, (d : Int), 0, W.getD d [])) h.ac' (Or.inr ⟨⟨hw.1, hw.2.1⟩, Or.inr (by have := hw.2.2.1; omega)⟩) (fun M2 g2 A2 => ?_)⟩
  have h2 := h.pa g2 A2
  obtain ⟨b1, b2, b3, b4, b5, b6, b7, b8, b9, b10, b11, b12, b13⟩ := h2.at
  rw [b1, b2]
  refine ⟨a6, a9, s139 h2.wp (by omega) (fun M3 g3 g3' W3 => ?_)⟩
  have h3 := h2.wr (M' := M3) ⟨fun k a b => g3 k a (by omega), g3'⟩ W3
  obtain ⟨c1, c2, c3, c4, c5, c6, c7, c8, c9, c10, c11, c12, c13⟩ := h3.at
  rw [c1, c2, c12, delL_len (by omega)]
  refine ⟨a6, a7, ?_⟩
  have := hQ M3
  rw [if_pos ⟨q0, by omega⟩] at this
  have := this h3
  rw [show ((W.length - 1 : Nat) : Int) = (W.length : Int) - 1 by omega]
  exact ⟨_, rfl, this⟩
theorem s42 {Q : Mem → Prop} {i v : Int} (h : LawIs M p L) (hi : 0 ≤ i ∧ i < 6) (hQ : Q (upM M (p + 53) i v)) : WV 42 [vR p, vI i, vI v] M Q := by
  have h4 : M p 4 = p + 53 := h.2.1.2.2.2.2.1
  have hs := (shL h.1).2.2.2.2.2.2.2.2.2.2.2.2.2.2
  refine t_42 h.o.1 ⟨by omega, ?_⟩
  rw [if_neg (by omega), if_neg (by omega), h4]
  exact ⟨gC hs hi.1 (by have := hi.2; omega), hQ⟩
theorem cCost {Q : Int → Mem → Prop} {i v : Int} (h : ClsS M p p' q q' T ft fp L W S c E) (hi : inR i) (hv : inR v) (hQ : ∀ M' : Mem, (if (0 ≤ i ∧ i < 6) ∧ (0 ≤ v ∧ v ≤ 999) ∧ v ≠ c i then ClsS M' p p' q q' T ft fp L W S (updC c i v) (pushE E (2, i, c i, [])) → Q (c i) M' else ClsS M' p p' q q' T ft fp L W S c E → Q (-1) M')) : WI 172 [vR 1, vI i, vI v] M Q := by
  obtain ⟨a1, a2, a3, a4, a5, a6, a7, a8, a9, a10, a11, a12, a13⟩ := h.at
  have hL := h.2.1.1.1
  have hp := h.lp
  have no : (¬ ((0 ≤ i ∧ i < 6) ∧ (0 ≤ v ∧ v ≤ 999) ∧ v ≠ c i)) → Q (-1) M := fun z => by
    have := hQ M
    rw [if_neg z] at this
    exact this h
  refine t_172 o1.1 ?_
  rw [a1]
  refine ⟨a8, ?_⟩
  rw [s41 hL hi]
  by_cases q1 : 0 ≤ i ∧ i < 6
  rotate_left
  · rw [if_neg q1]
    refine ⟨by decide, ?_⟩
    rw [if_pos rfl]
    exact ⟨_, rfl, no (fun z => q1 z.1)⟩
  obtain ⟨e1, e2, e3⟩ := h.2.1.2.2.2.1 i q1.1 q1.2
  rw [if_pos q1, e1]
  refine ⟨by omega, ?_⟩
  rw [if_neg (by omega)]
  refine ⟨hv, ?_⟩
  by_cases q2 : v < 0
  · rw [if_pos q2]
    exact ⟨_, rfl, no (fun z => absurd z.2.1.1 (by omega))⟩
  rw [if_neg q2]
  by_cases q3 : 999 < v
  · rw [if_pos q3]
    exact ⟨_, rfl, no (fun z => absurd z.2.1.2 (by omega))⟩
  rw [if_neg q3]
  by_cases q4 : v = c i
  · rw [if_pos q4]
    exact ⟨_, rfl, no (fun z => z.2.2 q4)⟩
  rw [if_neg q4, a3]
  refine ⟨a11, s2 (e := (2, i, c i, [])) h.ac' (Or.inl ⟨rfl, (show (2 : Int) ≠ 1 by decide)⟩) (fun M2 g2 A2 => ?_)⟩
  have h2 := h.pa g2 A2
  obtain ⟨b1, b2, b3, b4, b5, b6, b7, b8, b9, b10, b11, b12, b13⟩ := h2.at
  rw [b1]
  refine ⟨a8, s42 h2.2.1.1.1 q1 ?_⟩
  have := hQ (upM M2 (p + 53) i v)
  rw [if_pos ⟨q1, ⟨by omega, by omega⟩, q4⟩] at this
  exact ⟨_, rfl, this (h2.co q1 ⟨by omega, by omega⟩)⟩
/-- what an undo gives back -/
def back (e : En) (s : Sn) : Sn := if e.1 = 0 then (delL e.2.1.toNat s.1, s.2) else if e.1 = 1 then (insL e.2.1.toNat e.2.2.2 s.1, s.2) else (s.1, updC s.2 e.2.1 e.2.2.1)
def okE (e : En) (W : List (List Int)) : Prop := (e.1 = 0 ∧ 0 ≤ e.2.1 ∧ e.2.1 < W.length) ∨ (e.1 = 1 ∧ 0 ≤ e.2.1 ∧ e.2.1 ≤ W.length ∧ W.length < 20) ∨ (e.1 = 2 ∧ 0 ≤ e.2.1 ∧ e.2.1 < 6 ∧ 0 ≤ e.2.2.1 ∧ e.2.2.1 ≤ 999)
theorem ActC.pop {e : En} (h : ActC M L (E ++ [e])) : ActC (upM M 67 4 E.length) L E ∧ EnIs (upM M 67 4 E.length) L E.length e ∧ RPt (upM M 67 4 E.length) 71 12 72 94 := by
  obtain ⟨h1, ⟨h2, h3⟩, h4, h5⟩ := h
  rw [List.length_append, List.length_singleton] at h3 h4
  have g1 : ∀ k : Int, k ≠ 67 → upM M 67 4 E.length k = M k := fun k a => upM_o a
  have hr : RPt (upM M 67 4 E.length) 71 12 72 94 := h5.fr' (g1 71 (by decide)) (fun r a b => g1 r (by omega))
  have en : ∀ (j : Nat) (e' : En), j < 12 → EnIs M L j e' → EnIs (upM M 67 4 E.length) L j e' := fun j e' hj z => by
    obtain ⟨z1, z2, z3, z4⟩ := z
    unfold EnIs
    rw [g1 68 (by decide), g1 69 (by decide), g1 70 (by decide), g1 71 (by decide)]
    refine ⟨z1, z2, z3, fun y => ?_⟩
    obtain ⟨c1, c2, c3, c4⟩ := h5.1 (j : Int) (by omega) (by omega)
    have y := z4 y
    exact ⟨y.1.fr (g1 _ (by omega)) (g1 _ (by omega)), by rw [g1 _ (by omega)]; exact y.2⟩
  refine ⟨⟨?_, ⟨upM_s, by omega⟩, fun j hj => ?_, hr⟩, ?_, hr⟩
  · obtain ⟨b1, b2, b3, b4⟩ := h1
    exact ⟨by rw [upM_f (by decide)]; exact b1, by rw [upM_f (by decide)]; exact b2, by rw [upM_f (by decide)]; exact b3, by rw [upM_f (by decide)]; exact b4⟩
  · have := h4 j (by omega)
    rw [eg_app, if_pos hj] at this
    exact en j _ (by omega) this
  · have := h4 E.length (by omega)
    rw [eg_app, if_neg (by omega), Nat.sub_self] at this
    exact en _ _ (by omega) this
theorem cUndo0 {Q : Int → Mem → Prop} (h : ClsS M p p' q q' T ft fp L W S c []) (hQ : ∀ M' : Mem, ClsS M' p p' q q' T ft fp L W S c [] → Q (-1) M') : WI 173 [vR 1] M Q := by
  obtain ⟨a1, a2, a3, a4, a5, a6, a7, a8, a9, a10, a11, a12, a13⟩ := h.at
  have e4 := h.ac'.2.1.1
  refine t_173 o1.1 ?_
  rw [a3]
  refine ⟨a11, t_4 shA67.1 ?_⟩
  rw [e4]
  refine ⟨by decide, ?_⟩
  rw [if_neg (by decide)]
  refine ⟨_, rfl, by decide, ?_⟩
  rw [if_pos rfl]
  exact ⟨_, rfl, hQ M h⟩
theorem cUndo {Q : Int → Mem → Prop} {e : En} (h : ClsS M p p' q q' T ft fp L W S c (E ++ [e])) (ok : okE e W) (hQ : ∀ M' : Mem, ClsS M' p p' q q' T ft fp L (back e (W, c)).1 S (back e (W, c)).2 E → Q (E.length : Int) M') : WI 173 [vR 1] M Q := by
  obtain ⟨a1, a2, a3, a4, a5, a6, a7, a8, a9, a10, a11, a12, a13⟩ := h.at
  have e4 := h.ac'.2.1
  rw [List.length_append, List.length_singleton] at e4
  obtain ⟨A1, en, hr⟩ := h.ac'.pop
  refine t_173 o1.1 ?_
  rw [a3]
  refine ⟨a11, t_4 shA67.1 ?_⟩
  rw [e4.1, show ((E.length + 1 : Nat) : Int) - 1 = E.length by omega]
  refine ⟨by omega, ?_⟩
  rw [if_pos (by omega)]
  refine ⟨_, rfl, by decide, ?_⟩
  have g1 : FrA M (upM M 67 4 E.length) := ⟨fun k a => upM_o (by omega), fun j a => upM_f a⟩
  have h1 := h.pa g1 A1
  generalize upM M 67 4 E.length = M1 at *
  obtain ⟨b1, b2, b3, b4, b5, b6, b7, b8, b9, b10, b11, b12, b13⟩ := h1.at
  have n4 := A1.2.1.1
  obtain ⟨k6, k7, k8, k9⟩ := s6 (M := M1) (Q := fun _ _ => True) (n := (E.length : Int)) A1.1 n4 ⟨by omega, by omega⟩
  obtain ⟨f1, f2, f3, f4⟩ := en
  rw [if_neg (by decide), b3]
  refine ⟨a11, ?_⟩
  rw [k6, f1]
  have hb : back e (W, c) = if e.1 = 0 then (delL e.2.1.toNat W, c) else if e.1 = 1 then (insL e.2.1.toNat e.2.2.2 W, c) else (W, updC c e.2.1 e.2.2.1) := rfl
  rcases ok with ⟨o1', o2', o3'⟩ | ⟨o1', o2', o3', o4'⟩ | ⟨o1', o2', o3', o4', o5'⟩
  · rw [o1']
    refine ⟨by decide, ?_⟩
    rw [if_pos rfl, b3, k7, f2, b1, b2]
    rw [hb, if_pos o1'] at hQ
    obtain ⟨d, hd⟩ : ∃ d : Nat, e.2.1 = d := ⟨e.2.1.toNat, by omega⟩
    rw [hd] at hQ ⊢
    rw [Int.toNat_natCast] at hQ
    refine ⟨a6, a11, a9, s139 h1.wp (by omega) (fun M3 g3 g3' W3 => ?_)⟩
    have h3 := h1.wr (M' := M3) ⟨fun k a b => g3 k a (by omega), g3'⟩ W3
    rw [h3.at.2.2.1, h3.ac'.2.1.1]
    exact ⟨shA67.1, _, rfl, hQ M3 h3⟩
  · rw [o1']
    refine ⟨by decide, ?_⟩
    rw [if_neg (by decide), if_pos rfl, b3, k7, f2, b1, b2, b3]
    rw [hb, if_neg (by rw [o1']; decide), if_pos o1'] at hQ
    obtain ⟨d, hd⟩ : ∃ d : Nat, e.2.1 = d := ⟨e.2.1.toNat, by omega⟩
    obtain ⟨c1, c2, c3, c4⟩ := hr.1 (E.length : Int) (by omega) (by omega)
    have hp := h.lp
    rw [hd] at hQ ⊢
    rw [Int.toNat_natCast] at hQ
    refine ⟨a6, a11, a11, ?_⟩
    rw [k9 (by omega)]
    refine ⟨a9, s138 h1.wp (f4 o1') (Or.inl (by omega)) (by omega) (fun M3 g3 => ?_)⟩
    rw [if_pos o4']
    intro W3
    have h3 := h1.wr g3 W3
    rw [h3.at.2.2.1, h3.ac'.2.1.1]
    exact ⟨shA67.1, _, rfl, hQ M3 h3⟩
  · rw [o1']
    refine ⟨by decide, ?_⟩
    rw [if_neg (by decide), if_neg (by decide), b3, k7, f2, b3, k8, f3, b1]
    rw [hb, if_neg (by rw [o1']; decide), if_neg (by rw [o1']; decide)] at hQ
    refine ⟨a11, a11, a8, s42 h1.2.1.1.1 ⟨o2', o3'⟩ ?_⟩
    have h3 := h1.co (v := e.2.2.1) ⟨o2', o3'⟩ ⟨o4', o5'⟩
    rw [h3.at.2.2.1, h3.ac'.2.1.1]
    exact ⟨shA67.1, _, rfl, hQ _ h3⟩
end CH
