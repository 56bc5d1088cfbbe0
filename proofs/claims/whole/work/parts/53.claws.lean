/-! law by the class -/
section LW
variable {M M' : Mem} {p p' q q' ft fp ft' fp' : Int} {T T' : List Int} {L : Lw} {W S : List (List Int)} {c : Int → Int} {E : List En}
theorem two_c {p p' q q' : Int} (h : Two p p' q q') : (p = 96 ∨ p = 150) ∧ (p' = 96 ∨ p' = 150) ∧ (q = 15 ∨ q = 34) ∧ (q' = 15 ∨ q' = 34) ∧ (96 ≤ p ∧ 96 ≤ p' ∧ (p + 53 < p' ∨ p' + 53 < p)) ∧ (15 ≤ q ∧ q ≤ 34 ∧ 15 ≤ q' ∧ q' ≤ 34) ∧ (q + 18 < q' ∨ q' + 18 < q) := by
  obtain ⟨h1, h2⟩ := h
  rcases h1 with ⟨rfl, rfl⟩ | ⟨rfl, rfl⟩ <;> rcases h2 with ⟨rfl, rfl⟩ | ⟨rfl, rfl⟩ <;> decide
/-- the state when only the tape, the reader and the spare law have changed -/
theorem ClsS.lw (h : ClsS M p p' q q' T ft fp L W S c E) (e : ∀ k : Int, k ≠ 2 → k ≠ 4 → k ≠ 5 → k ≠ 6 → k ≠ 7 → k ≠ 8 → ¬ (p' ≤ k ∧ k ≤ p' + 53) → M' k = M k) (hR : RdP M') (hs : SpL M' p') (hT : TapC M' T' ft' fp') : ClsS M' p p' q q' T' ft' fp' L W S c E := by
  obtain ⟨a0, a1, a2, a3, a4, a5, a6, a7, a8, a9⟩ := h
  obtain ⟨-, -, hq, hq', hpp, hqq, -⟩ := two_c a0
  have ep : ∀ k : Int, p ≤ k → k ≤ p + 53 → M' k = M k := fun k x y => e k (by omega) (by omega) (by omega) (by omega) (by omega) (by omega) (by omega)
  have el : ∀ k : Int, 9 ≤ k → k ≤ 95 → M' k = M k := fun k x y => e k (by omega) (by omega) (by omega) (by omega) (by omega) (by omega) (by omega)
  have e1 : M' 1 = M 1 := e 1 (by decide) (by decide) (by decide) (by decide) (by decide) (by decide) (by omega)
  obtain ⟨⟨x1, x2, x3, x4, x5, x6⟩, b2, b3, b4, b5⟩ := a1
  clear e
  have e9 := el 9 (by decide) (by decide)
  have e14 := el 14 (by decide) (by decide)
  have hW : WrdP M' (p + 8) 20 L W := WrdP.kp ⟨x2, a6⟩ (fun k a b => ep k (by omega) (by omega))
  have hS : WrdP M' q 8 L S := WrdP.kp ⟨b3, a7⟩ (fun k a b => el k (by omega) (by omega))
  refine ⟨a0, ⟨⟨x1.eq ep, hW.1, by rw [e9]; exact x3, by rw [e9]; exact x4, by rw [e9]; exact x5, by rw [e9]; exact x6⟩, b2, hS.1, fun i a b => by rw [ep (p + 53) (by omega) (by omega)]; exact b4 i a b, ?_⟩, ?_, ?_, hR, ?_, hW.2, hS.2, hT, a9.fr (fun k a b => el k (by omega) (by omega))⟩
  · unfold PtrC at b5 ⊢
    rw [e1, e14]
    exact b5
  · unfold PtrT at a2 ⊢
    rw [el 53 (by decide) (by decide), el 54 (by decide) (by decide), el 58 (by decide) (by decide)]
    exact a2
  · unfold PtrD at a3 ⊢
    rw [el 63 (by decide) (by decide), el 64 (by decide) (by decide)]
    exact a3
  · obtain ⟨z1, z2, z3, z4, z5, z6⟩ := a5
    exact ⟨by rw [e1]; exact z1, by rw [e14]; exact z2, hs.1, by rw [el q' (by omega) (by omega)]; exact z4, hs.2, z6.fr' (el _ (by omega) (by omega)) (fun r a b => el r (by omega) (by omega))⟩
theorem TapC.nil (h : TapC M T ft fp) : TapC (upM M 2 1 0) [] ft fp := by
  obtain ⟨t0, t1, t2, t3, t4, t5, t6⟩ := h
  exact ⟨by rw [upM_f (by decide)]; exact t0, upM_s, by decide, fun b hb => absurd hb List.not_mem_nil, fun j hj => absurd hj (Nat.not_lt_zero _), by rw [upM_f (by decide)]; exact t5, by rw [upM_f (by decide)]; exact t6⟩
theorem RdP.fe (h : RdP M) (hp : 96 ≤ p) (f : FrE p (upM M 4 4 p) M') : RdP M' := by
  obtain ⟨a, b, d, e, x⟩ := h
  have e4 : M' 4 = upM M 4 4 p 4 := f.1 4 (by decide) (by decide) (by decide) (by decide) (by decide) (by omega)
  exact ⟨by rw [e4, upM_f (by decide)]; exact a, by rw [e4, upM_f (by decide)]; exact b, by rw [e4, upM_f (by decide)]; exact d, by rw [e4, upM_f (by decide)]; exact e, by rw [f.2.2.1, upM_o (by decide)]; exact x⟩
theorem SpL.fe (h : SpL M p) (hp : 96 ≤ p) (f : FrE p (upM M 4 4 p) M') : SpL M' p := by
  have o : ∀ k : Int, k ≠ 4 → upM M 4 4 p k = M k := fun k a => upM_o a
  obtain ⟨⟨q0, q1, q2, q3, q4, q5, q6, q7, q8, q9, q10, q11, q12⟩, hr⟩ := h
  have f0 : ∀ j : Int, j < 5 → M' p j = M p j := fun j a => by rw [f.2.2.2.1 j a, o p (by omega)]
  have f1 : ∀ j : Int, j < 6 → M' (p + 1) j = M (p + 1) j := fun j a => by rw [f.2.2.2.2.1 j a, o (p + 1) (by omega)]
  have f8 : ∀ j : Int, j ≠ 2 → M' (p + 8) j = M (p + 8) j := fun j a => by rw [f.2.2.2.2.2.1 j a, o (p + 8) (by omega)]
  exact ⟨⟨by rw [f0 0 (by decide)]; exact q0, by rw [f0 1 (by decide)]; exact q1, by rw [f0 2 (by decide)]; exact q2, by rw [f0 3 (by decide)]; exact q3, by rw [f0 4 (by decide)]; exact q4, by rw [f1 0 (by decide)]; exact q5, by rw [f1 1 (by decide)]; exact q6, by rw [f1 2 (by decide)]; exact q7, by rw [f1 3 (by decide)]; exact q8, by rw [f1 4 (by decide)]; exact q9, by rw [f1 5 (by decide)]; exact q10, by rw [f8 0 (by decide)]; exact q11, by rw [f8 1 (by decide)]; exact q12⟩, f.2.2.2.2.2.2 (hr.fr' (o _ (by omega)) (fun r a b => o r (by omega)))⟩
theorem cLaw {Q : Int → Mem → Prop} (h : ClsS M p p' q q' T ft fp L W S c E) (hQ : ∀ M' : Mem, match lawR T 900 (nxt T 0) G0 with
    | .error e => ClsS M' p p' q q' [] e.1 e.2 L W S c E → Q (-1) M'
    | .ok g => ClsS M' p' p q q' [] 0 (-1) g.1 g.2.1 [] g.2.2.1 [] → GsOk g → Q (Ln g.1) M') : WI 146 [vR 1] M Q := by
  obtain ⟨pc0, pc1, pc2, pc3, pc4, pc5, pc6, pc7, pc8, pc9⟩ := h.2.1.2.2.2.2
  obtain ⟨hp, hp', hq, hq', hpp, hqq, hqn⟩ := two_c h.1
  have sp := h.2.2.2.2.2.1
  refine t_146 o1.1 ?_
  rw [pc1, sp.1]
  refine ⟨o4.2, s63 hp' h.2.2.2.2.1 ⟨sp.2.2.1, sp.2.2.2.2.1⟩ h.ta (fun M1 y f1 hres => ?_)⟩
  have R1 := h.2.2.2.2.1.fe hpp.2.1 f1
  have s1 : SpL M1 p' := SpL.fe ⟨sp.2.2.1, sp.2.2.2.2.1⟩ hpp.2.1 f1
  have e1 : ∀ k : Int, k ≠ 2 → k ≠ 4 → k ≠ 5 → k ≠ 6 → k ≠ 7 → k ≠ 8 → ¬ (p' ≤ k ∧ k ≤ p' + 53) → M1 k = M k := fun k a b c d e x y => by rw [f1.1 k a c d e x y, upM_o b]
  have e11 : M1 1 = M 1 := e1 1 (by decide) (by decide) (by decide) (by decide) (by decide) (by decide) (by omega)
  rw [e11, pc0]
  refine ⟨o2.1, ?_⟩
  generalize lawR T 900 (nxt T 0) G0 = r at *
  have o : ∀ k : Int, k ≠ 2 → upM M1 2 1 0 k = M1 k := fun k a => upM_o a
  have R2 : RdP (upM M1 2 1 0) := by
    unfold RdP at R1 ⊢
    rw [o 4 (by decide), o 5 (by decide)]
    exact R1
  have s2 : SpL (upM M1 2 1 0) p' := ⟨s1.1.fr' (o _ (by omega)) (o _ (by omega)) (o _ (by omega)), s1.2.fr' (o _ (by omega)) (fun r a b => o r (by omega))⟩
  cases r with
  | error e =>
    obtain ⟨rfl, he, hT1⟩ : y = 0 ∧ (1 ≤ e.1 ∧ e.1 ≤ 5) ∧ TapC M1 T e.1 e.2 := hres
    refine ⟨by decide, ?_⟩
    rw [if_pos rfl]
    exact ⟨_, rfl, hQ _ (h.lw (fun k a b c d e x y => by rw [o k a]; exact e1 k a b c d e x y) R2 s2 hT1.nil)⟩
  | ok g =>
    obtain ⟨rfl, hT1, hb, hg⟩ : y = 1 ∧ TapC M1 T 0 (-1) ∧ TbC M1 p' g ∧ GsOk g := hres
    have H := h.lw (M' := upM M1 2 1 0) (fun k a b c d e x y => by rw [o k a]; exact e1 k a b c d e x y) R2 s2 hT1.nil
    have hb : TbC (upM M1 2 1 0) p' g := hb.eq (fun k a _ => o k (by omega))
    refine ⟨by decide, ?_⟩
    rw [if_neg (by decide)]
    clear hT1 R2 s2 o e11 e1 s1 R1 f1 sp pc0 pc1 pc2 pc3 pc4 pc5 pc6 pc7 pc8 pc9 h
    generalize upM M1 2 1 0 = N at *
    obtain ⟨a0, a1, a2, a3, a4, a5, a6, a7, a8, a9⟩ := H
    obtain ⟨⟨x1, x2, x3, x4, x5, x6⟩, b2, b3, b4, pc0, pc1, pc2, pc3, pc4, pc5, pc6, pc7, pc8, pc9⟩ := a1
    obtain ⟨z1, z2, z3, z4, z5, z6⟩ := a5
    rw [pc7, z1]
    have o1' : ∀ k : Int, k ≠ 1 → upM (upM N 1 8 p) 1 7 p' k = N k := fun k a => by rw [upM_o a, upM_o a]
    have f1' : ∀ j : Int, j ≠ 8 → j ≠ 7 → upM (upM N 1 8 p) 1 7 p' 1 j = N 1 j := fun j a b => by rw [upM_f b, upM_f a]
    rw [f1' 3 (by decide) (by decide), pc3, o1' 14 (by decide), pc9]
    refine ⟨by omega, by omega, o1.2, by rw [b3.1.2.1], t_135 ⟨b3.1.1, by rw [b3.1.2.1]⟩ ?_⟩
    have o2' : ∀ k : Int, k ≠ 1 → k ≠ q → k ≠ 67 → upM (upM (upM (upM N 1 8 p) 1 7 p') q 2 0) 67 4 0 k = N k := fun k a b c => by rw [upM_o c, upM_o b, o1' k a]
    have e16 : upM (upM (upM N 1 8 p) 1 7 p') q 2 0 1 6 = 67 := by rw [upM_o (by omega), f1' 6 (by decide) (by decide)]; exact pc6
    dsimp only
    rw [e16]
    refine ⟨shA67.1.2, t_1 shA67.1 ?_⟩
    dsimp only
    have f2' : ∀ j : Int, j ≠ 8 → j ≠ 7 → upM (upM (upM (upM N 1 8 p) 1 7 p') q 2 0) 67 4 0 1 j = N 1 j := fun j a b => by rw [upM_o (by decide), upM_o (by omega), f1' j a b]
    have e17 : upM (upM (upM (upM N 1 8 p) 1 7 p') q 2 0) 67 4 0 1 7 = p' := by rw [upM_o (by decide), upM_o (by omega), upM_s]
    have e18 : upM (upM (upM (upM N 1 8 p) 1 7 p') q 2 0) 67 4 0 1 8 = p := by rw [upM_o (by decide), upM_o (by omega), upM_f (by decide), upM_s]
    have eq2 : upM (upM (upM (upM N 1 8 p) 1 7 p') q 2 0) 67 4 0 q 2 = 0 := by rw [upM_o (by omega), upM_s]
    have eqj : ∀ j : Int, j ≠ 2 → upM (upM (upM (upM N 1 8 p) 1 7 p') q 2 0) 67 4 0 q j = N q j := fun j a => by rw [upM_o (by omega), upM_f a, o1' q (by omega)]
    have e64 : upM (upM (upM (upM N 1 8 p) 1 7 p') q 2 0) 67 4 0 67 4 = 0 := upM_s
    have e6j : ∀ j : Int, j ≠ 4 → upM (upM (upM (upM N 1 8 p) 1 7 p') q 2 0) 67 4 0 67 j = N 67 j := fun j a => by rw [upM_f a, upM_o (by omega), o1' 67 (by decide)]
    generalize upM (upM (upM (upM N 1 8 p) 1 7 p') q 2 0) 67 4 0 = K at *
    have hbK : TbC K p' g := hb.eq (fun k a _ => o2' k (by omega) (by omega) (by omega))
    rw [e17, show K p' 0 = p' + 1 from hbK.1.2.1.1, hbK.1.n.1]
    refine ⟨hbK.1.o.1, hbK.1.o.2, _, rfl, hQ K ?_ hg⟩
    have e9 := o2' 9 (by decide) (by omega) (by decide)
    have e14 := o2' 14 (by decide) (by omega) (by decide)
    refine ⟨⟨a0.1.elim (fun z => Or.inr ⟨z.2, z.1⟩) (fun z => Or.inl ⟨z.2, z.1⟩), a0.2⟩, ⟨⟨hbK.1, hbK.2.1.1, by rw [e9]; exact x3, by rw [e9]; exact x4, by rw [e9]; exact x5, by rw [e9]; exact x6⟩, b2, ⟨b3.1, by rw [eqj 0 (by decide)]; exact b3.2.1, eq2, by decide, by decide, fun i hi => absurd hi (Nat.not_lt_zero _)⟩, hbK.2.2, ?_⟩, ?_, ?_, ?_, ⟨e18, by rw [e14]; exact z2, x1.2.1.fr' (o2' _ (by omega) (by omega) (by omega)) (o2' _ (by omega) (by omega) (by omega)) (o2' _ (by omega) (by omega) (by omega)), by rw [o2' q' (by omega) (by omega) (by omega)]; exact z4, a6.fr' (o2' _ (by omega) (by omega) (by omega)) (fun r a b => o2' r (by omega) (by omega) (by omega)), z6.fr' (o2' _ (by omega) (by omega) (by omega)) (fun r a b => o2' r (by omega) (by omega) (by omega))⟩, hbK.2.1.2, a7.fr' (o2' _ (by omega) (by omega) (by omega)) (fun r a b => o2' r (by omega) (by omega) (by omega)), a8.fr (o2' 2 (by decide) (by omega) (by decide)) (o2' 3 (by decide) (by omega) (by decide)), ?_⟩
    · exact ⟨by rw [f2' 0 (by decide) (by decide)]; exact pc0, by rw [f2' 1 (by decide) (by decide)]; exact pc1, by rw [f2' 2 (by decide) (by decide)]; exact pc2, by rw [f2' 3 (by decide) (by decide)]; exact pc3, by rw [f2' 4 (by decide) (by decide)]; exact pc4, by rw [f2' 5 (by decide) (by decide)]; exact pc5, by rw [f2' 6 (by decide) (by decide)]; exact pc6, e17, by rw [e14]; exact pc8, by rw [e14]; exact pc9⟩
    · unfold PtrT at a2 ⊢
      rw [o2' 53 (by decide) (by omega) (by decide), o2' 54 (by decide) (by omega) (by decide), o2' 58 (by decide) (by omega) (by decide)]
      exact a2
    · unfold PtrD at a3 ⊢
      rw [o2' 63 (by decide) (by omega) (by decide), o2' 64 (by decide) (by omega) (by decide)]
      exact a3
    · unfold RdP at a4 ⊢
      rw [o2' 4 (by decide) (by omega) (by decide), o2' 5 (by decide) (by omega) (by decide)]
      exact a4
    · obtain ⟨⟨w1, w2, w3, w4⟩, -, -, w7⟩ := a9
      exact ⟨⟨by rw [e6j 0 (by decide)]; exact w1, by rw [e6j 1 (by decide)]; exact w2, by rw [e6j 2 (by decide)]; exact w3, by rw [e6j 3 (by decide)]; exact w4⟩, ⟨e64, by decide⟩, fun j hj => absurd hj (Nat.not_lt_zero _), w7.fr' (o2' 71 (by decide) (by omega) (by decide)) (fun r a b => o2' r (by omega) (by omega) (by omega))⟩
end LW
