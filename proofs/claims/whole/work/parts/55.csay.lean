/-! say by the class: its state -/
section SQ
variable {M M' : Mem} {p p' q q' ft fp ft' fp' : Int} {T T' : List Int} {L : Lw} {W S : List (List Int)} {c : Int → Int} {E : List En}
/-- the state when only the tape, the reader and the spare words have changed -/
theorem ClsS.sy (h : ClsS M p p' q q' T ft fp L W S c E) (e : ∀ k : Int, k ≠ 2 → k ≠ 4 → k ≠ 5 → k ≠ 6 → ¬ (q' ≤ k ∧ k ≤ q' + 18) → M' k = M k) (hR : RdP M') (hs : M' q' 0 = q' + 2 ∧ RPt M' (q' + 2) 8 (q' + 3) (q' + 1 + 2 * 8)) (hT : TapC M' T' ft' fp') : ClsS M' p p' q q' T' ft' fp' L W S c E := by
  obtain ⟨a0, a1, a2, a3, a4, a5, a6, a7, a8, a9⟩ := h
  obtain ⟨-, -, hq, hq', hpp, hqq, hqn⟩ := two_c a0
  have ep : ∀ k : Int, 53 ≤ k → M' k = M k := fun k x => e k (by omega) (by omega) (by omega) (by omega) (by omega)
  have eq : ∀ k : Int, q ≤ k → k ≤ q + 18 → M' k = M k := fun k x y => e k (by omega) (by omega) (by omega) (by omega) (by omega)
  have e1 : M' 1 = M 1 := e 1 (by decide) (by decide) (by decide) (by decide) (by omega)
  have e9 : M' 9 = M 9 := e 9 (by decide) (by decide) (by decide) (by decide) (by omega)
  have e14 : M' 14 = M 14 := e 14 (by decide) (by decide) (by decide) (by decide) (by omega)
  obtain ⟨⟨x1, x2, x3, x4, x5, x6⟩, b2, b3, b4, b5⟩ := a1
  clear e hqn
  have hW : WrdP M' (p + 8) 20 L W := WrdP.kp ⟨x2, a6⟩ (fun k a b => ep k (by omega))
  have hS : WrdP M' q 8 L S := WrdP.kp ⟨b3, a7⟩ (fun k a b => eq k (by omega) (by omega))
  refine ⟨a0, ⟨⟨x1.eq (fun k a _ => ep k (by omega)), hW.1, by rw [e9]; exact x3, by rw [e9]; exact x4, by rw [e9]; exact x5, by rw [e9]; exact x6⟩, b2, hS.1, fun i a b => by rw [ep (p + 53) (by omega)]; exact b4 i a b, ?_⟩, ?_, ?_, hR, ?_, hW.2, hS.2, hT, a9.fr (fun k a b => ep k (by omega))⟩
  · unfold PtrC at b5 ⊢
    rw [e1, e14]
    exact b5
  · unfold PtrT at a2 ⊢
    rw [ep 53 (by decide), ep 54 (by decide), ep 58 (by decide)]
    exact a2
  · unfold PtrD at a3 ⊢
    rw [ep 63 (by decide), ep 64 (by decide)]
    exact a3
  · obtain ⟨z1, z2, z3, z4, z5, z6⟩ := a5
    exact ⟨by rw [e1]; exact z1, by rw [e14]; exact z2, z3.fr' (ep _ (by omega)) (ep _ (by omega)) (ep _ (by omega)), hs.1, z5.fr' (ep _ (by omega)) (fun r a b => ep r (by omega)), hs.2⟩
theorem cSay {Q : Int → Mem → Prop} (h : ClsS M p p' q q' T ft fp L W S c E) (hQ : ∀ M' : Mem, if T.length ≤ 200 then (match sayA L T with
    | .error e => ClsS M' p p' q q' [] e.1 e.2 L W S c E → Q (-1) M'
    | .ok S' => ClsS M' p p' q' q [] 0 (-1) L W S' c E → Q S'.length M') else ClsS M' p p' q q' T ft fp L W S c E → Q (-2) M') : WI 147 [vR 1] M Q := by
  obtain ⟨pc0, pc1, pc2, pc3, pc4, pc5, pc6, pc7, pc8, pc9⟩ := h.2.1.2.2.2.2
  obtain ⟨hp, hp', hq, hq', hpp, hqq, hqn⟩ := two_c h.1
  obtain ⟨z1, z2, z3, z4, z5, z6⟩ := h.2.2.2.2.2.1
  have hT := h.ta
  have hl := hT.2.2.1
  have hzq : shA SH q' = (10, 3) ∧ shA SH (q' + 2) = (24, 8) := by
    rcases hq' with e | e <;> rw [e] <;> decide +kernel
  refine t_147 o1.1 ?_
  rw [pc0, hT.2.1]
  refine ⟨o2.1, by omega, ?_⟩
  by_cases ql : T.length ≤ 200
  rotate_left
  · rw [if_neg (by omega)]
    have := hQ M
    rw [if_neg ql] at this
    exact ⟨_, rfl, this h⟩
  rw [if_pos (by omega), pc3, pc1, z2, pc7]
  refine ⟨o1.2, o4.2, s64 hpp.1 hq' h.2.2.2.2.1 h.2.1.1.1 ⟨z4, z6⟩ hzq hT (fun M1 y f1 hres => ?_)⟩
  have e1 : ∀ k : Int, k ≠ 2 → k ≠ 4 → k ≠ 5 → k ≠ 6 → ¬ (q' ≤ k ∧ k ≤ q' + 18) → M1 k = M k := fun k a b c d e => by rw [f1.1 k a c d e, upM_o b]
  have o44 : ∀ k : Int, k ≠ 4 → upM M 4 4 p k = M k := fun k a => upM_o a
  have R1 : RdP M1 := by
    obtain ⟨a, b, d, e, x⟩ := h.2.2.2.2.1
    have e4 : M1 4 = upM M 4 4 p 4 := f1.1 4 (by decide) (by decide) (by decide) (by omega)
    exact ⟨by rw [e4, upM_f (by decide)]; exact a, by rw [e4, upM_f (by decide)]; exact b, by rw [e4, upM_f (by decide)]; exact d, by rw [e4, upM_f (by decide)]; exact e, by rw [f1.2.2.1, upM_o (by decide)]; exact x⟩
  have s1 : M1 q' 0 = q' + 2 ∧ RPt M1 (q' + 2) 8 (q' + 3) (q' + 1 + 2 * 8) := ⟨by rw [f1.2.2.2.1 0 (by decide), o44 q' (by omega)]; exact z4, f1.2.2.2.2 (z6.fr' (o44 _ (by omega)) (fun r a b => o44 r (by omega)))⟩
  have e11 : M1 1 = M 1 := e1 1 (by decide) (by decide) (by decide) (by decide) (by omega)
  rw [e11, pc0]
  refine ⟨o2.1, ?_⟩
  have hQ := fun M' => (by have := hQ M'; rw [if_pos ql] at this; exact this : match sayA L T with
    | .error e => ClsS M' p p' q q' [] e.1 e.2 L W S c E → Q (-1) M'
    | .ok S' => ClsS M' p p' q' q [] 0 (-1) L W S' c E → Q S'.length M')
  generalize sayA L T = r at *
  have o : ∀ k : Int, k ≠ 2 → upM M1 2 1 0 k = M1 k := fun k a => upM_o a
  have R2 : RdP (upM M1 2 1 0) := by
    unfold RdP at R1 ⊢
    rw [o 4 (by decide), o 5 (by decide)]
    exact R1
  have s2 : upM M1 2 1 0 q' 0 = q' + 2 ∧ RPt (upM M1 2 1 0) (q' + 2) 8 (q' + 3) (q' + 1 + 2 * 8) := ⟨by rw [o q' (by omega)]; exact s1.1, s1.2.fr' (o _ (by omega)) (fun r a b => o r (by omega))⟩
  cases r with
  | error e =>
    obtain ⟨rfl, he, hT1⟩ : y = 0 ∧ (1 ≤ e.1 ∧ e.1 ≤ 5) ∧ TapC M1 T e.1 e.2 := hres
    refine ⟨by decide, ?_⟩
    rw [if_pos rfl]
    exact ⟨_, rfl, hQ _ (h.sy (fun k a b c d e => by rw [o k a]; exact e1 k a b c d e) R2 s2 hT1.nil)⟩
  | ok S' =>
    obtain ⟨rfl, hT1, hw⟩ : y = 1 ∧ TapC M1 T 0 (-1) ∧ WrdP M1 q' 8 L S' := hres
    have H := h.sy (M' := upM M1 2 1 0) (fun k a b c d e => by rw [o k a]; exact e1 k a b c d e) R2 s2 hT1.nil
    have hw : WrdP (upM M1 2 1 0) q' 8 L S' := hw.kp (fun k a b => o k (by omega))
    refine ⟨by decide, ?_⟩
    rw [if_neg (by decide)]
    clear hT1 R2 s2 o e11 e1 s1 R1 f1 z1 z2 z3 z4 z5 z6 pc0 pc1 pc2 pc3 pc4 pc5 pc6 pc7 pc8 pc9 h o44 hT
    generalize upM M1 2 1 0 = N at *
    obtain ⟨a0, a1, a2, a3, a4, a5, a6, a7, a8, a9⟩ := H
    obtain ⟨⟨x1, x2, x3, x4, x5, x6⟩, b2, b3, b4, pc0, pc1, pc2, pc3, pc4, pc5, pc6, pc7, pc8, pc9⟩ := a1
    obtain ⟨z1, z2, z3, z4, z5, z6⟩ := a5
    rw [pc3]
    refine ⟨o1.2.2, t_103 o1.2 ?_⟩
    have e2 : upM N 14 2 (N 14 1) 14 1 = N 14 1 := upM_f (by decide)
    rw [z2, pc9]
    refine ⟨by omega, by omega, ?_⟩
    have o' : ∀ k : Int, k ≠ 14 → upM (upM N 14 2 q) 14 1 q' k = N k := fun k a => by rw [upM_o a, upM_o a]
    have k0 : upM (upM N 14 2 q) 14 1 q' 14 0 = N 14 0 := by rw [upM_f (by decide), upM_f (by decide)]
    have k1 : upM (upM N 14 2 q) 14 1 q' 14 1 = q' := upM_s
    have k2 : upM (upM N 14 2 q) 14 1 q' 14 2 = q := by rw [upM_f (by decide), upM_s]
    dsimp only
    generalize upM (upM N 14 2 q) 14 1 q' = K at *
    have e1 := o' 1 (by decide)
    have e9 := o' 9 (by decide)
    have hwK : WrdP K q' 8 L S' := hw.kp (fun k a b => o' k (by omega))
    rw [e1, pc3, k1, hwK.1.2.2.1]
    refine ⟨o1.2, ⟨by omega, by rw [hzq.1]⟩, _, rfl, hQ K ?_⟩
    have hW : WrdP K (p + 8) 20 L W := WrdP.kp ⟨x2, a6⟩ (fun k a b => o' k (by omega))
    refine ⟨⟨a0.1, a0.2.elim (fun z => Or.inr ⟨z.2, z.1⟩) (fun z => Or.inl ⟨z.2, z.1⟩)⟩, ⟨⟨x1.eq (fun k a _ => o' k (by omega)), hW.1, by rw [e9]; exact x3, by rw [e9]; exact x4, by rw [e9]; exact x5, by rw [e9]; exact x6⟩, hq', hwK.1, fun i a b => by rw [o' (p + 53) (by omega)]; exact b4 i a b, ?_⟩, ?_, ?_, ?_, ⟨by rw [e1]; exact z1, k2, z3.fr' (o' _ (by omega)) (o' _ (by omega)) (o' _ (by omega)), by rw [o' q (by omega)]; exact b3.2.1, z5.fr' (o' _ (by omega)) (fun r a b => o' r (by omega)), a7.fr' (o' _ (by omega)) (fun r a b => o' r (by omega))⟩, hW.2, hwK.2, a8.fr (o' 2 (by decide)) (o' 3 (by decide)), a9.fr (fun k a b => o' k (by omega))⟩
    · exact ⟨by rw [e1]; exact pc0, by rw [e1]; exact pc1, by rw [e1]; exact pc2, by rw [e1]; exact pc3, by rw [e1]; exact pc4, by rw [e1]; exact pc5, by rw [e1]; exact pc6, by rw [e1]; exact pc7, by rw [k0]; exact pc8, k1⟩
    · unfold PtrT at a2 ⊢
      rw [o' 53 (by decide), o' 54 (by decide), o' 58 (by decide)]
      exact a2
    · unfold PtrD at a3 ⊢
      rw [o' 63 (by decide), o' 64 (by decide)]
      exact a3
    · unfold RdP at a4 ⊢
      rw [o' 4 (by decide), o' 5 (by decide)]
      exact a4
end SQ
