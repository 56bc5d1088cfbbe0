/-! the class reads a law: its tables made empty -/
section CL
variable {M M' : Mem} {fp p : Int} {T : List Int} {t : Tk} {L : Lw} {g : Gs}
/-- what must stand ready for a law to be read into -/
def SpL (M : Mem) (p : Int) : Prop := PtrL M p ∧ RPt M (p + 8 + 2) 20 (p + 8 + 3) (p + 8 + 1 + 2 * 20)
theorem FrD.m6 {v : Int} (hp : 96 ≤ p) : FrD p M (upM M (p + 1) 6 v) := by
  have o : ∀ k : Int, k ≠ p + 1 → upM M (p + 1) 6 v k = M k := fun k a => upM_o a
  exact ⟨fun k _ _ _ _ a => o k (by omega), fun j _ => by rw [o 2 (by omega)], by rw [o 5 (by omega)], fun j a => by rw [o p (by omega)], fun j a => upM_f (by omega), fun j a => by rw [o (p + 8) (by omega)], fun z => z.fr' (o _ (by omega)) (fun r a b => o r (by omega))⟩
theorem FrD.m2 {v : Int} (hp : 96 ≤ p) : FrD p M (upM M (p + 8) 2 v) := by
  have o : ∀ k : Int, k ≠ p + 8 → upM M (p + 8) 2 v k = M k := fun k a => upM_o a
  exact ⟨fun k _ _ _ _ a => o k (by omega), fun j _ => by rw [o 2 (by omega)], by rw [o 5 (by omega)], fun j a => by rw [o p (by omega)], fun j a => by rw [o (p + 1) (by omega)], fun j a => upM_f a, fun z => z.fr' (o _ (by omega)) (fun r a b => o r (by omega))⟩
theorem PtrL.fd (h : PtrL M p) (F : FrD p M M') : PtrL M' p := by
  obtain ⟨q0, q1, q2, q3, q4, q5, q6, q7, q8, q9, q10, q11, q12⟩ := h
  exact ⟨by rw [F.2.2.2.1 0 (by decide)]; exact q0, by rw [F.2.2.2.1 1 (by decide)]; exact q1, by rw [F.2.2.2.1 2 (by decide)]; exact q2, by rw [F.2.2.2.1 3 (by decide)]; exact q3, by rw [F.2.2.2.1 4 (by decide)]; exact q4, by rw [F.2.2.2.2.1 0 (by decide)]; exact q5, by rw [F.2.2.2.2.1 1 (by decide)]; exact q6, by rw [F.2.2.2.2.1 2 (by decide)]; exact q7, by rw [F.2.2.2.2.1 3 (by decide)]; exact q8, by rw [F.2.2.2.2.1 4 (by decide)]; exact q9, by rw [F.2.2.2.2.1 5 (by decide)]; exact q10, by rw [F.2.2.2.2.2.1 0 (by decide)]; exact q11, by rw [F.2.2.2.2.2.1 1 (by decide)]; exact q12⟩
theorem s40 {Q : Mem → Prop} (hp : p = 96 ∨ p = 150) (h : SpL M p) (hQ : ∀ M' : Mem, FrD p M M' → (∀ k : Int, ¬ (p ≤ k ∧ k ≤ p + 53) → M' k = M k) → TbC M' p G0 → Q M') : WV 40 [vR p] M Q := by
  have hp' : 96 ≤ p := by rcases hp with rfl | rfl <;> decide
  have sh := shL hp
  have hw : LwC p := hp
  clear hp
  have o2p : gO 2 p := ⟨sh.1, by rw [sh.2.1]⟩
  have o6 : gO 6 (p + 1) := ⟨by omega, by rw [sh.2.2.1]⟩
  have o10 : gO 10 (p + 8) := ⟨by omega, by rw [sh.2.2.2.2.2.2.2.2.2.1]⟩
  obtain ⟨hpt, hr⟩ := h
  have step : ∀ (n : Nat) (x : Int), x + n = 6 → 0 ≤ x → ∀ N : Mem, FrD p M N → (∀ k : Int, ¬ (p ≤ k ∧ k ≤ p + 53) → N k = M k) → N (p + 1) 6 = 0 → N (p + 8) 2 = 0 → N p 5 = 0 → N p 6 = 0 → (∀ i : Int, 0 ≤ i → i < x → N (p + 53) i = 0) → WR 40 26 [some (vR p), some (vI x)] [] N (fun _ M' => Q M') := by
    intro n
    induction n with
    | zero =>
      intro x hx x0 N f fo z1 z2 z3 z4 z5
      refine t_40_26 o2p ⟨by omega, ?_⟩
      rw [if_pos (by omega)]
      have f4 := f.2.2.2.1
      have fin : ∀ N' : Mem, (∀ k : Int, k ≠ p → N' k = N k) → (∀ j : Int, j < 7 → N' p j = N p j) → (∀ j : Nat, j < 11 → N' p (7 + j) = Lz L0 j) → Q N' := fun N' o fl fz => by
        have fr : FrD p N N' := ⟨fun k _ _ _ _ a => o k (by omega), fun j _ => by rw [o 2 (by omega)], by rw [o 5 (by omega)], fun j a => fl j (by omega), fun j _ => by rw [o (p + 1) (by omega)], fun j _ => by rw [o (p + 8) (by omega)], fun z => z.fr' (o _ (by omega)) (fun r a b => o r (by omega))⟩
        have F := f.tr fr
        have pl : PtrL N' p := hpt.fd F
        refine hQ N' F (fun k a => by rw [o k (by omega)]; exact fo k a) ⟨⟨hw, pl, ⟨by rw [o (p + 1) (by omega)]; exact z1, fun s a b => absurd b (by show ¬ s < ((0 : Nat) : Int); omega)⟩, ⟨by rw [fl 5 (by decide)]; exact z3, fun i hi => absurd hi (Nat.not_lt_zero _), by rw [fl 6 (by decide)]; exact z4, fun i hi => absurd hi (Nat.not_lt_zero _)⟩, num_j.mpr fz, wf_0⟩, ⟨⟨⟨by omega, sh.2.2.2.2.2.2.2.2.2.1, by rw [show p + 8 + 2 = p + 10 by omega]; exact sh.2.2.2.2.2.2.2.2.2.2.2.1⟩, by rw [show p + 8 + 2 = p + 10 by omega]; exact pl.2.2.2.2.2.2.2.2.2.2.2.1, by rw [o (p + 8) (by omega)]; exact z2, by decide, by decide, fun i hi => absurd hi (Nat.not_lt_zero _)⟩, F.2.2.2.2.2.2 hr⟩, fun i a b => ?_⟩
        rw [o (p + 53) (by omega)]
        exact ⟨z5 i a (by omega), Int.le_refl 0, (show (0 : Int) ≤ 999 by decide)⟩
      refine fin _ (fun k a => ?_) (fun j a => ?_) (fun j hj => ?_)
      · rw [upM_o a, upM_o a, upM_o a, upM_o a, upM_o a, upM_o a, upM_o a, upM_o a, upM_o a, upM_o a, upM_o a]
      · rw [upM_f (by omega), upM_f (by omega), upM_f (by omega), upM_f (by omega), upM_f (by omega), upM_f (by omega), upM_f (by omega), upM_f (by omega), upM_f (by omega), upM_f (by omega), upM_f (by omega)]
      · have : j = 0 ∨ j = 1 ∨ j = 2 ∨ j = 3 ∨ j = 4 ∨ j = 5 ∨ j = 6 ∨ j = 7 ∨ j = 8 ∨ j = 9 ∨ j = 10 := by omega
        rcases this with rfl | rfl | rfl | rfl | rfl | rfl | rfl | rfl | rfl | rfl | rfl
        · rw [upM_f (by decide), upM_f (by decide), upM_f (by decide), upM_f (by decide), upM_f (by decide), upM_f (by decide), upM_f (by decide), upM_f (by decide), upM_f (by decide), upM_f (by decide)]; exact upM_s
        · rw [upM_f (by decide), upM_f (by decide), upM_f (by decide), upM_f (by decide), upM_f (by decide), upM_f (by decide), upM_f (by decide), upM_f (by decide), upM_f (by decide)]; exact upM_s
        · rw [upM_f (by decide), upM_f (by decide), upM_f (by decide), upM_f (by decide), upM_f (by decide), upM_f (by decide), upM_f (by decide), upM_f (by decide)]; exact upM_s
        · rw [upM_f (by decide), upM_f (by decide), upM_f (by decide), upM_f (by decide), upM_f (by decide), upM_f (by decide), upM_f (by decide)]; exact upM_s
        · rw [upM_f (by decide), upM_f (by decide), upM_f (by decide), upM_f (by decide), upM_f (by decide), upM_f (by decide)]; exact upM_s
        · rw [upM_f (by decide), upM_f (by decide), upM_f (by decide), upM_f (by decide), upM_f (by decide)]; exact upM_s
        · rw [upM_f (by decide), upM_f (by decide), upM_f (by decide), upM_f (by decide)]; exact upM_s
        · rw [upM_f (by decide), upM_f (by decide), upM_f (by decide)]; exact upM_s
        · rw [upM_f (by decide), upM_f (by decide)]; exact upM_s
        · rw [upM_f (by decide)]; exact upM_s
        · exact upM_s
    | succ n ih =>
      intro x hx x0 N f fo z1 z2 z3 z4 z5
      refine t_40_26 o2p ⟨by omega, ?_⟩
      rw [if_neg (by omega), f.2.2.2.1 4 (by decide), show M p 4 = p + 53 from hpt.2.2.2.2.1]
      have o : ∀ k : Int, k ≠ p + 53 → upM N (p + 53) x 0 k = N k := fun k a => upM_o a
      refine ⟨gC sh.2.2.2.2.2.2.2.2.2.2.2.2.2.2 x0 (by show _ < ((6 : Nat) : Int); omega), ih (x + 1) (by omega) (by omega) _ (f.tr (FrD.c hp' (by omega) (by omega))) (fun k a => by rw [o k (by omega)]; exact fo k a) (by rw [o (p + 1) (by omega)]; exact z1) (by rw [o (p + 8) (by omega)]; exact z2) (by rw [o p (by omega)]; exact z3) (by rw [o p (by omega)]; exact z4) (fun i a b => ?_)⟩
      by_cases q : i = x
      · rw [q, upM_s]
      · rw [upM_f q]
        exact z5 i a (by omega)
  refine t_40 o2p ?_
  rw [show M p 0 = p + 1 from hpt.1]
  refine ⟨by rw [sh.2.2.1], t_88 o6 ?_⟩
  have e1 : upM M (p + 1) 6 0 p = M p := upM_o (by omega)
  dsimp only
  rw [e1, show M p 1 = p + 8 from hpt.2.1]
  refine ⟨by rw [sh.2.2.2.2.2.2.2.2.2.1], t_135 o10 ?_⟩
  have F : FrD p M (upM (upM (upM (upM M (p + 1) 6 0) (p + 8) 2 0) p 5 0) p 6 0) := (((FrD.m6 hp').tr (FrD.m2 hp')).tr (FrD.n hp' (by decide))).tr (FrD.n hp' (by decide))
  refine step 6 0 (by decide) (by decide) _ F (fun k a => by rw [upM_o (by omega), upM_o (by omega), upM_o (by omega), upM_o (by omega)]) (by rw [upM_o (by omega), upM_o (by omega), upM_o (by omega), upM_s]) (by rw [upM_o (by omega), upM_o (by omega), upM_s]) (by rw [upM_f (by decide), upM_s]) upM_s (fun i a b => absurd a (by omega))
end CL
