/-! the class's directives: a sound, a cost -/
section CS
variable {M M' N : Mem} {ft fp p : Int} {T : List Int} {t : Tk} {L : Lw} {g : Gs}
def addM (M : Mem) (p n ch op pk : Int) : Mem := upM (upM (upM (upM M (p + 2) n ch) (p + 3) n op) (p + 4) n pk) (p + 1) 6 (n + 1)
theorem addM_o {n ch op pk k : Int} (h : k ≠ p + 1 ∧ k ≠ p + 2 ∧ k ≠ p + 3 ∧ k ≠ p + 4) : addM M p n ch op pk k = M k := by
  unfold addM
  rw [upM_o h.1, upM_o h.2.2.2, upM_o h.2.2.1, upM_o h.2.1]
theorem addM_1 {n ch op pk j : Int} (h : j ≠ 6) : addM M p n ch op pk (p + 1) j = M (p + 1) j := by
  unfold addM
  rw [upM_f h, upM_o (by omega), upM_o (by omega), upM_o (by omega)]
theorem FrD.am {n ch op pk : Int} (hp : 96 ≤ p) : FrD p M (addM M p n ch op pk) := ⟨fun k _ _ _ _ e => addM_o ⟨by omega, by omega, by omega, by omega⟩, fun j _ => by rw [addM_o ⟨by omega, by omega, by omega, by omega⟩], by rw [addM_o ⟨by omega, by omega, by omega, by omega⟩], fun j _ => by rw [addM_o ⟨by omega, by omega, by omega, by omega⟩], fun j a => addM_1 (by omega), fun j _ => by rw [addM_o ⟨by omega, by omega, by omega, by omega⟩], fun z => z.fr' (addM_o ⟨by omega, by omega, by omega, by omega⟩) (fun r a b => addM_o ⟨by omega, by omega, by omega, by omega⟩)⟩
theorem LawIs.aS {ch op : Int} {pk : Bool} (h : LawIs M p L) (hw : Wf (addS L ch op pk)) : LawIs (addM M p (Ln L) (ch + 97) op (b2i pk)) p (addS L ch op pk) := by
  obtain ⟨a1, a2, ⟨b1, b2⟩, a4, a5, a6⟩ := h
  have o : ∀ k : Int, k ≠ p + 1 ∧ k ≠ p + 2 ∧ k ≠ p + 3 ∧ k ≠ p + 4 → addM M p (Ln L) (ch + 97) op (b2i pk) k = M k := fun k h => addM_o h
  refine ⟨a1, ?_, ⟨?_, fun s s0 s1 => ?_⟩, ?_, ?_, hw⟩
  · unfold PtrL at a2 ⊢
    rw [o p (by omega), o (p + 8) (by omega), addM_1 (by decide), addM_1 (by decide), addM_1 (by decide), addM_1 (by decide), addM_1 (by decide), addM_1 (by decide)]
    exact a2
  · unfold addM
    rw [upM_s]
    rfl
  · rw [as_ln] at s1
    rw [as_lt, as_op, as_pk]
    have e2 : addM M p (Ln L) (ch + 97) op (b2i pk) (p + 2) s = if s = Ln L then ch + 97 else M (p + 2) s := by
      unfold addM
      rw [upM_o (by omega), upM_o (by omega), upM_o (by omega)]
      by_cases q : s = Ln L
      · rw [if_pos q, q, upM_s]
      · rw [if_neg q, upM_f q]
    have e3 : addM M p (Ln L) (ch + 97) op (b2i pk) (p + 3) s = if s = Ln L then op else M (p + 3) s := by
      unfold addM
      rw [upM_o (by omega), upM_o (by omega)]
      by_cases q : s = Ln L
      · rw [if_pos q, q, upM_s]
      · rw [if_neg q, upM_f q, upM_o (by omega)]
    have e4 : addM M p (Ln L) (ch + 97) op (b2i pk) (p + 4) s = if s = Ln L then b2i pk else M (p + 4) s := by
      unfold addM
      rw [upM_o (by omega)]
      by_cases q : s = Ln L
      · rw [if_pos q, q, upM_s]
      · rw [if_neg q, upM_f q, upM_o (by omega), upM_o (by omega)]
    rw [e2, e3, e4]
    by_cases q : s = Ln L
    · rw [if_pos q, if_pos q, if_pos q, if_pos q, if_pos q, if_pos q]
      exact ⟨rfl, rfl, rfl⟩
    · rw [if_neg q, if_neg q, if_neg q, if_neg q, if_neg q, if_neg q]
      exact b2 s s0 (by omega)
  · unfold TldIs at a4 ⊢
    rw [o p (by omega), o (p + 51) (by omega), o (p + 52) (by omega)]
    exact a4
  · unfold NumIs at a5 ⊢
    rw [o p (by omega)]
    exact a5
theorem s89 {Q : Mem → Prop} {n ch op pk : Int} (hp : p = 96 ∨ p = 150) (hL : LawIs M p L) (h6 : M (p + 1) 6 = n) (hn : 0 ≤ n ∧ n < 16) (hpk : 0 ≤ pk ∧ pk ≤ 1) (hQ : Q (addM M p n ch op pk)) : WV 89 [vR (p + 1), vI ch, vI op, vI pk] M Q := by
  have sh := shL hp
  obtain ⟨x0, x1, x2⟩ := hL.a
  refine t_89 hL.o.2 ?_
  have f1 : ∀ v, upM M (p + 2) n v (p + 1) = M (p + 1) := fun v => upM_o (by omega)
  have f2 : ∀ (N : Mem) (v : Int), upM N (p + 3) n v (p + 1) = N (p + 1) := fun N v => upM_o (by omega)
  have f3 : ∀ (N : Mem) (v : Int), upM N (p + 4) n v (p + 1) = N (p + 1) := fun N v => upM_o (by omega)
  rw [h6, x0]
  refine ⟨by omega, ?_⟩
  rw [if_neg (by omega), f1, x1, h6, f2, f1, x2, h6, f3, f2, f1, h6]
  have g : ∀ (a : Int) (k : Nat), shA SH a = (k, 16) → gA k a n := fun a k e => ⟨by rw [e], hn.1, by rw [e]; exact hn.2⟩
  exact ⟨g _ 20 sh.2.2.2.1, g _ 20 sh.2.2.2.2.1, Or.inr ⟨g _ 22 sh.2.2.2.2.2.1, hpk.1, hpk.2⟩, hQ⟩
end CS
